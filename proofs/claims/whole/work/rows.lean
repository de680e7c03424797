section
-- ===== PART A: goes FIRST, ahead of the names: the tables' words, and 'selects' of the private methods out of them =====
/-- a private method of a class that the tables say can be made, by its rows of tables_1 -/
def lw_okq (q : MethodName × Nat) : Prop := (q.1.cls ≠ "java/lang/invoke/MethodHandle" ∧ q.1.cls ≠ "java/lang/invoke/VarHandle") ∧ Cond.instantiable q.1.cls q.2 ∈ tables_1 ∧ Cond.privateMethod q.1 ∈ tables_1 ∧ Cond.instanceMethod q.1 ∈ tables_1
theorem lw_p0 : lw_okq (⟨"ChatRelay", "deliverRound", "()I"⟩, 8) := ⟨⟨by decide +kernel, by decide +kernel⟩, List.mem_of_getElem? (i := 17) (by decide +kernel), List.mem_of_getElem? (i := 179) (by decide +kernel), List.mem_of_getElem? (i := 180) (by decide +kernel)⟩
theorem lw_p1 : lw_okq (⟨"ChatRelay", "deliverFirst", "(II)Z"⟩, 8) := ⟨⟨by decide +kernel, by decide +kernel⟩, List.mem_of_getElem? (i := 17) (by decide +kernel), List.mem_of_getElem? (i := 183) (by decide +kernel), List.mem_of_getElem? (i := 184) (by decide +kernel)⟩
theorem lw_p2 : lw_okq (⟨"ChatRelay", "receiveUser", "(LChatRelay$Line;II)V"⟩, 8) := ⟨⟨by decide +kernel, by decide +kernel⟩, List.mem_of_getElem? (i := 17) (by decide +kernel), List.mem_of_getElem? (i := 195) (by decide +kernel), List.mem_of_getElem? (i := 196) (by decide +kernel)⟩
theorem lw_p3 : lw_okq (⟨"ChatRelay", "namesake", "(LChatRelay$View;II)I"⟩, 8) := ⟨⟨by decide +kernel, by decide +kernel⟩, List.mem_of_getElem? (i := 17) (by decide +kernel), List.mem_of_getElem? (i := 207) (by decide +kernel), List.mem_of_getElem? (i := 208) (by decide +kernel)⟩
theorem lw_p4 : lw_okq (⟨"ChatRelay", "receiveQuit", "(LChatRelay$Line;II)V"⟩, 8) := ⟨⟨by decide +kernel, by decide +kernel⟩, List.mem_of_getElem? (i := 17) (by decide +kernel), List.mem_of_getElem? (i := 256) (by decide +kernel), List.mem_of_getElem? (i := 257) (by decide +kernel)⟩
theorem lw_p5 : lw_okq (⟨"ChatRelay", "receiveChannel", "(LChatRelay$Line;II)V"⟩, 8) := ⟨⟨by decide +kernel, by decide +kernel⟩, List.mem_of_getElem? (i := 17) (by decide +kernel), List.mem_of_getElem? (i := 260) (by decide +kernel), List.mem_of_getElem? (i := 261) (by decide +kernel)⟩
theorem lw_p6 : lw_okq (⟨"ChatRelay", "receiveModes", "(LChatRelay$Line;II)V"⟩, 8) := ⟨⟨by decide +kernel, by decide +kernel⟩, List.mem_of_getElem? (i := 17) (by decide +kernel), List.mem_of_getElem? (i := 275) (by decide +kernel), List.mem_of_getElem? (i := 276) (by decide +kernel)⟩
theorem lw_p7 : lw_okq (⟨"java/lang/Throwable", "fillInStackTrace", "(I)Ljava/lang/Throwable;"⟩, 6) := ⟨⟨by decide +kernel, by decide +kernel⟩, List.mem_of_getElem? (i := 349) (by decide +kernel), List.mem_of_getElem? (i := 347) (by decide +kernel), List.mem_of_getElem? (i := 348) (by decide +kernel)⟩
theorem lw_p8 : lw_okq (⟨"ChatRelay", "burst", "(II)V"⟩, 8) := ⟨⟨by decide +kernel, by decide +kernel⟩, List.mem_of_getElem? (i := 17) (by decide +kernel), List.mem_of_getElem? (i := 399) (by decide +kernel), List.mem_of_getElem? (i := 400) (by decide +kernel)⟩
theorem lw_p9 : lw_okq (⟨"ChatRelay", "forgetUnreached", "(I)V"⟩, 8) := ⟨⟨by decide +kernel, by decide +kernel⟩, List.mem_of_getElem? (i := 17) (by decide +kernel), List.mem_of_getElem? (i := 426) (by decide +kernel), List.mem_of_getElem? (i := 427) (by decide +kernel)⟩
theorem lw_p10 : lw_okq (⟨"ChatRelay", "checkUser", "(I)V"⟩, 8) := ⟨⟨by decide +kernel, by decide +kernel⟩, List.mem_of_getElem? (i := 17) (by decide +kernel), List.mem_of_getElem? (i := 480) (by decide +kernel), List.mem_of_getElem? (i := 481) (by decide +kernel)⟩
theorem lw_p11 : lw_okq (⟨"ChatRelay", "checkNotGone", "(I)V"⟩, 8) := ⟨⟨by decide +kernel, by decide +kernel⟩, List.mem_of_getElem? (i := 17) (by decide +kernel), List.mem_of_getElem? (i := 485) (by decide +kernel), List.mem_of_getElem? (i := 486) (by decide +kernel)⟩
theorem lw_p12 : lw_okq (⟨"ChatRelay", "isGone", "(I)Z"⟩, 8) := ⟨⟨by decide +kernel, by decide +kernel⟩, List.mem_of_getElem? (i := 17) (by decide +kernel), List.mem_of_getElem? (i := 489) (by decide +kernel), List.mem_of_getElem? (i := 490) (by decide +kernel)⟩
theorem lw_p13 : lw_okq (⟨"ChatRelay", "checkMember", "(II)V"⟩, 8) := ⟨⟨by decide +kernel, by decide +kernel⟩, List.mem_of_getElem? (i := 17) (by decide +kernel), List.mem_of_getElem? (i := 524) (by decide +kernel), List.mem_of_getElem? (i := 525) (by decide +kernel)⟩
theorem lw_p14 : lw_okq (⟨"ChatRelay", "eldestOf", "(I)I"⟩, 8) := ⟨⟨by decide +kernel, by decide +kernel⟩, List.mem_of_getElem? (i := 17) (by decide +kernel), List.mem_of_getElem? (i := 549) (by decide +kernel), List.mem_of_getElem? (i := 550) (by decide +kernel)⟩
theorem lw_p15 : lw_okq (⟨"ChatRelay", "homesOf", "(I)I"⟩, 8) := ⟨⟨by decide +kernel, by decide +kernel⟩, List.mem_of_getElem? (i := 17) (by decide +kernel), List.mem_of_getElem? (i := 553) (by decide +kernel), List.mem_of_getElem? (i := 554) (by decide +kernel)⟩
def lw_privs_1 : List (MethodName × Nat) := [(⟨"ChatRelay", "deliverRound", "()I"⟩, 8), (⟨"ChatRelay", "deliverFirst", "(II)Z"⟩, 8), (⟨"ChatRelay", "receiveUser", "(LChatRelay$Line;II)V"⟩, 8), (⟨"ChatRelay", "namesake", "(LChatRelay$View;II)I"⟩, 8), (⟨"ChatRelay", "receiveQuit", "(LChatRelay$Line;II)V"⟩, 8), (⟨"ChatRelay", "receiveChannel", "(LChatRelay$Line;II)V"⟩, 8), (⟨"ChatRelay", "receiveModes", "(LChatRelay$Line;II)V"⟩, 8), (⟨"java/lang/Throwable", "fillInStackTrace", "(I)Ljava/lang/Throwable;"⟩, 6), (⟨"ChatRelay", "burst", "(II)V"⟩, 8), (⟨"ChatRelay", "forgetUnreached", "(I)V"⟩, 8), (⟨"ChatRelay", "checkUser", "(I)V"⟩, 8), (⟨"ChatRelay", "checkNotGone", "(I)V"⟩, 8), (⟨"ChatRelay", "isGone", "(I)Z"⟩, 8), (⟨"ChatRelay", "checkMember", "(II)V"⟩, 8), (⟨"ChatRelay", "eldestOf", "(I)I"⟩, 8), (⟨"ChatRelay", "homesOf", "(I)I"⟩, 8)]
theorem lw_r1 : ∀ q ∈ lw_privs_1, lw_okq q := List.forall_mem_cons.mpr ⟨lw_p0, List.forall_mem_cons.mpr ⟨lw_p1, List.forall_mem_cons.mpr ⟨lw_p2, List.forall_mem_cons.mpr ⟨lw_p3, List.forall_mem_cons.mpr ⟨lw_p4, List.forall_mem_cons.mpr ⟨lw_p5, List.forall_mem_cons.mpr ⟨lw_p6, List.forall_mem_cons.mpr ⟨lw_p7, List.forall_mem_cons.mpr ⟨lw_p8, List.forall_mem_cons.mpr ⟨lw_p9, List.forall_mem_cons.mpr ⟨lw_p10, List.forall_mem_cons.mpr ⟨lw_p11, List.forall_mem_cons.mpr ⟨lw_p12, List.forall_mem_cons.mpr ⟨lw_p13, List.forall_mem_cons.mpr ⟨lw_p14, List.forall_mem_cons.mpr ⟨lw_p15, fun _ h => absurd h List.not_mem_nil⟩⟩⟩⟩⟩⟩⟩⟩⟩⟩⟩⟩⟩⟩⟩⟩
theorem lw_p16 : lw_okq (⟨"ChatRelayModel", "treeOf", "(I)I"⟩, 29) := ⟨⟨by decide +kernel, by decide +kernel⟩, List.mem_of_getElem? (i := 621) (by decide +kernel), List.mem_of_getElem? (i := 726) (by decide +kernel), List.mem_of_getElem? (i := 727) (by decide +kernel)⟩
theorem lw_p17 : lw_okq (⟨"ChatRelayModel", "holds", "(I)Z"⟩, 29) := ⟨⟨by decide +kernel, by decide +kernel⟩, List.mem_of_getElem? (i := 621) (by decide +kernel), List.mem_of_getElem? (i := 733) (by decide +kernel), List.mem_of_getElem? (i := 734) (by decide +kernel)⟩
theorem lw_p18 : lw_okq (⟨"ChatRelayModel", "bursts", "(II)V"⟩, 29) := ⟨⟨by decide +kernel, by decide +kernel⟩, List.mem_of_getElem? (i := 621) (by decide +kernel), List.mem_of_getElem? (i := 737) (by decide +kernel), List.mem_of_getElem? (i := 738) (by decide +kernel)⟩
theorem lw_p19 : lw_okq (⟨"ChatRelayModel", "makes", "(III)V"⟩, 29) := ⟨⟨by decide +kernel, by decide +kernel⟩, List.mem_of_getElem? (i := 621) (by decide +kernel), List.mem_of_getElem? (i := 741) (by decide +kernel), List.mem_of_getElem? (i := 742) (by decide +kernel)⟩
theorem lw_p20 : lw_okq (⟨"ChatRelayModel", "puts", "(II)V"⟩, 29) := ⟨⟨by decide +kernel, by decide +kernel⟩, List.mem_of_getElem? (i := 621) (by decide +kernel), List.mem_of_getElem? (i := 745) (by decide +kernel), List.mem_of_getElem? (i := 746) (by decide +kernel)⟩
theorem lw_p21 : lw_okq (⟨"ChatRelayModel", "tells", "(IIII)V"⟩, 29) := ⟨⟨by decide +kernel, by decide +kernel⟩, List.mem_of_getElem? (i := 621) (by decide +kernel), List.mem_of_getElem? (i := 752) (by decide +kernel), List.mem_of_getElem? (i := 753) (by decide +kernel)⟩
theorem lw_p22 : lw_okq (⟨"ChatRelayModel", "takes", "(I)V"⟩, 29) := ⟨⟨by decide +kernel, by decide +kernel⟩, List.mem_of_getElem? (i := 621) (by decide +kernel), List.mem_of_getElem? (i := 760) (by decide +kernel), List.mem_of_getElem? (i := 761) (by decide +kernel)⟩
theorem lw_p23 : lw_okq (⟨"ChatRelayModel", "forgets", "()V"⟩, 29) := ⟨⟨by decide +kernel, by decide +kernel⟩, List.mem_of_getElem? (i := 621) (by decide +kernel), List.mem_of_getElem? (i := 764) (by decide +kernel), List.mem_of_getElem? (i := 765) (by decide +kernel)⟩
theorem lw_p24 : lw_okq (⟨"ChatRelayModel", "quits", "(II)V"⟩, 29) := ⟨⟨by decide +kernel, by decide +kernel⟩, List.mem_of_getElem? (i := 621) (by decide +kernel), List.mem_of_getElem? (i := 768) (by decide +kernel), List.mem_of_getElem? (i := 769) (by decide +kernel)⟩
theorem lw_p25 : lw_okq (⟨"ChatRelayModel", "leaves", "(III)V"⟩, 29) := ⟨⟨by decide +kernel, by decide +kernel⟩, List.mem_of_getElem? (i := 621) (by decide +kernel), List.mem_of_getElem? (i := 772) (by decide +kernel), List.mem_of_getElem? (i := 773) (by decide +kernel)⟩
theorem lw_p26 : lw_okq (⟨"ChatRelayModel", "isLine", "(II)Z"⟩, 29) := ⟨⟨by decide +kernel, by decide +kernel⟩, List.mem_of_getElem? (i := 621) (by decide +kernel), List.mem_of_getElem? (i := 780) (by decide +kernel), List.mem_of_getElem? (i := 781) (by decide +kernel)⟩
theorem lw_p27 : lw_okq (⟨"ChatRelayModel", "delivers", "(II)V"⟩, 29) := ⟨⟨by decide +kernel, by decide +kernel⟩, List.mem_of_getElem? (i := 621) (by decide +kernel), List.mem_of_getElem? (i := 784) (by decide +kernel), List.mem_of_getElem? (i := 785) (by decide +kernel)⟩
theorem lw_p28 : lw_okq (⟨"ChatRelayModel", "gets", "(II)V"⟩, 29) := ⟨⟨by decide +kernel, by decide +kernel⟩, List.mem_of_getElem? (i := 621) (by decide +kernel), List.mem_of_getElem? (i := 788) (by decide +kernel), List.mem_of_getElem? (i := 789) (by decide +kernel)⟩
theorem lw_p29 : lw_okq (⟨"ChatRelayModel", "getsUser", "(II)V"⟩, 29) := ⟨⟨by decide +kernel, by decide +kernel⟩, List.mem_of_getElem? (i := 621) (by decide +kernel), List.mem_of_getElem? (i := 792) (by decide +kernel), List.mem_of_getElem? (i := 793) (by decide +kernel)⟩
theorem lw_p30 : lw_okq (⟨"ChatRelayModel", "namesake", "(III)I"⟩, 29) := ⟨⟨by decide +kernel, by decide +kernel⟩, List.mem_of_getElem? (i := 621) (by decide +kernel), List.mem_of_getElem? (i := 796) (by decide +kernel), List.mem_of_getElem? (i := 797) (by decide +kernel)⟩
theorem lw_p31 : lw_okq (⟨"ChatRelayModel", "sends", "(II)V"⟩, 29) := ⟨⟨by decide +kernel, by decide +kernel⟩, List.mem_of_getElem? (i := 621) (by decide +kernel), List.mem_of_getElem? (i := 800) (by decide +kernel), List.mem_of_getElem? (i := 801) (by decide +kernel)⟩
def lw_privs_2 : List (MethodName × Nat) := [(⟨"ChatRelayModel", "treeOf", "(I)I"⟩, 29), (⟨"ChatRelayModel", "holds", "(I)Z"⟩, 29), (⟨"ChatRelayModel", "bursts", "(II)V"⟩, 29), (⟨"ChatRelayModel", "makes", "(III)V"⟩, 29), (⟨"ChatRelayModel", "puts", "(II)V"⟩, 29), (⟨"ChatRelayModel", "tells", "(IIII)V"⟩, 29), (⟨"ChatRelayModel", "takes", "(I)V"⟩, 29), (⟨"ChatRelayModel", "forgets", "()V"⟩, 29), (⟨"ChatRelayModel", "quits", "(II)V"⟩, 29), (⟨"ChatRelayModel", "leaves", "(III)V"⟩, 29), (⟨"ChatRelayModel", "isLine", "(II)Z"⟩, 29), (⟨"ChatRelayModel", "delivers", "(II)V"⟩, 29), (⟨"ChatRelayModel", "gets", "(II)V"⟩, 29), (⟨"ChatRelayModel", "getsUser", "(II)V"⟩, 29), (⟨"ChatRelayModel", "namesake", "(III)I"⟩, 29), (⟨"ChatRelayModel", "sends", "(II)V"⟩, 29)]
theorem lw_r2 : ∀ q ∈ lw_privs_2, lw_okq q := List.forall_mem_cons.mpr ⟨lw_p16, List.forall_mem_cons.mpr ⟨lw_p17, List.forall_mem_cons.mpr ⟨lw_p18, List.forall_mem_cons.mpr ⟨lw_p19, List.forall_mem_cons.mpr ⟨lw_p20, List.forall_mem_cons.mpr ⟨lw_p21, List.forall_mem_cons.mpr ⟨lw_p22, List.forall_mem_cons.mpr ⟨lw_p23, List.forall_mem_cons.mpr ⟨lw_p24, List.forall_mem_cons.mpr ⟨lw_p25, List.forall_mem_cons.mpr ⟨lw_p26, List.forall_mem_cons.mpr ⟨lw_p27, List.forall_mem_cons.mpr ⟨lw_p28, List.forall_mem_cons.mpr ⟨lw_p29, List.forall_mem_cons.mpr ⟨lw_p30, List.forall_mem_cons.mpr ⟨lw_p31, fun _ h => absurd h List.not_mem_nil⟩⟩⟩⟩⟩⟩⟩⟩⟩⟩⟩⟩⟩⟩⟩⟩
theorem lw_p32 : lw_okq (⟨"ChatRelayModel", "getsChannel", "(I)V"⟩, 29) := ⟨⟨by decide +kernel, by decide +kernel⟩, List.mem_of_getElem? (i := 621) (by decide +kernel), List.mem_of_getElem? (i := 804) (by decide +kernel), List.mem_of_getElem? (i := 805) (by decide +kernel)⟩
theorem lw_p33 : lw_okq (⟨"ChatRelayModel", "isUser", "(I)Z"⟩, 29) := ⟨⟨by decide +kernel, by decide +kernel⟩, List.mem_of_getElem? (i := 621) (by decide +kernel), List.mem_of_getElem? (i := 831) (by decide +kernel), List.mem_of_getElem? (i := 832) (by decide +kernel)⟩
theorem lw_p34 : lw_okq (⟨"ChatRelayModel", "isGone", "(I)Z"⟩, 29) := ⟨⟨by decide +kernel, by decide +kernel⟩, List.mem_of_getElem? (i := 621) (by decide +kernel), List.mem_of_getElem? (i := 835) (by decide +kernel), List.mem_of_getElem? (i := 836) (by decide +kernel)⟩
theorem lw_p35 : lw_okq (⟨"ChatRelayModel", "isMember", "(II)Z"⟩, 29) := ⟨⟨by decide +kernel, by decide +kernel⟩, List.mem_of_getElem? (i := 621) (by decide +kernel), List.mem_of_getElem? (i := 846) (by decide +kernel), List.mem_of_getElem? (i := 847) (by decide +kernel)⟩
theorem lw_p36 : lw_okq (⟨"ChatRelayModel", "isBanned", "(II)Z"⟩, 29) := ⟨⟨by decide +kernel, by decide +kernel⟩, List.mem_of_getElem? (i := 621) (by decide +kernel), List.mem_of_getElem? (i := 850) (by decide +kernel), List.mem_of_getElem? (i := 851) (by decide +kernel)⟩
theorem lw_p37 : lw_okq (⟨"ChatRelayModel", "isEldest", "(II)Z"⟩, 29) := ⟨⟨by decide +kernel, by decide +kernel⟩, List.mem_of_getElem? (i := 621) (by decide +kernel), List.mem_of_getElem? (i := 870) (by decide +kernel), List.mem_of_getElem? (i := 871) (by decide +kernel)⟩
theorem lw_p38 : lw_okq (⟨"ChatRelayModel", "homesOf", "(I)I"⟩, 29) := ⟨⟨by decide +kernel, by decide +kernel⟩, List.mem_of_getElem? (i := 621) (by decide +kernel), List.mem_of_getElem? (i := 874) (by decide +kernel), List.mem_of_getElem? (i := 875) (by decide +kernel)⟩
theorem lw_p39 : lw_okq (⟨"ChatRelayModel", "behind", "(II)I"⟩, 29) := ⟨⟨by decide +kernel, by decide +kernel⟩, List.mem_of_getElem? (i := 621) (by decide +kernel), List.mem_of_getElem? (i := 878) (by decide +kernel), List.mem_of_getElem? (i := 879) (by decide +kernel)⟩
theorem lw_p40 : lw_okq (⟨"ChatRelayModel", "isView", "(II)Z"⟩, 29) := ⟨⟨by decide +kernel, by decide +kernel⟩, List.mem_of_getElem? (i := 621) (by decide +kernel), List.mem_of_getElem? (i := 898) (by decide +kernel), List.mem_of_getElem? (i := 899) (by decide +kernel)⟩
def lw_privs_3 : List (MethodName × Nat) := [(⟨"ChatRelayModel", "getsChannel", "(I)V"⟩, 29), (⟨"ChatRelayModel", "isUser", "(I)Z"⟩, 29), (⟨"ChatRelayModel", "isGone", "(I)Z"⟩, 29), (⟨"ChatRelayModel", "isMember", "(II)Z"⟩, 29), (⟨"ChatRelayModel", "isBanned", "(II)Z"⟩, 29), (⟨"ChatRelayModel", "isEldest", "(II)Z"⟩, 29), (⟨"ChatRelayModel", "homesOf", "(I)I"⟩, 29), (⟨"ChatRelayModel", "behind", "(II)I"⟩, 29), (⟨"ChatRelayModel", "isView", "(II)Z"⟩, 29)]
theorem lw_r3 : ∀ q ∈ lw_privs_3, lw_okq q := List.forall_mem_cons.mpr ⟨lw_p32, List.forall_mem_cons.mpr ⟨lw_p33, List.forall_mem_cons.mpr ⟨lw_p34, List.forall_mem_cons.mpr ⟨lw_p35, List.forall_mem_cons.mpr ⟨lw_p36, List.forall_mem_cons.mpr ⟨lw_p37, List.forall_mem_cons.mpr ⟨lw_p38, List.forall_mem_cons.mpr ⟨lw_p39, List.forall_mem_cons.mpr ⟨lw_p40, fun _ h => absurd h List.not_mem_nil⟩⟩⟩⟩⟩⟩⟩⟩⟩
def lw_privs : List (MethodName × Nat) := lw_privs_1 ++ (lw_privs_2 ++ (lw_privs_3))
def lw_tbl : List Cond := k2_sels lw_privs ++ tables_1
theorem lw_privs_ok : ∀ q ∈ lw_privs, lw_okq q := by
  show ∀ q ∈ lw_privs_1 ++ (lw_privs_2 ++ (lw_privs_3)), lw_okq q
  exact List.forall_mem_append.mpr ⟨lw_r1, List.forall_mem_append.mpr ⟨lw_r2, lw_r3⟩⟩
-- ===== end of PART A; then your names; then what follows =====
/-! ===== BEGIN words of one list among another's, by their places ===== -/
theorem goodIn_r {big : List Cond} (ws : List Cond) (ps : List Nat) (hp : ws = ps.filterMap (fun i => big[i]?)) (h : ws.all goodWord = true) : GoodIn big ws := by
  intro w hw
  have h1 := List.all_eq_true.mp h w hw
  rw [hp] at hw
  obtain ⟨i, -, hi⟩ := List.mem_filterMap.mp hw
  have hm : w ∈ big := by first | exact List.mem_of_getElem? hi | exact List.getElem?_mem hi
  exact ⟨hm, good_of_word h1⟩
theorem goodIn_app {big a b : List Cond} (ha : GoodIn big a) (hb : GoodIn big b) : GoodIn big (a ++ b) := fun w h => (List.mem_append.mp h).elim (ha w) (hb w)
theorem goodIn_ca {big a b : List Cond} {c : Cond} (ha : GoodIn big (c :: a)) (hb : GoodIn big b) : GoodIn big (c :: (a ++ b)) := fun w h => (List.mem_cons.mp h).elim (fun e => ha w (List.mem_cons.mpr (Or.inl e))) (fun h => (List.mem_append.mp h).elim (fun h => ha w (List.mem_cons.mpr (Or.inr h))) (hb w))
theorem goodIn_sub {big ws : List Cond} (hm : ∀ w ∈ ws, w ∈ big) (h : ws.all goodWord = true) : GoodIn big ws := fun w hw => ⟨hm w hw, good_of_word (List.all_eq_true.mp h w hw)⟩
/-! ===== END ===== -/

/-! ===== BEGIN exceptions that leave a method, and their catching by the caller (launches without stack traces) ===== -/
section VXA
/-! The laws vx_back, vx_callV, vx_callS, vx_callSW, vx_throw0, vx_throwS follow proofs of the library, with one case more: JvmDerived/Free/Laws.lean (Back.of_free), Shelf42/LK1.lean (callV, callS), Shelf/KitTraced.lean (throwNew0V, throwNewS). -/
/-- where a method has thrown q: the class by its name, the cell, what was written, the world -/
def vx_T (XC : String → State → State → Prop) (st : State) (q : Addr) (t : State) (mc ms : Nat) (free : Addr → Prop) : Prop :=
  ∃ (E : String) (ce : Cell) (L : List Loc), XC E st t ∧ t.heap[q]? = some ce ∧ ce.vm = .none ∧ st.vm.findClass E = some ce.cls ∧ st.WarmedH t.vm ∧ st.sameButNew ({ t with vm := st.vm } : State) L mc ms ∧ ∀ z ∈ L, free z.base
def vx_Q (Qc : Array Value → State → Outcome → State → Prop) (XC : String → State → State → Prop) (mc ms : Nat) (free : Addr → Prop) : Array Value → State → Outcome → State → Prop := fun a st o t =>
  (Qc a st o t ∧ ∃ L, FrameEnd st o t L mc ms ∧ ∀ q ∈ L, free q.base) ∨ ∃ q, o = .threw q ∧ vx_T XC st q t mc ms free
/-- a callee that returns or throws -/
def vx_Met (l : Launch) (y : MethodName) (ws : List Cond) (rm : Room) (Pc : Array Value → State → Prop) (Qc : Array Value → State → Outcome → State → Prop) (XC : String → State → State → Prop) (mc ms : Nat) (free : Addr → Prop) : Prop :=
  MetFree l y (headSpec ws rm) Pc (fun _ _ _ _ _ => True) (vx_Q Qc XC mc ms free)
def vx_Post (XC : String → State → State → Prop) (mc ms : Nat) (free : Addr → Prop) : Pt → Array Value → Addr → Pt → Prop := fun A a q B =>
  ∃ (g : JFrame) (mk : MethodId) (t : State) (L : List Loc) (E : String) (ce : Cell), B.U.heap = t.heap ∧ B.U.vm = t.vm ∧ XC E (A.U.calling g mk a) t ∧ t.heap[q]? = some ce ∧ ce.vm = .none ∧ A.U.vm.findClass E = some ce.cls ∧ B.locs = A.locs ++ L ∧ (∀ z ∈ L, free z.base) ∧ B.cells = A.cells + mc ∧ B.slots = A.slots + ms
def vx_Back (l : Launch) (R : Room) (p : Program) (e : Env) (below : List Frame) (s : State) (sargs : Array Value) (y : MethodName) (len W9 : Nat)
    (Pre : Pt → Array Value → Prop) (Post : Pt → Array Value → Option Value → Pt → Prop) (PostX : Pt → Array Value → Addr → Pt → Prop) : Prop :=
  ∀ (m : MethodId) (meth : Method) (c : Code) (A : Pt) (g : JFrame) (ig : Instr) (mk : MethodId) (a : Array Value),
    Stand p l e R s m sargs below meth c A.U A.locs A.cells A.slots → g.method = m → g.locals.size = c.maxLocals → decode c.code g.pc = .ok (ig, len) →
    2 * g.monitorRoom + (g.stack.map fun v => v.category).sum ≤ W9 → A.U.methodNamed? y = some mk → Pre A a →
    (∃ (v : Option Value) (B : Pt), Stand p l e R s m sargs below meth c B.U B.locs B.cells B.slots ∧ Post A a v B ∧
      Steps p.tables e below (doInvoke e (A.U.setTop g) [] mk a).1 (B.U.setTop { g with pc := g.pc + len, stack := v.toList ++ g.stack })) ∨
    (∃ (q : Addr) (B : Pt), Stand p l e R s m sargs below meth c B.U B.locs B.cells B.slots ∧ PostX A a q B ∧
      Steps p.tables e below (doInvoke e (A.U.setTop g) [] mk a).1 ((B.U.setTop g).pushFrame (.throwing q)))
section Payer
variable {l : Launch} {R : Room} {p : Program} {e : Env} {below : List Frame} {s : State} {sargs : Array Value} {y : MethodName} {len W9 : Nat}
theorem vx_back {ws : List Cond} {rm : Room} {Pc : Array Value → State → Prop} {Qc : Array Value → State → Outcome → State → Prop} {XC : String → State → State → Prop} {mc ms : Nat} {free : Addr → Prop} {bytes : ByteArray} {maxL : Nat} {ret : Option FieldType}
    (hM : vx_Met l y ws rm Pc Qc XC mc ms free) (hblind : FrameBlind Pc) (hrc : rm.cells = mc) (hrs : rm.slots = ms)
    (hframes : rm.frames + 1 ≤ R.frames) (hlocals : W9 + (maxL + 11) + rm.locals ≤ R.locals)
    (hws : ∀ w ∈ ws, ∀ a' U, s.WarmedH U.vm → w.before a' U = true) (hcode : Cond.code y bytes maxL ret ∈ ws) (hinit : ∀ a' U, s.WarmedH U.vm → (Cond.initialized y.cls).before a' U = true) :
    vx_Back l R p e below s sargs y len W9 (PreOf R mc ms Pc) (PostOf Qc mc ms free) (vx_Post XC mc ms free) := by
  intro m meth c A g ig mk a X hg hsize hdg hW hn hp
  have h1 : (headSpec ws rm).pre.before a A.U = true := atoms_intro fun w hw => hws w hw _ _ X.warmed
  have h2 : (Cond.code y bytes maxL ret).before a A.U = true := hws _ hcode _ _ X.warmed
  have h3 : (Cond.initialized y.cls).before a A.U = true := hinit _ _ X.warmed
  have h4 : A.cells + (headSpec ws rm).room.cells ≤ R.cells := by rw [show (headSpec ws rm).room.cells = mc from hrc]; exact hp.1
  have h5 : A.slots + (headSpec ws rm).room.slots ≤ R.slots := by rw [show (headSpec ws rm).room.slots = ms from hrs]; exact hp.2.1
  have hPc : Pc a (A.U.calling g mk a) := hblind _ _ _ _ hp.2.2
  obtain ⟨U, Ls, c0, s0⟩ := A
  dsimp only [Pt.U, Pt.locs, Pt.cells, Pt.slots] at h1 h2 h3 h4 h5 X hn hPc ⊢
  obtain ⟨methY, cY, hmY, hcY, -, hlY, -, -, -, -⟩ := Cond.code_spec hn h2
  obtain ⟨kY, hkY, -⟩ := className_of_methodNamed hn
  have hinitY : kY.init = .initialized := Cond.initialized_spec (findClass_of_methodNamed hn) hkY h3
  have h : At U g.method c below := by rw [hg]; exact X.here
  have hlocals9 : W9 + (maxL + 11) + (headSpec ws rm).room.locals ≤ R.locals := hlocals
  have happ : (headSpec ws rm).appliesLoose y e.platform (U.calling g mk a) = true :=
    Spec.appliesLoose_calling (g := g) h hdg hn hkY hinitY
      (X.room_calling (g := g) (R' := (headSpec ws rm).room) hsize hmY hcY hframes (by rw [hlY]; omega) h4 h5) h1
  obtain ⟨mid, hmid⟩ := h.above
  have hfr : (U.setTop g).frames = (.java g :: mid) ++ below := by rw [State.frames_setTop' g h.top, hmid]; rfl
  obtain ⟨o, s₂, hsteps, -, hend, hq⟩ := Steps.callFree hM p X.admits X.cas X.clock (acts := []) hfr happ hPc trivial
  have hq' : vx_Q Qc XC mc ms free a (U.calling g mk a) o s₂ := hq
  rw [State.frames_setTop' g h.top] at hend
  obtain ⟨g₀, hg0⟩ := Option.isSome_iff_exists.mp h.top
  obtain ⟨r, hr⟩ := State.topJava?_eq_some.mp hg0
  have hr' : (({ U with heap := s₂.heap, slotsUsed := s₂.slotsUsed } : State).setVm s₂.vm).frames = .java g₀ :: r := hr
  rcases hq' with ⟨hqc, L, hfe, hL⟩ | ⟨q, rfl, E, ce, L, hx, hce, hcv, hcl, hW₂, hsm, hL⟩
  · obtain ⟨⟨v, rfl⟩, hW₂, e2, q2, q3, q4, q5, q6⟩ := id hfe
    have e3 : s₂ = ({ (U.calling g mk a).setFrames s₂.frames with heap := s₂.heap, slotsUsed := s₂.slotsUsed } : State).setVm s₂.vm := by
      have : s₂ = ({ s₂ with vm := (U.calling g mk a).vm } : State).setVm s₂.vm := rfl
      rw [e2] at this
      exact this
    obtain ⟨c₂, i₂, len₂, hc₂, hd₂, hf₂⟩ := hend
    have hW' : U.WarmedH s₂.vm := hW₂
    have hcc : c₂ = c := by
      have h1 : s₂.code? g.method = U.code? g.method := by
        rw [State.code?_eq, State.code?_eq, hW'.alike.method?]
      exact Option.some.inj (hc₂.symm.trans (h1.trans h.code))
    subst hcc
    have hlen : len₂ = len := by rw [hdg] at hd₂; cases hd₂; rfl
    subst hlen
    have hs₂ : s₂ = (({ U with heap := s₂.heap, slotsUsed := s₂.slotsUsed } : State).setVm s₂.vm).setTop { g with pc := g.pc + len₂, stack := v.toList ++ g.stack } := by
      refine e3.trans ?_
      rw [hf₂, State.calling_eq h.top, State.setFrames_setFrames, State.setTop_of_frames _ hr', hr]
      rfl
    have hsame : U.sameButNew ({ U with heap := s₂.heap, slotsUsed := s₂.slotsUsed } : State) L mc ms := by
      refine ⟨?_, q2, q3, q4, q5, q6⟩
      obtain ⟨t, ht, -⟩ := State.frames_cons hr
      show ({ U with heap := s₂.heap, slotsUsed := s₂.slotsUsed } : State) = { U.setFrames U.frames with heap := s₂.heap, slotsUsed := s₂.slotsUsed }
      rw [State.setFrames_self ht]
    subst hg
    refine Or.inl ⟨v, ⟨(({ U with heap := s₂.heap, slotsUsed := s₂.slotsUsed } : State).setVm s₂.vm), Ls ++ L, c0 + mc, s0 + ms⟩,
      ⟨X.admits, X.cas, X.clock, X.frames, X.room, X.hears, X.method, X.code, (X.here.setHeapUsed s₂.heap s₂.slotsUsed).setVm hW'.alike, X.tail, State.WarmedH.trans X.warmed hW', X.limits, X.bytes, X.same.trans (hsame.setVm s.vm)⟩,
      ⟨g, mk, s₂, L, rfl, rfl, hqc, rfl, hL, rfl, rfl⟩, ?_⟩
    show Steps p.tables e below _ ((({ U with heap := s₂.heap, slotsUsed := s₂.slotsUsed } : State).setVm s₂.vm).setTop { g with pc := g.pc + len₂, stack := v.toList ++ g.stack })
    rw [← hs₂]
    exact hsteps
  · obtain ⟨e2, q2, q3, q4, q5, q6⟩ := id hsm
    have e3 : s₂ = ({ (U.calling g mk a).setFrames s₂.frames with heap := s₂.heap, slotsUsed := s₂.slotsUsed } : State).setVm s₂.vm := by
      have : s₂ = ({ s₂ with vm := (U.calling g mk a).vm } : State).setVm s₂.vm := rfl
      rw [e2] at this
      exact this
    have hf₂ : s₂.frames = .throwing q :: .java g :: U.frames.tail := hend
    have hW' : U.WarmedH s₂.vm := hW₂
    have hs₂ : s₂ = ((({ U with heap := s₂.heap, slotsUsed := s₂.slotsUsed } : State).setVm s₂.vm).setTop g).pushFrame (.throwing q) := by
      refine e3.trans ?_
      rw [hf₂, State.calling_eq h.top, State.setFrames_setFrames, State.pushFrame, State.frames_setTop _ hr', State.setTop_of_frames _ hr', State.setFrames_setFrames, hr]
      rfl
    have hsame : U.sameButNew ({ U with heap := s₂.heap, slotsUsed := s₂.slotsUsed } : State) L mc ms := by
      refine ⟨?_, q2, q3, q4, q5, q6⟩
      obtain ⟨t, ht, -⟩ := State.frames_cons hr
      show ({ U with heap := s₂.heap, slotsUsed := s₂.slotsUsed } : State) = { U.setFrames U.frames with heap := s₂.heap, slotsUsed := s₂.slotsUsed }
      rw [State.setFrames_self ht]
    subst hg
    refine Or.inr ⟨q, ⟨(({ U with heap := s₂.heap, slotsUsed := s₂.slotsUsed } : State).setVm s₂.vm), Ls ++ L, c0 + mc, s0 + ms⟩,
      ⟨X.admits, X.cas, X.clock, X.frames, X.room, X.hears, X.method, X.code, (X.here.setHeapUsed s₂.heap s₂.slotsUsed).setVm hW'.alike, X.tail, State.WarmedH.trans X.warmed hW', X.limits, X.bytes, X.same.trans (hsame.setVm s.vm)⟩,
      ⟨g, mk, s₂, L, E, ce, rfl, rfl, hx, hce, hcv, hcl, rfl, hL, rfl, rfl⟩, ?_⟩
    show Steps p.tables e below _ (((({ U with heap := s₂.heap, slotsUsed := s₂.slotsUsed } : State).setVm s₂.vm).setTop g).pushFrame (.throwing q))
    rw [← hs₂]
    exact hsteps
end Payer
section Calls
variable {p : Program} {l : Launch} {e : Env} {R : Room} {s : State} {m : MethodId} {args : Array Value} {below : List Frame} {meth : Method} {c : Code} {T : State} {locs : List Loc} {cells slots : Nat}
theorem vx_callV (X : Stand p l e R s m args below meth c T locs cells slots) (hexec : p.tables.exec = Jvm.exec) {own C : String} {index : Nat} {y : MethodName} {bytes : ByteArray} {maxL : Nat} {ret : Option FieldType}
    (hown : s.vm.findClass own = some m.cls) (hlink : (Cond.methodLink own index y).before args s = true) (hinst : (Cond.instanceMethod y).before args s = true) (hsel : (Cond.selects C y y).before args s = true)
    (hcode : (Cond.code y bytes maxL ret).before args s = true) (hy : y.cls ≠ "java/lang/invoke/MethodHandle" ∧ y.cls ≠ "java/lang/invoke/VarHandle")
    {W9 : Nat} {Pre : Pt → Array Value → Prop} {Post : Pt → Array Value → Option Value → Pt → Prop} {PostX : Pt → Array Value → Addr → Pt → Prop} (hK : vx_Back l R p e below s args y 3 W9 Pre Post PostX)
    {b : Addr} {cellB : Cell} (hcell : T.heap[b]? = some cellB) (hobj : cellB.vm.isStatics = false) (hcls : s.vm.findClass C = some cellB.cls)
    {g : JFrame} (hg : g.method = m) (hsize : g.locals.size = c.maxLocals) {argsL rest : List Value} (hlen : ∀ sig, parseMethodDescriptor y.desc = some sig → argsL.length = sig.parameters.length)
    (hstack : g.stack = argsL.reverse ++ .ref b :: rest) (hW : 2 * g.monitorRoom + (rest.map fun v => v.category).sum ≤ W9) (hdg : decode c.code g.pc = .ok (.invokevirtual index, 3))
    (hpre : ∀ vm₁, s.WarmedH vm₁ → Pre ⟨T.setVm vm₁, locs, cells, slots⟩ (Value.ref b :: argsL).toArray) :
    (∃ (v : Option Value) (vm₁ : Vm) (B : Pt), s.WarmedH vm₁ ∧ Stand p l e R s m args below meth c B.U B.locs B.cells B.slots ∧ Post ⟨T.setVm vm₁, locs, cells, slots⟩ (Value.ref b :: argsL).toArray v B ∧
      ∀ target, Steps p.tables e below (B.U.setTop { g with pc := g.pc + 3, stack := v.toList ++ rest }) target → Steps p.tables e below (T.setTop g) target) ∨
    (∃ (q : Addr) (vm₁ : Vm) (B : Pt), s.WarmedH vm₁ ∧ Stand p l e R s m args below meth c B.U B.locs B.cells B.slots ∧ PostX ⟨T.setVm vm₁, locs, cells, slots⟩ (Value.ref b :: argsL).toArray q B ∧
      Steps p.tables e below (T.setTop g) ((B.U.setTop { g with stack := rest }).pushFrame (.throwing q))) := by
  obtain ⟨mk, methM, hnamed, hmethM, hstM, habM⟩ := Cond.instanceMethod_spec hinst
  obtain ⟨methM', cM, hmethM', -, -, -, -, -, -, hsigM⟩ := Cond.code_spec hnamed hcode
  cases hmethM.symm.trans hmethM'
  obtain ⟨c2, r2, m2, q1, q2, q3, q4, kP, hkP, hkPi⟩ := Cond.selects_spec hsel
  cases hcls.symm.trans q1
  cases (State.methodFound?_of_named hnamed hy).symm.trans q2
  cases hnamed.symm.trans q3
  have hselP : selectMethod e.platform s.vm cellB.cls mk = .method mk := by rw [Launch.admits_selectMethod X.admits]; exact q4
  obtain ⟨vm₁, X₁, hstep₁⟩ := X.invokevirtual hexec hown hlink hnamed hmethM hstM hkP hkPi hy (a := b) (cell := cellB) hcell
    (fun z h => by rw [h] at hobj; cases hobj) hselP hmethM habM hkP hkPi (g := g) hg (argsL := argsL) (rest := rest) (hlen _ hsigM) hstack hdg
  rcases hK m meth c ⟨T.setVm vm₁, locs, cells, slots⟩ { g with stack := rest } (.invokevirtual index) mk (Value.ref b :: argsL).toArray X₁ hg hsize hdg hW (X₁.named hnamed) (hpre vm₁ X₁.warmed) with ⟨v, B, X', hpost, hsteps⟩ | ⟨q, B, X', hpost, hsteps⟩
  · exact Or.inl ⟨v, vm₁, B, X₁.warmed, X', hpost, fun target h => hstep₁ _ fun acts => by rw [doInvoke_state]; exact hsteps.trans h⟩
  · exact Or.inr ⟨q, vm₁, B, X₁.warmed, X', hpost, hstep₁ _ fun acts => by rw [doInvoke_state]; exact hsteps⟩
theorem vx_callS (X : Stand p l e R s m args below meth c T locs cells slots) (hexec : p.tables.exec = Jvm.exec) {own : String} {index : Nat} {y : MethodName} {bytes : ByteArray} {maxL : Nat} {ret : Option FieldType}
    (hown : s.vm.findClass own = some m.cls) (hlink : (Cond.methodLink own index y).before args s = true) (hstat : (Cond.static y).before args s = true) (hinit : (Cond.initialized y.cls).before args s = true)
    (hcode : (Cond.code y bytes maxL ret).before args s = true) (hy : y.cls ≠ "java/lang/invoke/MethodHandle" ∧ y.cls ≠ "java/lang/invoke/VarHandle")
    {W9 : Nat} {Pre : Pt → Array Value → Prop} {Post : Pt → Array Value → Option Value → Pt → Prop} {PostX : Pt → Array Value → Addr → Pt → Prop} (hK : vx_Back l R p e below s args y 3 W9 Pre Post PostX)
    {g : JFrame} (hg : g.method = m) (hsize : g.locals.size = c.maxLocals) {argsL rest : List Value} (hlen : ∀ sig, parseMethodDescriptor y.desc = some sig → argsL.length = sig.parameters.length)
    (hstack : g.stack = argsL.reverse ++ rest) (hW : 2 * g.monitorRoom + (rest.map fun v => v.category).sum ≤ W9) (hdg : decode c.code g.pc = .ok (.invokestatic index, 3))
    (hpre : ∀ vm₁, s.WarmedH vm₁ → Pre ⟨T.setVm vm₁, locs, cells, slots⟩ argsL.toArray) :
    (∃ (v : Option Value) (vm₁ : Vm) (B : Pt), s.WarmedH vm₁ ∧ Stand p l e R s m args below meth c B.U B.locs B.cells B.slots ∧ Post ⟨T.setVm vm₁, locs, cells, slots⟩ argsL.toArray v B ∧
      ∀ target, Steps p.tables e below (B.U.setTop { g with pc := g.pc + 3, stack := v.toList ++ rest }) target → Steps p.tables e below (T.setTop g) target) ∨
    (∃ (q : Addr) (vm₁ : Vm) (B : Pt), s.WarmedH vm₁ ∧ Stand p l e R s m args below meth c B.U B.locs B.cells B.slots ∧ PostX ⟨T.setVm vm₁, locs, cells, slots⟩ argsL.toArray q B ∧
      Steps p.tables e below (T.setTop g) ((B.U.setTop { g with stack := rest }).pushFrame (.throwing q))) := by
  obtain ⟨mk, hnamed⟩ := Cond.code_named hcode
  obtain ⟨methM, cM, hmethM, -, -, -, -, -, -, hsigM⟩ := Cond.code_spec hnamed hcode
  have hstatic : methM.isStatic = true := Cond.static_spec hnamed hmethM hstat
  obtain ⟨kP, hkP, -⟩ := className_of_methodNamed hnamed
  have hinitP : kP.init = .initialized := Cond.initialized_spec (findClass_of_methodNamed hnamed) hkP hinit
  obtain ⟨vm₁, X₁, hstep₁⟩ := X.invokestatic hexec hown hlink hnamed hmethM hstatic hkP hinitP hy (g := g) hg (argsL := argsL) (rest := rest) (hlen _ hsigM) hstack hdg
  rcases hK m meth c ⟨T.setVm vm₁, locs, cells, slots⟩ { g with stack := rest } (.invokestatic index) mk argsL.toArray X₁ hg hsize hdg hW (X₁.named hnamed) (hpre vm₁ X₁.warmed) with ⟨v, B, X', hpost, hsteps⟩ | ⟨q, B, X', hpost, hsteps⟩
  · exact Or.inl ⟨v, vm₁, B, X₁.warmed, X', hpost, fun target h => hstep₁ _ fun acts => by rw [doInvoke_state]; exact hsteps.trans h⟩
  · exact Or.inr ⟨q, vm₁, B, X₁.warmed, X', hpost, hstep₁ _ fun acts => by rw [doInvoke_state]; exact hsteps⟩
end Calls
theorem vx_cls {s : State} {T : State} {vm₁ : Vm} {E : String} {k : ClassId} (hW : s.WarmedH vm₁) (h : (T.setVm vm₁).vm.findClass E = some k) : s.vm.findClass E = some k := by
  have h1 : vm₁.findClass E = some k := h
  rw [hW.alike.findClass] at h1
  exact h1
/-- the method's frame g, with q thrown over it -/
def vx_W (p : Program) (l : Launch) (e : Env) (R : Room) (s : State) (m : MethodId) (args : Array Value) (below : List Frame) (meth : Method) (c : Code) (H : Heap) (locs : List Loc) (cells slots : Nat) (Q : State → Prop) (g : JFrame) (q : Addr) : Prop :=
  ∀ T : State, T.heap = H → Stand p l e R s m args below meth c T locs cells slots → ∃ t, Steps p.tables e below ((T.setTop g).pushFrame (.throwing q)) t ∧ Q t
def vx_Run (p : Program) (l : Launch) (e : Env) (R : Room) (s : State) (m : MethodId) (args : Array Value) (below : List Frame) (meth : Method) (c : Code) (H : Heap) (locs : List Loc) (cells slots mc ms : Nat) (g : JFrame) (rest : List Value) (Qa : State → Outcome → State → Prop) (XC : String → State → State → Prop) (free : Addr → Prop) : Prop :=
  ∀ T : State, T.heap = H → Stand p l e R s m args below meth c T locs cells slots →
    (∃ (v : Option Value) (st₀ t T' : State) (L : List Loc), st₀.heap = H ∧ Stand p l e R s m args below meth c T' (locs ++ L) (cells + mc) (slots + ms) ∧ (∀ q ∈ L, free q.base) ∧ T'.heap = t.heap ∧ T'.vm = t.vm ∧ Qa st₀ (.returned v) t ∧
      Goes p e below T g T' { g with pc := g.pc + 3, stack := v.toList ++ rest }) ∨
    (∃ (q : Addr) (st₀ t T' : State) (L : List Loc) (E : String) (ce : Cell), st₀.heap = H ∧ Stand p l e R s m args below meth c T' (locs ++ L) (cells + mc) (slots + ms) ∧ (∀ z ∈ L, free z.base) ∧ T'.heap = t.heap ∧ T'.vm = t.vm ∧ XC E st₀ t ∧ t.heap[q]? = some ce ∧ ce.vm = .none ∧ s.vm.findClass E = some ce.cls ∧
      Steps p.tables e below (T.setTop g) ((T'.setTop { g with stack := rest }).pushFrame (.throwing q)))
def vx_X {S : Type} (px : S → Prop) (B : String → S → State → Prop) (A : Nat → Prop) : String → State → State → Prop := fun E st t => ∃ u : S, px u ∧ B E u t ∧ va_F A st t
section Runs
variable {p : Program} {l : Launch} {e : Env} {R : Room} {s : State} {m : MethodId} {args : Array Value} {below : List Frame} {meth : Method} {c : Code} {H : Heap} {locs : List Loc} {cells slots : Nat}
variable {y : MethodName} {bytes cc : ByteArray} {maxL nL mc ms n index : Nat} {ret : Option FieldType} {ws : List Cond} {rm : Room} {Pc : Array Value → State → Prop} {Qc : Array Value → State → Outcome → State → Prop} {XC : String → State → State → Prop} {free : Addr → Prop} {Ts : List Cond} {own C : String} {b : Addr} {As rest : List Value} {g : JFrame}
theorem vx_callBack (cb : CallB R s args own index y bytes maxL ret ws rm mc ms n) (hM : vx_Met l y ws rm Pc Qc XC mc ms free) (hbl : FrameBlind Pc) : vx_Back l R p e below s args y 3 8 (PreOf R mc ms Pc) (PostOf Qc mc ms free) (vx_Post XC mc ms free) := by
  obtain ⟨hrc, hrs, hfr, hlo, hws, hcw, -, hini, -⟩ := cb
  exact vx_back (bytes := bytes) (maxL := maxL) (ret := ret) hM hbl hrc hrs hfr hlo hws hcw (fun a' U hW => word_at hW (Or.inl (by first | rfl | simp [Cond.onTables, Cond.keeps, Cond.steady])) hini)
theorem vx_runV (S : CallFix p m c cc nL s args Ts own) (hM : vx_Met l y ws rm Pc Qc XC mc ms free) (cw : CallW R s args own C index y bytes maxL ret ws rm mc ms n) (hp : PreV s H C b Pc As)
    (hg : g.method = m) (hn : As.length = n) (hsize : g.locals.size = nL) (hstack : g.stack = As.reverse ++ .ref b :: rest) (hW : 2 * g.monitorRoom + (rest.map fun v => v.category).sum ≤ 8) (hdg : decode cc g.pc = .ok (.invokevirtual index, 3)) (hf : cells + mc ≤ R.cells ∧ slots + ms ≤ R.slots) :
    vx_Run p l e R s m args below meth c H locs cells slots mc ms g rest (Qc (Value.ref b :: As).toArray) XC free := by
  have hK : vx_Back l R p e below s args y 3 8 (PreOf R mc ms Pc) (PostOf Qc mc ms free) (vx_Post XC mc ms free) := vx_callBack cw.1 hM hp.1
  obtain ⟨⟨-, -, -, -, -, -, hcode, -, hy, hlen, hl⟩, hin, hse⟩ := cw
  obtain ⟨hx, hb, hml, ho, -⟩ := S
  obtain ⟨-, ⟨cellB, hcB, hoB, hclB⟩, hPc⟩ := hp
  intro T hT X
  rcases vx_callV X hx (C := C) (bytes := bytes) (maxL := maxL) (ret := ret) ho hl hin hse hcode hy hK (by rw [hT]; exact hcB) hoB hclB hg (hsize.trans hml.symm) (argsL := As) (rest := rest) (fun sig h => hn.trans (hlen sig h)) hstack hW (by rw [hb]; exact hdg)
    (fun vm₁ hW₁ => ⟨hf.1, hf.2, hPc (T.setVm vm₁) hT hW₁⟩) with ⟨v, vm₁, ⟨U', l2, c2, s2⟩, hW₁, X', ⟨g', mk, t, L, e1, e2, hq, h1, hL, h2, h3⟩, st⟩ | ⟨q, vm₁, ⟨U', l2, c2, s2⟩, hW₁, X', ⟨g', mk, t, L, E, ce, e1, e2, hq, hce, hcv, hcl, h1, hL, h2, h3⟩, st⟩
  · dsimp only [Pt.U, Pt.locs, Pt.cells, Pt.slots] at X' e1 e2 h1 h2 h3 st
    subst h1; subst h2; subst h3
    exact Or.inl ⟨v, (T.setVm vm₁).calling g' mk (Value.ref b :: As).toArray, t, U', L, hT, X', hL, e1, e2, hq, st⟩
  · dsimp only [Pt.U, Pt.locs, Pt.cells, Pt.slots] at X' e1 e2 h1 h2 h3 st hcl
    subst h1; subst h2; subst h3
    exact Or.inr ⟨q, (T.setVm vm₁).calling g' mk (Value.ref b :: As).toArray, t, U', L, E, ce, hT, X', hL, e1, e2, hq, hce, hcv, vx_cls hW₁ hcl, st⟩
theorem vx_runS (S : CallFix p m c cc nL s args Ts own) (hM : vx_Met l y ws rm Pc Qc XC mc ms free) (cw : CallB R s args own index y bytes maxL ret ws rm mc ms n ∧ (Cond.static y).before args s = true) (hp : PreS s H Pc As)
    (hg : g.method = m) (hn : As.length = n) (hsize : g.locals.size = nL) (hstack : g.stack = As.reverse ++ rest) (hW : 2 * g.monitorRoom + (rest.map fun v => v.category).sum ≤ 8) (hdg : decode cc g.pc = .ok (.invokestatic index, 3)) (hf : cells + mc ≤ R.cells ∧ slots + ms ≤ R.slots) :
    vx_Run p l e R s m args below meth c H locs cells slots mc ms g rest (Qc As.toArray) XC free := by
  have hK : vx_Back l R p e below s args y 3 8 (PreOf R mc ms Pc) (PostOf Qc mc ms free) (vx_Post XC mc ms free) := vx_callBack cw.1 hM hp.1
  obtain ⟨⟨-, -, -, -, -, -, hcode, hini, hy, hlen, hl⟩, hstt⟩ := cw
  obtain ⟨hx, hb, hml, ho, -⟩ := S
  intro T hT X
  rcases vx_callS X hx (bytes := bytes) (maxL := maxL) (ret := ret) ho hl hstt hini hcode hy hK hg (hsize.trans hml.symm) (argsL := As) (rest := rest) (fun sig h => hn.trans (hlen sig h)) hstack hW (by rw [hb]; exact hdg)
    (fun vm₁ hW₁ => ⟨hf.1, hf.2, hp.2 (T.setVm vm₁) hT hW₁⟩) with ⟨v, vm₁, ⟨U', l2, c2, s2⟩, hW₁, X', ⟨g', mk, t, L, e1, e2, hq, h1, hL, h2, h3⟩, st⟩ | ⟨q, vm₁, ⟨U', l2, c2, s2⟩, hW₁, X', ⟨g', mk, t, L, E, ce, e1, e2, hq, hce, hcv, hcl, h1, hL, h2, h3⟩, st⟩
  · dsimp only [Pt.U, Pt.locs, Pt.cells, Pt.slots] at X' e1 e2 h1 h2 h3 st
    subst h1; subst h2; subst h3
    exact Or.inl ⟨v, (T.setVm vm₁).calling g' mk As.toArray, t, U', L, hT, X', hL, e1, e2, hq, st⟩
  · dsimp only [Pt.U, Pt.locs, Pt.cells, Pt.slots] at X' e1 e2 h1 h2 h3 st hcl
    subst h1; subst h2; subst h3
    exact Or.inr ⟨q, (T.setVm vm₁).calling g' mk As.toArray, t, U', L, E, ce, hT, X', hL, e1, e2, hq, hce, hcv, vx_cls hW₁ hcl, st⟩
end Runs
section Rows
variable {p : Program} {l : Launch} {e : Env} {R : Room} {s : State} {m : MethodId} {args : Array Value} {below : List Frame} {meth : Method} {c : Code} {H : Heap} {locs : List Loc} {cells slots : Nat} {Q : State → Prop}
variable {mc ms : Nat} {free : Addr → Prop} {A0 A1 : Nat → Prop} {H0 : Heap} {a : Array Value} {pc : Nat} {ls : Array Slot} {st0 rest : List Value}
theorem vx_keep {st₀ t T' : State} {L : List Loc} (h0 : st₀.heap = H) (e1 : T'.heap = t.heap) (hS : va_S A0 H0 H locs) (hA : ∀ q, q < H.size → A1 q → A0 q) (hf : ∀ q, free q → A0 q) (hL : ∀ q ∈ L, free q.base) (hF : va_F A1 st₀ t) :
    H.size ≤ T'.heap.size ∧ (∀ q : Nat, q < H.size → ¬ A1 q → T'.heap[q]? = H[q]?) ∧ va_S A0 H0 T'.heap (locs ++ L) := by
  obtain ⟨hz, hk⟩ := hF
  rw [h0] at hz hk
  exact ⟨by rw [e1]; exact hz, fun q h1 h2 => by rw [e1]; exact hk q h1 h2,
    ⟨Nat.le_trans hS.1 (by rw [e1]; exact hz), fun q h1 h2 => by rw [e1, hk q (Nat.lt_of_lt_of_le h1 hS.1) (fun z => h2 (hA q (Nat.lt_of_lt_of_le h1 hS.1) z))]; exact hS.2.1 q h1 h2, fun q hq => by
      rcases List.mem_append.mp hq with h | h
      · exact hS.2.2 q h
      · exact hf _ (hL q h)⟩⟩
theorem vx_calli {S SX : Type} {post : Int32 → S → Prop} {px : SX → Prop} {B : S → State → Prop} {BX : String → SX → State → Prop} {AX : Nat → Prop} (hr : vx_Run p l e R s m args below meth c H locs cells slots mc ms (F0 m pc ls st0) rest (va_Qi post B A1 a) (vx_X px BX AX) free) (hS : va_S A0 H0 H locs) (hA : ∀ q, q < H.size → A1 q → A0 q) (hf : ∀ q, free q → A0 q) (hAX : ∀ q, q < H.size → AX q → A0 q)
    (kx : ∀ (E : String) (ce : Cell) (q9 : Addr) (u : SX) (t : State) (H1 : Heap) (locs1 : List Loc), t.heap = H1 → s.vm.Alike t.vm → px u → BX E u t → H.size ≤ H1.size → (∀ q : Nat, q < H.size → ¬ AX q → H1[q]? = H[q]?) → va_S A0 H0 H1 locs1 → H1[q9]? = some ce → ce.vm = .none → s.vm.findClass E = some ce.cls → vx_W p l e R s m args below meth c H1 locs1 (cells + mc) (slots + ms) Q (F0 m pc ls rest) q9)
    (kk : ∀ (r : Int32) (u : S) (t : State) (H1 : Heap) (locs1 : List Loc), t.heap = H1 → s.vm.Alike t.vm → post r u → B u t → H.size ≤ H1.size → (∀ q : Nat, q < H.size → ¬ A1 q → H1[q]? = H[q]?) → va_S A0 H0 H1 locs1 → W p l e R s m args below meth c H1 locs1 (cells + mc) (slots + ms) Q (F0 m (pc + 3) ls (.int r :: rest))) : W p l e R s m args below meth c H locs cells slots Q (F0 m pc ls st0) := by
  intro T hT X
  rcases hr T hT X with ⟨v, st₀, t, T', L, h0, X', hL, e1, e2, ⟨⟨r, u, hv, hp, hb⟩, hF⟩, st⟩ | ⟨q, st₀, t, T', L, E, ce, h0, X', hL, e1, e2, ⟨u, hp, hb, hF⟩, hce, hcv, hcl, st⟩
  · cases hv
    obtain ⟨k1, k2, k3⟩ := vx_keep h0 e1 hS hA hf hL hF
    obtain ⟨t2, a1, b1⟩ := kk r u t T'.heap (locs ++ L) e1.symm (by rw [← e2]; exact X'.warmed.alike) hp hb k1 k2 k3 T' rfl X'
    exact ⟨t2, st t2 a1, b1⟩
  · obtain ⟨k1, k2, k3⟩ := vx_keep h0 e1 hS hAX hf hL hF
    obtain ⟨t2, a1, b1⟩ := kx E ce q u t T'.heap (locs ++ L) e1.symm (by rw [← e2]; exact X'.warmed.alike) hp hb k1 k2 k3 (by rw [e1]; exact hce) hcv hcl T' rfl X'
    exact ⟨t2, st.trans a1, b1⟩
theorem vx_calll {S SX : Type} {post : Int64 → S → Prop} {px : SX → Prop} {B : S → State → Prop} {BX : String → SX → State → Prop} {AX : Nat → Prop} (hr : vx_Run p l e R s m args below meth c H locs cells slots mc ms (F0 m pc ls st0) rest (va_Ql post B A1 a) (vx_X px BX AX) free) (hS : va_S A0 H0 H locs) (hA : ∀ q, q < H.size → A1 q → A0 q) (hf : ∀ q, free q → A0 q) (hAX : ∀ q, q < H.size → AX q → A0 q)
    (kx : ∀ (E : String) (ce : Cell) (q9 : Addr) (u : SX) (t : State) (H1 : Heap) (locs1 : List Loc), t.heap = H1 → s.vm.Alike t.vm → px u → BX E u t → H.size ≤ H1.size → (∀ q : Nat, q < H.size → ¬ AX q → H1[q]? = H[q]?) → va_S A0 H0 H1 locs1 → H1[q9]? = some ce → ce.vm = .none → s.vm.findClass E = some ce.cls → vx_W p l e R s m args below meth c H1 locs1 (cells + mc) (slots + ms) Q (F0 m pc ls rest) q9)
    (kk : ∀ (r : Int64) (u : S) (t : State) (H1 : Heap) (locs1 : List Loc), t.heap = H1 → s.vm.Alike t.vm → post r u → B u t → H.size ≤ H1.size → (∀ q : Nat, q < H.size → ¬ A1 q → H1[q]? = H[q]?) → va_S A0 H0 H1 locs1 → W p l e R s m args below meth c H1 locs1 (cells + mc) (slots + ms) Q (F0 m (pc + 3) ls (.long r :: rest))) : W p l e R s m args below meth c H locs cells slots Q (F0 m pc ls st0) := by
  intro T hT X
  rcases hr T hT X with ⟨v, st₀, t, T', L, h0, X', hL, e1, e2, ⟨⟨r, u, hv, hp, hb⟩, hF⟩, st⟩ | ⟨q, st₀, t, T', L, E, ce, h0, X', hL, e1, e2, ⟨u, hp, hb, hF⟩, hce, hcv, hcl, st⟩
  · cases hv
    obtain ⟨k1, k2, k3⟩ := vx_keep h0 e1 hS hA hf hL hF
    obtain ⟨t2, a1, b1⟩ := kk r u t T'.heap (locs ++ L) e1.symm (by rw [← e2]; exact X'.warmed.alike) hp hb k1 k2 k3 T' rfl X'
    exact ⟨t2, st t2 a1, b1⟩
  · obtain ⟨k1, k2, k3⟩ := vx_keep h0 e1 hS hAX hf hL hF
    obtain ⟨t2, a1, b1⟩ := kx E ce q u t T'.heap (locs ++ L) e1.symm (by rw [← e2]; exact X'.warmed.alike) hp hb k1 k2 k3 (by rw [e1]; exact hce) hcv hcl T' rfl X'
    exact ⟨t2, st.trans a1, b1⟩
theorem vx_callf {S SX : Type} {post : UInt32 → S → Prop} {px : SX → Prop} {B : S → State → Prop} {BX : String → SX → State → Prop} {AX : Nat → Prop} (hr : vx_Run p l e R s m args below meth c H locs cells slots mc ms (F0 m pc ls st0) rest (va_Qf post B A1 a) (vx_X px BX AX) free) (hS : va_S A0 H0 H locs) (hA : ∀ q, q < H.size → A1 q → A0 q) (hf : ∀ q, free q → A0 q) (hAX : ∀ q, q < H.size → AX q → A0 q)
    (kx : ∀ (E : String) (ce : Cell) (q9 : Addr) (u : SX) (t : State) (H1 : Heap) (locs1 : List Loc), t.heap = H1 → s.vm.Alike t.vm → px u → BX E u t → H.size ≤ H1.size → (∀ q : Nat, q < H.size → ¬ AX q → H1[q]? = H[q]?) → va_S A0 H0 H1 locs1 → H1[q9]? = some ce → ce.vm = .none → s.vm.findClass E = some ce.cls → vx_W p l e R s m args below meth c H1 locs1 (cells + mc) (slots + ms) Q (F0 m pc ls rest) q9)
    (kk : ∀ (r : UInt32) (u : S) (t : State) (H1 : Heap) (locs1 : List Loc), t.heap = H1 → s.vm.Alike t.vm → post r u → B u t → H.size ≤ H1.size → (∀ q : Nat, q < H.size → ¬ A1 q → H1[q]? = H[q]?) → va_S A0 H0 H1 locs1 → W p l e R s m args below meth c H1 locs1 (cells + mc) (slots + ms) Q (F0 m (pc + 3) ls (.float r :: rest))) : W p l e R s m args below meth c H locs cells slots Q (F0 m pc ls st0) := by
  intro T hT X
  rcases hr T hT X with ⟨v, st₀, t, T', L, h0, X', hL, e1, e2, ⟨⟨r, u, hv, hp, hb⟩, hF⟩, st⟩ | ⟨q, st₀, t, T', L, E, ce, h0, X', hL, e1, e2, ⟨u, hp, hb, hF⟩, hce, hcv, hcl, st⟩
  · cases hv
    obtain ⟨k1, k2, k3⟩ := vx_keep h0 e1 hS hA hf hL hF
    obtain ⟨t2, a1, b1⟩ := kk r u t T'.heap (locs ++ L) e1.symm (by rw [← e2]; exact X'.warmed.alike) hp hb k1 k2 k3 T' rfl X'
    exact ⟨t2, st t2 a1, b1⟩
  · obtain ⟨k1, k2, k3⟩ := vx_keep h0 e1 hS hAX hf hL hF
    obtain ⟨t2, a1, b1⟩ := kx E ce q u t T'.heap (locs ++ L) e1.symm (by rw [← e2]; exact X'.warmed.alike) hp hb k1 k2 k3 (by rw [e1]; exact hce) hcv hcl T' rfl X'
    exact ⟨t2, st.trans a1, b1⟩
theorem vx_calld {S SX : Type} {post : UInt64 → S → Prop} {px : SX → Prop} {B : S → State → Prop} {BX : String → SX → State → Prop} {AX : Nat → Prop} (hr : vx_Run p l e R s m args below meth c H locs cells slots mc ms (F0 m pc ls st0) rest (va_Qd post B A1 a) (vx_X px BX AX) free) (hS : va_S A0 H0 H locs) (hA : ∀ q, q < H.size → A1 q → A0 q) (hf : ∀ q, free q → A0 q) (hAX : ∀ q, q < H.size → AX q → A0 q)
    (kx : ∀ (E : String) (ce : Cell) (q9 : Addr) (u : SX) (t : State) (H1 : Heap) (locs1 : List Loc), t.heap = H1 → s.vm.Alike t.vm → px u → BX E u t → H.size ≤ H1.size → (∀ q : Nat, q < H.size → ¬ AX q → H1[q]? = H[q]?) → va_S A0 H0 H1 locs1 → H1[q9]? = some ce → ce.vm = .none → s.vm.findClass E = some ce.cls → vx_W p l e R s m args below meth c H1 locs1 (cells + mc) (slots + ms) Q (F0 m pc ls rest) q9)
    (kk : ∀ (r : UInt64) (u : S) (t : State) (H1 : Heap) (locs1 : List Loc), t.heap = H1 → s.vm.Alike t.vm → post r u → B u t → H.size ≤ H1.size → (∀ q : Nat, q < H.size → ¬ A1 q → H1[q]? = H[q]?) → va_S A0 H0 H1 locs1 → W p l e R s m args below meth c H1 locs1 (cells + mc) (slots + ms) Q (F0 m (pc + 3) ls (.double r :: rest))) : W p l e R s m args below meth c H locs cells slots Q (F0 m pc ls st0) := by
  intro T hT X
  rcases hr T hT X with ⟨v, st₀, t, T', L, h0, X', hL, e1, e2, ⟨⟨r, u, hv, hp, hb⟩, hF⟩, st⟩ | ⟨q, st₀, t, T', L, E, ce, h0, X', hL, e1, e2, ⟨u, hp, hb, hF⟩, hce, hcv, hcl, st⟩
  · cases hv
    obtain ⟨k1, k2, k3⟩ := vx_keep h0 e1 hS hA hf hL hF
    obtain ⟨t2, a1, b1⟩ := kk r u t T'.heap (locs ++ L) e1.symm (by rw [← e2]; exact X'.warmed.alike) hp hb k1 k2 k3 T' rfl X'
    exact ⟨t2, st t2 a1, b1⟩
  · obtain ⟨k1, k2, k3⟩ := vx_keep h0 e1 hS hAX hf hL hF
    obtain ⟨t2, a1, b1⟩ := kx E ce q u t T'.heap (locs ++ L) e1.symm (by rw [← e2]; exact X'.warmed.alike) hp hb k1 k2 k3 (by rw [e1]; exact hce) hcv hcl T' rfl X'
    exact ⟨t2, st.trans a1, b1⟩
theorem vx_callv {S SX : Type} {post : S → Prop} {px : SX → Prop} {B : S → State → Prop} {BX : String → SX → State → Prop} {AX : Nat → Prop} (hr : vx_Run p l e R s m args below meth c H locs cells slots mc ms (F0 m pc ls st0) rest (va_Qv post B A1 a) (vx_X px BX AX) free) (hS : va_S A0 H0 H locs) (hA : ∀ q, q < H.size → A1 q → A0 q) (hf : ∀ q, free q → A0 q) (hAX : ∀ q, q < H.size → AX q → A0 q)
    (kx : ∀ (E : String) (ce : Cell) (q9 : Addr) (u : SX) (t : State) (H1 : Heap) (locs1 : List Loc), t.heap = H1 → s.vm.Alike t.vm → px u → BX E u t → H.size ≤ H1.size → (∀ q : Nat, q < H.size → ¬ AX q → H1[q]? = H[q]?) → va_S A0 H0 H1 locs1 → H1[q9]? = some ce → ce.vm = .none → s.vm.findClass E = some ce.cls → vx_W p l e R s m args below meth c H1 locs1 (cells + mc) (slots + ms) Q (F0 m pc ls rest) q9)
    (kk : ∀ (u : S) (t : State) (H1 : Heap) (locs1 : List Loc), t.heap = H1 → s.vm.Alike t.vm → post u → B u t → H.size ≤ H1.size → (∀ q : Nat, q < H.size → ¬ A1 q → H1[q]? = H[q]?) → va_S A0 H0 H1 locs1 → W p l e R s m args below meth c H1 locs1 (cells + mc) (slots + ms) Q (F0 m (pc + 3) ls (rest))) : W p l e R s m args below meth c H locs cells slots Q (F0 m pc ls st0) := by
  intro T hT X
  rcases hr T hT X with ⟨v, st₀, t, T', L, h0, X', hL, e1, e2, ⟨⟨u, hv, hp, hb⟩, hF⟩, st⟩ | ⟨q, st₀, t, T', L, E, ce, h0, X', hL, e1, e2, ⟨u, hp, hb, hF⟩, hce, hcv, hcl, st⟩
  · cases hv
    obtain ⟨k1, k2, k3⟩ := vx_keep h0 e1 hS hA hf hL hF
    obtain ⟨t2, a1, b1⟩ := kk u t T'.heap (locs ++ L) e1.symm (by rw [← e2]; exact X'.warmed.alike) hp hb k1 k2 k3 T' rfl X'
    exact ⟨t2, st t2 a1, b1⟩
  · obtain ⟨k1, k2, k3⟩ := vx_keep h0 e1 hS hAX hf hL hF
    obtain ⟨t2, a1, b1⟩ := kx E ce q u t T'.heap (locs ++ L) e1.symm (by rw [← e2]; exact X'.warmed.alike) hp hb k1 k2 k3 (by rw [e1]; exact hce) hcv hcl T' rfl X'
    exact ⟨t2, st.trans a1, b1⟩
/-- caught by the row x of this method's table; the rows ahead don't take it -/
theorem vx_catch {own name : String} {E : String} {ce : Cell} {q : Addr} (hown : s.vm.findClass own = some m.cls) (pre : List ExceptionTableEntry) (x : ExceptionTableEntry) (suf : List ExceptionTableEntry) (hsplit : c.exceptionTable.toList = pre ++ x :: suf)
    (hpass : ∀ z ∈ pre, covers z pc = false ∨ (z.catchType ≠ 0 ∧ ∃ nm : String, (Cond.classLink own z.catchType nm).before args s = true ∧ va_Nc E nm s)) (hx : covers x pc = true) (h0 : x.catchType ≠ 0)
    (hlink : (Cond.classLink own x.catchType name).before args s = true) (hcast : (Cond.castable E name).before args s = true) (hcell : H[q]? = some ce) (hv : ce.vm = .none) (hcl : s.vm.findClass E = some ce.cls)
    (kk : W p l e R s m args below meth c H locs cells slots Q (F0 m x.handlerPc ls [.ref q])) : vx_W p l e R s m args below meth c H locs cells slots Q (F0 m pc ls rest) q := by
  intro T hT X
  have hpl : e.platform.magicAccessors = ({} : Platform).magicAccessors := by rw [X.admits.platform]
  obtain ⟨c3, c4, hc3, hc4, hasg⟩ := Cond.castable_spec hcast
  cases Option.some.inj (hc3.symm.trans hcl)
  obtain ⟨c5, hc5, hcl5⟩ := Cond.classLink_spec hown hlink e.platform hpl
  cases Option.some.inj (hc4.symm.trans hc5)
  obtain ⟨vm', X', st⟩ := X.thenCaughtThrough q (g := F0 m pc ls rest) rfl (Steps.refl _) (by rw [hT]; exact hcell) (by rw [hv]; rfl) (by obtain ⟨k9, h9, -⟩ := Vm.findClass_spec hcl; exact ⟨k9, h9⟩) pre x suf hsplit
    (fun z hz => by
      rcases hpass z hz with h | ⟨hz0, nm, hl1, hn1⟩
      · exact Or.inl h
      · obtain ⟨c6, hc6, hcl6⟩ := Cond.classLink_spec hown hl1 e.platform hpl
        obtain ⟨a8, b8, h1, h2, h3⟩ := hn1
        cases Option.some.inj (h1.symm.trans hcl)
        cases Option.some.inj (h2.symm.trans hc6)
        exact Or.inr ⟨hz0, _, hcl6, h3⟩) hx (Or.inr ⟨h0, c4, hcl5, hasg⟩)
  obtain ⟨t, a1, b1⟩ := kk (T.setVm vm') hT X'
  exact ⟨t, st.trans a1, b1⟩
end Rows
section Ends
variable {p : Program} {l : Launch} {e : Env} {R : Room} {s : State} {m : MethodId} {args : Array Value} {below : List Frame} {meth : Method} {c : Code} {H : Heap} {locs : List Loc} {cells slots : Nat} {Q : State → Prop}
variable {mc ms : Nat} {free : Addr → Prop} {A0 A1 : Nat → Prop} {H0 : Heap} {a : Array Value} {ls : Array Slot} {st0 rest : List Value}
variable {Qc : Array Value → State → Outcome → State → Prop} {XC : String → State → State → Prop}
/-- what a body that may throw owes at its end -/
def vx_MQ (below : List Frame) (Qc : Array Value → State → Outcome → State → Prop) (XC : String → State → State → Prop) (a : Array Value) (s : State) (mc ms : Nat) (free : Addr → Prop) : State → Prop := fun t =>
  ∃ o, t.status = .running ∧ Ended t below o ∧ vx_Q Qc XC mc ms free a s o t
theorem vx_ret {g : JFrame} {mc ms : Nat} (k : W p l e R s m args below meth c H locs cells slots (MQ below Qc args s mc ms free) g) : W p l e R s m args below meth c H locs cells slots (vx_MQ below Qc XC args s mc ms free) g := by
  intro T hT X
  obtain ⟨t, a1, o, b1, b2, b3, b4⟩ := k T hT X
  exact ⟨t, a1, o, b1, b2, Or.inl ⟨b3, b4⟩⟩
/-- not caught here: it goes on to the caller -/
theorem vx_widen {g : JFrame} {q : Addr} {k n : Nat} (h1 : cells ≤ k) (h2 : slots ≤ n) (kk : vx_W p l e R s m args below meth c H locs k n Q g q) : vx_W p l e R s m args below meth c H locs cells slots Q g q := fun T hT X => kk T hT (stand_widen X h1 h2)
theorem vx_out {pc : Nat} {E : String} {ce : Cell} {q : Addr} {mc ms : Nat} (hout : ∀ x ∈ c.exceptionTable.toList, covers x pc = false) (hlocks : meth.locks = false) (hcell : H[q]? = some ce) (hv : ce.vm = .none) (hcl : s.vm.findClass E = some ce.cls)
    (hx : ∀ t : State, t.heap = H → s.vm.Alike t.vm → XC E s t) (hf : ∀ z ∈ locs, free z.base) (hc : cells ≤ mc) (hs : slots ≤ ms) :
    vx_W p l e R s m args below meth c H locs cells slots (vx_MQ below Qc XC args s mc ms free) (F0 m pc ls rest) q := by
  intro T hT X
  obtain ⟨st1, hrun, hend, hW, hsm⟩ := X.leaveThrown q (g := F0 m pc ls rest) rfl rfl rfl hout hlocks
  have hcell9 : (T.setFrames (.throwing q :: below)).heap[q]? = some ce := by
    show T.heap[q]? = some ce
    rw [hT]; exact hcell
  exact ⟨_, st1, .threw q, hrun, hend, Or.inr ⟨q, rfl, E, ce, locs, hx _ hT hW.alike, hcell9, hv, hcl, hW, hsm.mono hc hs, hf⟩⟩
theorem vx_frame {U : State} {k n : Nat} (h : s.sameButNew ({ U with vm := s.vm } : State) locs k n) : s.heap.size ≤ U.heap.size ∧ ∀ q : Nat, q < s.heap.size → (∀ z ∈ locs, z.base ≠ q) → U.heap[q]? = s.heap[q]? := by
  obtain ⟨-, h2, -, -, -, h6⟩ := h
  refine ⟨h2, fun q hq hz => ?_⟩
  obtain ⟨c9, e1, e2, e3, e4⟩ := h6 q _ (Array.getElem?_eq_getElem hq)
  have hs : c9.slots = (s.heap[q]).slots := Array.ext_getElem? fun i => e4 i fun hm => hz _ hm rfl
  have h9 : c9 = s.heap[q] := by
    rw [hs] at e2
    exact e2
  have e5 : U.heap[q]? = some c9 := e1
  rw [e5, h9, Array.getElem?_eq_getElem hq]
/-- the words of a throw but the four that speak of the heap -/
def vx_no (w : Cond) : Bool := decide (w ≠ .isRef (.static Bundle.tN "UNASSIGNED_STACK" Bundle.steD)) && decide (w ≠ .isRef (.static Bundle.tN "SUPPRESSED_SENTINEL" Bundle.listD)) && decide (w ≠ .laysStatic Bundle.tN "UNASSIGNED_STACK" Bundle.steD) && decide (w ≠ .laysStatic Bundle.tN "SUPPRESSED_SENTINEL" Bundle.listD)
def vx_at0 (own : String) (ic : Nat) (X : String) (names : List String) : List Cond := (Bundle.ownAtoms0 own ic X names).filter vx_no
def vx_atS (own : String) (ic : Nat) (X : String) (names : List String) : List Cond := (Bundle.ownAtoms own ic X names).filter vx_no
/-- a word that the tables alone decide, or a good one -/
def vx_ot (w : Cond) : Bool := w.onTables || goodWord w
theorem vx_ot_at {args a' : Array Value} {s U : State} {w : Cond} (hW : s.WarmedH U.vm) (hvm : s.vm = U.vm) (hg : vx_ot w = true) (h : w.before args s = true) : w.before a' U = true := by
  simp only [vx_ot, Bool.or_eq_true] at hg
  rcases hg with hg | hg
  · exact va_tabs hg hvm h
  · exact word_at hW (good_of_word hg) h
/-- a list's words: the good ones out of the method's own list, the others by premises of their own -/
theorem vx_hat {args : Array Value} {s : State} {L B : List Cond} (h1 : ∀ w ∈ L.filter goodWord, w.before args s = true) (h2 : ∀ w ∈ L.filter (fun w => !goodWord w), w ∈ B) (h3 : ∀ w ∈ B, w.before args s = true) : ∀ w ∈ L, w.before args s = true := by
  intro w hw
  by_cases g : goodWord w = true
  · exact h1 w (List.mem_filter.mpr ⟨hw, g⟩)
  · refine h3 w (h2 w (List.mem_filter.mpr ⟨hw, ?_⟩))
    show (!goodWord w) = true
    cases hgw : goodWord w
    · rfl
    · exact absurd hgw g
theorem vx_c {args : Array Value} {s : State} {w : Cond} {B : List Cond} (h : w.before args s = true) (t : ∀ w ∈ B, w.before args s = true) : ∀ w' ∈ w :: B, w'.before args s = true := fun w' h' => (List.mem_cons.mp h').elim (fun e => by rw [e]; exact h) (t w')
theorem vx_n {args : Array Value} {s : State} : ∀ w ∈ ([] : List Cond), w.before args s = true := fun _ h => nomatch h
theorem vx_own {args : Array Value} {s : State} {L : List Cond} (h1 : ∀ w ∈ L.filter vx_no, w.before args s = true)
    (hU : (Cond.isRef (.static Bundle.tN "UNASSIGNED_STACK" Bundle.steD)).before args s = true) (hN : (Cond.isRef (.static Bundle.tN "SUPPRESSED_SENTINEL" Bundle.listD)).before args s = true)
    (lU : (Cond.laysStatic Bundle.tN "UNASSIGNED_STACK" Bundle.steD).before args s = true) (lN : (Cond.laysStatic Bundle.tN "SUPPRESSED_SENTINEL" Bundle.listD).before args s = true) : ∀ w ∈ L, w.before args s = true := by
  intro w hw
  by_cases e1 : w = .isRef (.static Bundle.tN "UNASSIGNED_STACK" Bundle.steD)
  · rw [e1]; exact hU
  · by_cases e2 : w = .isRef (.static Bundle.tN "SUPPRESSED_SENTINEL" Bundle.listD)
    · rw [e2]; exact hN
    · by_cases e3 : w = .laysStatic Bundle.tN "UNASSIGNED_STACK" Bundle.steD
      · rw [e3]; exact lU
      · by_cases e4 : w = .laysStatic Bundle.tN "SUPPRESSED_SENTINEL" Bundle.listD
        · rw [e4]; exact lN
        · exact h1 w (List.mem_filter.mpr ⟨hw, by unfold vx_no; rw [decide_eq_true e1, decide_eq_true e2, decide_eq_true e3, decide_eq_true e4]; rfl⟩)
/-- where a static field lies, its class's statics cell in H -/
def vx_L (C n d : String) (A : Nat → Prop) (U : State) (H : Heap) : Prop := ∃ (c : ClassId) (k : Class) (i : Nat) (f : Field) (a : Nat) (cell : Cell), U.vm.findClass C = some c ∧ U.fieldFound? C n d = some (c, k, i, f) ∧ f.isStatic = true ∧ k.statics = some a ∧ H[a]? = some cell ∧ cell.vm.isStatics = true ∧ cell.cls = c ∧ f.slot < cell.slots.size ∧ k.staticTypes[f.slot]? = some f.type ∧ ¬ A a
theorem vx_L.moved {C n d : String} {A : Nat → Prop} {u U : State} {H : Heap} (hvm : u.vm.Alike U.vm) (h : vx_L C n d A u H) : vx_L C n d A U H := by
  obtain ⟨c, k, i, f, a, cell, h1, h2, h3, h4, h5, h6, h7, h8, h9, h10⟩ := h
  obtain ⟨k', hi', he⟩ := State.fieldFound?_setVm hvm h2
  exact ⟨c, k', i, f, a, cell, by rw [hvm.findClass]; exact h1, hi', h3, by rw [he]; exact h4, h5, h6, h7, h8, by rw [he]; exact h9, h10⟩
theorem vx_L.kept {C n d : String} {A : Nat → Prop} {U : State} {H H1 : Heap} (h : vx_L C n d A U H) (hq : ∀ a : Nat, a < H.size → ¬ A a → H1[a]? = H[a]?) : vx_L C n d A U H1 := by
  obtain ⟨c, k, i, f, a, cell, h1, h2, h3, h4, h5, h6, h7, h8, h9, h10⟩ := h
  exact ⟨c, k, i, f, a, cell, h1, h2, h3, h4, by rw [hq a (Array.getElem?_eq_some_iff.mp h5).1 h10]; exact h5, h6, h7, h8, h9, h10⟩
theorem vx_L.narrow {C n d : String} {A B : Nat → Prop} {U : State} {H : Heap} (h : vx_L C n d A U H) (hAB : ∀ q, B q → A q) : vx_L C n d B U H := by
  obtain ⟨c, k, i, f, a, cell, h1, h2, h3, h4, h5, h6, h7, h8, h9, h10⟩ := h
  exact ⟨c, k, i, f, a, cell, h1, h2, h3, h4, h5, h6, h7, h8, h9, fun z => h10 (hAB _ z)⟩
theorem vx_L.word {C n d : String} {A : Nat → Prop} {s : State} {args : Array Value} (h : vx_L C n d A s s.heap) : (Cond.laysStatic C n d).before args s = true := by
  obtain ⟨c, k, i, f, a, cell, h1, h2, h3, h4, h5, h6, h7, h8, h9, -⟩ := h
  show (Cond.laysStatic C n d).holds args s none s [] = true
  exact Cond.laysStatic_of h1 h2 h3 h4 h5 h6 h7 h8 h9
/-- .. and what it holds: null or some reference -/
def vx_Zq (C n d : String) (A : Nat → Prop) (U : State) (H : Heap) : Prop := va_Zq C n d A U H ∧ vx_L C n d A U H
theorem vx_Zq.moved {C n d : String} {A : Nat → Prop} {u U : State} {H : Heap} (hvm : u.vm.Alike U.vm) (h : vx_Zq C n d A u H) : vx_Zq C n d A U H := ⟨va_Zq.moved hvm h.1, vx_L.moved hvm h.2⟩
theorem vx_Zq.kept {C n d : String} {A : Nat → Prop} {U : State} {H H1 : Heap} (h : vx_Zq C n d A U H) (hq : ∀ a : Nat, a < H.size → ¬ A a → H1[a]? = H[a]?) : vx_Zq C n d A U H1 := ⟨va_Zq.kept h.1 hq, vx_L.kept h.2 hq⟩
theorem vx_Zq.narrow {C n d : String} {A B : Nat → Prop} {U : State} {H : Heap} (h : vx_Zq C n d A U H) (hAB : ∀ q, B q → A q) : vx_Zq C n d B U H := ⟨va_Zq.narrow h.1 hAB, vx_L.narrow h.2 hAB⟩
theorem vx_Zqof {args : Array Value} {s : State} {C n d : String} {A : Nat → Prop} (hl : (Cond.laysStatic C n d).before args s = true) (hini : (Cond.initialized C).before args s = true) (h : (Cond.isRef (.static C n d)).before args s = true) (hA : ∀ a : Nat, a < s.heap.size → ¬ A a) : vx_Zq C n d A s s.heap := by
  refine ⟨va_Zqof hl hini h hA, ?_⟩
  obtain ⟨c, k, i, f, a, cell, h1, h2, h3, h4, h5, h6, h7, h8, h9⟩ := Cond.laysStatic_spec hl
  exact ⟨c, k, i, f, a, cell, h1, h2, h3, h4, h5, h6, h7, h8, h9, hA a (Array.getElem?_eq_some_iff.mp h5).1⟩
theorem vx_isRef {C n d : String} {v : Value} {A : Nat → Prop} {s : State} {args : Array Value} (h : va_Z C n d v A s s.heap) (hv : v.isRef = true) : (Cond.isRef (.static C n d)).before args s = true := by
  obtain ⟨cf, kf, fi, f, a, cell, h1, h2, h3, h4, h5, h6, h7, -⟩ := h
  have he : (Term.static C n d).eval args s none [] s = some v := by
    simp [Term.eval, State.fieldNamed?, h1, h2, h4, h5, h6, h7]
  simp only [Cond.before, Cond.holds, Cond.value, he]
  cases v <;> simp_all [Value.isRef]
theorem vx_isRefq {C n d : String} {A : Nat → Prop} {s : State} {args : Array Value} (h : va_Zq C n d A s s.heap) : (Cond.isRef (.static C n d)).before args s = true := by
  rcases h with h | ⟨t, h⟩
  · exact vx_isRef h rfl
  · exact vx_isRef h rfl
/-- the same frame, seen from here: as if the method were called anew in this heap -/
theorem vx_rebase {T : State} (X : Stand p l e R s m args below meth c T locs cells slots) {R' : Room} (hf : R'.frames ≤ R.frames) (hl : R'.locals ≤ R.locals) (hc : cells + R'.cells ≤ R.cells) (hs : slots + R'.slots ≤ R.slots) :
    Stand p l e R' ((T.setVm s.vm).setFrames (.invoking m args :: below)) m args below meth c T [] 0 0 := by
  have htop : (T.setVm s.vm).topJava?.isSome := X.here.top
  have hF : ((T.setVm s.vm).setFrames (.invoking m args :: below)).frames = .invoking m args :: below := State.frames_setFrames _ (State.cur_lt_of_top htop)
  obtain ⟨g₀, hg0⟩ := Option.isSome_iff_exists.mp htop
  obtain ⟨r, hr⟩ := State.topJava?_eq_some.mp hg0
  have hl9 : e.platform.stackLimits (T.setVm s.vm).me = e.platform.stackLimits s.me := X.limits
  have hb9 : (T.setVm s.vm).me.stackBytes = s.me.stackBytes := X.bytes
  refine ⟨X.admits, X.cas, X.clock, hF, ?_, X.hears, X.method, X.code, X.here, X.tail, X.warmed, ?_, ?_, ?_⟩
  · have h := X.room
    have hU : ((T.setVm s.vm).setFrames (.invoking m args :: below)).localsInUse = s.localsInUse := by
      rw [State.localsInUse_invoking hF (meth := meth) (c := c) X.method X.code, State.localsInUse_invoking X.frames X.method X.code]
    simp only [State.hasRoom, Bool.and_eq_true, decide_eq_true_eq] at h ⊢
    obtain ⟨⟨⟨⟨h1, h2, h3, h4, h5, h6⟩, h7⟩, h8⟩, h9⟩ := h
    rw [X.frames, List.length_cons] at h2 h3
    have q1 := X.heapSize
    have q2 := X.used
    simp only [hF, hU, List.length_cons, State.stackLimits_setFrames, State.stackBytes_setFrames, hl9, hb9]
    refine ⟨⟨⟨⟨by omega, by omega, by omega, by omega, by omega, h6⟩, ?_⟩, ?_⟩, X.book⟩
    · show T.heap.size + R'.cells ≤ e.platform.maxCells
      omega
    · show T.slotsUsed + R'.slots ≤ e.platform.maxSlots
      omega
  · rw [State.stackLimits_setFrames]; rfl
  · rw [State.stackBytes_setFrames]; rfl
  · refine ⟨?_, Nat.le_refl _, Nat.le_refl _, ?_, ?_, fun a c9 h9 => ⟨c9, h9, rfl, rfl, fun _ _ => rfl⟩⟩
    · obtain ⟨t, ht, -⟩ := State.frames_cons hr
      show T.setVm s.vm = { ((T.setVm s.vm).setFrames (.invoking m args :: below)).setFrames (T.setVm s.vm).frames with heap := T.heap, slotsUsed := T.slotsUsed }
      rw [State.setFrames_setFrames, State.setFrames_self ht]
      rfl
    · show T.slotsUsed = T.slotsUsed + ((T.heap.toList.drop T.heap.size).map (·.slots.size)).sum
      rw [List.drop_eq_nil_of_le (Nat.le_of_eq Array.length_toList)]
      rfl
    · show ((T.heap.toList.drop T.heap.size).map (·.slots.size)).sum ≤ 0
      rw [List.drop_eq_nil_of_le (Nat.le_of_eq Array.length_toList)]
      exact Nat.le_refl _
/-- 'throw new E()': new; dup; invokespecial; athrow -/
theorem vx_throw0 {cc : ByteArray} {pc : Nat} (hexec : p.tables.exec = Jvm.exec) (hb : c.code = cc) (hl : l.stackTraces = false) {own cls : String} {names : List String} {ik ic mc ms : Nat} {A : Nat → Prop}
    (hown : s.vm.findClass own = some m.cls) (hcls : Bundle.fit cls = true) (hnames : ∀ n ∈ names, Bundle.fit n = true)
    (hk : (Cond.classLink own ik cls).before args s = true) (hini : (Cond.initialized cls).before args s = true) (hat : ∀ w ∈ vx_at0 own ic cls names, w.before args s = true)
    (hgood : ∀ w ∈ Cond.classLink own ik cls :: Cond.initialized cls :: vx_at0 own ic cls names, vx_ot w = true)
    (hU : vx_Zq Bundle.tN "UNASSIGNED_STACK" Bundle.steD A s s.heap) (hN : vx_Zq Bundle.tN "SUPPRESSED_SENTINEL" Bundle.listD A s s.heap) (hS : va_S A s.heap H locs) (hsize : ls.size = c.maxLocals)
    (d0 : decode cc pc = .ok (.new ik, 3)) (d3 : decode cc (pc + 3) = .ok (.dup, 1)) (d4 : decode cc (pc + 4) = .ok (.invokespecial ic, 3)) (d7 : decode cc (pc + 7) = .ok (.athrow, 1))
    (hout : ∀ x ∈ c.exceptionTable.toList, covers x (pc + 7) = false)
    (hRframes : names.length + 3 < R.frames) (hRlocals : (rest.map fun v => v.category).sum + (13 * (names.length + 1) + 42) ≤ R.locals) (hRcells : cells + 1 ≤ R.cells) (hRslots : slots + 6 ≤ R.slots) (hlocks : meth.locks = false)
    (hx : ∀ t : State, s.vm.Alike t.vm → H.size ≤ t.heap.size → (∀ q : Nat, q < H.size → t.heap[q]? = H[q]?) → XC cls s t)
    (hf : ∀ z ∈ locs, free z.base) (hc : cells + 1 ≤ mc) (hs : slots + 6 ≤ ms) :
    W p l e R s m args below meth c H locs cells slots (vx_MQ below Qc XC args s mc ms free) (F0 m pc ls rest) := by
  intro T hT X
  have htr : e.platform.stackTraces = false := (show e.platform.stackTraces = l.stackTraces by rw [X.admits.platform]).trans hl
  have Y := vx_rebase X (R' := { frames := R.frames, locals := R.locals, cells := 1, slots := 6 }) (Nat.le_refl _) (Nat.le_refl _) hRcells hRslots
  obtain ⟨s', hA⟩ : ∃ z, z = (T.setVm s.vm).setFrames (.invoking m args :: below) := ⟨_, rfl⟩
  rw [← hA] at Y
  have hvm : s'.vm = s.vm := by rw [hA]; rfl
  have hhp : s'.heap = H := by rw [hA]; exact hT
  have hW0 : s.WarmedH s'.vm := by rw [hvm]; exact State.WarmedH.refl s
  have hat' : ∀ w ∈ vx_at0 own ic cls names, w.before args s' = true := fun w hw => vx_ot_at hW0 hvm.symm (hgood w (List.mem_cons_of_mem _ (List.mem_cons_of_mem _ hw))) (hat w hw)
  have hk' : (Cond.classLink own ik cls).before args s' = true := vx_ot_at hW0 hvm.symm (hgood _ List.mem_cons_self) hk
  have hini' : (Cond.initialized cls).before args s' = true := vx_ot_at hW0 hvm.symm (hgood _ (List.mem_cons_of_mem _ List.mem_cons_self)) hini
  have hU' : vx_Zq Bundle.tN "UNASSIGNED_STACK" Bundle.steD A s' s'.heap := by rw [hhp]; exact vx_Zq.moved hW0.alike (hU.kept hS.2.1)
  have hN' : vx_Zq Bundle.tN "SUPPRESSED_SENTINEL" Bundle.listD A s' s'.heap := by rw [hhp]; exact vx_Zq.moved hW0.alike (hN.kept hS.2.1)
  have h : ∀ w ∈ Bundle.ownAtoms0 own ic cls names, w.before args s' = true := vx_own hat' (vx_isRefq hU'.1) (vx_isRefq hN'.1) hU'.2.word hN'.2.word
  have hown' : s'.vm.findClass own = some m.cls := by rw [hvm]; exact hown
  have hins : (Cond.instantiable cls 6).before args s' = true := h _ (by simp [Bundle.ownAtoms0])
  obtain ⟨vm₁, cX, kX, hfX, hkX, -, -, X₁, st1⟩ := Y.newCold hexec (own := own) (C := cls) (index := ik) (n := 6) hown' hk' hins hini'
    (g := F0 m pc ls rest) rfl (by rw [hb]; exact d0) (Nat.le_refl _) (Nat.le_refl _)
  generalize hT1 : (T.setVm vm₁).pushCell { cls := cX, slots := kX.instanceTypes.map defaultValue, vm := .none } = T1 at X₁ st1
  have hcat : (Value.ref T.heap.size).category = 1 := rfl
  have hcellA : T1.heap[T.heap.size]? = some (freshCell cX kX) := by rw [← hT1]; exact State.heap_pushCell_size _ _
  have d3' : decode c.code (pc + 3) = .ok (.dup, 1) := by rw [hb]; exact d3
  obtain ⟨U, hsteps, hrun, hend, hW, hsame, ce, hce, hO⟩ := X₁.ctorThrow0 hexec htr (own := own) (cls := cls) (names := names) (ic := ic) hown' hcls hnames h (fun x hx => nomatch hx) hfX hkX hcellA (by rw [hhp, hT]; exact Nat.le_refl _)
    (g := { method := m, pc := pc + 4, locals := ls, stack := .ref T.heap.size :: .ref T.heap.size :: rest, locked := none }) rfl hsize rfl rfl (rest := rest) rfl
    (by rw [hb]; exact d4) (by rw [hb]; exact d7) hout hRframes (by simp only [List.map_cons, List.sum_cons, hcat]; omega) hlocks
  obtain ⟨f1, f2⟩ := vx_frame hsame
  rw [hhp] at f1 f2
  have hWs : s.WarmedH U.vm := State.WarmedH.trans hW0 hW
  have hcl : s.vm.findClass cls = some ce.cls := by
    have h9 := hO.cls
    rw [hvm] at h9
    exact h9
  have hall : s.sameButNew ({ U with vm := s.vm } : State) locs mc ms := by
    subst hA
    obtain ⟨e1, e2⟩ := hsame
    rw [State.setFrames_setFrames] at e1
    have h2 : (T.setVm s.vm).sameButNew ({ U with vm := s.vm } : State) [] (0 + 1) (0 + 6) := ⟨e1, e2⟩
    have h3 := X.same.trans h2
    rw [List.append_nil] at h3
    exact h3.mono hc hs
  refine ⟨U, ?_, .threw T.heap.size, hrun, hend, Or.inr ⟨T.heap.size, rfl, cls, ce, locs, hx U hWs.alike f1 (fun q hq => f2 q hq (fun z hz => nomatch hz)), hce, hO.vm, hcl, hWs, hall, hf⟩⟩
  refine st1 _ ?_
  show Steps p.tables e below (T1.setTop { method := m, pc := pc + 3, locals := ls, stack := .ref T.heap.size :: rest, locked := none }) _
  jvm_step X₁.here [X₁.here.top, hexec, d3', Value.category]
  exact hsteps
/-- 'throw new E("text")': new; dup; ldc; invokespecial; athrow -/
theorem vx_throwS {cc : ByteArray} {pc : Nat} (hexec : p.tables.exec = Jvm.exec) (hb : c.code = cc) (hl : l.stackTraces = false) {own cls text : String} {names : List String} {ik is ic mc ms sa : Nat} {A : Nat → Prop}
    (hown : s.vm.findClass own = some m.cls) (hcls : Bundle.fit cls = true) (hnames : ∀ n ∈ names, Bundle.fit n = true)
    (hk : (Cond.classLink own ik cls).before args s = true) (hini : (Cond.initialized cls).before args s = true) (hstr : vk_R own is text sa s) (hat : ∀ w ∈ vx_atS own ic cls names, w.before args s = true)
    (hgood : ∀ w ∈ Cond.classLink own ik cls :: Cond.initialized cls :: vx_atS own ic cls names, vx_ot w = true)
    (hU : vx_Zq Bundle.tN "UNASSIGNED_STACK" Bundle.steD A s s.heap) (hN : vx_Zq Bundle.tN "SUPPRESSED_SENTINEL" Bundle.listD A s s.heap) (hS : va_S A s.heap H locs) (hsize : ls.size = c.maxLocals)
    (d0 : decode cc pc = .ok (.new ik, 3)) (d3 : decode cc (pc + 3) = .ok (.dup, 1)) (d4 : decode cc (pc + 4) = .ok (.ldc is, 2)) (d6 : decode cc (pc + 6) = .ok (.invokespecial ic, 3)) (d9 : decode cc (pc + 9) = .ok (.athrow, 1))
    (hout : ∀ x ∈ c.exceptionTable.toList, covers x (pc + 9) = false)
    (hRframes : names.length + 3 < R.frames) (hRlocals : (rest.map fun v => v.category).sum + (13 * (names.length + 1) + 43) ≤ R.locals) (hRcells : cells + 1 ≤ R.cells) (hRslots : slots + 6 ≤ R.slots) (hlocks : meth.locks = false)
    (hx : ∀ t : State, s.vm.Alike t.vm → H.size ≤ t.heap.size → (∀ q : Nat, q < H.size → t.heap[q]? = H[q]?) → XC cls s t)
    (hf : ∀ z ∈ locs, free z.base) (hc : cells + 1 ≤ mc) (hs : slots + 6 ≤ ms) :
    W p l e R s m args below meth c H locs cells slots (vx_MQ below Qc XC args s mc ms free) (F0 m pc ls rest) := by
  intro T hT X
  have htr : e.platform.stackTraces = false := (show e.platform.stackTraces = l.stackTraces by rw [X.admits.platform]).trans hl
  have Y := vx_rebase X (R' := { frames := R.frames, locals := R.locals, cells := 1, slots := 6 }) (Nat.le_refl _) (Nat.le_refl _) hRcells hRslots
  obtain ⟨s', hA⟩ : ∃ z, z = (T.setVm s.vm).setFrames (.invoking m args :: below) := ⟨_, rfl⟩
  rw [← hA] at Y
  have hvm : s'.vm = s.vm := by rw [hA]; rfl
  have hhp : s'.heap = H := by rw [hA]; exact hT
  have hW0 : s.WarmedH s'.vm := by rw [hvm]; exact State.WarmedH.refl s
  have hat' : ∀ w ∈ vx_atS own ic cls names, w.before args s' = true := fun w hw => vx_ot_at hW0 hvm.symm (hgood w (List.mem_cons_of_mem _ (List.mem_cons_of_mem _ hw))) (hat w hw)
  have hk' : (Cond.classLink own ik cls).before args s' = true := vx_ot_at hW0 hvm.symm (hgood _ List.mem_cons_self) hk
  have hini' : (Cond.initialized cls).before args s' = true := vx_ot_at hW0 hvm.symm (hgood _ (List.mem_cons_of_mem _ List.mem_cons_self)) hini
  have hU' : vx_Zq Bundle.tN "UNASSIGNED_STACK" Bundle.steD A s' s'.heap := by rw [hhp]; exact vx_Zq.moved hW0.alike (hU.kept hS.2.1)
  have hN' : vx_Zq Bundle.tN "SUPPRESSED_SENTINEL" Bundle.listD A s' s'.heap := by rw [hhp]; exact vx_Zq.moved hW0.alike (hN.kept hS.2.1)
  have h : ∀ w ∈ Bundle.ownAtoms own ic cls names, w.before args s' = true := vx_own hat' (vx_isRefq hU'.1) (vx_isRefq hN'.1) hU'.2.word hN'.2.word
  have hown' : s'.vm.findClass own = some m.cls := by rw [hvm]; exact hown
  have hins : (Cond.instantiable cls 6).before args s' = true := h _ (by simp [Bundle.ownAtoms])
  obtain ⟨vm₁, cX, kX, hfX, hkX, -, -, X₁, st1⟩ := Y.newCold hexec (own := own) (C := cls) (index := ik) (n := 6) hown' hk' hins hini'
    (g := F0 m pc ls rest) rfl (by rw [hb]; exact d0) (Nat.le_refl _) (Nat.le_refl _)
  generalize hT1 : (T.setVm vm₁).pushCell { cls := cX, slots := kX.instanceTypes.map defaultValue, vm := .none } = T1 at X₁ st1
  have hcat : (Value.ref T.heap.size).category = 1 := rfl
  have hcellA : T1.heap[T.heap.size]? = some (freshCell cX kX) := by rw [← hT1]; exact State.heap_pushCell_size _ _
  have d3' : decode c.code (pc + 3) = .ok (.dup, 1) := by rw [hb]; exact d3
  have d4' : decode c.code (pc + 4) = .ok (.ldc is, 2) := by rw [hb]; exact d4
  have hstr' : vk_R own is text sa s' := vk_R.warm hW0 hstr
  obtain ⟨U, hsteps, hrun, hend, hW, hsame, ce, hce, hO⟩ := X₁.ctorThrowS hexec htr (own := own) (cls := cls) (names := names) (ic := ic) hown' hcls hnames h (fun x hx => nomatch hx) hfX hkX hcellA (by rw [hhp, hT]; exact Nat.le_refl _) (msg := .ref sa) rfl
    (g := { method := m, pc := pc + 6, locals := ls, stack := .ref sa :: .ref T.heap.size :: .ref T.heap.size :: rest, locked := none }) rfl hsize rfl rfl (rest := rest) rfl
    (by rw [hb]; exact d6) (by rw [hb]; exact d9) hout hRframes (by simp only [List.map_cons, List.sum_cons, hcat]; omega) hlocks
  obtain ⟨f1, f2⟩ := vx_frame hsame
  rw [hhp] at f1 f2
  have hWs : s.WarmedH U.vm := State.WarmedH.trans hW0 hW
  have hcl : s.vm.findClass cls = some ce.cls := by
    have h9 := hO.cls
    rw [hvm] at h9
    exact h9
  have hall : s.sameButNew ({ U with vm := s.vm } : State) locs mc ms := by
    subst hA
    obtain ⟨e1, e2⟩ := hsame
    rw [State.setFrames_setFrames] at e1
    have h2 : (T.setVm s.vm).sameButNew ({ U with vm := s.vm } : State) [] (0 + 1) (0 + 6) := ⟨e1, e2⟩
    have h3 := X.same.trans h2
    rw [List.append_nil] at h3
    exact h3.mono hc hs
  refine ⟨U, ?_, .threw T.heap.size, hrun, hend, Or.inr ⟨T.heap.size, rfl, cls, ce, locs, hx U hWs.alike f1 (fun q hq => f2 q hq (fun z hz => nomatch hz)), hce, hO.vm, hcl, hWs, hall, hf⟩⟩
  refine st1 _ ?_
  show Steps p.tables e below (T1.setTop { method := m, pc := pc + 3, locals := ls, stack := .ref T.heap.size :: rest, locked := none }) _
  jvm_step X₁.here [X₁.here.top, hexec, d3', Value.category]
  exact X₁.ldcString hexec (own := own) (text := text) (index := is) (a := sa) hown' hstr'.1 hstr'.2
    (g := { method := m, pc := pc + 4, locals := ls, stack := .ref T.heap.size :: .ref T.heap.size :: rest, locked := none }) rfl d4' _ hsteps
/-- 'throw new E("text")', the text by a wide index -/
theorem vx_throwSW {cc : ByteArray} {pc : Nat} (hexec : p.tables.exec = Jvm.exec) (hb : c.code = cc) (hl : l.stackTraces = false) {own cls text : String} {names : List String} {ik is ic mc ms sa : Nat} {A : Nat → Prop}
    (hown : s.vm.findClass own = some m.cls) (hcls : Bundle.fit cls = true) (hnames : ∀ n ∈ names, Bundle.fit n = true)
    (hk : (Cond.classLink own ik cls).before args s = true) (hini : (Cond.initialized cls).before args s = true) (hstr : vk_R own is text sa s) (hat : ∀ w ∈ vx_atS own ic cls names, w.before args s = true)
    (hgood : ∀ w ∈ Cond.classLink own ik cls :: Cond.initialized cls :: vx_atS own ic cls names, vx_ot w = true)
    (hU : vx_Zq Bundle.tN "UNASSIGNED_STACK" Bundle.steD A s s.heap) (hN : vx_Zq Bundle.tN "SUPPRESSED_SENTINEL" Bundle.listD A s s.heap) (hS : va_S A s.heap H locs) (hsize : ls.size = c.maxLocals)
    (d0 : decode cc pc = .ok (.new ik, 3)) (d3 : decode cc (pc + 3) = .ok (.dup, 1)) (d4 : decode cc (pc + 4) = .ok (.ldc_w is, 3)) (d7 : decode cc (pc + 7) = .ok (.invokespecial ic, 3)) (d10 : decode cc (pc + 10) = .ok (.athrow, 1))
    (hout : ∀ x ∈ c.exceptionTable.toList, covers x (pc + 10) = false)
    (hRframes : names.length + 3 < R.frames) (hRlocals : (rest.map fun v => v.category).sum + (13 * (names.length + 1) + 43) ≤ R.locals) (hRcells : cells + 1 ≤ R.cells) (hRslots : slots + 6 ≤ R.slots) (hlocks : meth.locks = false)
    (hx : ∀ t : State, s.vm.Alike t.vm → H.size ≤ t.heap.size → (∀ q : Nat, q < H.size → t.heap[q]? = H[q]?) → XC cls s t)
    (hf : ∀ z ∈ locs, free z.base) (hc : cells + 1 ≤ mc) (hs : slots + 6 ≤ ms) :
    W p l e R s m args below meth c H locs cells slots (vx_MQ below Qc XC args s mc ms free) (F0 m pc ls rest) := by
  intro T hT X
  have htr : e.platform.stackTraces = false := (show e.platform.stackTraces = l.stackTraces by rw [X.admits.platform]).trans hl
  have Y := vx_rebase X (R' := { frames := R.frames, locals := R.locals, cells := 1, slots := 6 }) (Nat.le_refl _) (Nat.le_refl _) hRcells hRslots
  obtain ⟨s', hA⟩ : ∃ z, z = (T.setVm s.vm).setFrames (.invoking m args :: below) := ⟨_, rfl⟩
  rw [← hA] at Y
  have hvm : s'.vm = s.vm := by rw [hA]; rfl
  have hhp : s'.heap = H := by rw [hA]; exact hT
  have hW0 : s.WarmedH s'.vm := by rw [hvm]; exact State.WarmedH.refl s
  have hat' : ∀ w ∈ vx_atS own ic cls names, w.before args s' = true := fun w hw => vx_ot_at hW0 hvm.symm (hgood w (List.mem_cons_of_mem _ (List.mem_cons_of_mem _ hw))) (hat w hw)
  have hk' : (Cond.classLink own ik cls).before args s' = true := vx_ot_at hW0 hvm.symm (hgood _ List.mem_cons_self) hk
  have hini' : (Cond.initialized cls).before args s' = true := vx_ot_at hW0 hvm.symm (hgood _ (List.mem_cons_of_mem _ List.mem_cons_self)) hini
  have hU' : vx_Zq Bundle.tN "UNASSIGNED_STACK" Bundle.steD A s' s'.heap := by rw [hhp]; exact vx_Zq.moved hW0.alike (hU.kept hS.2.1)
  have hN' : vx_Zq Bundle.tN "SUPPRESSED_SENTINEL" Bundle.listD A s' s'.heap := by rw [hhp]; exact vx_Zq.moved hW0.alike (hN.kept hS.2.1)
  have h : ∀ w ∈ Bundle.ownAtoms own ic cls names, w.before args s' = true := vx_own hat' (vx_isRefq hU'.1) (vx_isRefq hN'.1) hU'.2.word hN'.2.word
  have hown' : s'.vm.findClass own = some m.cls := by rw [hvm]; exact hown
  have hins : (Cond.instantiable cls 6).before args s' = true := h _ (by simp [Bundle.ownAtoms])
  obtain ⟨vm₁, cX, kX, hfX, hkX, -, -, X₁, st1⟩ := Y.newCold hexec (own := own) (C := cls) (index := ik) (n := 6) hown' hk' hins hini'
    (g := F0 m pc ls rest) rfl (by rw [hb]; exact d0) (Nat.le_refl _) (Nat.le_refl _)
  generalize hT1 : (T.setVm vm₁).pushCell { cls := cX, slots := kX.instanceTypes.map defaultValue, vm := .none } = T1 at X₁ st1
  have hcat : (Value.ref T.heap.size).category = 1 := rfl
  have hcellA : T1.heap[T.heap.size]? = some (freshCell cX kX) := by rw [← hT1]; exact State.heap_pushCell_size _ _
  have d3' : decode c.code (pc + 3) = .ok (.dup, 1) := by rw [hb]; exact d3
  have d4' : decode c.code (pc + 4) = .ok (.ldc_w is, 3) := by rw [hb]; exact d4
  have hstr' : vk_R own is text sa s' := vk_R.warm hW0 hstr
  obtain ⟨U, hsteps, hrun, hend, hW, hsame, ce, hce, hO⟩ := X₁.ctorThrowS hexec htr (own := own) (cls := cls) (names := names) (ic := ic) hown' hcls hnames h (fun x hx => nomatch hx) hfX hkX hcellA (by rw [hhp, hT]; exact Nat.le_refl _) (msg := .ref sa) rfl
    (g := { method := m, pc := pc + 7, locals := ls, stack := .ref sa :: .ref T.heap.size :: .ref T.heap.size :: rest, locked := none }) rfl hsize rfl rfl (rest := rest) rfl
    (by rw [hb]; exact d7) (by rw [hb]; exact d10) hout hRframes (by simp only [List.map_cons, List.sum_cons, hcat]; omega) hlocks
  obtain ⟨f1, f2⟩ := vx_frame hsame
  rw [hhp] at f1 f2
  have hWs : s.WarmedH U.vm := State.WarmedH.trans hW0 hW
  have hcl : s.vm.findClass cls = some ce.cls := by
    have h9 := hO.cls
    rw [hvm] at h9
    exact h9
  have hall : s.sameButNew ({ U with vm := s.vm } : State) locs mc ms := by
    subst hA
    obtain ⟨e1, e2⟩ := hsame
    rw [State.setFrames_setFrames] at e1
    have h2 : (T.setVm s.vm).sameButNew ({ U with vm := s.vm } : State) [] (0 + 1) (0 + 6) := ⟨e1, e2⟩
    have h3 := X.same.trans h2
    rw [List.append_nil] at h3
    exact h3.mono hc hs
  refine ⟨U, ?_, .threw T.heap.size, hrun, hend, Or.inr ⟨T.heap.size, rfl, cls, ce, locs, hx U hWs.alike f1 (fun q hq => f2 q hq (fun z hz => nomatch hz)), hce, hO.vm, hcl, hWs, hall, hf⟩⟩
  refine st1 _ ?_
  show Steps p.tables e below (T1.setTop { method := m, pc := pc + 3, locals := ls, stack := .ref T.heap.size :: rest, locked := none }) _
  jvm_step X₁.here [X₁.here.top, hexec, d3', Value.category]
  exact X₁.ldcStringW hexec (own := own) (text := text) (index := is) (a := sa) hown' hstr'.1 hstr'.2
    (g := { method := m, pc := pc + 4, locals := ls, stack := .ref T.heap.size :: .ref T.heap.size :: rest, locked := none }) rfl d4' _ hsteps
end Ends
section Bodies
variable {l : Launch}
theorem vx_ofW {y : MethodName} {ws ws' : List Cond} {rm : Room} {Pc : Array Value → State → Prop} {Qc : Array Value → State → Outcome → State → Prop} {XC : String → State → State → Prop} {mc ms : Nat} {free : Addr → Prop} {cc : ByteArray} {maxL : Nat} {ret : Option FieldType}
    (hy : plainName y.cls = true) (hw : ws = Cond.code y cc maxL ret :: ws')
    (body : ∀ p e s m args below meth c s₁, BodyLoose p l y (headSpec ws rm) cc maxL ret e s m args below meth c s₁ → c.maxLocals = maxL → (∀ x ∈ c.exceptionTable.toList, False) → Pc args s →
      W p l e (headSpec ws rm).room s m args below meth c s.heap [] 0 0 (vx_MQ below Qc XC args s mc ms free) (entryFrame m args maxL)) : vx_Met l y ws rm Pc Qc XC mc ms free := by
  refine MetFree.of_bodyS (code := cc) (maxLocals := maxL) (ret := ret) hy ?_ ?_
  · intro args s m h hn
    obtain ⟨meth, c, h1, h2, h3, h4, h5, h6, -, -⟩ := Cond.code_spec hn (atoms_spec (ws := ws) h _ (by rw [hw]; exact List.mem_cons_self))
    exact ⟨meth, c, h1, h2, h3, h4, h5, h6⟩
  · intro p e s m args below meth c s₁ B hml hP _
    have hh0 : s₁.heap = s.heap := by rw [B.state]; rfl
    have ht : ∀ x ∈ c.exceptionTable.toList, False := by
      obtain ⟨meth9, c9, h1, h2, -, -, -, -, h7, -⟩ := Cond.code_spec B.named (atoms_spec (ws := ws) B.pre _ (by rw [hw]; exact List.mem_cons_self))
      cases Option.some.inj (h1.symm.trans B.method)
      cases Option.some.inj (h2.symm.trans (Stand.of_body B).code)
      intro x hx
      rw [Array.isEmpty_iff.mp h7] at hx
      cases hx
    obtain ⟨t, a1, o, b1, b2, b3⟩ := body p e s m args below meth c s₁ B hml ht hP s₁ hh0 (Stand.of_body B)
    exact ⟨t, o, a1, b1, b2, b3⟩
/-- the table of a body with handlers -/
theorem vx_table {p : Program} {x y : MethodName} {S : Spec} {cc bytes : ByteArray} {maxL maxL' : Nat} {ret ret' : Option FieldType} {e : Env} {s s₁ : State} {m : MethodId} {args : Array Value} {below : List Frame} {meth : Method} {c : Code} {hh : List (Nat × Nat × Nat × Nat)}
    (B : BodyLoose p l y S cc maxL ret e s m args below meth c s₁) (h : (Cond.codeWith y bytes maxL' ret' hh).before args s = true) : c.exceptionTable.toList = tableOf hh := by
  obtain ⟨m9, meth9, c9, hn9, h1, h2, -, -, h6, -⟩ := Cond.codeWith_spec h
  cases Option.some.inj (hn9.symm.trans B.named)
  cases Option.some.inj (h1.symm.trans B.method)
  cases Option.some.inj (h2.symm.trans (Stand.of_body B).code)
  rw [← h6, table_eq]
end Bodies
end VXA
/-! ===== END ===== -/
/-! ===== BEGIN a static call of a method with an exception table ===== -/
section VXS
variable {p : Program} {l : Launch} {e : Env} {R : Room} {s : State} {m : MethodId} {args : Array Value} {below : List Frame} {meth : Method} {c : Code} {T : State} {H : Heap} {locs : List Loc} {cells slots : Nat}
abbrev vx_CSW (R : Room) (s : State) (args : Array Value) (own : String) (index : Nat) (y : MethodName) (bytes : ByteArray) (maxL : Nat) (ret : Option FieldType) (hh : List (Nat × Nat × Nat × Nat)) (ws : List Cond) (rm : Room) (mc ms n : Nat) : Prop :=
  (rm.cells = mc ∧ rm.slots = ms ∧ rm.frames + 1 ≤ R.frames ∧ 8 + (maxL + 11) + rm.locals ≤ R.locals ∧ (∀ w ∈ ws, ∀ (a' : Array Value) (U : State), s.WarmedH U.vm → w.before a' U = true) ∧ Cond.codeWith y bytes maxL ret hh ∈ ws) ∧
  (Cond.codeWith y bytes maxL ret hh).before args s = true ∧ (Cond.initialized y.cls).before args s = true ∧ (y.cls ≠ "java/lang/invoke/MethodHandle" ∧ y.cls ≠ "java/lang/invoke/VarHandle") ∧
  (∀ sig, parseMethodDescriptor y.desc = some sig → n = sig.parameters.length) ∧ (Cond.methodLink own index y).before args s = true ∧ (Cond.static y).before args s = true
theorem vx_cwSW {own : String} {index maxL mc ms : Nat} {y : MethodName} {bytes : ByteArray} {ret : Option FieldType} {hh : List (Nat × Nat × Nat × Nat)} {Ts ws ws' : List Cond} {rm : Room} (n : Nat) (ht : ∀ w ∈ Ts, w.before args s = true) (hT : GoodIn Ts (va_wsS own index y ws)) (hw : ws = Cond.codeWith y bytes maxL ret hh :: ws') (hrc : rm.cells = mc) (hrs : rm.slots = ms)
    (hd : y.cls ≠ "java/lang/invoke/MethodHandle" ∧ y.cls ≠ "java/lang/invoke/VarHandle" ∧ (parseMethodDescriptor y.desc).map (fun d => d.parameters.length) = some n) (hR : rm.frames + 1 ≤ R.frames ∧ 8 + (maxL + 11) + rm.locals ≤ R.locals) :
    vx_CSW R s args own index y bytes maxL ret hh ws rm mc ms n := by
  have ok : ∀ w ∈ va_wsS own index y ws, w.before args s = true := fun w h => ht w (hT w h).1
  have hG : GoodIn Ts ws := fun w h => hT w (by unfold va_wsS; exact List.mem_append_right _ h)
  have hc : Cond.codeWith y bytes maxL ret hh ∈ ws := by rw [hw]; exact List.mem_cons_self
  refine ⟨⟨hrc, hrs, hR.1, hR.2, pay_in ht hG, hc⟩, ht _ (hG _ hc).1, ok _ (by simp [va_wsS]), ⟨hd.1, hd.2.1⟩, fun sig h => ?_, ok _ (by simp [va_wsS]), ok _ (by simp [va_wsS])⟩
  have h2 := hd.2.2
  rw [h] at h2
  exact (Option.some.inj h2).symm
theorem vx_callSW (X : Stand p l e R s m args below meth c T locs cells slots) (hexec : p.tables.exec = Jvm.exec) {own : String} {index : Nat} {y : MethodName} {bytes : ByteArray} {maxL : Nat} {ret : Option FieldType} {hh : List (Nat × Nat × Nat × Nat)}
    (hown : s.vm.findClass own = some m.cls) (hlink : (Cond.methodLink own index y).before args s = true) (hstat : (Cond.static y).before args s = true) (hinit : (Cond.initialized y.cls).before args s = true)
    (hcode : (Cond.codeWith y bytes maxL ret hh).before args s = true) (hy : y.cls ≠ "java/lang/invoke/MethodHandle" ∧ y.cls ≠ "java/lang/invoke/VarHandle")
    {W9 : Nat} {Pre : Pt → Array Value → Prop} {Post : Pt → Array Value → Option Value → Pt → Prop} (hK : Back l R p e below s args y 3 W9 Pre Post)
    {g : JFrame} (hg : g.method = m) (hsize : g.locals.size = c.maxLocals) {argsL rest : List Value} (hlen : ∀ sig, parseMethodDescriptor y.desc = some sig → argsL.length = sig.parameters.length)
    (hstack : g.stack = argsL.reverse ++ rest) (hW : 2 * g.monitorRoom + (rest.map fun v => v.category).sum ≤ W9) (hdg : decode c.code g.pc = .ok (.invokestatic index, 3))
    (hpre : ∀ vm₁, s.WarmedH vm₁ → Pre ⟨T.setVm vm₁, locs, cells, slots⟩ argsL.toArray) :
    ∃ (v : Option Value) (vm₁ : Vm) (B : Pt), s.WarmedH vm₁ ∧ Stand p l e R s m args below meth c B.U B.locs B.cells B.slots ∧ Post ⟨T.setVm vm₁, locs, cells, slots⟩ argsL.toArray v B ∧
      ∀ target, Steps p.tables e below (B.U.setTop { g with pc := g.pc + 3, stack := v.toList ++ rest }) target → Steps p.tables e below (T.setTop g) target := by
  obtain ⟨mk, methM, cM, hnamed, hmethM, -, -, -, -, -, -, hsigM⟩ := Cond.codeWith_spec hcode
  have hstatic : methM.isStatic = true := Cond.static_spec hnamed hmethM hstat
  obtain ⟨kP, hkP, -⟩ := className_of_methodNamed hnamed
  have hinitP : kP.init = .initialized := Cond.initialized_spec (findClass_of_methodNamed hnamed) hkP hinit
  obtain ⟨vm₁, X₁, hstep₁⟩ := X.invokestatic hexec hown hlink hnamed hmethM hstatic hkP hinitP hy (g := g) hg (argsL := argsL) (rest := rest) (hlen _ hsigM) hstack hdg
  obtain ⟨v, B, X', hpost, hsteps⟩ := hK m meth c ⟨T.setVm vm₁, locs, cells, slots⟩ { g with stack := rest } (.invokestatic index) mk argsL.toArray X₁ hg hsize hdg hW (X₁.named hnamed) (hpre vm₁ X₁.warmed)
  exact ⟨v, vm₁, B, X₁.warmed, X', hpost, fun target h => hstep₁ _ fun acts => by rw [doInvoke_state]; exact hsteps.trans h⟩
theorem vx_runSW {y : MethodName} {bytes cc : ByteArray} {maxL nL mc ms n index : Nat} {ret : Option FieldType} {hh : List (Nat × Nat × Nat × Nat)} {ws : List Cond} {rm : Room} {Pc : Array Value → State → Prop} {Qc : Array Value → State → Outcome → State → Prop} {free : Addr → Prop} {Ts : List Cond} {own : String} {As rest : List Value} {g : JFrame}
    (S : CallFix p m c cc nL s args Ts own) (hM : Met l y ws rm Pc Qc mc ms free) (cw : vx_CSW R s args own index y bytes maxL ret hh ws rm mc ms n) (hp : PreS s H Pc As)
    (hg : g.method = m) (hn : As.length = n) (hsize : g.locals.size = nL) (hstack : g.stack = As.reverse ++ rest) (hW : 2 * g.monitorRoom + (rest.map fun v => v.category).sum ≤ 8) (hdg : decode cc g.pc = .ok (.invokestatic index, 3)) (hf : cells + mc ≤ R.cells ∧ slots + ms ≤ R.slots) :
    va_Run p l e R s m args below meth c H locs cells slots mc ms g rest (Qc As.toArray) (free) := by
  obtain ⟨⟨hrc, hrs, hfr, hlo, hws, hcw⟩, hcode, hini, hy, hlen, hl, hstt⟩ := cw
  have hK : Back l R p e below s args y 3 8 (PreOf R mc ms Pc) (PostOf Qc mc ms free) := va_backW (hh := hh) (bytes := bytes) (maxL := maxL) (ret := ret) hM hp.1 hrc hrs hfr hlo hws hcw (fun a' U hW => word_at hW (Or.inl (by first | rfl | simp [Cond.onTables, Cond.keeps, Cond.steady])) hini)
  obtain ⟨hx, hb, hml, ho, -⟩ := S
  intro T hT X
  obtain ⟨v, vm₁, ⟨U', l2, c2, s2⟩, hW₁, X', ⟨g', mk, t, L, e1, e2, hq, h1, hL, h2, h3⟩, st⟩ := vx_callSW X hx (hh := hh) (bytes := bytes) (maxL := maxL) (ret := ret) ho hl hstt hini hcode hy hK hg (hsize.trans hml.symm) (argsL := As) (rest := rest) (fun sig h => hn.trans (hlen sig h)) hstack hW (by rw [hb]; exact hdg)
    (fun vm₁ hW₁ => ⟨hf.1, hf.2, hp.2 (T.setVm vm₁) hT hW₁⟩)
  dsimp only [Pt.U, Pt.locs, Pt.cells, Pt.slots] at X' e1 e2 h1 h2 h3 st
  subst h1; subst h2; subst h3
  exact ⟨v, (T.setVm vm₁).calling g' mk As.toArray, t, U', L, hT, X', hL, e1, e2, hq, st⟩
/-- not caught here, past rows that name other classes: it goes on to the caller -/
theorem vx_outP {p : Program} {l : Launch} {e : Env} {R : Room} {s : State} {m : MethodId} {args : Array Value} {below : List Frame} {meth : Method} {c : Code} {H : Heap} {locs : List Loc} {cells slots : Nat} {free : Addr → Prop} {ls : Array Slot} {rest : List Value} {Qc : Array Value → State → Outcome → State → Prop} {XC : String → State → State → Prop}
    {pc : Nat} {own E : String} {ce : Cell} {q : Addr} {mc ms : Nat} (hown : s.vm.findClass own = some m.cls) (hlocks : meth.locks = false)
    (hpass : ∀ z ∈ c.exceptionTable.toList, covers z pc = false ∨ (z.catchType ≠ 0 ∧ ∃ nm : String, (Cond.classLink own z.catchType nm).before args s = true ∧ va_Nc E nm s)) (hcell : H[q]? = some ce) (hv : ce.vm = .none) (hcl : s.vm.findClass E = some ce.cls)
    (hx : ∀ t : State, t.heap = H → s.vm.Alike t.vm → XC E s t) (hf : ∀ z ∈ locs, free z.base) (hc : cells ≤ mc) (hs : slots ≤ ms) :
    vx_W p l e R s m args below meth c H locs cells slots (vx_MQ below Qc XC args s mc ms free) (F0 m pc ls rest) q := by
  intro T hT X
  have hpl : e.platform.magicAccessors = ({} : Platform).magicAccessors := by rw [X.admits.platform]
  obtain ⟨vm', hW', X', st⟩ := X.outThrough hlocks q (g := F0 m pc ls rest) rfl rfl rfl (cell := ce) (by rw [hT]; exact hcell) (by rw [hv]; rfl)
    (by obtain ⟨k9, h9, -⟩ := Vm.findClass_spec hcl; exact ⟨k9, h9⟩) (fun z hz => by
      rcases hpass z hz with h | ⟨hz0, nm, hl1, hn1⟩
      · exact Or.inl h
      · obtain ⟨c6, hc6, hcl6⟩ := Cond.classLink_spec hown hl1 e.platform hpl
        obtain ⟨a8, b8, h1, h2, h3⟩ := hn1
        cases Option.some.inj (h1.symm.trans hcl)
        cases Option.some.inj (h2.symm.trans hc6)
        exact Or.inr ⟨hz0, _, hcl6, h3⟩)
  obtain ⟨g₀, hfr⟩ := X'.frames_eq
  have hcell9 : ((T.setVm vm').setFrames (.throwing q :: below)).heap[q]? = some ce := by
    show T.heap[q]? = some ce
    rw [hT]; exact hcell
  have hend : Ended ((T.setVm vm').setFrames (.throwing q :: below)) below (.threw q) := State.frames_setFrames _ (State.cur_lt_of_frames hfr)
  refine ⟨(T.setVm vm').setFrames (.throwing q :: below), ?_, .threw q, X'.here.running, hend, Or.inr ⟨q, rfl, E, ce, locs, hx _ hT (X'.ends _).1.alike, hcell9, hv, hcl, (X'.ends _).1, (X'.ends _).2.mono hc hs, hf⟩⟩
  rw [X.pushThrowing_eq]
  exact st
/-- a thing of a world lies in the heap -/
theorem vx_lt {D : va_G} {cl : List vw_C} {ws : va_W} {H1 : Heap} (h : va_P D cl ws H1) {k : Nat} {q : Nat × va_E} (hk : ws[k]? = some q) : q.1 < H1.size := (h k q hk).lt
end VXS
/-! ===== END ===== -/
/-! ===== BEGIN methods with a table of their own: called by a name, returning or throwing ===== -/
section VXH
/-! vx_backW, vx_callVX, vx_callSX, vx_callVW, vx_runVW, vx_runVX, vx_runSX, vx_ofWH follow the same proofs as their sisters above (Free/Laws.lean, Shelf42/LK1.lean); vx_outP calls Shelf42/NT130.lean (outThrough). -/
section
variable {l : Launch} {R : Room} {p : Program} {e : Env} {below : List Frame} {s : State} {sargs : Array Value} {y : MethodName} {len W9 : Nat}
theorem vx_backW {ws : List Cond} {rm : Room} {Pc : Array Value → State → Prop} {Qc : Array Value → State → Outcome → State → Prop} {XC : String → State → State → Prop} {mc ms : Nat} {free : Addr → Prop} {bytes : ByteArray} {maxL : Nat} {ret : Option FieldType} {hh : List (Nat × Nat × Nat × Nat)}
    (hM : vx_Met l y ws rm Pc Qc XC mc ms free) (hblind : FrameBlind Pc) (hrc : rm.cells = mc) (hrs : rm.slots = ms)
    (hframes : rm.frames + 1 ≤ R.frames) (hlocals : W9 + (maxL + 11) + rm.locals ≤ R.locals)
    (hws : ∀ w ∈ ws, ∀ a' U, s.WarmedH U.vm → w.before a' U = true) (hcode : Cond.codeWith y bytes maxL ret hh ∈ ws) (hinit : ∀ a' U, s.WarmedH U.vm → (Cond.initialized y.cls).before a' U = true) :
    vx_Back l R p e below s sargs y len W9 (PreOf R mc ms Pc) (PostOf Qc mc ms free) (vx_Post XC mc ms free) := by
  intro m meth c A g ig mk a X hg hsize hdg hW hn hp
  have h1 : (headSpec ws rm).pre.before a A.U = true := atoms_intro fun w hw => hws w hw _ _ X.warmed
  have h2 : (Cond.codeWith y bytes maxL ret hh).before a A.U = true := hws _ hcode _ _ X.warmed
  have h3 : (Cond.initialized y.cls).before a A.U = true := hinit _ _ X.warmed
  have h4 : A.cells + (headSpec ws rm).room.cells ≤ R.cells := by rw [show (headSpec ws rm).room.cells = mc from hrc]; exact hp.1
  have h5 : A.slots + (headSpec ws rm).room.slots ≤ R.slots := by rw [show (headSpec ws rm).room.slots = ms from hrs]; exact hp.2.1
  have hPc : Pc a (A.U.calling g mk a) := hblind _ _ _ _ hp.2.2
  obtain ⟨U, Ls, c0, s0⟩ := A
  dsimp only [Pt.U, Pt.locs, Pt.cells, Pt.slots] at h1 h2 h3 h4 h5 X hn hPc ⊢
  obtain ⟨m9, methY, cY, hn9, hmY, hcY, -, hlY, -⟩ := Cond.codeWith_spec h2
  cases Option.some.inj (hn9.symm.trans hn)
  obtain ⟨kY, hkY, -⟩ := className_of_methodNamed hn
  have hinitY : kY.init = .initialized := Cond.initialized_spec (findClass_of_methodNamed hn) hkY h3
  have h : At U g.method c below := by rw [hg]; exact X.here
  have hlocals9 : W9 + (maxL + 11) + (headSpec ws rm).room.locals ≤ R.locals := hlocals
  have happ : (headSpec ws rm).appliesLoose y e.platform (U.calling g mk a) = true :=
    Spec.appliesLoose_calling (g := g) h hdg hn hkY hinitY
      (X.room_calling (g := g) (R' := (headSpec ws rm).room) hsize hmY hcY hframes (by rw [hlY]; omega) h4 h5) h1
  obtain ⟨mid, hmid⟩ := h.above
  have hfr : (U.setTop g).frames = (.java g :: mid) ++ below := by rw [State.frames_setTop' g h.top, hmid]; rfl
  obtain ⟨o, s₂, hsteps, -, hend, hq⟩ := Steps.callFree hM p X.admits X.cas X.clock (acts := []) hfr happ hPc trivial
  have hq' : vx_Q Qc XC mc ms free a (U.calling g mk a) o s₂ := hq
  rw [State.frames_setTop' g h.top] at hend
  obtain ⟨g₀, hg0⟩ := Option.isSome_iff_exists.mp h.top
  obtain ⟨r, hr⟩ := State.topJava?_eq_some.mp hg0
  have hr' : (({ U with heap := s₂.heap, slotsUsed := s₂.slotsUsed } : State).setVm s₂.vm).frames = .java g₀ :: r := hr
  rcases hq' with ⟨hqc, L, hfe, hL⟩ | ⟨q, rfl, E, ce, L, hx, hce, hcv, hcl, hW₂, hsm, hL⟩
  · obtain ⟨⟨v, rfl⟩, hW₂, e2, q2, q3, q4, q5, q6⟩ := id hfe
    have e3 : s₂ = ({ (U.calling g mk a).setFrames s₂.frames with heap := s₂.heap, slotsUsed := s₂.slotsUsed } : State).setVm s₂.vm := by
      have : s₂ = ({ s₂ with vm := (U.calling g mk a).vm } : State).setVm s₂.vm := rfl
      rw [e2] at this
      exact this
    obtain ⟨c₂, i₂, len₂, hc₂, hd₂, hf₂⟩ := hend
    have hW' : U.WarmedH s₂.vm := hW₂
    have hcc : c₂ = c := by
      have h1 : s₂.code? g.method = U.code? g.method := by
        rw [State.code?_eq, State.code?_eq, hW'.alike.method?]
      exact Option.some.inj (hc₂.symm.trans (h1.trans h.code))
    subst hcc
    have hlen : len₂ = len := by rw [hdg] at hd₂; cases hd₂; rfl
    subst hlen
    have hs₂ : s₂ = (({ U with heap := s₂.heap, slotsUsed := s₂.slotsUsed } : State).setVm s₂.vm).setTop { g with pc := g.pc + len₂, stack := v.toList ++ g.stack } := by
      refine e3.trans ?_
      rw [hf₂, State.calling_eq h.top, State.setFrames_setFrames, State.setTop_of_frames _ hr', hr]
      rfl
    have hsame : U.sameButNew ({ U with heap := s₂.heap, slotsUsed := s₂.slotsUsed } : State) L mc ms := by
      refine ⟨?_, q2, q3, q4, q5, q6⟩
      obtain ⟨t, ht, -⟩ := State.frames_cons hr
      show ({ U with heap := s₂.heap, slotsUsed := s₂.slotsUsed } : State) = { U.setFrames U.frames with heap := s₂.heap, slotsUsed := s₂.slotsUsed }
      rw [State.setFrames_self ht]
    subst hg
    refine Or.inl ⟨v, ⟨(({ U with heap := s₂.heap, slotsUsed := s₂.slotsUsed } : State).setVm s₂.vm), Ls ++ L, c0 + mc, s0 + ms⟩,
      ⟨X.admits, X.cas, X.clock, X.frames, X.room, X.hears, X.method, X.code, (X.here.setHeapUsed s₂.heap s₂.slotsUsed).setVm hW'.alike, X.tail, State.WarmedH.trans X.warmed hW', X.limits, X.bytes, X.same.trans (hsame.setVm s.vm)⟩,
      ⟨g, mk, s₂, L, rfl, rfl, hqc, rfl, hL, rfl, rfl⟩, ?_⟩
    show Steps p.tables e below _ ((({ U with heap := s₂.heap, slotsUsed := s₂.slotsUsed } : State).setVm s₂.vm).setTop { g with pc := g.pc + len₂, stack := v.toList ++ g.stack })
    rw [← hs₂]
    exact hsteps
  · obtain ⟨e2, q2, q3, q4, q5, q6⟩ := id hsm
    have e3 : s₂ = ({ (U.calling g mk a).setFrames s₂.frames with heap := s₂.heap, slotsUsed := s₂.slotsUsed } : State).setVm s₂.vm := by
      have : s₂ = ({ s₂ with vm := (U.calling g mk a).vm } : State).setVm s₂.vm := rfl
      rw [e2] at this
      exact this
    have hf₂ : s₂.frames = .throwing q :: .java g :: U.frames.tail := hend
    have hW' : U.WarmedH s₂.vm := hW₂
    have hs₂ : s₂ = ((({ U with heap := s₂.heap, slotsUsed := s₂.slotsUsed } : State).setVm s₂.vm).setTop g).pushFrame (.throwing q) := by
      refine e3.trans ?_
      rw [hf₂, State.calling_eq h.top, State.setFrames_setFrames, State.pushFrame, State.frames_setTop _ hr', State.setTop_of_frames _ hr', State.setFrames_setFrames, hr]
      rfl
    have hsame : U.sameButNew ({ U with heap := s₂.heap, slotsUsed := s₂.slotsUsed } : State) L mc ms := by
      refine ⟨?_, q2, q3, q4, q5, q6⟩
      obtain ⟨t, ht, -⟩ := State.frames_cons hr
      show ({ U with heap := s₂.heap, slotsUsed := s₂.slotsUsed } : State) = { U.setFrames U.frames with heap := s₂.heap, slotsUsed := s₂.slotsUsed }
      rw [State.setFrames_self ht]
    subst hg
    refine Or.inr ⟨q, ⟨(({ U with heap := s₂.heap, slotsUsed := s₂.slotsUsed } : State).setVm s₂.vm), Ls ++ L, c0 + mc, s0 + ms⟩,
      ⟨X.admits, X.cas, X.clock, X.frames, X.room, X.hears, X.method, X.code, (X.here.setHeapUsed s₂.heap s₂.slotsUsed).setVm hW'.alike, X.tail, State.WarmedH.trans X.warmed hW', X.limits, X.bytes, X.same.trans (hsame.setVm s.vm)⟩,
      ⟨g, mk, s₂, L, E, ce, rfl, rfl, hx, hce, hcv, hcl, rfl, hL, rfl, rfl⟩, ?_⟩
    show Steps p.tables e below _ (((({ U with heap := s₂.heap, slotsUsed := s₂.slotsUsed } : State).setVm s₂.vm).setTop g).pushFrame (.throwing q))
    rw [← hs₂]
    exact hsteps
end
variable {p : Program} {l : Launch} {e : Env} {R : Room} {s : State} {m : MethodId} {args : Array Value} {below : List Frame} {meth : Method} {c : Code} {T : State} {H : Heap} {locs : List Loc} {cells slots : Nat}
theorem vx_callVX (X : Stand p l e R s m args below meth c T locs cells slots) (hexec : p.tables.exec = Jvm.exec) {own C : String} {index : Nat} {y : MethodName} {bytes : ByteArray} {maxL : Nat} {ret : Option FieldType} {hh : List (Nat × Nat × Nat × Nat)}
    (hown : s.vm.findClass own = some m.cls) (hlink : (Cond.methodLink own index y).before args s = true) (hinst : (Cond.instanceMethod y).before args s = true) (hsel : (Cond.selects C y y).before args s = true)
    (hcode : (Cond.codeWith y bytes maxL ret hh).before args s = true) (hy : y.cls ≠ "java/lang/invoke/MethodHandle" ∧ y.cls ≠ "java/lang/invoke/VarHandle")
    {W9 : Nat} {Pre : Pt → Array Value → Prop} {Post : Pt → Array Value → Option Value → Pt → Prop} {PostX : Pt → Array Value → Addr → Pt → Prop} (hK : vx_Back l R p e below s args y 3 W9 Pre Post PostX)
    {b : Addr} {cellB : Cell} (hcell : T.heap[b]? = some cellB) (hobj : cellB.vm.isStatics = false) (hcls : s.vm.findClass C = some cellB.cls)
    {g : JFrame} (hg : g.method = m) (hsize : g.locals.size = c.maxLocals) {argsL rest : List Value} (hlen : ∀ sig, parseMethodDescriptor y.desc = some sig → argsL.length = sig.parameters.length)
    (hstack : g.stack = argsL.reverse ++ .ref b :: rest) (hW : 2 * g.monitorRoom + (rest.map fun v => v.category).sum ≤ W9) (hdg : decode c.code g.pc = .ok (.invokevirtual index, 3))
    (hpre : ∀ vm₁, s.WarmedH vm₁ → Pre ⟨T.setVm vm₁, locs, cells, slots⟩ (Value.ref b :: argsL).toArray) :
    (∃ (v : Option Value) (vm₁ : Vm) (B : Pt), s.WarmedH vm₁ ∧ Stand p l e R s m args below meth c B.U B.locs B.cells B.slots ∧ Post ⟨T.setVm vm₁, locs, cells, slots⟩ (Value.ref b :: argsL).toArray v B ∧
      ∀ target, Steps p.tables e below (B.U.setTop { g with pc := g.pc + 3, stack := v.toList ++ rest }) target → Steps p.tables e below (T.setTop g) target) ∨
    (∃ (q : Addr) (vm₁ : Vm) (B : Pt), s.WarmedH vm₁ ∧ Stand p l e R s m args below meth c B.U B.locs B.cells B.slots ∧ PostX ⟨T.setVm vm₁, locs, cells, slots⟩ (Value.ref b :: argsL).toArray q B ∧
      Steps p.tables e below (T.setTop g) ((B.U.setTop { g with stack := rest }).pushFrame (.throwing q))) := by
  obtain ⟨mk, methM, hnamed, hmethM, hstM, habM⟩ := Cond.instanceMethod_spec hinst
  obtain ⟨m8, methM', cM, hn8, hmethM', -, -, -, -, -, -, hsigM⟩ := Cond.codeWith_spec hcode
  cases Option.some.inj (hn8.symm.trans hnamed)
  cases hmethM.symm.trans hmethM'
  obtain ⟨c2, r2, m2, q1, q2, q3, q4, kP, hkP, hkPi⟩ := Cond.selects_spec hsel
  cases hcls.symm.trans q1
  cases (State.methodFound?_of_named hnamed hy).symm.trans q2
  cases hnamed.symm.trans q3
  have hselP : selectMethod e.platform s.vm cellB.cls mk = .method mk := by rw [Launch.admits_selectMethod X.admits]; exact q4
  obtain ⟨vm₁, X₁, hstep₁⟩ := X.invokevirtual hexec hown hlink hnamed hmethM hstM hkP hkPi hy (a := b) (cell := cellB) hcell
    (fun z h => by rw [h] at hobj; cases hobj) hselP hmethM habM hkP hkPi (g := g) hg (argsL := argsL) (rest := rest) (hlen _ hsigM) hstack hdg
  rcases hK m meth c ⟨T.setVm vm₁, locs, cells, slots⟩ { g with stack := rest } (.invokevirtual index) mk (Value.ref b :: argsL).toArray X₁ hg hsize hdg hW (X₁.named hnamed) (hpre vm₁ X₁.warmed) with ⟨v, B, X', hpost, hsteps⟩ | ⟨q, B, X', hpost, hsteps⟩
  · exact Or.inl ⟨v, vm₁, B, X₁.warmed, X', hpost, fun target h => hstep₁ _ fun acts => by rw [doInvoke_state]; exact hsteps.trans h⟩
  · exact Or.inr ⟨q, vm₁, B, X₁.warmed, X', hpost, hstep₁ _ fun acts => by rw [doInvoke_state]; exact hsteps⟩
theorem vx_callSX (X : Stand p l e R s m args below meth c T locs cells slots) (hexec : p.tables.exec = Jvm.exec) {own : String} {index : Nat} {y : MethodName} {bytes : ByteArray} {maxL : Nat} {ret : Option FieldType} {hh : List (Nat × Nat × Nat × Nat)}
    (hown : s.vm.findClass own = some m.cls) (hlink : (Cond.methodLink own index y).before args s = true) (hstat : (Cond.static y).before args s = true) (hinit : (Cond.initialized y.cls).before args s = true)
    (hcode : (Cond.codeWith y bytes maxL ret hh).before args s = true) (hy : y.cls ≠ "java/lang/invoke/MethodHandle" ∧ y.cls ≠ "java/lang/invoke/VarHandle")
    {W9 : Nat} {Pre : Pt → Array Value → Prop} {Post : Pt → Array Value → Option Value → Pt → Prop} {PostX : Pt → Array Value → Addr → Pt → Prop} (hK : vx_Back l R p e below s args y 3 W9 Pre Post PostX)
    {g : JFrame} (hg : g.method = m) (hsize : g.locals.size = c.maxLocals) {argsL rest : List Value} (hlen : ∀ sig, parseMethodDescriptor y.desc = some sig → argsL.length = sig.parameters.length)
    (hstack : g.stack = argsL.reverse ++ rest) (hW : 2 * g.monitorRoom + (rest.map fun v => v.category).sum ≤ W9) (hdg : decode c.code g.pc = .ok (.invokestatic index, 3))
    (hpre : ∀ vm₁, s.WarmedH vm₁ → Pre ⟨T.setVm vm₁, locs, cells, slots⟩ argsL.toArray) :
    (∃ (v : Option Value) (vm₁ : Vm) (B : Pt), s.WarmedH vm₁ ∧ Stand p l e R s m args below meth c B.U B.locs B.cells B.slots ∧ Post ⟨T.setVm vm₁, locs, cells, slots⟩ argsL.toArray v B ∧
      ∀ target, Steps p.tables e below (B.U.setTop { g with pc := g.pc + 3, stack := v.toList ++ rest }) target → Steps p.tables e below (T.setTop g) target) ∨
    (∃ (q : Addr) (vm₁ : Vm) (B : Pt), s.WarmedH vm₁ ∧ Stand p l e R s m args below meth c B.U B.locs B.cells B.slots ∧ PostX ⟨T.setVm vm₁, locs, cells, slots⟩ argsL.toArray q B ∧
      Steps p.tables e below (T.setTop g) ((B.U.setTop { g with stack := rest }).pushFrame (.throwing q))) := by
  obtain ⟨mk, methM, cM, hnamed, hmethM, -, -, -, -, -, -, hsigM⟩ := Cond.codeWith_spec hcode
  have hstatic : methM.isStatic = true := Cond.static_spec hnamed hmethM hstat
  obtain ⟨kP, hkP, -⟩ := className_of_methodNamed hnamed
  have hinitP : kP.init = .initialized := Cond.initialized_spec (findClass_of_methodNamed hnamed) hkP hinit
  obtain ⟨vm₁, X₁, hstep₁⟩ := X.invokestatic hexec hown hlink hnamed hmethM hstatic hkP hinitP hy (g := g) hg (argsL := argsL) (rest := rest) (hlen _ hsigM) hstack hdg
  rcases hK m meth c ⟨T.setVm vm₁, locs, cells, slots⟩ { g with stack := rest } (.invokestatic index) mk argsL.toArray X₁ hg hsize hdg hW (X₁.named hnamed) (hpre vm₁ X₁.warmed) with ⟨v, B, X', hpost, hsteps⟩ | ⟨q, B, X', hpost, hsteps⟩
  · exact Or.inl ⟨v, vm₁, B, X₁.warmed, X', hpost, fun target h => hstep₁ _ fun acts => by rw [doInvoke_state]; exact hsteps.trans h⟩
  · exact Or.inr ⟨q, vm₁, B, X₁.warmed, X', hpost, hstep₁ _ fun acts => by rw [doInvoke_state]; exact hsteps⟩
theorem vx_callVW (X : Stand p l e R s m args below meth c T locs cells slots) (hexec : p.tables.exec = Jvm.exec) {own C : String} {index : Nat} {y : MethodName} {bytes : ByteArray} {maxL : Nat} {ret : Option FieldType} {hh : List (Nat × Nat × Nat × Nat)}
    (hown : s.vm.findClass own = some m.cls) (hlink : (Cond.methodLink own index y).before args s = true) (hinst : (Cond.instanceMethod y).before args s = true) (hsel : (Cond.selects C y y).before args s = true)
    (hcode : (Cond.codeWith y bytes maxL ret hh).before args s = true) (hy : y.cls ≠ "java/lang/invoke/MethodHandle" ∧ y.cls ≠ "java/lang/invoke/VarHandle")
    {W9 : Nat} {Pre : Pt → Array Value → Prop} {Post : Pt → Array Value → Option Value → Pt → Prop} (hK : Back l R p e below s args y 3 W9 Pre Post)
    {b : Addr} {cellB : Cell} (hcell : T.heap[b]? = some cellB) (hobj : cellB.vm.isStatics = false) (hcls : s.vm.findClass C = some cellB.cls)
    {g : JFrame} (hg : g.method = m) (hsize : g.locals.size = c.maxLocals) {argsL rest : List Value} (hlen : ∀ sig, parseMethodDescriptor y.desc = some sig → argsL.length = sig.parameters.length)
    (hstack : g.stack = argsL.reverse ++ .ref b :: rest) (hW : 2 * g.monitorRoom + (rest.map fun v => v.category).sum ≤ W9) (hdg : decode c.code g.pc = .ok (.invokevirtual index, 3))
    (hpre : ∀ vm₁, s.WarmedH vm₁ → Pre ⟨T.setVm vm₁, locs, cells, slots⟩ (Value.ref b :: argsL).toArray) :
    ∃ (v : Option Value) (vm₁ : Vm) (B : Pt), s.WarmedH vm₁ ∧ Stand p l e R s m args below meth c B.U B.locs B.cells B.slots ∧ Post ⟨T.setVm vm₁, locs, cells, slots⟩ (Value.ref b :: argsL).toArray v B ∧
      ∀ target, Steps p.tables e below (B.U.setTop { g with pc := g.pc + 3, stack := v.toList ++ rest }) target → Steps p.tables e below (T.setTop g) target := by
  obtain ⟨mk, methM, hnamed, hmethM, hstM, habM⟩ := Cond.instanceMethod_spec hinst
  obtain ⟨m8, methM', cM, hn8, hmethM', -, -, -, -, -, -, hsigM⟩ := Cond.codeWith_spec hcode
  cases Option.some.inj (hn8.symm.trans hnamed)
  cases hmethM.symm.trans hmethM'
  obtain ⟨c2, r2, m2, q1, q2, q3, q4, kP, hkP, hkPi⟩ := Cond.selects_spec hsel
  cases hcls.symm.trans q1
  cases (State.methodFound?_of_named hnamed hy).symm.trans q2
  cases hnamed.symm.trans q3
  have hselP : selectMethod e.platform s.vm cellB.cls mk = .method mk := by rw [Launch.admits_selectMethod X.admits]; exact q4
  obtain ⟨vm₁, X₁, hstep₁⟩ := X.invokevirtual hexec hown hlink hnamed hmethM hstM hkP hkPi hy (a := b) (cell := cellB) hcell
    (fun z h => by rw [h] at hobj; cases hobj) hselP hmethM habM hkP hkPi (g := g) hg (argsL := argsL) (rest := rest) (hlen _ hsigM) hstack hdg
  obtain ⟨v, B, X', hpost, hsteps⟩ := hK m meth c ⟨T.setVm vm₁, locs, cells, slots⟩ { g with stack := rest } (.invokevirtual index) mk (Value.ref b :: argsL).toArray X₁ hg hsize hdg hW (X₁.named hnamed) (hpre vm₁ X₁.warmed)
  exact ⟨v, vm₁, B, X₁.warmed, X', hpost, fun target h => hstep₁ _ fun acts => by rw [doInvoke_state]; exact hsteps.trans h⟩
abbrev vx_CVW (R : Room) (s : State) (args : Array Value) (own C : String) (index : Nat) (y : MethodName) (bytes : ByteArray) (maxL : Nat) (ret : Option FieldType) (hh : List (Nat × Nat × Nat × Nat)) (ws : List Cond) (rm : Room) (mc ms n : Nat) : Prop :=
  (rm.cells = mc ∧ rm.slots = ms ∧ rm.frames + 1 ≤ R.frames ∧ 8 + (maxL + 11) + rm.locals ≤ R.locals ∧ (∀ w ∈ ws, ∀ (a' : Array Value) (U : State), s.WarmedH U.vm → w.before a' U = true) ∧ Cond.codeWith y bytes maxL ret hh ∈ ws) ∧
  (Cond.codeWith y bytes maxL ret hh).before args s = true ∧ (Cond.initialized y.cls).before args s = true ∧ (y.cls ≠ "java/lang/invoke/MethodHandle" ∧ y.cls ≠ "java/lang/invoke/VarHandle") ∧
  (∀ sig, parseMethodDescriptor y.desc = some sig → n = sig.parameters.length) ∧ (Cond.methodLink own index y).before args s = true ∧ (Cond.instanceMethod y).before args s = true ∧ (Cond.selects C y y).before args s = true
theorem vx_cwVW {own C : String} {index maxL mc ms : Nat} {y : MethodName} {bytes : ByteArray} {ret : Option FieldType} {hh : List (Nat × Nat × Nat × Nat)} {Ts ws ws' : List Cond} {rm : Room} (n : Nat) (ht : ∀ w ∈ Ts, w.before args s = true) (hT : GoodIn Ts (wsV own index C y ws)) (hw : ws = Cond.codeWith y bytes maxL ret hh :: ws') (hrc : rm.cells = mc) (hrs : rm.slots = ms)
    (hd : y.cls = C ∧ y.cls ≠ "java/lang/invoke/MethodHandle" ∧ y.cls ≠ "java/lang/invoke/VarHandle" ∧ (parseMethodDescriptor y.desc).map (fun d => d.parameters.length) = some n) (hR : rm.frames + 1 ≤ R.frames ∧ 8 + (maxL + 11) + rm.locals ≤ R.locals) :
    vx_CVW R s args own C index y bytes maxL ret hh ws rm mc ms n := by
  obtain ⟨hC, hd⟩ := hd
  subst hC
  have ok : ∀ w ∈ wsV own index y.cls y ws, w.before args s = true := fun w h => ht w (hT w h).1
  have hG : GoodIn Ts ws := fun w h => hT w (by unfold wsV; exact List.mem_append_right _ h)
  have hc : Cond.codeWith y bytes maxL ret hh ∈ ws := by rw [hw]; exact List.mem_cons_self
  refine ⟨⟨hrc, hrs, hR.1, hR.2, pay_in ht hG, hc⟩, ht _ (hG _ hc).1, ok _ (by simp [wsV]), ⟨hd.1, hd.2.1⟩, fun sig h => ?_, ok _ (by simp [wsV]), ok _ (by simp [wsV]), ok _ (by simp [wsV])⟩
  have h2 := hd.2.2
  rw [h] at h2
  exact (Option.some.inj h2).symm
theorem vx_runVW {y : MethodName} {bytes cc : ByteArray} {maxL nL mc ms n index : Nat} {ret : Option FieldType} {hh : List (Nat × Nat × Nat × Nat)} {ws : List Cond} {rm : Room} {Pc : Array Value → State → Prop} {Qc : Array Value → State → Outcome → State → Prop} {free : Addr → Prop} {Ts : List Cond} {own C : String} {b : Addr} {As rest : List Value} {g : JFrame}
    (S : CallFix p m c cc nL s args Ts own) (hM : Met l y ws rm Pc Qc mc ms free) (cw : vx_CVW R s args own C index y bytes maxL ret hh ws rm mc ms n) (hp : PreV s H C b Pc As)
    (hg : g.method = m) (hn : As.length = n) (hsize : g.locals.size = nL) (hstack : g.stack = As.reverse ++ .ref b :: rest) (hW : 2 * g.monitorRoom + (rest.map fun v => v.category).sum ≤ 8) (hdg : decode cc g.pc = .ok (.invokevirtual index, 3)) (hf : cells + mc ≤ R.cells ∧ slots + ms ≤ R.slots) :
    va_Run p l e R s m args below meth c H locs cells slots mc ms g rest (Qc (Value.ref b :: As).toArray) free := by
  obtain ⟨⟨hrc, hrs, hfr, hlo, hws, hcw⟩, hcode, hini, hy, hlen, hl, hin, hse⟩ := cw
  have hK : Back l R p e below s args y 3 8 (PreOf R mc ms Pc) (PostOf Qc mc ms free) := va_backW (hh := hh) (bytes := bytes) (maxL := maxL) (ret := ret) hM hp.1 hrc hrs hfr hlo hws hcw (fun a' U hW => word_at hW (Or.inl (by first | rfl | simp [Cond.onTables, Cond.keeps, Cond.steady])) hini)
  obtain ⟨hx, hb, hml, ho, -⟩ := S
  obtain ⟨-, ⟨cellB, hcB, hoB, hclB⟩, hPc⟩ := hp
  intro T hT X
  obtain ⟨v, vm₁, ⟨U', l2, c2, s2⟩, hW₁, X', ⟨g', mk, t, L, e1, e2, hq, h1, hL, h2, h3⟩, st⟩ := vx_callVW X hx (C := C) (hh := hh) (bytes := bytes) (maxL := maxL) (ret := ret) ho hl hin hse hcode hy hK (by rw [hT]; exact hcB) hoB hclB hg (hsize.trans hml.symm) (argsL := As) (rest := rest) (fun sig h => hn.trans (hlen sig h)) hstack hW (by rw [hb]; exact hdg)
    (fun vm₁ hW₁ => ⟨hf.1, hf.2, hPc (T.setVm vm₁) hT hW₁⟩)
  dsimp only [Pt.U, Pt.locs, Pt.cells, Pt.slots] at X' e1 e2 h1 h2 h3 st
  subst h1; subst h2; subst h3
  exact ⟨v, (T.setVm vm₁).calling g' mk (Value.ref b :: As).toArray, t, U', L, hT, X', hL, e1, e2, hq, st⟩
section
variable {y : MethodName} {bytes cc : ByteArray} {maxL nL mc ms n index : Nat} {ret : Option FieldType} {ws : List Cond} {rm : Room} {Pc : Array Value → State → Prop} {Qc : Array Value → State → Outcome → State → Prop} {XC : String → State → State → Prop} {free : Addr → Prop} {Ts : List Cond} {own C : String} {b : Addr} {As rest : List Value} {g : JFrame}
theorem vx_runVX {hh : List (Nat × Nat × Nat × Nat)} (S : CallFix p m c cc nL s args Ts own) (hM : vx_Met l y ws rm Pc Qc XC mc ms free) (cw : vx_CVW R s args own C index y bytes maxL ret hh ws rm mc ms n) (hp : PreV s H C b Pc As)
    (hg : g.method = m) (hn : As.length = n) (hsize : g.locals.size = nL) (hstack : g.stack = As.reverse ++ .ref b :: rest) (hW : 2 * g.monitorRoom + (rest.map fun v => v.category).sum ≤ 8) (hdg : decode cc g.pc = .ok (.invokevirtual index, 3)) (hf : cells + mc ≤ R.cells ∧ slots + ms ≤ R.slots) :
    vx_Run p l e R s m args below meth c H locs cells slots mc ms g rest (Qc (Value.ref b :: As).toArray) XC free := by
  obtain ⟨⟨hrc, hrs, hfr, hlo, hws, hcw⟩, hcode, hini, hy, hlen, hl, hin, hse⟩ := cw
  have hK : vx_Back l R p e below s args y 3 8 (PreOf R mc ms Pc) (PostOf Qc mc ms free) (vx_Post XC mc ms free) := vx_backW (hh := hh) (bytes := bytes) (maxL := maxL) (ret := ret) hM hp.1 hrc hrs hfr hlo hws hcw (fun a' U hW => word_at hW (Or.inl (by first | rfl | simp [Cond.onTables, Cond.keeps, Cond.steady])) hini)
  obtain ⟨hx, hb, hml, ho, -⟩ := S
  obtain ⟨-, ⟨cellB, hcB, hoB, hclB⟩, hPc⟩ := hp
  intro T hT X
  rcases vx_callVX X hx (C := C) (hh := hh) (bytes := bytes) (maxL := maxL) (ret := ret) ho hl hin hse hcode hy hK (by rw [hT]; exact hcB) hoB hclB hg (hsize.trans hml.symm) (argsL := As) (rest := rest) (fun sig h => hn.trans (hlen sig h)) hstack hW (by rw [hb]; exact hdg)
    (fun vm₁ hW₁ => ⟨hf.1, hf.2, hPc (T.setVm vm₁) hT hW₁⟩) with ⟨v, vm₁, ⟨U', l2, c2, s2⟩, hW₁, X', ⟨g', mk, t, L, e1, e2, hq, h1, hL, h2, h3⟩, st⟩ | ⟨q, vm₁, ⟨U', l2, c2, s2⟩, hW₁, X', ⟨g', mk, t, L, E, ce, e1, e2, hq, hce, hcv, hcl, h1, hL, h2, h3⟩, st⟩
  · dsimp only [Pt.U, Pt.locs, Pt.cells, Pt.slots] at X' e1 e2 h1 h2 h3 st
    subst h1; subst h2; subst h3
    exact Or.inl ⟨v, (T.setVm vm₁).calling g' mk (Value.ref b :: As).toArray, t, U', L, hT, X', hL, e1, e2, hq, st⟩
  · dsimp only [Pt.U, Pt.locs, Pt.cells, Pt.slots] at X' e1 e2 h1 h2 h3 st hcl
    subst h1; subst h2; subst h3
    exact Or.inr ⟨q, (T.setVm vm₁).calling g' mk (Value.ref b :: As).toArray, t, U', L, E, ce, hT, X', hL, e1, e2, hq, hce, hcv, vx_cls hW₁ hcl, st⟩
theorem vx_runSX {hh : List (Nat × Nat × Nat × Nat)} (S : CallFix p m c cc nL s args Ts own) (hM : vx_Met l y ws rm Pc Qc XC mc ms free) (cw : vx_CSW R s args own index y bytes maxL ret hh ws rm mc ms n) (hp : PreS s H Pc As)
    (hg : g.method = m) (hn : As.length = n) (hsize : g.locals.size = nL) (hstack : g.stack = As.reverse ++ rest) (hW : 2 * g.monitorRoom + (rest.map fun v => v.category).sum ≤ 8) (hdg : decode cc g.pc = .ok (.invokestatic index, 3)) (hf : cells + mc ≤ R.cells ∧ slots + ms ≤ R.slots) :
    vx_Run p l e R s m args below meth c H locs cells slots mc ms g rest (Qc As.toArray) XC free := by
  obtain ⟨⟨hrc, hrs, hfr, hlo, hws, hcw⟩, hcode, hini, hy, hlen, hl, hstt⟩ := cw
  have hK : vx_Back l R p e below s args y 3 8 (PreOf R mc ms Pc) (PostOf Qc mc ms free) (vx_Post XC mc ms free) := vx_backW (hh := hh) (bytes := bytes) (maxL := maxL) (ret := ret) hM hp.1 hrc hrs hfr hlo hws hcw (fun a' U hW => word_at hW (Or.inl (by first | rfl | simp [Cond.onTables, Cond.keeps, Cond.steady])) hini)
  obtain ⟨hx, hb, hml, ho, -⟩ := S
  intro T hT X
  rcases vx_callSX X hx (hh := hh) (bytes := bytes) (maxL := maxL) (ret := ret) ho hl hstt hini hcode hy hK hg (hsize.trans hml.symm) (argsL := As) (rest := rest) (fun sig h => hn.trans (hlen sig h)) hstack hW (by rw [hb]; exact hdg)
    (fun vm₁ hW₁ => ⟨hf.1, hf.2, hp.2 (T.setVm vm₁) hT hW₁⟩) with ⟨v, vm₁, ⟨U', l2, c2, s2⟩, hW₁, X', ⟨g', mk, t, L, e1, e2, hq, h1, hL, h2, h3⟩, st⟩ | ⟨q, vm₁, ⟨U', l2, c2, s2⟩, hW₁, X', ⟨g', mk, t, L, E, ce, e1, e2, hq, hce, hcv, hcl, h1, hL, h2, h3⟩, st⟩
  · dsimp only [Pt.U, Pt.locs, Pt.cells, Pt.slots] at X' e1 e2 h1 h2 h3 st
    subst h1; subst h2; subst h3
    exact Or.inl ⟨v, (T.setVm vm₁).calling g' mk As.toArray, t, U', L, hT, X', hL, e1, e2, hq, st⟩
  · dsimp only [Pt.U, Pt.locs, Pt.cells, Pt.slots] at X' e1 e2 h1 h2 h3 st hcl
    subst h1; subst h2; subst h3
    exact Or.inr ⟨q, (T.setVm vm₁).calling g' mk As.toArray, t, U', L, E, ce, hT, X', hL, e1, e2, hq, hce, hcv, vx_cls hW₁ hcl, st⟩
end
end VXH
theorem vx_ofWH {l : Launch} {y : MethodName} {ws ws' : List Cond} {rm : Room} {Pc : Array Value → State → Prop} {Qc : Array Value → State → Outcome → State → Prop} {XC : String → State → State → Prop} {mc ms : Nat} {free : Addr → Prop} {cc : ByteArray} {maxL : Nat} {ret : Option FieldType} {hh : List (Nat × Nat × Nat × Nat)}
    (hy : plainName y.cls = true) (hw : ws = Cond.codeWith y cc maxL ret hh :: ws')
    (body : ∀ p e s m args below meth c s₁, BodyLoose p l y (headSpec ws rm) cc maxL ret e s m args below meth c s₁ → c.maxLocals = maxL → Pc args s →
      W p l e (headSpec ws rm).room s m args below meth c s.heap [] 0 0 (vx_MQ below Qc XC args s mc ms free) (entryFrame m args maxL)) : vx_Met l y ws rm Pc Qc XC mc ms free := by
  refine MetFree.of_bodyS (code := cc) (maxLocals := maxL) (ret := ret) hy ?_ ?_
  · intro args s m h hn
    obtain ⟨m9, meth, c, hn9, h1, h2, h3, h4, -, h5, h6, -⟩ := Cond.codeWith_spec (atoms_spec (ws := ws) h _ (by rw [hw]; exact List.mem_cons_self))
    cases hn.symm.trans hn9
    exact ⟨meth, c, h1, h2, h3, h4, h5, h6⟩
  · intro p e s m args below meth c s₁ B hml hP _
    have hh0 : s₁.heap = s.heap := by rw [B.state]; rfl
    obtain ⟨t, a1, o, b1, b2, b3⟩ := body p e s m args below meth c s₁ B hml hP s₁ hh0 (Stand.of_body B)
    exact ⟨t, o, a1, b1, b2, b3⟩
/-! ===== END ===== -/

/-! ===== BEGIN printed: names, fields, word lists, decode rows ===== -/
end
section
def RX0 : String := "ChatRelay$Channel"
def TX0 : u_T := fun k => match k with
  | 0 => ("ChatRelay$Channel", "age", "I", false)
  | 1 => ("ChatRelay$Channel", "modes", "I", false)
  | 2 => ("ChatRelay$Channel", "bans", "I", false)
  | _ => ("ChatRelay$Channel", "members", "I", false)
def tyX0 : Nat → FieldType := fun k => match k with
  | 0 => .int
  | 1 => .int
  | 2 => .int
  | _ => .int
abbrev wsX00 : List Cond := u_ws RX0 TX0 4
theorem nmX0 : ∀ a, a < 4 → ∀ b, b < 4 → a ≠ b → (TX0 a).2.1 ≠ (TX0 b).2.1 := by decide +kernel
theorem tyX0_ok : ∀ k, k < 4 → parseFieldDescriptor (TX0 k).2.2.1 = some (tyX0 k) := by decide +kernel
abbrev cX0_init : ByteArray := prog_2_method_1_code
def yX0_init : MethodName := ⟨RX0, "<init>", "()V"⟩
abbrev cX0_isThere : ByteArray := prog_2_method_2_code
def yX0_isThere : MethodName := ⟨RX0, "isThere", "()Z"⟩
abbrev cX0_enter : ByteArray := prog_2_method_3_code
def yX0_enter : MethodName := ⟨RX0, "enter", "(II)V"⟩
abbrev cX0_drop : ByteArray := prog_2_method_4_code
def yX0_drop : MethodName := ⟨RX0, "drop", "(I)V"⟩
abbrev cX0_takeIn : ByteArray := prog_2_method_5_code
def yX0_takeIn : MethodName := ⟨RX0, "takeIn", "(LChatRelay$Line;I)V"⟩
abbrev cX0_looksLike : ByteArray := prog_2_method_6_code
def yX0_looksLike : MethodName := ⟨RX0, "looksLike", "(LChatRelay$Channel;)Z"⟩
def RX1 : String := "ChatRelay$Line"
def TX1 : u_T := fun k => match k with
  | 0 => ("ChatRelay$Line", "kind", "I", false)
  | 1 => ("ChatRelay$Line", "user", "I", false)
  | 2 => ("ChatRelay$Line", "channel", "I", false)
  | 3 => ("ChatRelay$Line", "age", "I", false)
  | 4 => ("ChatRelay$Line", "modes", "I", false)
  | 5 => ("ChatRelay$Line", "bans", "I", false)
  | 6 => ("ChatRelay$Line", "members", "I", false)
  | _ => ("ChatRelay$Line", "next", "LChatRelay$Line;", false)
def tyX1 : Nat → FieldType := fun k => match k with
  | 0 => .int
  | 1 => .int
  | 2 => .int
  | 3 => .int
  | 4 => .int
  | 5 => .int
  | 6 => .int
  | _ => .object "ChatRelay$Line"
abbrev wsX10 : List Cond := u_ws RX1 TX1 8
theorem nmX1 : ∀ a, a < 8 → ∀ b, b < 8 → a ≠ b → (TX1 a).2.1 ≠ (TX1 b).2.1 := by decide +kernel
theorem tyX1_ok : ∀ k, k < 8 → parseFieldDescriptor (TX1 k).2.2.1 = some (tyX1 k) := by decide +kernel
abbrev cX1_init : ByteArray := prog_3_method_1_code
def yX1_init : MethodName := ⟨RX1, "<init>", "()V"⟩
abbrev cX1_ofUser : ByteArray := prog_3_method_2_code
def yX1_ofUser : MethodName := ⟨RX1, "ofUser", "(II)LChatRelay$Line;"⟩
abbrev cX1_ofLeave : ByteArray := prog_3_method_3_code
def yX1_ofLeave : MethodName := ⟨RX1, "ofLeave", "(II)LChatRelay$Line;"⟩
abbrev cX1_ofChannel : ByteArray := prog_3_method_4_code
def yX1_ofChannel : MethodName := ⟨RX1, "ofChannel", "(IILChatRelay$Channel;I)LChatRelay$Line;"⟩
abbrev cX1_copyFrom : ByteArray := prog_3_method_5_code
def yX1_copyFrom : MethodName := ⟨RX1, "copyFrom", "(LChatRelay$Line;)V"⟩
def RX2 : String := "ChatRelay$LineQueue"
def TX2 : u_T := fun k => match k with
  | 0 => ("ChatRelay$LineQueue", "first", "LChatRelay$Line;", false)
  | _ => ("ChatRelay$LineQueue", "last", "LChatRelay$Line;", false)
def tyX2 : Nat → FieldType := fun k => match k with
  | 0 => .object "ChatRelay$Line"
  | _ => .object "ChatRelay$Line"
abbrev wsX20 : List Cond := u_ws RX2 TX2 2
theorem nmX2 : ∀ a, a < 2 → ∀ b, b < 2 → a ≠ b → (TX2 a).2.1 ≠ (TX2 b).2.1 := by decide +kernel
theorem tyX2_ok : ∀ k, k < 2 → parseFieldDescriptor (TX2 k).2.2.1 = some (tyX2 k) := by decide +kernel
abbrev cX2_init : ByteArray := prog_4_method_1_code
def yX2_init : MethodName := ⟨RX2, "<init>", "()V"⟩
abbrev cX2_append : ByteArray := prog_4_method_2_code
def yX2_append : MethodName := ⟨RX2, "append", "(LChatRelay$Line;)V"⟩
abbrev cX2_takeFirst : ByteArray := prog_4_method_3_code
def yX2_takeFirst : MethodName := ⟨RX2, "takeFirst", "()LChatRelay$Line;"⟩
def RX3 : String := "ChatRelay$View"
def TX3 : u_T := fun k => match k with
  | 0 => ("ChatRelay$View", "knownUsers", "I", false)
  | _ => ("ChatRelay$View", "channels", "[LChatRelay$Channel;", true)
def tyX3 : Nat → FieldType := fun k => match k with
  | 0 => .int
  | _ => .array (.object "ChatRelay$Channel")
abbrev wsX30 : List Cond := u_ws RX3 TX3 2
theorem nmX3 : ∀ a, a < 2 → ∀ b, b < 2 → a ≠ b → (TX3 a).2.1 ≠ (TX3 b).2.1 := by decide +kernel
theorem tyX3_ok : ∀ k, k < 2 → parseFieldDescriptor (TX3 k).2.2.1 = some (tyX3 k) := by decide +kernel
abbrev cX3_init : ByteArray := prog_5_method_1_code
def yX3_init : MethodName := ⟨RX3, "<init>", "()V"⟩
abbrev cX3_knows : ByteArray := prog_5_method_2_code
def yX3_knows : MethodName := ⟨RX3, "knows", "(I)Z"⟩
abbrev cX3_learn : ByteArray := prog_5_method_3_code
def yX3_learn : MethodName := ⟨RX3, "learn", "(I)V"⟩
abbrev cX3_forget : ByteArray := prog_5_method_4_code
def yX3_forget : MethodName := ⟨RX3, "forget", "(I)V"⟩
abbrev cX3_looksLike : ByteArray := prog_5_method_5_code
def yX3_looksLike : MethodName := ⟨RX3, "looksLike", "(LChatRelay$View;)Z"⟩
def RX4 : String := "ChatRelay$Wires"
def TX4 : u_T := fun k => match k with
  | 0 => ("ChatRelay$Wires", "linked", "[I", true)
  | 1 => ("ChatRelay$Wires", "queues", "[LChatRelay$LineQueue;", true)
  | 2 => ("ChatRelay$Wires", "waiting", "I", false)
  | 3 => ("ChatRelay$Wires", "spares", "LChatRelay$Line;", false)
  | _ => ("ChatRelay$Wires", "made", "I", false)
def tyX4 : Nat → FieldType := fun k => match k with
  | 0 => .array .int
  | 1 => .array (.object "ChatRelay$LineQueue")
  | 2 => .int
  | 3 => .object "ChatRelay$Line"
  | _ => .int
abbrev wsX40 : List Cond := u_ws RX4 TX4 5
theorem nmX4 : ∀ a, a < 5 → ∀ b, b < 5 → a ≠ b → (TX4 a).2.1 ≠ (TX4 b).2.1 := by decide +kernel
theorem tyX4_ok : ∀ k, k < 5 → parseFieldDescriptor (TX4 k).2.2.1 = some (tyX4 k) := by decide +kernel
abbrev cX4_init : ByteArray := prog_6_method_1_code
def yX4_init : MethodName := ⟨RX4, "<init>", "()V"⟩
abbrev cX4_haveLink : ByteArray := prog_6_method_2_code
def yX4_haveLink : MethodName := ⟨RX4, "haveLink", "(II)Z"⟩
abbrev cX4_treeOf : ByteArray := prog_6_method_3_code
def yX4_treeOf : MethodName := ⟨RX4, "treeOf", "(I)I"⟩
abbrev cX4_linksTowards : ByteArray := prog_6_method_4_code
def yX4_linksTowards : MethodName := ⟨RX4, "linksTowards", "(II)I"⟩
abbrev cX4_connect : ByteArray := prog_6_method_5_code
def yX4_connect : MethodName := ⟨RX4, "connect", "(II)V"⟩
abbrev cX4_cut : ByteArray := prog_6_method_6_code
def yX4_cut : MethodName := ⟨RX4, "cut", "(II)V"⟩
abbrev cX4_loseLines : ByteArray := prog_6_method_7_code
def yX4_loseLines : MethodName := ⟨RX4, "loseLines", "(II)V"⟩
abbrev cX4_spread : ByteArray := prog_6_method_8_code
def yX4_spread : MethodName := ⟨RX4, "spread", "(IILChatRelay$Line;)V"⟩
abbrev cX4_put : ByteArray := prog_6_method_9_code
def yX4_put : MethodName := ⟨RX4, "put", "(IILChatRelay$Line;)V"⟩
abbrev cX4_take : ByteArray := prog_6_method_10_code
def yX4_take : MethodName := ⟨RX4, "take", "(II)LChatRelay$Line;"⟩
abbrev cX4_keepSpare : ByteArray := prog_6_method_11_code
def yX4_keepSpare : MethodName := ⟨RX4, "keepSpare", "(LChatRelay$Line;)V"⟩
def RX5 : String := "ChatRelay"
def TX5 : u_T := fun k => match k with
  | 0 => ("ChatRelay", "views", "[LChatRelay$View;", true)
  | 1 => ("ChatRelay", "wires", "LChatRelay$Wires;", true)
  | 2 => ("ChatRelay", "homeOf", "[I", true)
  | 3 => ("ChatRelay", "letterOf", "[I", true)
  | 4 => ("ChatRelay", "ageOf", "[I", true)
  | 5 => ("ChatRelay", "draft", "LChatRelay$Line;", true)
  | 6 => ("ChatRelay", "signedOn", "I", false)
  | _ => ("ChatRelay", "now", "I", false)
def tyX5 : Nat → FieldType := fun k => match k with
  | 0 => .array (.object "ChatRelay$View")
  | 1 => .object "ChatRelay$Wires"
  | 2 => .array .int
  | 3 => .array .int
  | 4 => .array .int
  | 5 => .object "ChatRelay$Line"
  | 6 => .int
  | _ => .int
abbrev wsX50 : List Cond := u_ws RX5 TX5 8
theorem nmX5 : ∀ a, a < 8 → ∀ b, b < 8 → a ≠ b → (TX5 a).2.1 ≠ (TX5 b).2.1 := by decide +kernel
theorem tyX5_ok : ∀ k, k < 8 → parseFieldDescriptor (TX5 k).2.2.1 = some (tyX5 k) := by decide +kernel
abbrev cX5_init : ByteArray := prog_1_method_1_code
def yX5_init : MethodName := ⟨RX5, "<init>", "()V"⟩
abbrev cX5_link : ByteArray := prog_1_method_2_code
def yX5_link : MethodName := ⟨RX5, "link", "(II)I"⟩
abbrev cX5_split : ByteArray := prog_1_method_3_code
def yX5_split : MethodName := ⟨RX5, "split", "(II)I"⟩
abbrev cX5_deliver : ByteArray := prog_1_method_4_code
def yX5_deliver : MethodName := ⟨RX5, "deliver", "(II)I"⟩
abbrev cX5_deliverAll : ByteArray := prog_1_method_5_code
def yX5_deliverAll : MethodName := ⟨RX5, "deliverAll", "()I"⟩
abbrev cX5_lines : ByteArray := prog_1_method_6_code
def yX5_lines : MethodName := ⟨RX5, "lines", "()I"⟩
abbrev cX5_tree : ByteArray := prog_1_method_7_code
def yX5_tree : MethodName := ⟨RX5, "tree", "(I)I"⟩
abbrev cX5_signOn : ByteArray := prog_1_method_8_code
def yX5_signOn : MethodName := ⟨RX5, "signOn", "(IC)I"⟩
abbrev cX5_quit : ByteArray := prog_1_method_9_code
def yX5_quit : MethodName := ⟨RX5, "quit", "(I)V"⟩
abbrev cX5_join : ByteArray := prog_1_method_10_code
def yX5_join : MethodName := ⟨RX5, "join", "(II)I"⟩
abbrev cX5_leave : ByteArray := prog_1_method_11_code
def yX5_leave : MethodName := ⟨RX5, "leave", "(II)V"⟩
abbrev cX5_setModes : ByteArray := prog_1_method_12_code
def yX5_setModes : MethodName := ⟨RX5, "setModes", "(IIII)I"⟩
abbrev cX5_say : ByteArray := prog_1_method_13_code
def yX5_say : MethodName := ⟨RX5, "say", "(II)I"⟩
abbrev cX5_users : ByteArray := prog_1_method_14_code
def yX5_users : MethodName := ⟨RX5, "users", "()I"⟩
abbrev cX5_clock : ByteArray := prog_1_method_15_code
def yX5_clock : MethodName := ⟨RX5, "clock", "()I"⟩
abbrev cX5_known : ByteArray := prog_1_method_16_code
def yX5_known : MethodName := ⟨RX5, "known", "(I)I"⟩
abbrev cX5_members : ByteArray := prog_1_method_17_code
def yX5_members : MethodName := ⟨RX5, "members", "(II)I"⟩
abbrev cX5_age : ByteArray := prog_1_method_18_code
def yX5_age : MethodName := ⟨RX5, "age", "(II)I"⟩
abbrev cX5_modes : ByteArray := prog_1_method_19_code
def yX5_modes : MethodName := ⟨RX5, "modes", "(II)I"⟩
abbrev cX5_bans : ByteArray := prog_1_method_20_code
def yX5_bans : MethodName := ⟨RX5, "bans", "(II)I"⟩
abbrev cX5_areSame : ByteArray := prog_1_method_21_code
def yX5_areSame : MethodName := ⟨RX5, "areSame", "(II)Z"⟩
abbrev cX5_joinedModes : ByteArray := prog_1_method_22_code
def yX5_joinedModes : MethodName := ⟨RX5, "joinedModes", "(III)I"⟩
abbrev cX5_checkServer : ByteArray := prog_1_method_23_code
def yX5_checkServer : MethodName := ⟨RX5, "checkServer", "(I)V"⟩
abbrev cX5_checkChannel : ByteArray := prog_1_method_24_code
def yX5_checkChannel : MethodName := ⟨RX5, "checkChannel", "(I)V"⟩
abbrev cX5_checkUser : ByteArray := prog_1_method_25_code
def yX5_checkUser : MethodName := ⟨RX5, "checkUser", "(I)V"⟩
abbrev cX5_checkNotGone : ByteArray := prog_1_method_26_code
def yX5_checkNotGone : MethodName := ⟨RX5, "checkNotGone", "(I)V"⟩
abbrev cX5_checkMember : ByteArray := prog_1_method_27_code
def yX5_checkMember : MethodName := ⟨RX5, "checkMember", "(II)V"⟩
abbrev cX5_burst : ByteArray := prog_1_method_28_code
def yX5_burst : MethodName := ⟨RX5, "burst", "(II)V"⟩
abbrev cX5_forgetUnreached : ByteArray := prog_1_method_29_code
def yX5_forgetUnreached : MethodName := ⟨RX5, "forgetUnreached", "(I)V"⟩
abbrev cX5_deliverRound : ByteArray := prog_1_method_30_code
def yX5_deliverRound : MethodName := ⟨RX5, "deliverRound", "()I"⟩
abbrev cX5_deliverFirst : ByteArray := prog_1_method_31_code
def yX5_deliverFirst : MethodName := ⟨RX5, "deliverFirst", "(II)Z"⟩
abbrev cX5_receiveUser : ByteArray := prog_1_method_32_code
def yX5_receiveUser : MethodName := ⟨RX5, "receiveUser", "(LChatRelay$Line;II)V"⟩
abbrev cX5_receiveQuit : ByteArray := prog_1_method_33_code
def yX5_receiveQuit : MethodName := ⟨RX5, "receiveQuit", "(LChatRelay$Line;II)V"⟩
abbrev cX5_receiveChannel : ByteArray := prog_1_method_34_code
def yX5_receiveChannel : MethodName := ⟨RX5, "receiveChannel", "(LChatRelay$Line;II)V"⟩
abbrev cX5_receiveModes : ByteArray := prog_1_method_35_code
def yX5_receiveModes : MethodName := ⟨RX5, "receiveModes", "(LChatRelay$Line;II)V"⟩
abbrev cX5_isGone : ByteArray := prog_1_method_36_code
def yX5_isGone : MethodName := ⟨RX5, "isGone", "(I)Z"⟩
abbrev cX5_namesake : ByteArray := prog_1_method_37_code
def yX5_namesake : MethodName := ⟨RX5, "namesake", "(LChatRelay$View;II)I"⟩
abbrev cX5_eldestOf : ByteArray := prog_1_method_38_code
def yX5_eldestOf : MethodName := ⟨RX5, "eldestOf", "(I)I"⟩
abbrev cX5_homesOf : ByteArray := prog_1_method_39_code
def yX5_homesOf : MethodName := ⟨RX5, "homesOf", "(I)I"⟩
abbrev cX5_has : ByteArray := prog_1_method_40_code
def yX5_has : MethodName := ⟨RX5, "has", "(II)Z"⟩
abbrev cX5_letterIn : ByteArray := prog_1_method_41_code
def yX5_letterIn : MethodName := ⟨RX5, "letterIn", "(C)I"⟩
abbrev cX5_settledSet : ByteArray := prog_1_method_42_code
def yX5_settledSet : MethodName := ⟨RX5, "settledSet", "(IIII)I"⟩
def RX6 : String := "ChatRelayModel"
def TX6 : u_T := fun k => match k with
  | 0 => ("ChatRelayModel", "thrown", "I", false)
  | 1 => ("ChatRelayModel", "clock", "I", false)
  | 2 => ("ChatRelayModel", "users", "I", false)
  | 3 => ("ChatRelayModel", "names", "[I", true)
  | 4 => ("ChatRelayModel", "homes", "[I", true)
  | 5 => ("ChatRelayModel", "born", "[I", true)
  | 6 => ("ChatRelayModel", "links", "[I", true)
  | 7 => ("ChatRelayModel", "known", "[I", true)
  | 8 => ("ChatRelayModel", "ages", "[I", true)
  | 9 => ("ChatRelayModel", "modes", "[I", true)
  | 10 => ("ChatRelayModel", "bans", "[I", true)
  | 11 => ("ChatRelayModel", "members", "[I", true)
  | 12 => ("ChatRelayModel", "heads", "[I", true)
  | 13 => ("ChatRelayModel", "tails", "[I", true)
  | 14 => ("ChatRelayModel", "lines", "I", false)
  | 15 => ("ChatRelayModel", "free", "I", false)
  | 16 => ("ChatRelayModel", "next", "[I", true)
  | 17 => ("ChatRelayModel", "kinds", "[I", true)
  | 18 => ("ChatRelayModel", "of", "[I", true)
  | 19 => ("ChatRelayModel", "lineUsers", "[I", true)
  | 20 => ("ChatRelayModel", "lineAges", "[I", true)
  | 21 => ("ChatRelayModel", "lineModes", "[I", true)
  | 22 => ("ChatRelayModel", "lineBans", "[I", true)
  | 23 => ("ChatRelayModel", "kind", "I", false)
  | 24 => ("ChatRelayModel", "its", "I", false)
  | 25 => ("ChatRelayModel", "who", "I", false)
  | 26 => ("ChatRelayModel", "age", "I", false)
  | 27 => ("ChatRelayModel", "mode", "I", false)
  | _ => ("ChatRelayModel", "ban", "I", false)
def tyX6 : Nat → FieldType := fun k => match k with
  | 0 => .int
  | 1 => .int
  | 2 => .int
  | 3 => .array .int
  | 4 => .array .int
  | 5 => .array .int
  | 6 => .array .int
  | 7 => .array .int
  | 8 => .array .int
  | 9 => .array .int
  | 10 => .array .int
  | 11 => .array .int
  | 12 => .array .int
  | 13 => .array .int
  | 14 => .int
  | 15 => .int
  | 16 => .array .int
  | 17 => .array .int
  | 18 => .array .int
  | 19 => .array .int
  | 20 => .array .int
  | 21 => .array .int
  | 22 => .array .int
  | 23 => .int
  | 24 => .int
  | 25 => .int
  | 26 => .int
  | 27 => .int
  | _ => .int
abbrev wsX60 : List Cond := u_ws RX6 TX6 29
theorem nmX6 : ∀ a, a < 29 → ∀ b, b < 29 → a ≠ b → (TX6 a).2.1 ≠ (TX6 b).2.1 := by decide +kernel
theorem tyX6_ok : ∀ k, k < 29 → parseFieldDescriptor (TX6 k).2.2.1 = some (tyX6 k) := by decide +kernel
abbrev cX6_init : ByteArray := prog_8_method_1_code
def yX6_init : MethodName := ⟨RX6, "<init>", "()V"⟩
abbrev cX6_thrown : ByteArray := prog_8_method_2_code
def yX6_thrown : MethodName := ⟨RX6, "thrown", "()I"⟩
abbrev cX6_holds : ByteArray := prog_8_method_3_code
def yX6_holds : MethodName := ⟨RX6, "holds", "(I)Z"⟩
abbrev cX6_isServer : ByteArray := prog_8_method_4_code
def yX6_isServer : MethodName := ⟨RX6, "isServer", "(I)Z"⟩
abbrev cX6_isChannel : ByteArray := prog_8_method_5_code
def yX6_isChannel : MethodName := ⟨RX6, "isChannel", "(I)Z"⟩
abbrev cX6_has : ByteArray := prog_8_method_6_code
def yX6_has : MethodName := ⟨RX6, "has", "(II)Z"⟩
abbrev cX6_at : ByteArray := prog_8_method_7_code
def yX6_at : MethodName := ⟨RX6, "at", "(II)I"⟩
abbrev cX6_makes : ByteArray := prog_8_method_8_code
def yX6_makes : MethodName := ⟨RX6, "makes", "(III)V"⟩
abbrev cX6_tells : ByteArray := prog_8_method_9_code
def yX6_tells : MethodName := ⟨RX6, "tells", "(IIII)V"⟩
abbrev cX6_puts : ByteArray := prog_8_method_10_code
def yX6_puts : MethodName := ⟨RX6, "puts", "(II)V"⟩
abbrev cX6_sends : ByteArray := prog_8_method_11_code
def yX6_sends : MethodName := ⟨RX6, "sends", "(II)V"⟩
abbrev cX6_takes : ByteArray := prog_8_method_12_code
def yX6_takes : MethodName := ⟨RX6, "takes", "(I)V"⟩
abbrev cX6_treeOf : ByteArray := prog_8_method_13_code
def yX6_treeOf : MethodName := ⟨RX6, "treeOf", "(I)I"⟩
abbrev cX6_leaves : ByteArray := prog_8_method_14_code
def yX6_leaves : MethodName := ⟨RX6, "leaves", "(III)V"⟩
abbrev cX6_quits : ByteArray := prog_8_method_15_code
def yX6_quits : MethodName := ⟨RX6, "quits", "(II)V"⟩
abbrev cX6_namesake : ByteArray := prog_8_method_16_code
def yX6_namesake : MethodName := ⟨RX6, "namesake", "(III)I"⟩
abbrev cX6_getsUser : ByteArray := prog_8_method_17_code
def yX6_getsUser : MethodName := ⟨RX6, "getsUser", "(II)V"⟩
abbrev cX6_getsChannel : ByteArray := prog_8_method_18_code
def yX6_getsChannel : MethodName := ⟨RX6, "getsChannel", "(I)V"⟩
abbrev cX6_gets : ByteArray := prog_8_method_19_code
def yX6_gets : MethodName := ⟨RX6, "gets", "(II)V"⟩
abbrev cX6_bursts : ByteArray := prog_8_method_20_code
def yX6_bursts : MethodName := ⟨RX6, "bursts", "(II)V"⟩
abbrev cX6_link : ByteArray := prog_8_method_21_code
def yX6_link : MethodName := ⟨RX6, "link", "(II)I"⟩
abbrev cX6_forgets : ByteArray := prog_8_method_22_code
def yX6_forgets : MethodName := ⟨RX6, "forgets", "()V"⟩
abbrev cX6_split : ByteArray := prog_8_method_23_code
def yX6_split : MethodName := ⟨RX6, "split", "(II)I"⟩
abbrev cX6_isLine : ByteArray := prog_8_method_24_code
def yX6_isLine : MethodName := ⟨RX6, "isLine", "(II)Z"⟩
abbrev cX6_delivers : ByteArray := prog_8_method_25_code
def yX6_delivers : MethodName := ⟨RX6, "delivers", "(II)V"⟩
abbrev cX6_deliver : ByteArray := prog_8_method_26_code
def yX6_deliver : MethodName := ⟨RX6, "deliver", "(II)I"⟩
abbrev cX6_deliverAll : ByteArray := prog_8_method_27_code
def yX6_deliverAll : MethodName := ⟨RX6, "deliverAll", "()I"⟩
abbrev cX6_lines : ByteArray := prog_8_method_28_code
def yX6_lines : MethodName := ⟨RX6, "lines", "()I"⟩
abbrev cX6_tree : ByteArray := prog_8_method_29_code
def yX6_tree : MethodName := ⟨RX6, "tree", "(I)I"⟩
abbrev cX6_letter : ByteArray := prog_8_method_30_code
def yX6_letter : MethodName := ⟨RX6, "letter", "(C)I"⟩
abbrev cX6_signOn : ByteArray := prog_8_method_31_code
def yX6_signOn : MethodName := ⟨RX6, "signOn", "(IC)I"⟩
abbrev cX6_isUser : ByteArray := prog_8_method_32_code
def yX6_isUser : MethodName := ⟨RX6, "isUser", "(I)Z"⟩
abbrev cX6_isGone : ByteArray := prog_8_method_33_code
def yX6_isGone : MethodName := ⟨RX6, "isGone", "(I)Z"⟩
abbrev cX6_isMember : ByteArray := prog_8_method_34_code
def yX6_isMember : MethodName := ⟨RX6, "isMember", "(II)Z"⟩
abbrev cX6_quit : ByteArray := prog_8_method_35_code
def yX6_quit : MethodName := ⟨RX6, "quit", "(I)V"⟩
abbrev cX6_isBanned : ByteArray := prog_8_method_36_code
def yX6_isBanned : MethodName := ⟨RX6, "isBanned", "(II)Z"⟩
abbrev cX6_count : ByteArray := prog_8_method_37_code
def yX6_count : MethodName := ⟨RX6, "count", "(I)I"⟩
abbrev cX6_join : ByteArray := prog_8_method_38_code
def yX6_join : MethodName := ⟨RX6, "join", "(II)I"⟩
abbrev cX6_leave : ByteArray := prog_8_method_39_code
def yX6_leave : MethodName := ⟨RX6, "leave", "(II)V"⟩
abbrev cX6_setModes : ByteArray := prog_8_method_40_code
def yX6_setModes : MethodName := ⟨RX6, "setModes", "(IIII)I"⟩
abbrev cX6_isEldest : ByteArray := prog_8_method_41_code
def yX6_isEldest : MethodName := ⟨RX6, "isEldest", "(II)Z"⟩
abbrev cX6_behind : ByteArray := prog_8_method_42_code
def yX6_behind : MethodName := ⟨RX6, "behind", "(II)I"⟩
abbrev cX6_homesOf : ByteArray := prog_8_method_43_code
def yX6_homesOf : MethodName := ⟨RX6, "homesOf", "(I)I"⟩
abbrev cX6_say : ByteArray := prog_8_method_44_code
def yX6_say : MethodName := ⟨RX6, "say", "(II)I"⟩
abbrev cX6_users : ByteArray := prog_8_method_45_code
def yX6_users : MethodName := ⟨RX6, "users", "()I"⟩
abbrev cX6_clock : ByteArray := prog_8_method_46_code
def yX6_clock : MethodName := ⟨RX6, "clock", "()I"⟩
abbrev cX6_known : ByteArray := prog_8_method_47_code
def yX6_known : MethodName := ⟨RX6, "known", "(I)I"⟩
abbrev cX6_isView : ByteArray := prog_8_method_48_code
def yX6_isView : MethodName := ⟨RX6, "isView", "(II)Z"⟩
abbrev cX6_members : ByteArray := prog_8_method_49_code
def yX6_members : MethodName := ⟨RX6, "members", "(II)I"⟩
abbrev cX6_age : ByteArray := prog_8_method_50_code
def yX6_age : MethodName := ⟨RX6, "age", "(II)I"⟩
abbrev cX6_modes : ByteArray := prog_8_method_51_code
def yX6_modes : MethodName := ⟨RX6, "modes", "(II)I"⟩
abbrev cX6_bans : ByteArray := prog_8_method_52_code
def yX6_bans : MethodName := ⟨RX6, "bans", "(II)I"⟩
abbrev cX6_areSame : ByteArray := prog_8_method_53_code
def yX6_areSame : MethodName := ⟨RX6, "areSame", "(II)Z"⟩
abbrev cX6_joinedModes : ByteArray := prog_8_method_54_code
def yX6_joinedModes : MethodName := ⟨RX6, "joinedModes", "(III)I"⟩
def RJ6 : String := "java/lang/Integer"
def TJ6 : u_T := fun k => match k with
  | _ => ("", "", "", false)
def tyJ6 : Nat → FieldType := fun k => match k with
  | _ => .int
abbrev wsJ60 : List Cond := u_ws RJ6 TJ6 0
theorem nmJ6 : ∀ a, a < 0 → ∀ b, b < 0 → a ≠ b → (TJ6 a).2.1 ≠ (TJ6 b).2.1 := by decide +kernel
theorem tyJ6_ok : ∀ k, k < 0 → parseFieldDescriptor (TJ6 k).2.2.1 = some (tyJ6 k) := by decide +kernel
abbrev cJ6_bitCount_0f7a4 : ByteArray := prog_13_method_49_code
def yJ6_bitCount_0f7a4 : MethodName := ⟨RJ6, "bitCount", "(I)I"⟩
def RJ9 : String := "java/lang/Math"
def TJ9 : u_T := fun k => match k with
  | _ => ("", "", "", false)
def tyJ9 : Nat → FieldType := fun k => match k with
  | _ => .int
abbrev wsJ90 : List Cond := u_ws RJ9 TJ9 0
theorem nmJ9 : ∀ a, a < 0 → ∀ b, b < 0 → a ≠ b → (TJ9 a).2.1 ≠ (TJ9 b).2.1 := by decide +kernel
theorem tyJ9_ok : ∀ k, k < 0 → parseFieldDescriptor (TJ9 k).2.2.1 = some (tyJ9 k) := by decide +kernel
abbrev cJ9_min_7cf53 : ByteArray := prog_14_method_69_code
def yJ9_min_7cf53 : MethodName := ⟨RJ9, "min", "(II)I"⟩
def RJ0 : String := "java/lang/String"
def TJ0 : u_T := fun k => match k with
  | _ => ("", "", "", false)
def tyJ0 : Nat → FieldType := fun k => match k with
  | _ => .int
abbrev wsJ00 : List Cond := u_ws RJ0 TJ0 0
theorem nmJ0 : ∀ a, a < 0 → ∀ b, b < 0 → a ≠ b → (TJ0 a).2.1 ≠ (TJ0 b).2.1 := by decide +kernel
theorem tyJ0_ok : ∀ k, k < 0 → parseFieldDescriptor (TJ0 k).2.2.1 = some (tyJ0 k) := by decide +kernel
def RL : String := "ChatRelayLaw"
abbrev cL_link : ByteArray := method_3_code
def yL_link : MethodName := ⟨RL, "link", "(LChatRelay;II[J)I"⟩
abbrev cL_split : ByteArray := method_4_code
def yL_split : MethodName := ⟨RL, "split", "(LChatRelay;II[J)I"⟩
abbrev cL_deliver : ByteArray := method_5_code
def yL_deliver : MethodName := ⟨RL, "deliver", "(LChatRelay;II[J)I"⟩
abbrev cL_tree : ByteArray := method_6_code
def yL_tree : MethodName := ⟨RL, "tree", "(LChatRelay;I[J)I"⟩
abbrev cL_signOn : ByteArray := method_7_code
def yL_signOn : MethodName := ⟨RL, "signOn", "(LChatRelay;IC[J)I"⟩
abbrev cL_quit : ByteArray := method_8_code
def yL_quit : MethodName := ⟨RL, "quit", "(LChatRelay;I)I"⟩
abbrev cL_join : ByteArray := method_9_code
def yL_join : MethodName := ⟨RL, "join", "(LChatRelay;II[J)I"⟩
abbrev cL_leave : ByteArray := method_10_code
def yL_leave : MethodName := ⟨RL, "leave", "(LChatRelay;II)I"⟩
abbrev cL_setModes : ByteArray := method_11_code
def yL_setModes : MethodName := ⟨RL, "setModes", "(LChatRelay;IIII[J)I"⟩
abbrev cL_say : ByteArray := method_12_code
def yL_say : MethodName := ⟨RL, "say", "(LChatRelay;II[J)I"⟩
abbrev cL_known : ByteArray := method_13_code
def yL_known : MethodName := ⟨RL, "known", "(LChatRelay;I[J)I"⟩
abbrev cL_members : ByteArray := method_14_code
def yL_members : MethodName := ⟨RL, "members", "(LChatRelay;II[J)I"⟩
abbrev cL_age : ByteArray := method_15_code
def yL_age : MethodName := ⟨RL, "age", "(LChatRelay;II[J)I"⟩
abbrev cL_modes : ByteArray := method_16_code
def yL_modes : MethodName := ⟨RL, "modes", "(LChatRelay;II[J)I"⟩
abbrev cL_bans : ByteArray := method_17_code
def yL_bans : MethodName := ⟨RL, "bans", "(LChatRelay;II[J)I"⟩
abbrev cL_areSame : ByteArray := method_18_code
def yL_areSame : MethodName := ⟨RL, "areSame", "(LChatRelay;II[J)I"⟩
abbrev cL_joinedModes : ByteArray := method_19_code
def yL_joinedModes : MethodName := ⟨RL, "joinedModes", "(LChatRelay;III[J)I"⟩
abbrev cL_law : ByteArray := code
def yL_law : MethodName := ⟨RL, "law", "([I)Z"⟩
abbrev vwCl : List vw_C := [(RX0, TX0, 4), (RX1, TX1, 8), (RX2, TX2, 2), (RX3, TX3, 2), (RX4, TX4, 5), (RX5, TX5, 8), (RX6, TX6, 29)]
theorem dX0_init_0 : decode cX0_init 0 = .ok (.aload_n 0, 1) := by decide +kernel
theorem dX0_init_1 : decode cX0_init 1 = .ok (.invokespecial 3, 3) := by decide +kernel
theorem dX0_init_4 : decode cX0_init 4 = .ok (.aload_n 0, 1) := by decide +kernel
theorem dX0_init_5 : decode cX0_init 5 = .ok (.iconst (-1), 1) := by decide +kernel
theorem dX0_init_6 : decode cX0_init 6 = .ok (.putfield 9, 3) := by decide +kernel
theorem dX0_init_9 : decode cX0_init 9 = .ok (.aload_n 0, 1) := by decide +kernel
theorem dX0_init_10 : decode cX0_init 10 = .ok (.iconst (-1), 1) := by decide +kernel
theorem dX0_init_11 : decode cX0_init 11 = .ok (.putfield 15, 3) := by decide +kernel
theorem dX0_init_14 : decode cX0_init 14 = .ok (.aload_n 0, 1) := by decide +kernel
theorem dX0_init_15 : decode cX0_init 15 = .ok (.iconst (-1), 1) := by decide +kernel
theorem dX0_init_16 : decode cX0_init 16 = .ok (.putfield 18, 3) := by decide +kernel
theorem dX0_init_19 : decode cX0_init 19 = .ok (.aload_n 0, 1) := by decide +kernel
theorem dX0_init_20 : decode cX0_init 20 = .ok (.iconst 0, 1) := by decide +kernel
theorem dX0_init_21 : decode cX0_init 21 = .ok (.putfield 21, 3) := by decide +kernel
theorem dX0_init_24 : decode cX0_init 24 = .ok (.return_, 1) := by decide +kernel
theorem dX0_isThere_0 : decode cX0_isThere 0 = .ok (.aload_n 0, 1) := by decide +kernel
theorem dX0_isThere_1 : decode cX0_isThere 1 = .ok (.getfield 21, 3) := by decide +kernel
theorem dX0_isThere_4 : decode cX0_isThere 4 = .ok (.ifCond .eq 7, 3) := by decide +kernel
theorem dX0_isThere_7 : decode cX0_isThere 7 = .ok (.iconst 1, 1) := by decide +kernel
theorem dX0_isThere_8 : decode cX0_isThere 8 = .ok (.goto 4, 3) := by decide +kernel
theorem dX0_isThere_11 : decode cX0_isThere 11 = .ok (.iconst 0, 1) := by decide +kernel
theorem dX0_isThere_12 : decode cX0_isThere 12 = .ok (.ireturn, 1) := by decide +kernel
theorem dX0_enter_0 : decode cX0_enter 0 = .ok (.aload_n 0, 1) := by decide +kernel
theorem dX0_enter_1 : decode cX0_enter 1 = .ok (.getfield 21, 3) := by decide +kernel
theorem dX0_enter_4 : decode cX0_enter 4 = .ok (.ifCond .ne 18, 3) := by decide +kernel
theorem dX0_enter_7 : decode cX0_enter 7 = .ok (.aload_n 0, 1) := by decide +kernel
theorem dX0_enter_8 : decode cX0_enter 8 = .ok (.iload_n 2, 1) := by decide +kernel
theorem dX0_enter_9 : decode cX0_enter 9 = .ok (.putfield 9, 3) := by decide +kernel
theorem dX0_enter_12 : decode cX0_enter 12 = .ok (.aload_n 0, 1) := by decide +kernel
theorem dX0_enter_13 : decode cX0_enter 13 = .ok (.iconst 0, 1) := by decide +kernel
theorem dX0_enter_14 : decode cX0_enter 14 = .ok (.putfield 15, 3) := by decide +kernel
theorem dX0_enter_17 : decode cX0_enter 17 = .ok (.aload_n 0, 1) := by decide +kernel
theorem dX0_enter_18 : decode cX0_enter 18 = .ok (.iconst 0, 1) := by decide +kernel
theorem dX0_enter_19 : decode cX0_enter 19 = .ok (.putfield 18, 3) := by decide +kernel
theorem dX0_enter_22 : decode cX0_enter 22 = .ok (.aload_n 0, 1) := by decide +kernel
theorem dX0_enter_23 : decode cX0_enter 23 = .ok (.dup, 1) := by decide +kernel
theorem dX0_enter_24 : decode cX0_enter 24 = .ok (.getfield 21, 3) := by decide +kernel
theorem dX0_enter_27 : decode cX0_enter 27 = .ok (.iconst 1, 1) := by decide +kernel
theorem dX0_enter_28 : decode cX0_enter 28 = .ok (.iload_n 1, 1) := by decide +kernel
theorem dX0_enter_29 : decode cX0_enter 29 = .ok (.ishl, 1) := by decide +kernel
theorem dX0_enter_30 : decode cX0_enter 30 = .ok (.ior, 1) := by decide +kernel
theorem dX0_enter_31 : decode cX0_enter 31 = .ok (.putfield 21, 3) := by decide +kernel
theorem dX0_enter_34 : decode cX0_enter 34 = .ok (.return_, 1) := by decide +kernel
theorem dX0_drop_0 : decode cX0_drop 0 = .ok (.aload_n 0, 1) := by decide +kernel
theorem dX0_drop_1 : decode cX0_drop 1 = .ok (.dup, 1) := by decide +kernel
theorem dX0_drop_2 : decode cX0_drop 2 = .ok (.getfield 21, 3) := by decide +kernel
theorem dX0_drop_5 : decode cX0_drop 5 = .ok (.iconst 1, 1) := by decide +kernel
theorem dX0_drop_6 : decode cX0_drop 6 = .ok (.iload_n 1, 1) := by decide +kernel
theorem dX0_drop_7 : decode cX0_drop 7 = .ok (.ishl, 1) := by decide +kernel
theorem dX0_drop_8 : decode cX0_drop 8 = .ok (.iconst (-1), 1) := by decide +kernel
theorem dX0_drop_9 : decode cX0_drop 9 = .ok (.ixor, 1) := by decide +kernel
theorem dX0_drop_10 : decode cX0_drop 10 = .ok (.iand, 1) := by decide +kernel
theorem dX0_drop_11 : decode cX0_drop 11 = .ok (.putfield 21, 3) := by decide +kernel
theorem dX0_drop_14 : decode cX0_drop 14 = .ok (.aload_n 0, 1) := by decide +kernel
theorem dX0_drop_15 : decode cX0_drop 15 = .ok (.getfield 21, 3) := by decide +kernel
theorem dX0_drop_18 : decode cX0_drop 18 = .ok (.ifCond .ne 18, 3) := by decide +kernel
theorem dX0_drop_21 : decode cX0_drop 21 = .ok (.aload_n 0, 1) := by decide +kernel
theorem dX0_drop_22 : decode cX0_drop 22 = .ok (.iconst (-1), 1) := by decide +kernel
theorem dX0_drop_23 : decode cX0_drop 23 = .ok (.putfield 9, 3) := by decide +kernel
theorem dX0_drop_26 : decode cX0_drop 26 = .ok (.aload_n 0, 1) := by decide +kernel
theorem dX0_drop_27 : decode cX0_drop 27 = .ok (.iconst (-1), 1) := by decide +kernel
theorem dX0_drop_28 : decode cX0_drop 28 = .ok (.putfield 15, 3) := by decide +kernel
theorem dX0_drop_31 : decode cX0_drop 31 = .ok (.aload_n 0, 1) := by decide +kernel
theorem dX0_drop_32 : decode cX0_drop 32 = .ok (.iconst (-1), 1) := by decide +kernel
theorem dX0_drop_33 : decode cX0_drop 33 = .ok (.putfield 18, 3) := by decide +kernel
theorem dX0_drop_36 : decode cX0_drop 36 = .ok (.return_, 1) := by decide +kernel
theorem dX0_takeIn_0 : decode cX0_takeIn 0 = .ok (.aload_n 0, 1) := by decide +kernel
theorem dX0_takeIn_1 : decode cX0_takeIn 1 = .ok (.aload_n 0, 1) := by decide +kernel
theorem dX0_takeIn_2 : decode cX0_takeIn 2 = .ok (.getfield 9, 3) := by decide +kernel
theorem dX0_takeIn_5 : decode cX0_takeIn 5 = .ok (.aload_n 0, 1) := by decide +kernel
theorem dX0_takeIn_6 : decode cX0_takeIn 6 = .ok (.getfield 15, 3) := by decide +kernel
theorem dX0_takeIn_9 : decode cX0_takeIn 9 = .ok (.aload_n 1, 1) := by decide +kernel
theorem dX0_takeIn_10 : decode cX0_takeIn 10 = .ok (.getfield 24, 3) := by decide +kernel
theorem dX0_takeIn_13 : decode cX0_takeIn 13 = .ok (.aload_n 1, 1) := by decide +kernel
theorem dX0_takeIn_14 : decode cX0_takeIn 14 = .ok (.getfield 27, 3) := by decide +kernel
theorem dX0_takeIn_17 : decode cX0_takeIn 17 = .ok (.invokestatic 28, 3) := by decide +kernel
theorem dX0_takeIn_20 : decode cX0_takeIn 20 = .ok (.putfield 15, 3) := by decide +kernel
theorem dX0_takeIn_23 : decode cX0_takeIn 23 = .ok (.aload_n 0, 1) := by decide +kernel
theorem dX0_takeIn_24 : decode cX0_takeIn 24 = .ok (.aload_n 0, 1) := by decide +kernel
theorem dX0_takeIn_25 : decode cX0_takeIn 25 = .ok (.getfield 9, 3) := by decide +kernel
theorem dX0_takeIn_28 : decode cX0_takeIn 28 = .ok (.aload_n 0, 1) := by decide +kernel
theorem dX0_takeIn_29 : decode cX0_takeIn 29 = .ok (.getfield 18, 3) := by decide +kernel
theorem dX0_takeIn_32 : decode cX0_takeIn 32 = .ok (.aload_n 1, 1) := by decide +kernel
theorem dX0_takeIn_33 : decode cX0_takeIn 33 = .ok (.getfield 24, 3) := by decide +kernel
theorem dX0_takeIn_36 : decode cX0_takeIn 36 = .ok (.aload_n 1, 1) := by decide +kernel
theorem dX0_takeIn_37 : decode cX0_takeIn 37 = .ok (.getfield 32, 3) := by decide +kernel
theorem dX0_takeIn_40 : decode cX0_takeIn 40 = .ok (.invokestatic 28, 3) := by decide +kernel
theorem dX0_takeIn_43 : decode cX0_takeIn 43 = .ok (.putfield 18, 3) := by decide +kernel
theorem dX0_takeIn_46 : decode cX0_takeIn 46 = .ok (.aload_n 0, 1) := by decide +kernel
theorem dX0_takeIn_47 : decode cX0_takeIn 47 = .ok (.aload_n 0, 1) := by decide +kernel
theorem dX0_takeIn_48 : decode cX0_takeIn 48 = .ok (.getfield 9, 3) := by decide +kernel
theorem dX0_takeIn_51 : decode cX0_takeIn 51 = .ok (.iconst (-1), 1) := by decide +kernel
theorem dX0_takeIn_52 : decode cX0_takeIn 52 = .ok (.if_icmp .ne 10, 3) := by decide +kernel
theorem dX0_takeIn_55 : decode cX0_takeIn 55 = .ok (.aload_n 1, 1) := by decide +kernel
theorem dX0_takeIn_56 : decode cX0_takeIn 56 = .ok (.getfield 24, 3) := by decide +kernel
theorem dX0_takeIn_59 : decode cX0_takeIn 59 = .ok (.goto 14, 3) := by decide +kernel
theorem dX0_takeIn_62 : decode cX0_takeIn 62 = .ok (.aload_n 0, 1) := by decide +kernel
theorem dX0_takeIn_63 : decode cX0_takeIn 63 = .ok (.getfield 9, 3) := by decide +kernel
theorem dX0_takeIn_66 : decode cX0_takeIn 66 = .ok (.aload_n 1, 1) := by decide +kernel
theorem dX0_takeIn_67 : decode cX0_takeIn 67 = .ok (.getfield 24, 3) := by decide +kernel
theorem dX0_takeIn_70 : decode cX0_takeIn 70 = .ok (.invokestatic 33, 3) := by decide +kernel
theorem dX0_takeIn_73 : decode cX0_takeIn 73 = .ok (.putfield 9, 3) := by decide +kernel
theorem dX0_takeIn_76 : decode cX0_takeIn 76 = .ok (.aload_n 0, 1) := by decide +kernel
theorem dX0_takeIn_77 : decode cX0_takeIn 77 = .ok (.dup, 1) := by decide +kernel
theorem dX0_takeIn_78 : decode cX0_takeIn 78 = .ok (.getfield 21, 3) := by decide +kernel
theorem dX0_takeIn_81 : decode cX0_takeIn 81 = .ok (.iload_n 2, 1) := by decide +kernel
theorem dX0_takeIn_82 : decode cX0_takeIn 82 = .ok (.ior, 1) := by decide +kernel
theorem dX0_takeIn_83 : decode cX0_takeIn 83 = .ok (.putfield 21, 3) := by decide +kernel
theorem dX0_takeIn_86 : decode cX0_takeIn 86 = .ok (.return_, 1) := by decide +kernel
theorem dX0_looksLike_0 : decode cX0_looksLike 0 = .ok (.aload_n 0, 1) := by decide +kernel
theorem dX0_looksLike_1 : decode cX0_looksLike 1 = .ok (.getfield 9, 3) := by decide +kernel
theorem dX0_looksLike_4 : decode cX0_looksLike 4 = .ok (.aload_n 1, 1) := by decide +kernel
theorem dX0_looksLike_5 : decode cX0_looksLike 5 = .ok (.getfield 9, 3) := by decide +kernel
theorem dX0_looksLike_8 : decode cX0_looksLike 8 = .ok (.if_icmp .ne 40, 3) := by decide +kernel
theorem dX0_looksLike_11 : decode cX0_looksLike 11 = .ok (.aload_n 0, 1) := by decide +kernel
theorem dX0_looksLike_12 : decode cX0_looksLike 12 = .ok (.getfield 15, 3) := by decide +kernel
theorem dX0_looksLike_15 : decode cX0_looksLike 15 = .ok (.aload_n 1, 1) := by decide +kernel
theorem dX0_looksLike_16 : decode cX0_looksLike 16 = .ok (.getfield 15, 3) := by decide +kernel
theorem dX0_looksLike_19 : decode cX0_looksLike 19 = .ok (.if_icmp .ne 29, 3) := by decide +kernel
theorem dX0_looksLike_22 : decode cX0_looksLike 22 = .ok (.aload_n 0, 1) := by decide +kernel
theorem dX0_looksLike_23 : decode cX0_looksLike 23 = .ok (.getfield 18, 3) := by decide +kernel
theorem dX0_looksLike_26 : decode cX0_looksLike 26 = .ok (.aload_n 1, 1) := by decide +kernel
theorem dX0_looksLike_27 : decode cX0_looksLike 27 = .ok (.getfield 18, 3) := by decide +kernel
theorem dX0_looksLike_30 : decode cX0_looksLike 30 = .ok (.if_icmp .ne 18, 3) := by decide +kernel
theorem dX0_looksLike_33 : decode cX0_looksLike 33 = .ok (.aload_n 0, 1) := by decide +kernel
theorem dX0_looksLike_34 : decode cX0_looksLike 34 = .ok (.getfield 21, 3) := by decide +kernel
theorem dX0_looksLike_37 : decode cX0_looksLike 37 = .ok (.aload_n 1, 1) := by decide +kernel
theorem dX0_looksLike_38 : decode cX0_looksLike 38 = .ok (.getfield 21, 3) := by decide +kernel
theorem dX0_looksLike_41 : decode cX0_looksLike 41 = .ok (.if_icmp .ne 7, 3) := by decide +kernel
theorem dX0_looksLike_44 : decode cX0_looksLike 44 = .ok (.iconst 1, 1) := by decide +kernel
theorem dX0_looksLike_45 : decode cX0_looksLike 45 = .ok (.goto 4, 3) := by decide +kernel
theorem dX0_looksLike_48 : decode cX0_looksLike 48 = .ok (.iconst 0, 1) := by decide +kernel
theorem dX0_looksLike_49 : decode cX0_looksLike 49 = .ok (.ireturn, 1) := by decide +kernel
theorem dX1_init_0 : decode cX1_init 0 = .ok (.aload_n 0, 1) := by decide +kernel
theorem dX1_init_1 : decode cX1_init 1 = .ok (.invokespecial 3, 3) := by decide +kernel
theorem dX1_init_4 : decode cX1_init 4 = .ok (.aload_n 0, 1) := by decide +kernel
theorem dX1_init_5 : decode cX1_init 5 = .ok (.iconst 1, 1) := by decide +kernel
theorem dX1_init_6 : decode cX1_init 6 = .ok (.putfield 9, 3) := by decide +kernel
theorem dX1_init_9 : decode cX1_init 9 = .ok (.aload_n 0, 1) := by decide +kernel
theorem dX1_init_10 : decode cX1_init 10 = .ok (.iconst 0, 1) := by decide +kernel
theorem dX1_init_11 : decode cX1_init 11 = .ok (.putfield 15, 3) := by decide +kernel
theorem dX1_init_14 : decode cX1_init 14 = .ok (.aload_n 0, 1) := by decide +kernel
theorem dX1_init_15 : decode cX1_init 15 = .ok (.iconst 0, 1) := by decide +kernel
theorem dX1_init_16 : decode cX1_init 16 = .ok (.putfield 18, 3) := by decide +kernel
theorem dX1_init_19 : decode cX1_init 19 = .ok (.aload_n 0, 1) := by decide +kernel
theorem dX1_init_20 : decode cX1_init 20 = .ok (.iconst 0, 1) := by decide +kernel
theorem dX1_init_21 : decode cX1_init 21 = .ok (.putfield 21, 3) := by decide +kernel
theorem dX1_init_24 : decode cX1_init 24 = .ok (.aload_n 0, 1) := by decide +kernel
theorem dX1_init_25 : decode cX1_init 25 = .ok (.iconst 0, 1) := by decide +kernel
theorem dX1_init_26 : decode cX1_init 26 = .ok (.putfield 24, 3) := by decide +kernel
theorem dX1_init_29 : decode cX1_init 29 = .ok (.aload_n 0, 1) := by decide +kernel
theorem dX1_init_30 : decode cX1_init 30 = .ok (.iconst 0, 1) := by decide +kernel
theorem dX1_init_31 : decode cX1_init 31 = .ok (.putfield 27, 3) := by decide +kernel
theorem dX1_init_34 : decode cX1_init 34 = .ok (.aload_n 0, 1) := by decide +kernel
theorem dX1_init_35 : decode cX1_init 35 = .ok (.iconst 0, 1) := by decide +kernel
theorem dX1_init_36 : decode cX1_init 36 = .ok (.putfield 30, 3) := by decide +kernel
theorem dX1_init_39 : decode cX1_init 39 = .ok (.aload_n 0, 1) := by decide +kernel
theorem dX1_init_40 : decode cX1_init 40 = .ok (.aconst_null, 1) := by decide +kernel
theorem dX1_init_41 : decode cX1_init 41 = .ok (.putfield 33, 3) := by decide +kernel
theorem dX1_init_44 : decode cX1_init 44 = .ok (.return_, 1) := by decide +kernel
theorem dX1_ofUser_0 : decode cX1_ofUser 0 = .ok (.aload_n 0, 1) := by decide +kernel
theorem dX1_ofUser_1 : decode cX1_ofUser 1 = .ok (.iload_n 1, 1) := by decide +kernel
theorem dX1_ofUser_2 : decode cX1_ofUser 2 = .ok (.putfield 9, 3) := by decide +kernel
theorem dX1_ofUser_5 : decode cX1_ofUser 5 = .ok (.aload_n 0, 1) := by decide +kernel
theorem dX1_ofUser_6 : decode cX1_ofUser 6 = .ok (.iload_n 2, 1) := by decide +kernel
theorem dX1_ofUser_7 : decode cX1_ofUser 7 = .ok (.putfield 15, 3) := by decide +kernel
theorem dX1_ofUser_10 : decode cX1_ofUser 10 = .ok (.aload_n 0, 1) := by decide +kernel
theorem dX1_ofUser_11 : decode cX1_ofUser 11 = .ok (.areturn, 1) := by decide +kernel
theorem dX1_ofLeave_0 : decode cX1_ofLeave 0 = .ok (.aload_n 0, 1) := by decide +kernel
theorem dX1_ofLeave_1 : decode cX1_ofLeave 1 = .ok (.iconst 3, 1) := by decide +kernel
theorem dX1_ofLeave_2 : decode cX1_ofLeave 2 = .ok (.putfield 9, 3) := by decide +kernel
theorem dX1_ofLeave_5 : decode cX1_ofLeave 5 = .ok (.aload_n 0, 1) := by decide +kernel
theorem dX1_ofLeave_6 : decode cX1_ofLeave 6 = .ok (.iload_n 1, 1) := by decide +kernel
theorem dX1_ofLeave_7 : decode cX1_ofLeave 7 = .ok (.putfield 18, 3) := by decide +kernel
theorem dX1_ofLeave_10 : decode cX1_ofLeave 10 = .ok (.aload_n 0, 1) := by decide +kernel
theorem dX1_ofLeave_11 : decode cX1_ofLeave 11 = .ok (.iload_n 2, 1) := by decide +kernel
theorem dX1_ofLeave_12 : decode cX1_ofLeave 12 = .ok (.putfield 15, 3) := by decide +kernel
theorem dX1_ofLeave_15 : decode cX1_ofLeave 15 = .ok (.aload_n 0, 1) := by decide +kernel
theorem dX1_ofLeave_16 : decode cX1_ofLeave 16 = .ok (.areturn, 1) := by decide +kernel
theorem dX1_ofChannel_0 : decode cX1_ofChannel 0 = .ok (.aload_n 0, 1) := by decide +kernel
theorem dX1_ofChannel_1 : decode cX1_ofChannel 1 = .ok (.iload_n 1, 1) := by decide +kernel
theorem dX1_ofChannel_2 : decode cX1_ofChannel 2 = .ok (.putfield 9, 3) := by decide +kernel
theorem dX1_ofChannel_5 : decode cX1_ofChannel 5 = .ok (.aload_n 0, 1) := by decide +kernel
theorem dX1_ofChannel_6 : decode cX1_ofChannel 6 = .ok (.iload_n 2, 1) := by decide +kernel
theorem dX1_ofChannel_7 : decode cX1_ofChannel 7 = .ok (.putfield 18, 3) := by decide +kernel
theorem dX1_ofChannel_10 : decode cX1_ofChannel 10 = .ok (.aload_n 0, 1) := by decide +kernel
theorem dX1_ofChannel_11 : decode cX1_ofChannel 11 = .ok (.aload_n 3, 1) := by decide +kernel
theorem dX1_ofChannel_12 : decode cX1_ofChannel 12 = .ok (.getfield 37, 3) := by decide +kernel
theorem dX1_ofChannel_15 : decode cX1_ofChannel 15 = .ok (.putfield 21, 3) := by decide +kernel
theorem dX1_ofChannel_18 : decode cX1_ofChannel 18 = .ok (.aload_n 0, 1) := by decide +kernel
theorem dX1_ofChannel_19 : decode cX1_ofChannel 19 = .ok (.aload_n 3, 1) := by decide +kernel
theorem dX1_ofChannel_20 : decode cX1_ofChannel 20 = .ok (.getfield 40, 3) := by decide +kernel
theorem dX1_ofChannel_23 : decode cX1_ofChannel 23 = .ok (.putfield 24, 3) := by decide +kernel
theorem dX1_ofChannel_26 : decode cX1_ofChannel 26 = .ok (.aload_n 0, 1) := by decide +kernel
theorem dX1_ofChannel_27 : decode cX1_ofChannel 27 = .ok (.aload_n 3, 1) := by decide +kernel
theorem dX1_ofChannel_28 : decode cX1_ofChannel 28 = .ok (.getfield 41, 3) := by decide +kernel
theorem dX1_ofChannel_31 : decode cX1_ofChannel 31 = .ok (.putfield 27, 3) := by decide +kernel
theorem dX1_ofChannel_34 : decode cX1_ofChannel 34 = .ok (.aload_n 0, 1) := by decide +kernel
theorem dX1_ofChannel_35 : decode cX1_ofChannel 35 = .ok (.iload 4, 2) := by decide +kernel
theorem dX1_ofChannel_37 : decode cX1_ofChannel 37 = .ok (.putfield 30, 3) := by decide +kernel
theorem dX1_ofChannel_40 : decode cX1_ofChannel 40 = .ok (.aload_n 0, 1) := by decide +kernel
theorem dX1_ofChannel_41 : decode cX1_ofChannel 41 = .ok (.areturn, 1) := by decide +kernel
theorem dX1_copyFrom_0 : decode cX1_copyFrom 0 = .ok (.aload_n 0, 1) := by decide +kernel
theorem dX1_copyFrom_1 : decode cX1_copyFrom 1 = .ok (.aload_n 1, 1) := by decide +kernel
theorem dX1_copyFrom_2 : decode cX1_copyFrom 2 = .ok (.getfield 9, 3) := by decide +kernel
theorem dX1_copyFrom_5 : decode cX1_copyFrom 5 = .ok (.putfield 9, 3) := by decide +kernel
theorem dX1_copyFrom_8 : decode cX1_copyFrom 8 = .ok (.aload_n 0, 1) := by decide +kernel
theorem dX1_copyFrom_9 : decode cX1_copyFrom 9 = .ok (.aload_n 1, 1) := by decide +kernel
theorem dX1_copyFrom_10 : decode cX1_copyFrom 10 = .ok (.getfield 15, 3) := by decide +kernel
theorem dX1_copyFrom_13 : decode cX1_copyFrom 13 = .ok (.putfield 15, 3) := by decide +kernel
theorem dX1_copyFrom_16 : decode cX1_copyFrom 16 = .ok (.aload_n 0, 1) := by decide +kernel
theorem dX1_copyFrom_17 : decode cX1_copyFrom 17 = .ok (.aload_n 1, 1) := by decide +kernel
theorem dX1_copyFrom_18 : decode cX1_copyFrom 18 = .ok (.getfield 18, 3) := by decide +kernel
theorem dX1_copyFrom_21 : decode cX1_copyFrom 21 = .ok (.putfield 18, 3) := by decide +kernel
theorem dX1_copyFrom_24 : decode cX1_copyFrom 24 = .ok (.aload_n 0, 1) := by decide +kernel
theorem dX1_copyFrom_25 : decode cX1_copyFrom 25 = .ok (.aload_n 1, 1) := by decide +kernel
theorem dX1_copyFrom_26 : decode cX1_copyFrom 26 = .ok (.getfield 21, 3) := by decide +kernel
theorem dX1_copyFrom_29 : decode cX1_copyFrom 29 = .ok (.putfield 21, 3) := by decide +kernel
theorem dX1_copyFrom_32 : decode cX1_copyFrom 32 = .ok (.aload_n 0, 1) := by decide +kernel
theorem dX1_copyFrom_33 : decode cX1_copyFrom 33 = .ok (.aload_n 1, 1) := by decide +kernel
theorem dX1_copyFrom_34 : decode cX1_copyFrom 34 = .ok (.getfield 24, 3) := by decide +kernel
theorem dX1_copyFrom_37 : decode cX1_copyFrom 37 = .ok (.putfield 24, 3) := by decide +kernel
theorem dX1_copyFrom_40 : decode cX1_copyFrom 40 = .ok (.aload_n 0, 1) := by decide +kernel
theorem dX1_copyFrom_41 : decode cX1_copyFrom 41 = .ok (.aload_n 1, 1) := by decide +kernel
theorem dX1_copyFrom_42 : decode cX1_copyFrom 42 = .ok (.getfield 27, 3) := by decide +kernel
theorem dX1_copyFrom_45 : decode cX1_copyFrom 45 = .ok (.putfield 27, 3) := by decide +kernel
theorem dX1_copyFrom_48 : decode cX1_copyFrom 48 = .ok (.aload_n 0, 1) := by decide +kernel
theorem dX1_copyFrom_49 : decode cX1_copyFrom 49 = .ok (.aload_n 1, 1) := by decide +kernel
theorem dX1_copyFrom_50 : decode cX1_copyFrom 50 = .ok (.getfield 30, 3) := by decide +kernel
theorem dX1_copyFrom_53 : decode cX1_copyFrom 53 = .ok (.putfield 30, 3) := by decide +kernel
theorem dX1_copyFrom_56 : decode cX1_copyFrom 56 = .ok (.return_, 1) := by decide +kernel
theorem dX2_init_0 : decode cX2_init 0 = .ok (.aload_n 0, 1) := by decide +kernel
theorem dX2_init_1 : decode cX2_init 1 = .ok (.invokespecial 1, 3) := by decide +kernel
theorem dX2_init_4 : decode cX2_init 4 = .ok (.aload_n 0, 1) := by decide +kernel
theorem dX2_init_5 : decode cX2_init 5 = .ok (.aconst_null, 1) := by decide +kernel
theorem dX2_init_6 : decode cX2_init 6 = .ok (.putfield 7, 3) := by decide +kernel
theorem dX2_init_9 : decode cX2_init 9 = .ok (.aload_n 0, 1) := by decide +kernel
theorem dX2_init_10 : decode cX2_init 10 = .ok (.aconst_null, 1) := by decide +kernel
theorem dX2_init_11 : decode cX2_init 11 = .ok (.putfield 13, 3) := by decide +kernel
theorem dX2_init_14 : decode cX2_init 14 = .ok (.return_, 1) := by decide +kernel
theorem dX2_append_0 : decode cX2_append 0 = .ok (.aload_n 1, 1) := by decide +kernel
theorem dX2_append_1 : decode cX2_append 1 = .ok (.aconst_null, 1) := by decide +kernel
theorem dX2_append_2 : decode cX2_append 2 = .ok (.putfield 16, 3) := by decide +kernel
theorem dX2_append_5 : decode cX2_append 5 = .ok (.aload_n 0, 1) := by decide +kernel
theorem dX2_append_6 : decode cX2_append 6 = .ok (.getfield 13, 3) := by decide +kernel
theorem dX2_append_9 : decode cX2_append 9 = .ok (.ifnonnull 11, 3) := by decide +kernel
theorem dX2_append_12 : decode cX2_append 12 = .ok (.aload_n 0, 1) := by decide +kernel
theorem dX2_append_13 : decode cX2_append 13 = .ok (.aload_n 1, 1) := by decide +kernel
theorem dX2_append_14 : decode cX2_append 14 = .ok (.putfield 7, 3) := by decide +kernel
theorem dX2_append_17 : decode cX2_append 17 = .ok (.goto 11, 3) := by decide +kernel
theorem dX2_append_20 : decode cX2_append 20 = .ok (.aload_n 0, 1) := by decide +kernel
theorem dX2_append_21 : decode cX2_append 21 = .ok (.getfield 13, 3) := by decide +kernel
theorem dX2_append_24 : decode cX2_append 24 = .ok (.aload_n 1, 1) := by decide +kernel
theorem dX2_append_25 : decode cX2_append 25 = .ok (.putfield 16, 3) := by decide +kernel
theorem dX2_append_28 : decode cX2_append 28 = .ok (.aload_n 0, 1) := by decide +kernel
theorem dX2_append_29 : decode cX2_append 29 = .ok (.aload_n 1, 1) := by decide +kernel
theorem dX2_append_30 : decode cX2_append 30 = .ok (.putfield 13, 3) := by decide +kernel
theorem dX2_append_33 : decode cX2_append 33 = .ok (.return_, 1) := by decide +kernel
theorem dX2_takeFirst_0 : decode cX2_takeFirst 0 = .ok (.aload_n 0, 1) := by decide +kernel
theorem dX2_takeFirst_1 : decode cX2_takeFirst 1 = .ok (.getfield 7, 3) := by decide +kernel
theorem dX2_takeFirst_4 : decode cX2_takeFirst 4 = .ok (.astore_n 1, 1) := by decide +kernel
theorem dX2_takeFirst_5 : decode cX2_takeFirst 5 = .ok (.aload_n 1, 1) := by decide +kernel
theorem dX2_takeFirst_6 : decode cX2_takeFirst 6 = .ok (.ifnull 28, 3) := by decide +kernel
theorem dX2_takeFirst_9 : decode cX2_takeFirst 9 = .ok (.aload_n 0, 1) := by decide +kernel
theorem dX2_takeFirst_10 : decode cX2_takeFirst 10 = .ok (.aload_n 1, 1) := by decide +kernel
theorem dX2_takeFirst_11 : decode cX2_takeFirst 11 = .ok (.getfield 16, 3) := by decide +kernel
theorem dX2_takeFirst_14 : decode cX2_takeFirst 14 = .ok (.putfield 7, 3) := by decide +kernel
theorem dX2_takeFirst_17 : decode cX2_takeFirst 17 = .ok (.aload_n 0, 1) := by decide +kernel
theorem dX2_takeFirst_18 : decode cX2_takeFirst 18 = .ok (.getfield 7, 3) := by decide +kernel
theorem dX2_takeFirst_21 : decode cX2_takeFirst 21 = .ok (.ifnonnull 8, 3) := by decide +kernel
theorem dX2_takeFirst_24 : decode cX2_takeFirst 24 = .ok (.aload_n 0, 1) := by decide +kernel
theorem dX2_takeFirst_25 : decode cX2_takeFirst 25 = .ok (.aconst_null, 1) := by decide +kernel
theorem dX2_takeFirst_26 : decode cX2_takeFirst 26 = .ok (.putfield 13, 3) := by decide +kernel
theorem dX2_takeFirst_29 : decode cX2_takeFirst 29 = .ok (.aload_n 1, 1) := by decide +kernel
theorem dX2_takeFirst_30 : decode cX2_takeFirst 30 = .ok (.aconst_null, 1) := by decide +kernel
theorem dX2_takeFirst_31 : decode cX2_takeFirst 31 = .ok (.putfield 16, 3) := by decide +kernel
theorem dX2_takeFirst_34 : decode cX2_takeFirst 34 = .ok (.aload_n 1, 1) := by decide +kernel
theorem dX2_takeFirst_35 : decode cX2_takeFirst 35 = .ok (.areturn, 1) := by decide +kernel
theorem dX3_init_0 : decode cX3_init 0 = .ok (.aload_n 0, 1) := by decide +kernel
theorem dX3_init_1 : decode cX3_init 1 = .ok (.invokespecial 3, 3) := by decide +kernel
theorem dX3_init_4 : decode cX3_init 4 = .ok (.aload_n 0, 1) := by decide +kernel
theorem dX3_init_5 : decode cX3_init 5 = .ok (.iconst 0, 1) := by decide +kernel
theorem dX3_init_6 : decode cX3_init 6 = .ok (.putfield 9, 3) := by decide +kernel
theorem dX3_init_9 : decode cX3_init 9 = .ok (.aload_n 0, 1) := by decide +kernel
theorem dX3_init_10 : decode cX3_init 10 = .ok (.iconst 4, 1) := by decide +kernel
theorem dX3_init_11 : decode cX3_init 11 = .ok (.anewarray 15, 3) := by decide +kernel
theorem dX3_init_14 : decode cX3_init 14 = .ok (.putfield 17, 3) := by decide +kernel
theorem dX3_init_17 : decode cX3_init 17 = .ok (.iconst 0, 1) := by decide +kernel
theorem dX3_init_18 : decode cX3_init 18 = .ok (.istore_n 1, 1) := by decide +kernel
theorem dX3_init_19 : decode cX3_init 19 = .ok (.iload_n 1, 1) := by decide +kernel
theorem dX3_init_20 : decode cX3_init 20 = .ok (.iconst 4, 1) := by decide +kernel
theorem dX3_init_21 : decode cX3_init 21 = .ok (.if_icmp .ge 22, 3) := by decide +kernel
theorem dX3_init_24 : decode cX3_init 24 = .ok (.aload_n 0, 1) := by decide +kernel
theorem dX3_init_25 : decode cX3_init 25 = .ok (.getfield 17, 3) := by decide +kernel
theorem dX3_init_28 : decode cX3_init 28 = .ok (.iload_n 1, 1) := by decide +kernel
theorem dX3_init_29 : decode cX3_init 29 = .ok (.new 15, 3) := by decide +kernel
theorem dX3_init_32 : decode cX3_init 32 = .ok (.dup, 1) := by decide +kernel
theorem dX3_init_33 : decode cX3_init 33 = .ok (.invokespecial 21, 3) := by decide +kernel
theorem dX3_init_36 : decode cX3_init 36 = .ok (.aastore, 1) := by decide +kernel
theorem dX3_init_37 : decode cX3_init 37 = .ok (.iinc 1 1, 3) := by decide +kernel
theorem dX3_init_40 : decode cX3_init 40 = .ok (.goto (-21), 3) := by decide +kernel
theorem dX3_init_43 : decode cX3_init 43 = .ok (.return_, 1) := by decide +kernel
theorem dX3_knows_0 : decode cX3_knows 0 = .ok (.aload_n 0, 1) := by decide +kernel
theorem dX3_knows_1 : decode cX3_knows 1 = .ok (.getfield 9, 3) := by decide +kernel
theorem dX3_knows_4 : decode cX3_knows 4 = .ok (.iload_n 1, 1) := by decide +kernel
theorem dX3_knows_5 : decode cX3_knows 5 = .ok (.invokestatic 22, 3) := by decide +kernel
theorem dX3_knows_8 : decode cX3_knows 8 = .ok (.ireturn, 1) := by decide +kernel
theorem dX3_learn_0 : decode cX3_learn 0 = .ok (.aload_n 0, 1) := by decide +kernel
theorem dX3_learn_1 : decode cX3_learn 1 = .ok (.dup, 1) := by decide +kernel
theorem dX3_learn_2 : decode cX3_learn 2 = .ok (.getfield 9, 3) := by decide +kernel
theorem dX3_learn_5 : decode cX3_learn 5 = .ok (.iconst 1, 1) := by decide +kernel
theorem dX3_learn_6 : decode cX3_learn 6 = .ok (.iload_n 1, 1) := by decide +kernel
theorem dX3_learn_7 : decode cX3_learn 7 = .ok (.ishl, 1) := by decide +kernel
theorem dX3_learn_8 : decode cX3_learn 8 = .ok (.ior, 1) := by decide +kernel
theorem dX3_learn_9 : decode cX3_learn 9 = .ok (.putfield 9, 3) := by decide +kernel
theorem dX3_learn_12 : decode cX3_learn 12 = .ok (.return_, 1) := by decide +kernel
theorem dX3_forget_0 : decode cX3_forget 0 = .ok (.aload_n 0, 1) := by decide +kernel
theorem dX3_forget_1 : decode cX3_forget 1 = .ok (.dup, 1) := by decide +kernel
theorem dX3_forget_2 : decode cX3_forget 2 = .ok (.getfield 9, 3) := by decide +kernel
theorem dX3_forget_5 : decode cX3_forget 5 = .ok (.iconst 1, 1) := by decide +kernel
theorem dX3_forget_6 : decode cX3_forget 6 = .ok (.iload_n 1, 1) := by decide +kernel
theorem dX3_forget_7 : decode cX3_forget 7 = .ok (.ishl, 1) := by decide +kernel
theorem dX3_forget_8 : decode cX3_forget 8 = .ok (.iconst (-1), 1) := by decide +kernel
theorem dX3_forget_9 : decode cX3_forget 9 = .ok (.ixor, 1) := by decide +kernel
theorem dX3_forget_10 : decode cX3_forget 10 = .ok (.iand, 1) := by decide +kernel
theorem dX3_forget_11 : decode cX3_forget 11 = .ok (.putfield 9, 3) := by decide +kernel
theorem dX3_forget_14 : decode cX3_forget 14 = .ok (.iconst 0, 1) := by decide +kernel
theorem dX3_forget_15 : decode cX3_forget 15 = .ok (.istore_n 2, 1) := by decide +kernel
theorem dX3_forget_16 : decode cX3_forget 16 = .ok (.iload_n 2, 1) := by decide +kernel
theorem dX3_forget_17 : decode cX3_forget 17 = .ok (.iconst 4, 1) := by decide +kernel
theorem dX3_forget_18 : decode cX3_forget 18 = .ok (.if_icmp .ge 19, 3) := by decide +kernel
theorem dX3_forget_21 : decode cX3_forget 21 = .ok (.aload_n 0, 1) := by decide +kernel
theorem dX3_forget_22 : decode cX3_forget 22 = .ok (.getfield 17, 3) := by decide +kernel
theorem dX3_forget_25 : decode cX3_forget 25 = .ok (.iload_n 2, 1) := by decide +kernel
theorem dX3_forget_26 : decode cX3_forget 26 = .ok (.aaload, 1) := by decide +kernel
theorem dX3_forget_27 : decode cX3_forget 27 = .ok (.iload_n 1, 1) := by decide +kernel
theorem dX3_forget_28 : decode cX3_forget 28 = .ok (.invokevirtual 26, 3) := by decide +kernel
theorem dX3_forget_31 : decode cX3_forget 31 = .ok (.iinc 2 1, 3) := by decide +kernel
theorem dX3_forget_34 : decode cX3_forget 34 = .ok (.goto (-18), 3) := by decide +kernel
theorem dX3_forget_37 : decode cX3_forget 37 = .ok (.return_, 1) := by decide +kernel
theorem dX3_looksLike_0 : decode cX3_looksLike 0 = .ok (.aload_n 0, 1) := by decide +kernel
theorem dX3_looksLike_1 : decode cX3_looksLike 1 = .ok (.getfield 9, 3) := by decide +kernel
theorem dX3_looksLike_4 : decode cX3_looksLike 4 = .ok (.aload_n 1, 1) := by decide +kernel
theorem dX3_looksLike_5 : decode cX3_looksLike 5 = .ok (.getfield 9, 3) := by decide +kernel
theorem dX3_looksLike_8 : decode cX3_looksLike 8 = .ok (.if_icmp .eq 5, 3) := by decide +kernel
theorem dX3_looksLike_11 : decode cX3_looksLike 11 = .ok (.iconst 0, 1) := by decide +kernel
theorem dX3_looksLike_12 : decode cX3_looksLike 12 = .ok (.ireturn, 1) := by decide +kernel
theorem dX3_looksLike_13 : decode cX3_looksLike 13 = .ok (.iconst 0, 1) := by decide +kernel
theorem dX3_looksLike_14 : decode cX3_looksLike 14 = .ok (.istore_n 2, 1) := by decide +kernel
theorem dX3_looksLike_15 : decode cX3_looksLike 15 = .ok (.iload_n 2, 1) := by decide +kernel
theorem dX3_looksLike_16 : decode cX3_looksLike 16 = .ok (.iconst 4, 1) := by decide +kernel
theorem dX3_looksLike_17 : decode cX3_looksLike 17 = .ok (.if_icmp .ge 29, 3) := by decide +kernel
theorem dX3_looksLike_20 : decode cX3_looksLike 20 = .ok (.aload_n 0, 1) := by decide +kernel
theorem dX3_looksLike_21 : decode cX3_looksLike 21 = .ok (.getfield 17, 3) := by decide +kernel
theorem dX3_looksLike_24 : decode cX3_looksLike 24 = .ok (.iload_n 2, 1) := by decide +kernel
theorem dX3_looksLike_25 : decode cX3_looksLike 25 = .ok (.aaload, 1) := by decide +kernel
theorem dX3_looksLike_26 : decode cX3_looksLike 26 = .ok (.aload_n 1, 1) := by decide +kernel
theorem dX3_looksLike_27 : decode cX3_looksLike 27 = .ok (.getfield 17, 3) := by decide +kernel
theorem dX3_looksLike_30 : decode cX3_looksLike 30 = .ok (.iload_n 2, 1) := by decide +kernel
theorem dX3_looksLike_31 : decode cX3_looksLike 31 = .ok (.aaload, 1) := by decide +kernel
theorem dX3_looksLike_32 : decode cX3_looksLike 32 = .ok (.invokevirtual 30, 3) := by decide +kernel
theorem dX3_looksLike_35 : decode cX3_looksLike 35 = .ok (.ifCond .ne 5, 3) := by decide +kernel
theorem dX3_looksLike_38 : decode cX3_looksLike 38 = .ok (.iconst 0, 1) := by decide +kernel
theorem dX3_looksLike_39 : decode cX3_looksLike 39 = .ok (.ireturn, 1) := by decide +kernel
theorem dX3_looksLike_40 : decode cX3_looksLike 40 = .ok (.iinc 2 1, 3) := by decide +kernel
theorem dX3_looksLike_43 : decode cX3_looksLike 43 = .ok (.goto (-28), 3) := by decide +kernel
theorem dX3_looksLike_46 : decode cX3_looksLike 46 = .ok (.iconst 1, 1) := by decide +kernel
theorem dX3_looksLike_47 : decode cX3_looksLike 47 = .ok (.ireturn, 1) := by decide +kernel
theorem dX4_init_0 : decode cX4_init 0 = .ok (.aload_n 0, 1) := by decide +kernel
theorem dX4_init_1 : decode cX4_init 1 = .ok (.invokespecial 3, 3) := by decide +kernel
theorem dX4_init_4 : decode cX4_init 4 = .ok (.aload_n 0, 1) := by decide +kernel
theorem dX4_init_5 : decode cX4_init 5 = .ok (.bipush 6, 2) := by decide +kernel
theorem dX4_init_7 : decode cX4_init 7 = .ok (.newarray .int, 2) := by decide +kernel
theorem dX4_init_9 : decode cX4_init 9 = .ok (.putfield 9, 3) := by decide +kernel
theorem dX4_init_12 : decode cX4_init 12 = .ok (.aload_n 0, 1) := by decide +kernel
theorem dX4_init_13 : decode cX4_init 13 = .ok (.bipush 36, 2) := by decide +kernel
theorem dX4_init_15 : decode cX4_init 15 = .ok (.anewarray 15, 3) := by decide +kernel
theorem dX4_init_18 : decode cX4_init 18 = .ok (.putfield 17, 3) := by decide +kernel
theorem dX4_init_21 : decode cX4_init 21 = .ok (.aload_n 0, 1) := by decide +kernel
theorem dX4_init_22 : decode cX4_init 22 = .ok (.iconst 0, 1) := by decide +kernel
theorem dX4_init_23 : decode cX4_init 23 = .ok (.putfield 21, 3) := by decide +kernel
theorem dX4_init_26 : decode cX4_init 26 = .ok (.aload_n 0, 1) := by decide +kernel
theorem dX4_init_27 : decode cX4_init 27 = .ok (.aconst_null, 1) := by decide +kernel
theorem dX4_init_28 : decode cX4_init 28 = .ok (.putfield 25, 3) := by decide +kernel
theorem dX4_init_31 : decode cX4_init 31 = .ok (.aload_n 0, 1) := by decide +kernel
theorem dX4_init_32 : decode cX4_init 32 = .ok (.iconst 0, 1) := by decide +kernel
theorem dX4_init_33 : decode cX4_init 33 = .ok (.putfield 29, 3) := by decide +kernel
theorem dX4_init_36 : decode cX4_init 36 = .ok (.iconst 0, 1) := by decide +kernel
theorem dX4_init_37 : decode cX4_init 37 = .ok (.istore_n 1, 1) := by decide +kernel
theorem dX4_init_38 : decode cX4_init 38 = .ok (.iload_n 1, 1) := by decide +kernel
theorem dX4_init_39 : decode cX4_init 39 = .ok (.bipush 36, 2) := by decide +kernel
theorem dX4_init_41 : decode cX4_init 41 = .ok (.if_icmp .ge 22, 3) := by decide +kernel
theorem dX4_init_44 : decode cX4_init 44 = .ok (.aload_n 0, 1) := by decide +kernel
theorem dX4_init_45 : decode cX4_init 45 = .ok (.getfield 17, 3) := by decide +kernel
theorem dX4_init_48 : decode cX4_init 48 = .ok (.iload_n 1, 1) := by decide +kernel
theorem dX4_init_49 : decode cX4_init 49 = .ok (.new 15, 3) := by decide +kernel
theorem dX4_init_52 : decode cX4_init 52 = .ok (.dup, 1) := by decide +kernel
theorem dX4_init_53 : decode cX4_init 53 = .ok (.invokespecial 32, 3) := by decide +kernel
theorem dX4_init_56 : decode cX4_init 56 = .ok (.aastore, 1) := by decide +kernel
theorem dX4_init_57 : decode cX4_init 57 = .ok (.iinc 1 1, 3) := by decide +kernel
theorem dX4_init_60 : decode cX4_init 60 = .ok (.goto (-22), 3) := by decide +kernel
theorem dX4_init_63 : decode cX4_init 63 = .ok (.return_, 1) := by decide +kernel
theorem dX4_haveLink_0 : decode cX4_haveLink 0 = .ok (.aload_n 0, 1) := by decide +kernel
theorem dX4_haveLink_1 : decode cX4_haveLink 1 = .ok (.getfield 9, 3) := by decide +kernel
theorem dX4_haveLink_4 : decode cX4_haveLink 4 = .ok (.iload_n 1, 1) := by decide +kernel
theorem dX4_haveLink_5 : decode cX4_haveLink 5 = .ok (.iaload, 1) := by decide +kernel
theorem dX4_haveLink_6 : decode cX4_haveLink 6 = .ok (.iload_n 2, 1) := by decide +kernel
theorem dX4_haveLink_7 : decode cX4_haveLink 7 = .ok (.invokestatic 33, 3) := by decide +kernel
theorem dX4_haveLink_10 : decode cX4_haveLink 10 = .ok (.ireturn, 1) := by decide +kernel
theorem dX4_treeOf_0 : decode cX4_treeOf 0 = .ok (.iconst 1, 1) := by decide +kernel
theorem dX4_treeOf_1 : decode cX4_treeOf 1 = .ok (.iload_n 1, 1) := by decide +kernel
theorem dX4_treeOf_2 : decode cX4_treeOf 2 = .ok (.ishl, 1) := by decide +kernel
theorem dX4_treeOf_3 : decode cX4_treeOf 3 = .ok (.istore_n 2, 1) := by decide +kernel
theorem dX4_treeOf_4 : decode cX4_treeOf 4 = .ok (.iconst 1, 1) := by decide +kernel
theorem dX4_treeOf_5 : decode cX4_treeOf 5 = .ok (.istore_n 3, 1) := by decide +kernel
theorem dX4_treeOf_6 : decode cX4_treeOf 6 = .ok (.iload_n 3, 1) := by decide +kernel
theorem dX4_treeOf_7 : decode cX4_treeOf 7 = .ok (.bipush 6, 2) := by decide +kernel
theorem dX4_treeOf_9 : decode cX4_treeOf 9 = .ok (.if_icmp .ge 44, 3) := by decide +kernel
theorem dX4_treeOf_12 : decode cX4_treeOf 12 = .ok (.iconst 0, 1) := by decide +kernel
theorem dX4_treeOf_13 : decode cX4_treeOf 13 = .ok (.istore 4, 2) := by decide +kernel
theorem dX4_treeOf_15 : decode cX4_treeOf 15 = .ok (.iload 4, 2) := by decide +kernel
theorem dX4_treeOf_17 : decode cX4_treeOf 17 = .ok (.bipush 6, 2) := by decide +kernel
theorem dX4_treeOf_19 : decode cX4_treeOf 19 = .ok (.if_icmp .ge 28, 3) := by decide +kernel
theorem dX4_treeOf_22 : decode cX4_treeOf 22 = .ok (.iload_n 2, 1) := by decide +kernel
theorem dX4_treeOf_23 : decode cX4_treeOf 23 = .ok (.iload 4, 2) := by decide +kernel
theorem dX4_treeOf_25 : decode cX4_treeOf 25 = .ok (.invokestatic 33, 3) := by decide +kernel
theorem dX4_treeOf_28 : decode cX4_treeOf 28 = .ok (.ifCond .eq 13, 3) := by decide +kernel
theorem dX4_treeOf_31 : decode cX4_treeOf 31 = .ok (.iload_n 2, 1) := by decide +kernel
theorem dX4_treeOf_32 : decode cX4_treeOf 32 = .ok (.aload_n 0, 1) := by decide +kernel
theorem dX4_treeOf_33 : decode cX4_treeOf 33 = .ok (.getfield 9, 3) := by decide +kernel
theorem dX4_treeOf_36 : decode cX4_treeOf 36 = .ok (.iload 4, 2) := by decide +kernel
theorem dX4_treeOf_38 : decode cX4_treeOf 38 = .ok (.iaload, 1) := by decide +kernel
theorem dX4_treeOf_39 : decode cX4_treeOf 39 = .ok (.ior, 1) := by decide +kernel
theorem dX4_treeOf_40 : decode cX4_treeOf 40 = .ok (.istore_n 2, 1) := by decide +kernel
theorem dX4_treeOf_41 : decode cX4_treeOf 41 = .ok (.iinc 4 1, 3) := by decide +kernel
theorem dX4_treeOf_44 : decode cX4_treeOf 44 = .ok (.goto (-29), 3) := by decide +kernel
theorem dX4_treeOf_47 : decode cX4_treeOf 47 = .ok (.iinc 3 1, 3) := by decide +kernel
theorem dX4_treeOf_50 : decode cX4_treeOf 50 = .ok (.goto (-44), 3) := by decide +kernel
theorem dX4_treeOf_53 : decode cX4_treeOf 53 = .ok (.iload_n 2, 1) := by decide +kernel
theorem dX4_treeOf_54 : decode cX4_treeOf 54 = .ok (.ireturn, 1) := by decide +kernel
theorem dX4_linksTowards_0 : decode cX4_linksTowards 0 = .ok (.iload_n 2, 1) := by decide +kernel
theorem dX4_linksTowards_1 : decode cX4_linksTowards 1 = .ok (.iconst 1, 1) := by decide +kernel
theorem dX4_linksTowards_2 : decode cX4_linksTowards 2 = .ok (.iload_n 1, 1) := by decide +kernel
theorem dX4_linksTowards_3 : decode cX4_linksTowards 3 = .ok (.ishl, 1) := by decide +kernel
theorem dX4_linksTowards_4 : decode cX4_linksTowards 4 = .ok (.ior, 1) := by decide +kernel
theorem dX4_linksTowards_5 : decode cX4_linksTowards 5 = .ok (.istore_n 3, 1) := by decide +kernel
theorem dX4_linksTowards_6 : decode cX4_linksTowards 6 = .ok (.aload_n 0, 1) := by decide +kernel
theorem dX4_linksTowards_7 : decode cX4_linksTowards 7 = .ok (.iload_n 1, 1) := by decide +kernel
theorem dX4_linksTowards_8 : decode cX4_linksTowards 8 = .ok (.invokevirtual 37, 3) := by decide +kernel
theorem dX4_linksTowards_11 : decode cX4_linksTowards 11 = .ok (.istore 4, 2) := by decide +kernel
theorem dX4_linksTowards_13 : decode cX4_linksTowards 13 = .ok (.iconst 1, 1) := by decide +kernel
theorem dX4_linksTowards_14 : decode cX4_linksTowards 14 = .ok (.istore 5, 2) := by decide +kernel
theorem dX4_linksTowards_16 : decode cX4_linksTowards 16 = .ok (.iload 5, 2) := by decide +kernel
theorem dX4_linksTowards_18 : decode cX4_linksTowards 18 = .ok (.bipush 6, 2) := by decide +kernel
theorem dX4_linksTowards_20 : decode cX4_linksTowards 20 = .ok (.if_icmp .ge 67, 3) := by decide +kernel
theorem dX4_linksTowards_23 : decode cX4_linksTowards 23 = .ok (.iconst 0, 1) := by decide +kernel
theorem dX4_linksTowards_24 : decode cX4_linksTowards 24 = .ok (.istore 6, 2) := by decide +kernel
theorem dX4_linksTowards_26 : decode cX4_linksTowards 26 = .ok (.iload 6, 2) := by decide +kernel
theorem dX4_linksTowards_28 : decode cX4_linksTowards 28 = .ok (.bipush 6, 2) := by decide +kernel
theorem dX4_linksTowards_30 : decode cX4_linksTowards 30 = .ok (.if_icmp .ge 51, 3) := by decide +kernel
theorem dX4_linksTowards_33 : decode cX4_linksTowards 33 = .ok (.iload 4, 2) := by decide +kernel
theorem dX4_linksTowards_35 : decode cX4_linksTowards 35 = .ok (.iload_n 3, 1) := by decide +kernel
theorem dX4_linksTowards_36 : decode cX4_linksTowards 36 = .ok (.iconst (-1), 1) := by decide +kernel
theorem dX4_linksTowards_37 : decode cX4_linksTowards 37 = .ok (.ixor, 1) := by decide +kernel
theorem dX4_linksTowards_38 : decode cX4_linksTowards 38 = .ok (.iand, 1) := by decide +kernel
theorem dX4_linksTowards_39 : decode cX4_linksTowards 39 = .ok (.iload 6, 2) := by decide +kernel
theorem dX4_linksTowards_41 : decode cX4_linksTowards 41 = .ok (.invokestatic 33, 3) := by decide +kernel
theorem dX4_linksTowards_44 : decode cX4_linksTowards 44 = .ok (.ifCond .eq 31, 3) := by decide +kernel
theorem dX4_linksTowards_47 : decode cX4_linksTowards 47 = .ok (.aload_n 0, 1) := by decide +kernel
theorem dX4_linksTowards_48 : decode cX4_linksTowards 48 = .ok (.getfield 9, 3) := by decide +kernel
theorem dX4_linksTowards_51 : decode cX4_linksTowards 51 = .ok (.iload 6, 2) := by decide +kernel
theorem dX4_linksTowards_53 : decode cX4_linksTowards 53 = .ok (.iaload, 1) := by decide +kernel
theorem dX4_linksTowards_54 : decode cX4_linksTowards 54 = .ok (.iload 4, 2) := by decide +kernel
theorem dX4_linksTowards_56 : decode cX4_linksTowards 56 = .ok (.iand, 1) := by decide +kernel
theorem dX4_linksTowards_57 : decode cX4_linksTowards 57 = .ok (.invokestatic 41, 3) := by decide +kernel
theorem dX4_linksTowards_60 : decode cX4_linksTowards 60 = .ok (.iconst 1, 1) := by decide +kernel
theorem dX4_linksTowards_61 : decode cX4_linksTowards 61 = .ok (.if_icmp .ne 14, 3) := by decide +kernel
theorem dX4_linksTowards_64 : decode cX4_linksTowards 64 = .ok (.iload 4, 2) := by decide +kernel
theorem dX4_linksTowards_66 : decode cX4_linksTowards 66 = .ok (.iconst 1, 1) := by decide +kernel
theorem dX4_linksTowards_67 : decode cX4_linksTowards 67 = .ok (.iload 6, 2) := by decide +kernel
theorem dX4_linksTowards_69 : decode cX4_linksTowards 69 = .ok (.ishl, 1) := by decide +kernel
theorem dX4_linksTowards_70 : decode cX4_linksTowards 70 = .ok (.iconst (-1), 1) := by decide +kernel
theorem dX4_linksTowards_71 : decode cX4_linksTowards 71 = .ok (.ixor, 1) := by decide +kernel
theorem dX4_linksTowards_72 : decode cX4_linksTowards 72 = .ok (.iand, 1) := by decide +kernel
theorem dX4_linksTowards_73 : decode cX4_linksTowards 73 = .ok (.istore 4, 2) := by decide +kernel
theorem dX4_linksTowards_75 : decode cX4_linksTowards 75 = .ok (.iinc 6 1, 3) := by decide +kernel
theorem dX4_linksTowards_78 : decode cX4_linksTowards 78 = .ok (.goto (-52), 3) := by decide +kernel
theorem dX4_linksTowards_81 : decode cX4_linksTowards 81 = .ok (.iinc 5 1, 3) := by decide +kernel
theorem dX4_linksTowards_84 : decode cX4_linksTowards 84 = .ok (.goto (-68), 3) := by decide +kernel
theorem dX4_linksTowards_87 : decode cX4_linksTowards 87 = .ok (.iload 4, 2) := by decide +kernel
theorem dX4_linksTowards_89 : decode cX4_linksTowards 89 = .ok (.invokestatic 41, 3) := by decide +kernel
theorem dX4_linksTowards_92 : decode cX4_linksTowards 92 = .ok (.iconst 1, 1) := by decide +kernel
theorem dX4_linksTowards_93 : decode cX4_linksTowards 93 = .ok (.isub, 1) := by decide +kernel
theorem dX4_linksTowards_94 : decode cX4_linksTowards 94 = .ok (.ireturn, 1) := by decide +kernel
theorem dX4_connect_0 : decode cX4_connect 0 = .ok (.aload_n 0, 1) := by decide +kernel
theorem dX4_connect_1 : decode cX4_connect 1 = .ok (.getfield 9, 3) := by decide +kernel
theorem dX4_connect_4 : decode cX4_connect 4 = .ok (.iload_n 1, 1) := by decide +kernel
theorem dX4_connect_5 : decode cX4_connect 5 = .ok (.dup2, 1) := by decide +kernel
theorem dX4_connect_6 : decode cX4_connect 6 = .ok (.iaload, 1) := by decide +kernel
theorem dX4_connect_7 : decode cX4_connect 7 = .ok (.iconst 1, 1) := by decide +kernel
theorem dX4_connect_8 : decode cX4_connect 8 = .ok (.iload_n 2, 1) := by decide +kernel
theorem dX4_connect_9 : decode cX4_connect 9 = .ok (.ishl, 1) := by decide +kernel
theorem dX4_connect_10 : decode cX4_connect 10 = .ok (.ior, 1) := by decide +kernel
theorem dX4_connect_11 : decode cX4_connect 11 = .ok (.iastore, 1) := by decide +kernel
theorem dX4_connect_12 : decode cX4_connect 12 = .ok (.aload_n 0, 1) := by decide +kernel
theorem dX4_connect_13 : decode cX4_connect 13 = .ok (.getfield 9, 3) := by decide +kernel
theorem dX4_connect_16 : decode cX4_connect 16 = .ok (.iload_n 2, 1) := by decide +kernel
theorem dX4_connect_17 : decode cX4_connect 17 = .ok (.dup2, 1) := by decide +kernel
theorem dX4_connect_18 : decode cX4_connect 18 = .ok (.iaload, 1) := by decide +kernel
theorem dX4_connect_19 : decode cX4_connect 19 = .ok (.iconst 1, 1) := by decide +kernel
theorem dX4_connect_20 : decode cX4_connect 20 = .ok (.iload_n 1, 1) := by decide +kernel
theorem dX4_connect_21 : decode cX4_connect 21 = .ok (.ishl, 1) := by decide +kernel
theorem dX4_connect_22 : decode cX4_connect 22 = .ok (.ior, 1) := by decide +kernel
theorem dX4_connect_23 : decode cX4_connect 23 = .ok (.iastore, 1) := by decide +kernel
theorem dX4_connect_24 : decode cX4_connect 24 = .ok (.return_, 1) := by decide +kernel
theorem dX4_cut_0 : decode cX4_cut 0 = .ok (.aload_n 0, 1) := by decide +kernel
theorem dX4_cut_1 : decode cX4_cut 1 = .ok (.getfield 9, 3) := by decide +kernel
theorem dX4_cut_4 : decode cX4_cut 4 = .ok (.iload_n 1, 1) := by decide +kernel
theorem dX4_cut_5 : decode cX4_cut 5 = .ok (.dup2, 1) := by decide +kernel
theorem dX4_cut_6 : decode cX4_cut 6 = .ok (.iaload, 1) := by decide +kernel
theorem dX4_cut_7 : decode cX4_cut 7 = .ok (.iconst 1, 1) := by decide +kernel
theorem dX4_cut_8 : decode cX4_cut 8 = .ok (.iload_n 2, 1) := by decide +kernel
theorem dX4_cut_9 : decode cX4_cut 9 = .ok (.ishl, 1) := by decide +kernel
theorem dX4_cut_10 : decode cX4_cut 10 = .ok (.iconst (-1), 1) := by decide +kernel
theorem dX4_cut_11 : decode cX4_cut 11 = .ok (.ixor, 1) := by decide +kernel
theorem dX4_cut_12 : decode cX4_cut 12 = .ok (.iand, 1) := by decide +kernel
theorem dX4_cut_13 : decode cX4_cut 13 = .ok (.iastore, 1) := by decide +kernel
theorem dX4_cut_14 : decode cX4_cut 14 = .ok (.aload_n 0, 1) := by decide +kernel
theorem dX4_cut_15 : decode cX4_cut 15 = .ok (.getfield 9, 3) := by decide +kernel
theorem dX4_cut_18 : decode cX4_cut 18 = .ok (.iload_n 2, 1) := by decide +kernel
theorem dX4_cut_19 : decode cX4_cut 19 = .ok (.dup2, 1) := by decide +kernel
theorem dX4_cut_20 : decode cX4_cut 20 = .ok (.iaload, 1) := by decide +kernel
theorem dX4_cut_21 : decode cX4_cut 21 = .ok (.iconst 1, 1) := by decide +kernel
theorem dX4_cut_22 : decode cX4_cut 22 = .ok (.iload_n 1, 1) := by decide +kernel
theorem dX4_cut_23 : decode cX4_cut 23 = .ok (.ishl, 1) := by decide +kernel
theorem dX4_cut_24 : decode cX4_cut 24 = .ok (.iconst (-1), 1) := by decide +kernel
theorem dX4_cut_25 : decode cX4_cut 25 = .ok (.ixor, 1) := by decide +kernel
theorem dX4_cut_26 : decode cX4_cut 26 = .ok (.iand, 1) := by decide +kernel
theorem dX4_cut_27 : decode cX4_cut 27 = .ok (.iastore, 1) := by decide +kernel
theorem dX4_cut_28 : decode cX4_cut 28 = .ok (.aload_n 0, 1) := by decide +kernel
theorem dX4_cut_29 : decode cX4_cut 29 = .ok (.iload_n 1, 1) := by decide +kernel
theorem dX4_cut_30 : decode cX4_cut 30 = .ok (.iload_n 2, 1) := by decide +kernel
theorem dX4_cut_31 : decode cX4_cut 31 = .ok (.invokevirtual 46, 3) := by decide +kernel
theorem dX4_cut_34 : decode cX4_cut 34 = .ok (.aload_n 0, 1) := by decide +kernel
theorem dX4_cut_35 : decode cX4_cut 35 = .ok (.iload_n 2, 1) := by decide +kernel
theorem dX4_cut_36 : decode cX4_cut 36 = .ok (.iload_n 1, 1) := by decide +kernel
theorem dX4_cut_37 : decode cX4_cut 37 = .ok (.invokevirtual 46, 3) := by decide +kernel
theorem dX4_cut_40 : decode cX4_cut 40 = .ok (.return_, 1) := by decide +kernel
theorem dX4_loseLines_0 : decode cX4_loseLines 0 = .ok (.aload_n 0, 1) := by decide +kernel
theorem dX4_loseLines_1 : decode cX4_loseLines 1 = .ok (.iload_n 1, 1) := by decide +kernel
theorem dX4_loseLines_2 : decode cX4_loseLines 2 = .ok (.iload_n 2, 1) := by decide +kernel
theorem dX4_loseLines_3 : decode cX4_loseLines 3 = .ok (.invokevirtual 50, 3) := by decide +kernel
theorem dX4_loseLines_6 : decode cX4_loseLines 6 = .ok (.astore_n 3, 1) := by decide +kernel
theorem dX4_loseLines_7 : decode cX4_loseLines 7 = .ok (.iconst 0, 1) := by decide +kernel
theorem dX4_loseLines_8 : decode cX4_loseLines 8 = .ok (.istore 4, 2) := by decide +kernel
theorem dX4_loseLines_10 : decode cX4_loseLines 10 = .ok (.iload 4, 2) := by decide +kernel
theorem dX4_loseLines_12 : decode cX4_loseLines 12 = .ok (.ldc 54, 2) := by decide +kernel
theorem dX4_loseLines_14 : decode cX4_loseLines 14 = .ok (.if_icmp .ge 25, 3) := by decide +kernel
theorem dX4_loseLines_17 : decode cX4_loseLines 17 = .ok (.aload_n 3, 1) := by decide +kernel
theorem dX4_loseLines_18 : decode cX4_loseLines 18 = .ok (.ifnull 21, 3) := by decide +kernel
theorem dX4_loseLines_21 : decode cX4_loseLines 21 = .ok (.aload_n 0, 1) := by decide +kernel
theorem dX4_loseLines_22 : decode cX4_loseLines 22 = .ok (.aload_n 3, 1) := by decide +kernel
theorem dX4_loseLines_23 : decode cX4_loseLines 23 = .ok (.invokevirtual 55, 3) := by decide +kernel
theorem dX4_loseLines_26 : decode cX4_loseLines 26 = .ok (.aload_n 0, 1) := by decide +kernel
theorem dX4_loseLines_27 : decode cX4_loseLines 27 = .ok (.iload_n 1, 1) := by decide +kernel
theorem dX4_loseLines_28 : decode cX4_loseLines 28 = .ok (.iload_n 2, 1) := by decide +kernel
theorem dX4_loseLines_29 : decode cX4_loseLines 29 = .ok (.invokevirtual 50, 3) := by decide +kernel
theorem dX4_loseLines_32 : decode cX4_loseLines 32 = .ok (.astore_n 3, 1) := by decide +kernel
theorem dX4_loseLines_33 : decode cX4_loseLines 33 = .ok (.iinc 4 1, 3) := by decide +kernel
theorem dX4_loseLines_36 : decode cX4_loseLines 36 = .ok (.goto (-26), 3) := by decide +kernel
theorem dX4_loseLines_39 : decode cX4_loseLines 39 = .ok (.return_, 1) := by decide +kernel
theorem dX4_spread_0 : decode cX4_spread 0 = .ok (.iconst 0, 1) := by decide +kernel
theorem dX4_spread_1 : decode cX4_spread 1 = .ok (.istore 4, 2) := by decide +kernel
theorem dX4_spread_3 : decode cX4_spread 3 = .ok (.iload 4, 2) := by decide +kernel
theorem dX4_spread_5 : decode cX4_spread 5 = .ok (.bipush 6, 2) := by decide +kernel
theorem dX4_spread_7 : decode cX4_spread 7 = .ok (.if_icmp .ge 33, 3) := by decide +kernel
theorem dX4_spread_10 : decode cX4_spread 10 = .ok (.iload 4, 2) := by decide +kernel
theorem dX4_spread_12 : decode cX4_spread 12 = .ok (.iload_n 2, 1) := by decide +kernel
theorem dX4_spread_13 : decode cX4_spread 13 = .ok (.if_icmp .eq 21, 3) := by decide +kernel
theorem dX4_spread_16 : decode cX4_spread 16 = .ok (.aload_n 0, 1) := by decide +kernel
theorem dX4_spread_17 : decode cX4_spread 17 = .ok (.iload_n 1, 1) := by decide +kernel
theorem dX4_spread_18 : decode cX4_spread 18 = .ok (.iload 4, 2) := by decide +kernel
theorem dX4_spread_20 : decode cX4_spread 20 = .ok (.invokevirtual 59, 3) := by decide +kernel
theorem dX4_spread_23 : decode cX4_spread 23 = .ok (.ifCond .eq 11, 3) := by decide +kernel
theorem dX4_spread_26 : decode cX4_spread 26 = .ok (.aload_n 0, 1) := by decide +kernel
theorem dX4_spread_27 : decode cX4_spread 27 = .ok (.iload_n 1, 1) := by decide +kernel
theorem dX4_spread_28 : decode cX4_spread 28 = .ok (.iload 4, 2) := by decide +kernel
theorem dX4_spread_30 : decode cX4_spread 30 = .ok (.aload_n 3, 1) := by decide +kernel
theorem dX4_spread_31 : decode cX4_spread 31 = .ok (.invokevirtual 62, 3) := by decide +kernel
theorem dX4_spread_34 : decode cX4_spread 34 = .ok (.iinc 4 1, 3) := by decide +kernel
theorem dX4_spread_37 : decode cX4_spread 37 = .ok (.goto (-34), 3) := by decide +kernel
theorem dX4_spread_40 : decode cX4_spread 40 = .ok (.return_, 1) := by decide +kernel
theorem dX4_put_0 : decode cX4_put 0 = .ok (.aload_n 0, 1) := by decide +kernel
theorem dX4_put_1 : decode cX4_put 1 = .ok (.getfield 25, 3) := by decide +kernel
theorem dX4_put_4 : decode cX4_put 4 = .ok (.astore 4, 2) := by decide +kernel
theorem dX4_put_6 : decode cX4_put 6 = .ok (.aload 4, 2) := by decide +kernel
theorem dX4_put_8 : decode cX4_put 8 = .ok (.ifnull 15, 3) := by decide +kernel
theorem dX4_put_11 : decode cX4_put 11 = .ok (.aload_n 0, 1) := by decide +kernel
theorem dX4_put_12 : decode cX4_put 12 = .ok (.aload 4, 2) := by decide +kernel
theorem dX4_put_14 : decode cX4_put 14 = .ok (.getfield 66, 3) := by decide +kernel
theorem dX4_put_17 : decode cX4_put 17 = .ok (.putfield 25, 3) := by decide +kernel
theorem dX4_put_20 : decode cX4_put 20 = .ok (.goto 35, 3) := by decide +kernel
theorem dX4_put_23 : decode cX4_put 23 = .ok (.aload_n 0, 1) := by decide +kernel
theorem dX4_put_24 : decode cX4_put 24 = .ok (.getfield 29, 3) := by decide +kernel
theorem dX4_put_27 : decode cX4_put 27 = .ok (.ldc 54, 2) := by decide +kernel
theorem dX4_put_29 : decode cX4_put 29 = .ok (.if_icmp .ge 25, 3) := by decide +kernel
theorem dX4_put_32 : decode cX4_put 32 = .ok (.aload_n 0, 1) := by decide +kernel
theorem dX4_put_33 : decode cX4_put 33 = .ok (.dup, 1) := by decide +kernel
theorem dX4_put_34 : decode cX4_put 34 = .ok (.getfield 29, 3) := by decide +kernel
theorem dX4_put_37 : decode cX4_put 37 = .ok (.iconst 1, 1) := by decide +kernel
theorem dX4_put_38 : decode cX4_put 38 = .ok (.iadd, 1) := by decide +kernel
theorem dX4_put_39 : decode cX4_put 39 = .ok (.putfield 29, 3) := by decide +kernel
theorem dX4_put_42 : decode cX4_put 42 = .ok (.new 67, 3) := by decide +kernel
theorem dX4_put_45 : decode cX4_put 45 = .ok (.dup, 1) := by decide +kernel
theorem dX4_put_46 : decode cX4_put 46 = .ok (.invokespecial 71, 3) := by decide +kernel
theorem dX4_put_49 : decode cX4_put 49 = .ok (.astore 4, 2) := by decide +kernel
theorem dX4_put_51 : decode cX4_put 51 = .ok (.goto 4, 3) := by decide +kernel
theorem dX4_put_54 : decode cX4_put 54 = .ok (.return_, 1) := by decide +kernel
theorem dX4_put_55 : decode cX4_put 55 = .ok (.aload 4, 2) := by decide +kernel
theorem dX4_put_57 : decode cX4_put 57 = .ok (.aload_n 3, 1) := by decide +kernel
theorem dX4_put_58 : decode cX4_put 58 = .ok (.invokevirtual 72, 3) := by decide +kernel
theorem dX4_put_61 : decode cX4_put 61 = .ok (.aload_n 0, 1) := by decide +kernel
theorem dX4_put_62 : decode cX4_put 62 = .ok (.getfield 17, 3) := by decide +kernel
theorem dX4_put_65 : decode cX4_put 65 = .ok (.iload_n 1, 1) := by decide +kernel
theorem dX4_put_66 : decode cX4_put 66 = .ok (.bipush 6, 2) := by decide +kernel
theorem dX4_put_68 : decode cX4_put 68 = .ok (.imul, 1) := by decide +kernel
theorem dX4_put_69 : decode cX4_put 69 = .ok (.iload_n 2, 1) := by decide +kernel
theorem dX4_put_70 : decode cX4_put 70 = .ok (.iadd, 1) := by decide +kernel
theorem dX4_put_71 : decode cX4_put 71 = .ok (.aaload, 1) := by decide +kernel
theorem dX4_put_72 : decode cX4_put 72 = .ok (.aload 4, 2) := by decide +kernel
theorem dX4_put_74 : decode cX4_put 74 = .ok (.invokevirtual 75, 3) := by decide +kernel
theorem dX4_put_77 : decode cX4_put 77 = .ok (.aload_n 0, 1) := by decide +kernel
theorem dX4_put_78 : decode cX4_put 78 = .ok (.dup, 1) := by decide +kernel
theorem dX4_put_79 : decode cX4_put 79 = .ok (.getfield 21, 3) := by decide +kernel
theorem dX4_put_82 : decode cX4_put 82 = .ok (.iconst 1, 1) := by decide +kernel
theorem dX4_put_83 : decode cX4_put 83 = .ok (.iadd, 1) := by decide +kernel
theorem dX4_put_84 : decode cX4_put 84 = .ok (.putfield 21, 3) := by decide +kernel
theorem dX4_put_87 : decode cX4_put 87 = .ok (.return_, 1) := by decide +kernel
theorem dX4_take_0 : decode cX4_take 0 = .ok (.aload_n 0, 1) := by decide +kernel
theorem dX4_take_1 : decode cX4_take 1 = .ok (.getfield 17, 3) := by decide +kernel
theorem dX4_take_4 : decode cX4_take 4 = .ok (.iload_n 1, 1) := by decide +kernel
theorem dX4_take_5 : decode cX4_take 5 = .ok (.bipush 6, 2) := by decide +kernel
theorem dX4_take_7 : decode cX4_take 7 = .ok (.imul, 1) := by decide +kernel
theorem dX4_take_8 : decode cX4_take 8 = .ok (.iload_n 2, 1) := by decide +kernel
theorem dX4_take_9 : decode cX4_take 9 = .ok (.iadd, 1) := by decide +kernel
theorem dX4_take_10 : decode cX4_take 10 = .ok (.aaload, 1) := by decide +kernel
theorem dX4_take_11 : decode cX4_take 11 = .ok (.invokevirtual 78, 3) := by decide +kernel
theorem dX4_take_14 : decode cX4_take 14 = .ok (.astore_n 3, 1) := by decide +kernel
theorem dX4_take_15 : decode cX4_take 15 = .ok (.aload_n 3, 1) := by decide +kernel
theorem dX4_take_16 : decode cX4_take 16 = .ok (.ifnull 13, 3) := by decide +kernel
theorem dX4_take_19 : decode cX4_take 19 = .ok (.aload_n 0, 1) := by decide +kernel
theorem dX4_take_20 : decode cX4_take 20 = .ok (.dup, 1) := by decide +kernel
theorem dX4_take_21 : decode cX4_take 21 = .ok (.getfield 21, 3) := by decide +kernel
theorem dX4_take_24 : decode cX4_take 24 = .ok (.iconst 1, 1) := by decide +kernel
theorem dX4_take_25 : decode cX4_take 25 = .ok (.isub, 1) := by decide +kernel
theorem dX4_take_26 : decode cX4_take 26 = .ok (.putfield 21, 3) := by decide +kernel
theorem dX4_take_29 : decode cX4_take 29 = .ok (.aload_n 3, 1) := by decide +kernel
theorem dX4_take_30 : decode cX4_take 30 = .ok (.areturn, 1) := by decide +kernel
theorem dX4_keepSpare_0 : decode cX4_keepSpare 0 = .ok (.aload_n 1, 1) := by decide +kernel
theorem dX4_keepSpare_1 : decode cX4_keepSpare 1 = .ok (.aload_n 0, 1) := by decide +kernel
theorem dX4_keepSpare_2 : decode cX4_keepSpare 2 = .ok (.getfield 25, 3) := by decide +kernel
theorem dX4_keepSpare_5 : decode cX4_keepSpare 5 = .ok (.putfield 66, 3) := by decide +kernel
theorem dX4_keepSpare_8 : decode cX4_keepSpare 8 = .ok (.aload_n 0, 1) := by decide +kernel
theorem dX4_keepSpare_9 : decode cX4_keepSpare 9 = .ok (.aload_n 1, 1) := by decide +kernel
theorem dX4_keepSpare_10 : decode cX4_keepSpare 10 = .ok (.putfield 25, 3) := by decide +kernel
theorem dX4_keepSpare_13 : decode cX4_keepSpare 13 = .ok (.return_, 1) := by decide +kernel
theorem dJ6_bitCount_0f7a4_0 : decode cJ6_bitCount_0f7a4 0 = .ok (.iload_n 0, 1) := by decide +kernel
theorem dJ6_bitCount_0f7a4_1 : decode cJ6_bitCount_0f7a4 1 = .ok (.iload_n 0, 1) := by decide +kernel
theorem dJ6_bitCount_0f7a4_2 : decode cJ6_bitCount_0f7a4 2 = .ok (.iconst 1, 1) := by decide +kernel
theorem dJ6_bitCount_0f7a4_3 : decode cJ6_bitCount_0f7a4 3 = .ok (.iushr, 1) := by decide +kernel
theorem dJ6_bitCount_0f7a4_4 : decode cJ6_bitCount_0f7a4 4 = .ok (.ldc_w 265, 3) := by decide +kernel
theorem dJ6_bitCount_0f7a4_7 : decode cJ6_bitCount_0f7a4 7 = .ok (.iand, 1) := by decide +kernel
theorem dJ6_bitCount_0f7a4_8 : decode cJ6_bitCount_0f7a4 8 = .ok (.isub, 1) := by decide +kernel
theorem dJ6_bitCount_0f7a4_9 : decode cJ6_bitCount_0f7a4 9 = .ok (.istore_n 0, 1) := by decide +kernel
theorem dJ6_bitCount_0f7a4_10 : decode cJ6_bitCount_0f7a4 10 = .ok (.iload_n 0, 1) := by decide +kernel
theorem dJ6_bitCount_0f7a4_11 : decode cJ6_bitCount_0f7a4 11 = .ok (.ldc_w 266, 3) := by decide +kernel
theorem dJ6_bitCount_0f7a4_14 : decode cJ6_bitCount_0f7a4 14 = .ok (.iand, 1) := by decide +kernel
theorem dJ6_bitCount_0f7a4_15 : decode cJ6_bitCount_0f7a4 15 = .ok (.iload_n 0, 1) := by decide +kernel
theorem dJ6_bitCount_0f7a4_16 : decode cJ6_bitCount_0f7a4 16 = .ok (.iconst 2, 1) := by decide +kernel
theorem dJ6_bitCount_0f7a4_17 : decode cJ6_bitCount_0f7a4 17 = .ok (.iushr, 1) := by decide +kernel
theorem dJ6_bitCount_0f7a4_18 : decode cJ6_bitCount_0f7a4 18 = .ok (.ldc_w 266, 3) := by decide +kernel
theorem dJ6_bitCount_0f7a4_21 : decode cJ6_bitCount_0f7a4 21 = .ok (.iand, 1) := by decide +kernel
theorem dJ6_bitCount_0f7a4_22 : decode cJ6_bitCount_0f7a4 22 = .ok (.iadd, 1) := by decide +kernel
theorem dJ6_bitCount_0f7a4_23 : decode cJ6_bitCount_0f7a4 23 = .ok (.istore_n 0, 1) := by decide +kernel
theorem dJ6_bitCount_0f7a4_24 : decode cJ6_bitCount_0f7a4 24 = .ok (.iload_n 0, 1) := by decide +kernel
theorem dJ6_bitCount_0f7a4_25 : decode cJ6_bitCount_0f7a4 25 = .ok (.iload_n 0, 1) := by decide +kernel
theorem dJ6_bitCount_0f7a4_26 : decode cJ6_bitCount_0f7a4 26 = .ok (.iconst 4, 1) := by decide +kernel
theorem dJ6_bitCount_0f7a4_27 : decode cJ6_bitCount_0f7a4 27 = .ok (.iushr, 1) := by decide +kernel
theorem dJ6_bitCount_0f7a4_28 : decode cJ6_bitCount_0f7a4 28 = .ok (.iadd, 1) := by decide +kernel
theorem dJ6_bitCount_0f7a4_29 : decode cJ6_bitCount_0f7a4 29 = .ok (.ldc_w 267, 3) := by decide +kernel
theorem dJ6_bitCount_0f7a4_32 : decode cJ6_bitCount_0f7a4 32 = .ok (.iand, 1) := by decide +kernel
theorem dJ6_bitCount_0f7a4_33 : decode cJ6_bitCount_0f7a4 33 = .ok (.istore_n 0, 1) := by decide +kernel
theorem dJ6_bitCount_0f7a4_34 : decode cJ6_bitCount_0f7a4 34 = .ok (.iload_n 0, 1) := by decide +kernel
theorem dJ6_bitCount_0f7a4_35 : decode cJ6_bitCount_0f7a4 35 = .ok (.iload_n 0, 1) := by decide +kernel
theorem dJ6_bitCount_0f7a4_36 : decode cJ6_bitCount_0f7a4 36 = .ok (.bipush 8, 2) := by decide +kernel
theorem dJ6_bitCount_0f7a4_38 : decode cJ6_bitCount_0f7a4 38 = .ok (.iushr, 1) := by decide +kernel
theorem dJ6_bitCount_0f7a4_39 : decode cJ6_bitCount_0f7a4 39 = .ok (.iadd, 1) := by decide +kernel
theorem dJ6_bitCount_0f7a4_40 : decode cJ6_bitCount_0f7a4 40 = .ok (.istore_n 0, 1) := by decide +kernel
theorem dJ6_bitCount_0f7a4_41 : decode cJ6_bitCount_0f7a4 41 = .ok (.iload_n 0, 1) := by decide +kernel
theorem dJ6_bitCount_0f7a4_42 : decode cJ6_bitCount_0f7a4 42 = .ok (.iload_n 0, 1) := by decide +kernel
theorem dJ6_bitCount_0f7a4_43 : decode cJ6_bitCount_0f7a4 43 = .ok (.bipush 16, 2) := by decide +kernel
theorem dJ6_bitCount_0f7a4_45 : decode cJ6_bitCount_0f7a4 45 = .ok (.iushr, 1) := by decide +kernel
theorem dJ6_bitCount_0f7a4_46 : decode cJ6_bitCount_0f7a4 46 = .ok (.iadd, 1) := by decide +kernel
theorem dJ6_bitCount_0f7a4_47 : decode cJ6_bitCount_0f7a4 47 = .ok (.istore_n 0, 1) := by decide +kernel
theorem dJ6_bitCount_0f7a4_48 : decode cJ6_bitCount_0f7a4 48 = .ok (.iload_n 0, 1) := by decide +kernel
theorem dJ6_bitCount_0f7a4_49 : decode cJ6_bitCount_0f7a4 49 = .ok (.bipush 63, 2) := by decide +kernel
theorem dJ6_bitCount_0f7a4_51 : decode cJ6_bitCount_0f7a4 51 = .ok (.iand, 1) := by decide +kernel
theorem dJ6_bitCount_0f7a4_52 : decode cJ6_bitCount_0f7a4 52 = .ok (.ireturn, 1) := by decide +kernel
theorem dJ9_min_7cf53_0 : decode cJ9_min_7cf53 0 = .ok (.iload_n 0, 1) := by decide +kernel
theorem dJ9_min_7cf53_1 : decode cJ9_min_7cf53 1 = .ok (.iload_n 1, 1) := by decide +kernel
theorem dJ9_min_7cf53_2 : decode cJ9_min_7cf53 2 = .ok (.if_icmp .gt 7, 3) := by decide +kernel
theorem dJ9_min_7cf53_5 : decode cJ9_min_7cf53 5 = .ok (.iload_n 0, 1) := by decide +kernel
theorem dJ9_min_7cf53_6 : decode cJ9_min_7cf53 6 = .ok (.goto 4, 3) := by decide +kernel
theorem dJ9_min_7cf53_9 : decode cJ9_min_7cf53 9 = .ok (.iload_n 1, 1) := by decide +kernel
theorem dJ9_min_7cf53_10 : decode cJ9_min_7cf53 10 = .ok (.ireturn, 1) := by decide +kernel
end
section
theorem dX5_init_0 : decode cX5_init 0 = .ok (.aload_n 0, 1) := by decide +kernel
theorem dX5_init_1 : decode cX5_init 1 = .ok (.invokespecial 1, 3) := by decide +kernel
theorem dX5_init_4 : decode cX5_init 4 = .ok (.aload_n 0, 1) := by decide +kernel
theorem dX5_init_5 : decode cX5_init 5 = .ok (.bipush 6, 2) := by decide +kernel
theorem dX5_init_7 : decode cX5_init 7 = .ok (.anewarray 9, 3) := by decide +kernel
theorem dX5_init_10 : decode cX5_init 10 = .ok (.putfield 11, 3) := by decide +kernel
theorem dX5_init_13 : decode cX5_init 13 = .ok (.aload_n 0, 1) := by decide +kernel
theorem dX5_init_14 : decode cX5_init 14 = .ok (.new 15, 3) := by decide +kernel
theorem dX5_init_17 : decode cX5_init 17 = .ok (.dup, 1) := by decide +kernel
theorem dX5_init_18 : decode cX5_init 18 = .ok (.invokespecial 17, 3) := by decide +kernel
theorem dX5_init_21 : decode cX5_init 21 = .ok (.putfield 18, 3) := by decide +kernel
theorem dX5_init_24 : decode cX5_init 24 = .ok (.aload_n 0, 1) := by decide +kernel
theorem dX5_init_25 : decode cX5_init 25 = .ok (.bipush 20, 2) := by decide +kernel
theorem dX5_init_27 : decode cX5_init 27 = .ok (.newarray .int, 2) := by decide +kernel
theorem dX5_init_29 : decode cX5_init 29 = .ok (.putfield 22, 3) := by decide +kernel
theorem dX5_init_32 : decode cX5_init 32 = .ok (.aload_n 0, 1) := by decide +kernel
theorem dX5_init_33 : decode cX5_init 33 = .ok (.bipush 20, 2) := by decide +kernel
theorem dX5_init_35 : decode cX5_init 35 = .ok (.newarray .int, 2) := by decide +kernel
theorem dX5_init_37 : decode cX5_init 37 = .ok (.putfield 26, 3) := by decide +kernel
theorem dX5_init_40 : decode cX5_init 40 = .ok (.aload_n 0, 1) := by decide +kernel
theorem dX5_init_41 : decode cX5_init 41 = .ok (.bipush 20, 2) := by decide +kernel
theorem dX5_init_43 : decode cX5_init 43 = .ok (.newarray .int, 2) := by decide +kernel
theorem dX5_init_45 : decode cX5_init 45 = .ok (.putfield 29, 3) := by decide +kernel
theorem dX5_init_48 : decode cX5_init 48 = .ok (.aload_n 0, 1) := by decide +kernel
theorem dX5_init_49 : decode cX5_init 49 = .ok (.new 32, 3) := by decide +kernel
theorem dX5_init_52 : decode cX5_init 52 = .ok (.dup, 1) := by decide +kernel
theorem dX5_init_53 : decode cX5_init 53 = .ok (.invokespecial 34, 3) := by decide +kernel
theorem dX5_init_56 : decode cX5_init 56 = .ok (.putfield 35, 3) := by decide +kernel
theorem dX5_init_59 : decode cX5_init 59 = .ok (.aload_n 0, 1) := by decide +kernel
theorem dX5_init_60 : decode cX5_init 60 = .ok (.iconst 0, 1) := by decide +kernel
theorem dX5_init_61 : decode cX5_init 61 = .ok (.putfield 39, 3) := by decide +kernel
theorem dX5_init_64 : decode cX5_init 64 = .ok (.aload_n 0, 1) := by decide +kernel
theorem dX5_init_65 : decode cX5_init 65 = .ok (.iconst 0, 1) := by decide +kernel
theorem dX5_init_66 : decode cX5_init 66 = .ok (.putfield 43, 3) := by decide +kernel
theorem dX5_init_69 : decode cX5_init 69 = .ok (.iconst 0, 1) := by decide +kernel
theorem dX5_init_70 : decode cX5_init 70 = .ok (.istore_n 1, 1) := by decide +kernel
theorem dX5_init_71 : decode cX5_init 71 = .ok (.iload_n 1, 1) := by decide +kernel
theorem dX5_init_72 : decode cX5_init 72 = .ok (.bipush 6, 2) := by decide +kernel
theorem dX5_init_74 : decode cX5_init 74 = .ok (.if_icmp .ge 22, 3) := by decide +kernel
theorem dX5_init_77 : decode cX5_init 77 = .ok (.aload_n 0, 1) := by decide +kernel
theorem dX5_init_78 : decode cX5_init 78 = .ok (.getfield 11, 3) := by decide +kernel
theorem dX5_init_81 : decode cX5_init 81 = .ok (.iload_n 1, 1) := by decide +kernel
theorem dX5_init_82 : decode cX5_init 82 = .ok (.new 9, 3) := by decide +kernel
theorem dX5_init_85 : decode cX5_init 85 = .ok (.dup, 1) := by decide +kernel
theorem dX5_init_86 : decode cX5_init 86 = .ok (.invokespecial 46, 3) := by decide +kernel
theorem dX5_init_89 : decode cX5_init 89 = .ok (.aastore, 1) := by decide +kernel
theorem dX5_init_90 : decode cX5_init 90 = .ok (.iinc 1 1, 3) := by decide +kernel
theorem dX5_init_93 : decode cX5_init 93 = .ok (.goto (-22), 3) := by decide +kernel
theorem dX5_init_96 : decode cX5_init 96 = .ok (.return_, 1) := by decide +kernel
theorem dX5_link_0 : decode cX5_link 0 = .ok (.iload_n 1, 1) := by decide +kernel
theorem dX5_link_1 : decode cX5_link 1 = .ok (.invokestatic 47, 3) := by decide +kernel
theorem dX5_link_4 : decode cX5_link 4 = .ok (.iload_n 2, 1) := by decide +kernel
theorem dX5_link_5 : decode cX5_link 5 = .ok (.invokestatic 47, 3) := by decide +kernel
theorem dX5_link_8 : decode cX5_link 8 = .ok (.aload_n 0, 1) := by decide +kernel
theorem dX5_link_9 : decode cX5_link 9 = .ok (.getfield 18, 3) := by decide +kernel
theorem dX5_link_12 : decode cX5_link 12 = .ok (.iload_n 1, 1) := by decide +kernel
theorem dX5_link_13 : decode cX5_link 13 = .ok (.invokevirtual 51, 3) := by decide +kernel
theorem dX5_link_16 : decode cX5_link 16 = .ok (.iload_n 2, 1) := by decide +kernel
theorem dX5_link_17 : decode cX5_link 17 = .ok (.invokestatic 55, 3) := by decide +kernel
theorem dX5_link_20 : decode cX5_link 20 = .ok (.ifCond .eq 13, 3) := by decide +kernel
theorem dX5_link_23 : decode cX5_link 23 = .ok (.new 59, 3) := by decide +kernel
theorem dX5_link_26 : decode cX5_link 26 = .ok (.dup, 1) := by decide +kernel
theorem dX5_link_27 : decode cX5_link 27 = .ok (.ldc 61, 2) := by decide +kernel
theorem dX5_link_29 : decode cX5_link 29 = .ok (.invokespecial 63, 3) := by decide +kernel
theorem dX5_link_32 : decode cX5_link 32 = .ok (.athrow, 1) := by decide +kernel
theorem dX5_link_33 : decode cX5_link 33 = .ok (.aload_n 0, 1) := by decide +kernel
theorem dX5_link_34 : decode cX5_link 34 = .ok (.getfield 18, 3) := by decide +kernel
theorem dX5_link_37 : decode cX5_link 37 = .ok (.getfield 66, 3) := by decide +kernel
theorem dX5_link_40 : decode cX5_link 40 = .ok (.istore_n 3, 1) := by decide +kernel
theorem dX5_link_41 : decode cX5_link 41 = .ok (.aload_n 0, 1) := by decide +kernel
theorem dX5_link_42 : decode cX5_link 42 = .ok (.getfield 18, 3) := by decide +kernel
theorem dX5_link_45 : decode cX5_link 45 = .ok (.iload_n 1, 1) := by decide +kernel
theorem dX5_link_46 : decode cX5_link 46 = .ok (.iload_n 2, 1) := by decide +kernel
theorem dX5_link_47 : decode cX5_link 47 = .ok (.invokevirtual 69, 3) := by decide +kernel
theorem dX5_link_50 : decode cX5_link 50 = .ok (.aload_n 0, 1) := by decide +kernel
theorem dX5_link_51 : decode cX5_link 51 = .ok (.iload_n 1, 1) := by decide +kernel
theorem dX5_link_52 : decode cX5_link 52 = .ok (.iload_n 2, 1) := by decide +kernel
theorem dX5_link_53 : decode cX5_link 53 = .ok (.invokevirtual 73, 3) := by decide +kernel
theorem dX5_link_56 : decode cX5_link 56 = .ok (.aload_n 0, 1) := by decide +kernel
theorem dX5_link_57 : decode cX5_link 57 = .ok (.iload_n 2, 1) := by decide +kernel
theorem dX5_link_58 : decode cX5_link 58 = .ok (.iload_n 1, 1) := by decide +kernel
theorem dX5_link_59 : decode cX5_link 59 = .ok (.invokevirtual 73, 3) := by decide +kernel
theorem dX5_link_62 : decode cX5_link 62 = .ok (.aload_n 0, 1) := by decide +kernel
theorem dX5_link_63 : decode cX5_link 63 = .ok (.dup, 1) := by decide +kernel
theorem dX5_link_64 : decode cX5_link 64 = .ok (.getfield 43, 3) := by decide +kernel
theorem dX5_link_67 : decode cX5_link 67 = .ok (.iconst 1, 1) := by decide +kernel
theorem dX5_link_68 : decode cX5_link 68 = .ok (.iadd, 1) := by decide +kernel
theorem dX5_link_69 : decode cX5_link 69 = .ok (.putfield 43, 3) := by decide +kernel
theorem dX5_link_72 : decode cX5_link 72 = .ok (.aload_n 0, 1) := by decide +kernel
theorem dX5_link_73 : decode cX5_link 73 = .ok (.getfield 18, 3) := by decide +kernel
theorem dX5_link_76 : decode cX5_link 76 = .ok (.getfield 66, 3) := by decide +kernel
theorem dX5_link_79 : decode cX5_link 79 = .ok (.iload_n 3, 1) := by decide +kernel
theorem dX5_link_80 : decode cX5_link 80 = .ok (.isub, 1) := by decide +kernel
theorem dX5_link_81 : decode cX5_link 81 = .ok (.ireturn, 1) := by decide +kernel
theorem dX5_split_0 : decode cX5_split 0 = .ok (.iload_n 1, 1) := by decide +kernel
theorem dX5_split_1 : decode cX5_split 1 = .ok (.invokestatic 47, 3) := by decide +kernel
theorem dX5_split_4 : decode cX5_split 4 = .ok (.iload_n 2, 1) := by decide +kernel
theorem dX5_split_5 : decode cX5_split 5 = .ok (.invokestatic 47, 3) := by decide +kernel
theorem dX5_split_8 : decode cX5_split 8 = .ok (.aload_n 0, 1) := by decide +kernel
theorem dX5_split_9 : decode cX5_split 9 = .ok (.getfield 18, 3) := by decide +kernel
theorem dX5_split_12 : decode cX5_split 12 = .ok (.iload_n 1, 1) := by decide +kernel
theorem dX5_split_13 : decode cX5_split 13 = .ok (.iload_n 2, 1) := by decide +kernel
theorem dX5_split_14 : decode cX5_split 14 = .ok (.invokevirtual 76, 3) := by decide +kernel
theorem dX5_split_17 : decode cX5_split 17 = .ok (.ifCond .ne 13, 3) := by decide +kernel
theorem dX5_split_20 : decode cX5_split 20 = .ok (.new 59, 3) := by decide +kernel
theorem dX5_split_23 : decode cX5_split 23 = .ok (.dup, 1) := by decide +kernel
theorem dX5_split_24 : decode cX5_split 24 = .ok (.ldc 79, 2) := by decide +kernel
theorem dX5_split_26 : decode cX5_split 26 = .ok (.invokespecial 63, 3) := by decide +kernel
theorem dX5_split_29 : decode cX5_split 29 = .ok (.athrow, 1) := by decide +kernel
theorem dX5_split_30 : decode cX5_split 30 = .ok (.aload_n 0, 1) := by decide +kernel
theorem dX5_split_31 : decode cX5_split 31 = .ok (.getfield 18, 3) := by decide +kernel
theorem dX5_split_34 : decode cX5_split 34 = .ok (.getfield 66, 3) := by decide +kernel
theorem dX5_split_37 : decode cX5_split 37 = .ok (.istore_n 3, 1) := by decide +kernel
theorem dX5_split_38 : decode cX5_split 38 = .ok (.aload_n 0, 1) := by decide +kernel
theorem dX5_split_39 : decode cX5_split 39 = .ok (.getfield 18, 3) := by decide +kernel
theorem dX5_split_42 : decode cX5_split 42 = .ok (.iload_n 1, 1) := by decide +kernel
theorem dX5_split_43 : decode cX5_split 43 = .ok (.iload_n 2, 1) := by decide +kernel
theorem dX5_split_44 : decode cX5_split 44 = .ok (.invokevirtual 81, 3) := by decide +kernel
theorem dX5_split_47 : decode cX5_split 47 = .ok (.iconst 0, 1) := by decide +kernel
theorem dX5_split_48 : decode cX5_split 48 = .ok (.istore 4, 2) := by decide +kernel
theorem dX5_split_50 : decode cX5_split 50 = .ok (.iload 4, 2) := by decide +kernel
theorem dX5_split_52 : decode cX5_split 52 = .ok (.bipush 6, 2) := by decide +kernel
theorem dX5_split_54 : decode cX5_split 54 = .ok (.if_icmp .ge 15, 3) := by decide +kernel
theorem dX5_split_57 : decode cX5_split 57 = .ok (.aload_n 0, 1) := by decide +kernel
theorem dX5_split_58 : decode cX5_split 58 = .ok (.iload 4, 2) := by decide +kernel
theorem dX5_split_60 : decode cX5_split 60 = .ok (.invokevirtual 84, 3) := by decide +kernel
theorem dX5_split_63 : decode cX5_split 63 = .ok (.iinc 4 1, 3) := by decide +kernel
theorem dX5_split_66 : decode cX5_split 66 = .ok (.goto (-16), 3) := by decide +kernel
theorem dX5_split_69 : decode cX5_split 69 = .ok (.aload_n 0, 1) := by decide +kernel
theorem dX5_split_70 : decode cX5_split 70 = .ok (.dup, 1) := by decide +kernel
theorem dX5_split_71 : decode cX5_split 71 = .ok (.getfield 43, 3) := by decide +kernel
theorem dX5_split_74 : decode cX5_split 74 = .ok (.iconst 1, 1) := by decide +kernel
theorem dX5_split_75 : decode cX5_split 75 = .ok (.iadd, 1) := by decide +kernel
theorem dX5_split_76 : decode cX5_split 76 = .ok (.putfield 43, 3) := by decide +kernel
theorem dX5_split_79 : decode cX5_split 79 = .ok (.iload_n 3, 1) := by decide +kernel
theorem dX5_split_80 : decode cX5_split 80 = .ok (.aload_n 0, 1) := by decide +kernel
theorem dX5_split_81 : decode cX5_split 81 = .ok (.getfield 18, 3) := by decide +kernel
theorem dX5_split_84 : decode cX5_split 84 = .ok (.getfield 66, 3) := by decide +kernel
theorem dX5_split_87 : decode cX5_split 87 = .ok (.isub, 1) := by decide +kernel
theorem dX5_split_88 : decode cX5_split 88 = .ok (.ireturn, 1) := by decide +kernel
theorem dX5_deliver_0 : decode cX5_deliver 0 = .ok (.iload_n 1, 1) := by decide +kernel
theorem dX5_deliver_1 : decode cX5_deliver 1 = .ok (.invokestatic 47, 3) := by decide +kernel
theorem dX5_deliver_4 : decode cX5_deliver 4 = .ok (.iload_n 2, 1) := by decide +kernel
theorem dX5_deliver_5 : decode cX5_deliver 5 = .ok (.invokestatic 47, 3) := by decide +kernel
theorem dX5_deliver_8 : decode cX5_deliver 8 = .ok (.aload_n 0, 1) := by decide +kernel
theorem dX5_deliver_9 : decode cX5_deliver 9 = .ok (.getfield 18, 3) := by decide +kernel
theorem dX5_deliver_12 : decode cX5_deliver 12 = .ok (.iload_n 1, 1) := by decide +kernel
theorem dX5_deliver_13 : decode cX5_deliver 13 = .ok (.iload_n 2, 1) := by decide +kernel
theorem dX5_deliver_14 : decode cX5_deliver 14 = .ok (.invokevirtual 76, 3) := by decide +kernel
theorem dX5_deliver_17 : decode cX5_deliver 17 = .ok (.ifCond .ne 13, 3) := by decide +kernel
theorem dX5_deliver_20 : decode cX5_deliver 20 = .ok (.new 59, 3) := by decide +kernel
theorem dX5_deliver_23 : decode cX5_deliver 23 = .ok (.dup, 1) := by decide +kernel
theorem dX5_deliver_24 : decode cX5_deliver 24 = .ok (.ldc 79, 2) := by decide +kernel
theorem dX5_deliver_26 : decode cX5_deliver 26 = .ok (.invokespecial 63, 3) := by decide +kernel
theorem dX5_deliver_29 : decode cX5_deliver 29 = .ok (.athrow, 1) := by decide +kernel
theorem dX5_deliver_30 : decode cX5_deliver 30 = .ok (.aload_n 0, 1) := by decide +kernel
theorem dX5_deliver_31 : decode cX5_deliver 31 = .ok (.iload_n 1, 1) := by decide +kernel
theorem dX5_deliver_32 : decode cX5_deliver 32 = .ok (.iload_n 2, 1) := by decide +kernel
theorem dX5_deliver_33 : decode cX5_deliver 33 = .ok (.invokevirtual 87, 3) := by decide +kernel
theorem dX5_deliver_36 : decode cX5_deliver 36 = .ok (.ifCond .ne 13, 3) := by decide +kernel
theorem dX5_deliver_39 : decode cX5_deliver 39 = .ok (.new 59, 3) := by decide +kernel
theorem dX5_deliver_42 : decode cX5_deliver 42 = .ok (.dup, 1) := by decide +kernel
theorem dX5_deliver_43 : decode cX5_deliver 43 = .ok (.ldc 90, 2) := by decide +kernel
theorem dX5_deliver_45 : decode cX5_deliver 45 = .ok (.invokespecial 63, 3) := by decide +kernel
theorem dX5_deliver_48 : decode cX5_deliver 48 = .ok (.athrow, 1) := by decide +kernel
theorem dX5_deliver_49 : decode cX5_deliver 49 = .ok (.aload_n 0, 1) := by decide +kernel
theorem dX5_deliver_50 : decode cX5_deliver 50 = .ok (.dup, 1) := by decide +kernel
theorem dX5_deliver_51 : decode cX5_deliver 51 = .ok (.getfield 43, 3) := by decide +kernel
theorem dX5_deliver_54 : decode cX5_deliver 54 = .ok (.iconst 1, 1) := by decide +kernel
theorem dX5_deliver_55 : decode cX5_deliver 55 = .ok (.iadd, 1) := by decide +kernel
theorem dX5_deliver_56 : decode cX5_deliver 56 = .ok (.putfield 43, 3) := by decide +kernel
theorem dX5_deliver_59 : decode cX5_deliver 59 = .ok (.aload_n 0, 1) := by decide +kernel
theorem dX5_deliver_60 : decode cX5_deliver 60 = .ok (.getfield 18, 3) := by decide +kernel
theorem dX5_deliver_63 : decode cX5_deliver 63 = .ok (.getfield 66, 3) := by decide +kernel
theorem dX5_deliver_66 : decode cX5_deliver 66 = .ok (.ireturn, 1) := by decide +kernel
theorem dX5_deliverAll_0 : decode cX5_deliverAll 0 = .ok (.iconst 0, 1) := by decide +kernel
theorem dX5_deliverAll_1 : decode cX5_deliverAll 1 = .ok (.istore_n 1, 1) := by decide +kernel
theorem dX5_deliverAll_2 : decode cX5_deliverAll 2 = .ok (.iconst 0, 1) := by decide +kernel
theorem dX5_deliverAll_3 : decode cX5_deliverAll 3 = .ok (.istore_n 2, 1) := by decide +kernel
theorem dX5_deliverAll_4 : decode cX5_deliverAll 4 = .ok (.iload_n 2, 1) := by decide +kernel
theorem dX5_deliverAll_5 : decode cX5_deliverAll 5 = .ok (.ldc 92, 2) := by decide +kernel
theorem dX5_deliverAll_7 : decode cX5_deliverAll 7 = .ok (.if_icmp .ge 26, 3) := by decide +kernel
theorem dX5_deliverAll_10 : decode cX5_deliverAll 10 = .ok (.aload_n 0, 1) := by decide +kernel
theorem dX5_deliverAll_11 : decode cX5_deliverAll 11 = .ok (.getfield 18, 3) := by decide +kernel
theorem dX5_deliverAll_14 : decode cX5_deliverAll 14 = .ok (.getfield 66, 3) := by decide +kernel
theorem dX5_deliverAll_17 : decode cX5_deliverAll 17 = .ok (.ifCond .le 16, 3) := by decide +kernel
theorem dX5_deliverAll_20 : decode cX5_deliverAll 20 = .ok (.iload_n 1, 1) := by decide +kernel
theorem dX5_deliverAll_21 : decode cX5_deliverAll 21 = .ok (.aload_n 0, 1) := by decide +kernel
theorem dX5_deliverAll_22 : decode cX5_deliverAll 22 = .ok (.invokevirtual 93, 3) := by decide +kernel
theorem dX5_deliverAll_25 : decode cX5_deliverAll 25 = .ok (.iadd, 1) := by decide +kernel
theorem dX5_deliverAll_26 : decode cX5_deliverAll 26 = .ok (.istore_n 1, 1) := by decide +kernel
theorem dX5_deliverAll_27 : decode cX5_deliverAll 27 = .ok (.iinc 2 1, 3) := by decide +kernel
theorem dX5_deliverAll_30 : decode cX5_deliverAll 30 = .ok (.goto (-26), 3) := by decide +kernel
theorem dX5_deliverAll_33 : decode cX5_deliverAll 33 = .ok (.aload_n 0, 1) := by decide +kernel
theorem dX5_deliverAll_34 : decode cX5_deliverAll 34 = .ok (.dup, 1) := by decide +kernel
theorem dX5_deliverAll_35 : decode cX5_deliverAll 35 = .ok (.getfield 43, 3) := by decide +kernel
theorem dX5_deliverAll_38 : decode cX5_deliverAll 38 = .ok (.iconst 1, 1) := by decide +kernel
theorem dX5_deliverAll_39 : decode cX5_deliverAll 39 = .ok (.iadd, 1) := by decide +kernel
theorem dX5_deliverAll_40 : decode cX5_deliverAll 40 = .ok (.putfield 43, 3) := by decide +kernel
theorem dX5_deliverAll_43 : decode cX5_deliverAll 43 = .ok (.iload_n 1, 1) := by decide +kernel
theorem dX5_deliverAll_44 : decode cX5_deliverAll 44 = .ok (.ireturn, 1) := by decide +kernel
theorem dX5_lines_0 : decode cX5_lines 0 = .ok (.aload_n 0, 1) := by decide +kernel
theorem dX5_lines_1 : decode cX5_lines 1 = .ok (.getfield 18, 3) := by decide +kernel
theorem dX5_lines_4 : decode cX5_lines 4 = .ok (.getfield 66, 3) := by decide +kernel
theorem dX5_lines_7 : decode cX5_lines 7 = .ok (.ireturn, 1) := by decide +kernel
theorem dX5_tree_0 : decode cX5_tree 0 = .ok (.iload_n 1, 1) := by decide +kernel
theorem dX5_tree_1 : decode cX5_tree 1 = .ok (.invokestatic 47, 3) := by decide +kernel
theorem dX5_tree_4 : decode cX5_tree 4 = .ok (.aload_n 0, 1) := by decide +kernel
theorem dX5_tree_5 : decode cX5_tree 5 = .ok (.getfield 18, 3) := by decide +kernel
theorem dX5_tree_8 : decode cX5_tree 8 = .ok (.iload_n 1, 1) := by decide +kernel
theorem dX5_tree_9 : decode cX5_tree 9 = .ok (.invokevirtual 51, 3) := by decide +kernel
theorem dX5_tree_12 : decode cX5_tree 12 = .ok (.ireturn, 1) := by decide +kernel
theorem dX5_signOn_0 : decode cX5_signOn 0 = .ok (.iload_n 1, 1) := by decide +kernel
theorem dX5_signOn_1 : decode cX5_signOn 1 = .ok (.invokestatic 47, 3) := by decide +kernel
theorem dX5_signOn_4 : decode cX5_signOn 4 = .ok (.iload_n 2, 1) := by decide +kernel
theorem dX5_signOn_5 : decode cX5_signOn 5 = .ok (.invokestatic 97, 3) := by decide +kernel
theorem dX5_signOn_8 : decode cX5_signOn 8 = .ok (.istore_n 3, 1) := by decide +kernel
theorem dX5_signOn_9 : decode cX5_signOn 9 = .ok (.iload_n 3, 1) := by decide +kernel
theorem dX5_signOn_10 : decode cX5_signOn 10 = .ok (.iconst (-1), 1) := by decide +kernel
theorem dX5_signOn_11 : decode cX5_signOn 11 = .ok (.if_icmp .ne 13, 3) := by decide +kernel
theorem dX5_signOn_14 : decode cX5_signOn 14 = .ok (.new 101, 3) := by decide +kernel
theorem dX5_signOn_17 : decode cX5_signOn 17 = .ok (.dup, 1) := by decide +kernel
theorem dX5_signOn_18 : decode cX5_signOn 18 = .ok (.ldc 103, 2) := by decide +kernel
theorem dX5_signOn_20 : decode cX5_signOn 20 = .ok (.invokespecial 105, 3) := by decide +kernel
theorem dX5_signOn_23 : decode cX5_signOn 23 = .ok (.athrow, 1) := by decide +kernel
theorem dX5_signOn_24 : decode cX5_signOn 24 = .ok (.aload_n 0, 1) := by decide +kernel
theorem dX5_signOn_25 : decode cX5_signOn 25 = .ok (.getfield 11, 3) := by decide +kernel
theorem dX5_signOn_28 : decode cX5_signOn 28 = .ok (.iload_n 1, 1) := by decide +kernel
theorem dX5_signOn_29 : decode cX5_signOn 29 = .ok (.aaload, 1) := by decide +kernel
theorem dX5_signOn_30 : decode cX5_signOn 30 = .ok (.astore 4, 2) := by decide +kernel
theorem dX5_signOn_32 : decode cX5_signOn 32 = .ok (.aload_n 0, 1) := by decide +kernel
theorem dX5_signOn_33 : decode cX5_signOn 33 = .ok (.getfield 39, 3) := by decide +kernel
theorem dX5_signOn_36 : decode cX5_signOn 36 = .ok (.bipush 20, 2) := by decide +kernel
theorem dX5_signOn_38 : decode cX5_signOn 38 = .ok (.if_icmp .ge 15, 3) := by decide +kernel
theorem dX5_signOn_41 : decode cX5_signOn 41 = .ok (.aload_n 0, 1) := by decide +kernel
theorem dX5_signOn_42 : decode cX5_signOn 42 = .ok (.aload 4, 2) := by decide +kernel
theorem dX5_signOn_44 : decode cX5_signOn 44 = .ok (.iload_n 3, 1) := by decide +kernel
theorem dX5_signOn_45 : decode cX5_signOn 45 = .ok (.iconst (-1), 1) := by decide +kernel
theorem dX5_signOn_46 : decode cX5_signOn 46 = .ok (.invokevirtual 106, 3) := by decide +kernel
theorem dX5_signOn_49 : decode cX5_signOn 49 = .ok (.iconst (-1), 1) := by decide +kernel
theorem dX5_signOn_50 : decode cX5_signOn 50 = .ok (.if_icmp .eq 13, 3) := by decide +kernel
theorem dX5_signOn_53 : decode cX5_signOn 53 = .ok (.new 59, 3) := by decide +kernel
theorem dX5_signOn_56 : decode cX5_signOn 56 = .ok (.dup, 1) := by decide +kernel
theorem dX5_signOn_57 : decode cX5_signOn 57 = .ok (.ldc 110, 2) := by decide +kernel
theorem dX5_signOn_59 : decode cX5_signOn 59 = .ok (.invokespecial 63, 3) := by decide +kernel
theorem dX5_signOn_62 : decode cX5_signOn 62 = .ok (.athrow, 1) := by decide +kernel
theorem dX5_signOn_63 : decode cX5_signOn 63 = .ok (.aload_n 0, 1) := by decide +kernel
theorem dX5_signOn_64 : decode cX5_signOn 64 = .ok (.getfield 39, 3) := by decide +kernel
theorem dX5_signOn_67 : decode cX5_signOn 67 = .ok (.istore 5, 2) := by decide +kernel
theorem dX5_signOn_69 : decode cX5_signOn 69 = .ok (.aload_n 0, 1) := by decide +kernel
theorem dX5_signOn_70 : decode cX5_signOn 70 = .ok (.getfield 22, 3) := by decide +kernel
theorem dX5_signOn_73 : decode cX5_signOn 73 = .ok (.iload 5, 2) := by decide +kernel
theorem dX5_signOn_75 : decode cX5_signOn 75 = .ok (.iload_n 1, 1) := by decide +kernel
theorem dX5_signOn_76 : decode cX5_signOn 76 = .ok (.iastore, 1) := by decide +kernel
theorem dX5_signOn_77 : decode cX5_signOn 77 = .ok (.aload_n 0, 1) := by decide +kernel
theorem dX5_signOn_78 : decode cX5_signOn 78 = .ok (.getfield 26, 3) := by decide +kernel
theorem dX5_signOn_81 : decode cX5_signOn 81 = .ok (.iload 5, 2) := by decide +kernel
theorem dX5_signOn_83 : decode cX5_signOn 83 = .ok (.iload_n 3, 1) := by decide +kernel
theorem dX5_signOn_84 : decode cX5_signOn 84 = .ok (.iastore, 1) := by decide +kernel
theorem dX5_signOn_85 : decode cX5_signOn 85 = .ok (.aload_n 0, 1) := by decide +kernel
theorem dX5_signOn_86 : decode cX5_signOn 86 = .ok (.getfield 29, 3) := by decide +kernel
theorem dX5_signOn_89 : decode cX5_signOn 89 = .ok (.iload 5, 2) := by decide +kernel
theorem dX5_signOn_91 : decode cX5_signOn 91 = .ok (.aload_n 0, 1) := by decide +kernel
theorem dX5_signOn_92 : decode cX5_signOn 92 = .ok (.getfield 43, 3) := by decide +kernel
theorem dX5_signOn_95 : decode cX5_signOn 95 = .ok (.iastore, 1) := by decide +kernel
theorem dX5_signOn_96 : decode cX5_signOn 96 = .ok (.aload_n 0, 1) := by decide +kernel
theorem dX5_signOn_97 : decode cX5_signOn 97 = .ok (.dup, 1) := by decide +kernel
theorem dX5_signOn_98 : decode cX5_signOn 98 = .ok (.getfield 39, 3) := by decide +kernel
theorem dX5_signOn_101 : decode cX5_signOn 101 = .ok (.iconst 1, 1) := by decide +kernel
theorem dX5_signOn_102 : decode cX5_signOn 102 = .ok (.iadd, 1) := by decide +kernel
theorem dX5_signOn_103 : decode cX5_signOn 103 = .ok (.putfield 39, 3) := by decide +kernel
theorem dX5_signOn_106 : decode cX5_signOn 106 = .ok (.aload 4, 2) := by decide +kernel
theorem dX5_signOn_108 : decode cX5_signOn 108 = .ok (.iload 5, 2) := by decide +kernel
theorem dX5_signOn_110 : decode cX5_signOn 110 = .ok (.invokevirtual 112, 3) := by decide +kernel
theorem dX5_signOn_113 : decode cX5_signOn 113 = .ok (.aload_n 0, 1) := by decide +kernel
theorem dX5_signOn_114 : decode cX5_signOn 114 = .ok (.getfield 18, 3) := by decide +kernel
theorem dX5_signOn_117 : decode cX5_signOn 117 = .ok (.iload_n 1, 1) := by decide +kernel
theorem dX5_signOn_118 : decode cX5_signOn 118 = .ok (.iconst (-1), 1) := by decide +kernel
theorem dX5_signOn_119 : decode cX5_signOn 119 = .ok (.aload_n 0, 1) := by decide +kernel
theorem dX5_signOn_120 : decode cX5_signOn 120 = .ok (.getfield 35, 3) := by decide +kernel
theorem dX5_signOn_123 : decode cX5_signOn 123 = .ok (.iconst 0, 1) := by decide +kernel
theorem dX5_signOn_124 : decode cX5_signOn 124 = .ok (.iload 5, 2) := by decide +kernel
theorem dX5_signOn_126 : decode cX5_signOn 126 = .ok (.invokevirtual 115, 3) := by decide +kernel
theorem dX5_signOn_129 : decode cX5_signOn 129 = .ok (.invokevirtual 119, 3) := by decide +kernel
theorem dX5_signOn_132 : decode cX5_signOn 132 = .ok (.aload_n 0, 1) := by decide +kernel
theorem dX5_signOn_133 : decode cX5_signOn 133 = .ok (.dup, 1) := by decide +kernel
theorem dX5_signOn_134 : decode cX5_signOn 134 = .ok (.getfield 43, 3) := by decide +kernel
theorem dX5_signOn_137 : decode cX5_signOn 137 = .ok (.iconst 1, 1) := by decide +kernel
theorem dX5_signOn_138 : decode cX5_signOn 138 = .ok (.iadd, 1) := by decide +kernel
theorem dX5_signOn_139 : decode cX5_signOn 139 = .ok (.putfield 43, 3) := by decide +kernel
theorem dX5_signOn_142 : decode cX5_signOn 142 = .ok (.iload 5, 2) := by decide +kernel
theorem dX5_signOn_144 : decode cX5_signOn 144 = .ok (.ireturn, 1) := by decide +kernel
theorem dX5_quit_0 : decode cX5_quit 0 = .ok (.aload_n 0, 1) := by decide +kernel
theorem dX5_quit_1 : decode cX5_quit 1 = .ok (.iload_n 1, 1) := by decide +kernel
theorem dX5_quit_2 : decode cX5_quit 2 = .ok (.invokevirtual 123, 3) := by decide +kernel
theorem dX5_quit_5 : decode cX5_quit 5 = .ok (.aload_n 0, 1) := by decide +kernel
theorem dX5_quit_6 : decode cX5_quit 6 = .ok (.iload_n 1, 1) := by decide +kernel
theorem dX5_quit_7 : decode cX5_quit 7 = .ok (.invokevirtual 126, 3) := by decide +kernel
theorem dX5_quit_10 : decode cX5_quit 10 = .ok (.aload_n 0, 1) := by decide +kernel
theorem dX5_quit_11 : decode cX5_quit 11 = .ok (.getfield 22, 3) := by decide +kernel
theorem dX5_quit_14 : decode cX5_quit 14 = .ok (.iload_n 1, 1) := by decide +kernel
theorem dX5_quit_15 : decode cX5_quit 15 = .ok (.iaload, 1) := by decide +kernel
theorem dX5_quit_16 : decode cX5_quit 16 = .ok (.istore_n 2, 1) := by decide +kernel
theorem dX5_quit_17 : decode cX5_quit 17 = .ok (.aload_n 0, 1) := by decide +kernel
theorem dX5_quit_18 : decode cX5_quit 18 = .ok (.getfield 11, 3) := by decide +kernel
theorem dX5_quit_21 : decode cX5_quit 21 = .ok (.iload_n 2, 1) := by decide +kernel
theorem dX5_quit_22 : decode cX5_quit 22 = .ok (.aaload, 1) := by decide +kernel
theorem dX5_quit_23 : decode cX5_quit 23 = .ok (.iload_n 1, 1) := by decide +kernel
theorem dX5_quit_24 : decode cX5_quit 24 = .ok (.invokevirtual 129, 3) := by decide +kernel
theorem dX5_quit_27 : decode cX5_quit 27 = .ok (.aload_n 0, 1) := by decide +kernel
theorem dX5_quit_28 : decode cX5_quit 28 = .ok (.getfield 18, 3) := by decide +kernel
theorem dX5_quit_31 : decode cX5_quit 31 = .ok (.iload_n 2, 1) := by decide +kernel
theorem dX5_quit_32 : decode cX5_quit 32 = .ok (.iconst (-1), 1) := by decide +kernel
theorem dX5_quit_33 : decode cX5_quit 33 = .ok (.aload_n 0, 1) := by decide +kernel
theorem dX5_quit_34 : decode cX5_quit 34 = .ok (.getfield 35, 3) := by decide +kernel
theorem dX5_quit_37 : decode cX5_quit 37 = .ok (.iconst 1, 1) := by decide +kernel
theorem dX5_quit_38 : decode cX5_quit 38 = .ok (.iload_n 1, 1) := by decide +kernel
theorem dX5_quit_39 : decode cX5_quit 39 = .ok (.invokevirtual 115, 3) := by decide +kernel
theorem dX5_quit_42 : decode cX5_quit 42 = .ok (.invokevirtual 119, 3) := by decide +kernel
theorem dX5_quit_45 : decode cX5_quit 45 = .ok (.aload_n 0, 1) := by decide +kernel
theorem dX5_quit_46 : decode cX5_quit 46 = .ok (.dup, 1) := by decide +kernel
theorem dX5_quit_47 : decode cX5_quit 47 = .ok (.getfield 43, 3) := by decide +kernel
theorem dX5_quit_50 : decode cX5_quit 50 = .ok (.iconst 1, 1) := by decide +kernel
theorem dX5_quit_51 : decode cX5_quit 51 = .ok (.iadd, 1) := by decide +kernel
theorem dX5_quit_52 : decode cX5_quit 52 = .ok (.putfield 43, 3) := by decide +kernel
theorem dX5_quit_55 : decode cX5_quit 55 = .ok (.return_, 1) := by decide +kernel
theorem dX5_join_0 : decode cX5_join 0 = .ok (.aload_n 0, 1) := by decide +kernel
theorem dX5_join_1 : decode cX5_join 1 = .ok (.iload_n 1, 1) := by decide +kernel
theorem dX5_join_2 : decode cX5_join 2 = .ok (.invokevirtual 123, 3) := by decide +kernel
theorem dX5_join_5 : decode cX5_join 5 = .ok (.iload_n 2, 1) := by decide +kernel
theorem dX5_join_6 : decode cX5_join 6 = .ok (.invokestatic 132, 3) := by decide +kernel
theorem dX5_join_9 : decode cX5_join 9 = .ok (.aload_n 0, 1) := by decide +kernel
theorem dX5_join_10 : decode cX5_join 10 = .ok (.iload_n 1, 1) := by decide +kernel
theorem dX5_join_11 : decode cX5_join 11 = .ok (.invokevirtual 126, 3) := by decide +kernel
theorem dX5_join_14 : decode cX5_join 14 = .ok (.aload_n 0, 1) := by decide +kernel
theorem dX5_join_15 : decode cX5_join 15 = .ok (.getfield 22, 3) := by decide +kernel
theorem dX5_join_18 : decode cX5_join 18 = .ok (.iload_n 1, 1) := by decide +kernel
theorem dX5_join_19 : decode cX5_join 19 = .ok (.iaload, 1) := by decide +kernel
theorem dX5_join_20 : decode cX5_join 20 = .ok (.istore_n 3, 1) := by decide +kernel
theorem dX5_join_21 : decode cX5_join 21 = .ok (.aload_n 0, 1) := by decide +kernel
theorem dX5_join_22 : decode cX5_join 22 = .ok (.getfield 11, 3) := by decide +kernel
theorem dX5_join_25 : decode cX5_join 25 = .ok (.iload_n 3, 1) := by decide +kernel
theorem dX5_join_26 : decode cX5_join 26 = .ok (.aaload, 1) := by decide +kernel
theorem dX5_join_27 : decode cX5_join 27 = .ok (.getfield 135, 3) := by decide +kernel
theorem dX5_join_30 : decode cX5_join 30 = .ok (.iload_n 2, 1) := by decide +kernel
theorem dX5_join_31 : decode cX5_join 31 = .ok (.aaload, 1) := by decide +kernel
theorem dX5_join_32 : decode cX5_join 32 = .ok (.astore 4, 2) := by decide +kernel
theorem dX5_join_34 : decode cX5_join 34 = .ok (.aload 4, 2) := by decide +kernel
theorem dX5_join_36 : decode cX5_join 36 = .ok (.getfield 139, 3) := by decide +kernel
theorem dX5_join_39 : decode cX5_join 39 = .ok (.iload_n 1, 1) := by decide +kernel
theorem dX5_join_40 : decode cX5_join 40 = .ok (.invokestatic 55, 3) := by decide +kernel
theorem dX5_join_43 : decode cX5_join 43 = .ok (.ifCond .eq 13, 3) := by decide +kernel
theorem dX5_join_46 : decode cX5_join 46 = .ok (.new 59, 3) := by decide +kernel
theorem dX5_join_49 : decode cX5_join 49 = .ok (.dup, 1) := by decide +kernel
theorem dX5_join_50 : decode cX5_join 50 = .ok (.ldc 144, 2) := by decide +kernel
theorem dX5_join_52 : decode cX5_join 52 = .ok (.invokespecial 63, 3) := by decide +kernel
theorem dX5_join_55 : decode cX5_join 55 = .ok (.athrow, 1) := by decide +kernel
theorem dX5_join_56 : decode cX5_join 56 = .ok (.aload 4, 2) := by decide +kernel
theorem dX5_join_58 : decode cX5_join 58 = .ok (.invokevirtual 146, 3) := by decide +kernel
theorem dX5_join_61 : decode cX5_join 61 = .ok (.ifCond .eq 30, 3) := by decide +kernel
theorem dX5_join_64 : decode cX5_join 64 = .ok (.aload 4, 2) := by decide +kernel
theorem dX5_join_66 : decode cX5_join 66 = .ok (.getfield 150, 3) := by decide +kernel
theorem dX5_join_69 : decode cX5_join 69 = .ok (.aload_n 0, 1) := by decide +kernel
theorem dX5_join_70 : decode cX5_join 70 = .ok (.getfield 26, 3) := by decide +kernel
theorem dX5_join_73 : decode cX5_join 73 = .ok (.iload_n 1, 1) := by decide +kernel
theorem dX5_join_74 : decode cX5_join 74 = .ok (.iaload, 1) := by decide +kernel
theorem dX5_join_75 : decode cX5_join 75 = .ok (.invokestatic 55, 3) := by decide +kernel
theorem dX5_join_78 : decode cX5_join 78 = .ok (.ifCond .eq 13, 3) := by decide +kernel
theorem dX5_join_81 : decode cX5_join 81 = .ok (.new 59, 3) := by decide +kernel
theorem dX5_join_84 : decode cX5_join 84 = .ok (.dup, 1) := by decide +kernel
theorem dX5_join_85 : decode cX5_join 85 = .ok (.ldc 153, 2) := by decide +kernel
theorem dX5_join_87 : decode cX5_join 87 = .ok (.invokespecial 63, 3) := by decide +kernel
theorem dX5_join_90 : decode cX5_join 90 = .ok (.athrow, 1) := by decide +kernel
theorem dX5_join_91 : decode cX5_join 91 = .ok (.aload 4, 2) := by decide +kernel
theorem dX5_join_93 : decode cX5_join 93 = .ok (.iload_n 1, 1) := by decide +kernel
theorem dX5_join_94 : decode cX5_join 94 = .ok (.aload_n 0, 1) := by decide +kernel
theorem dX5_join_95 : decode cX5_join 95 = .ok (.getfield 43, 3) := by decide +kernel
theorem dX5_join_98 : decode cX5_join 98 = .ok (.invokevirtual 155, 3) := by decide +kernel
theorem dX5_join_101 : decode cX5_join 101 = .ok (.aload_n 0, 1) := by decide +kernel
theorem dX5_join_102 : decode cX5_join 102 = .ok (.getfield 18, 3) := by decide +kernel
theorem dX5_join_105 : decode cX5_join 105 = .ok (.iload_n 3, 1) := by decide +kernel
theorem dX5_join_106 : decode cX5_join 106 = .ok (.iconst (-1), 1) := by decide +kernel
theorem dX5_join_107 : decode cX5_join 107 = .ok (.aload_n 0, 1) := by decide +kernel
theorem dX5_join_108 : decode cX5_join 108 = .ok (.getfield 35, 3) := by decide +kernel
theorem dX5_join_111 : decode cX5_join 111 = .ok (.iconst 2, 1) := by decide +kernel
theorem dX5_join_112 : decode cX5_join 112 = .ok (.iload_n 2, 1) := by decide +kernel
theorem dX5_join_113 : decode cX5_join 113 = .ok (.aload 4, 2) := by decide +kernel
theorem dX5_join_115 : decode cX5_join 115 = .ok (.iconst 1, 1) := by decide +kernel
theorem dX5_join_116 : decode cX5_join 116 = .ok (.iload_n 1, 1) := by decide +kernel
theorem dX5_join_117 : decode cX5_join 117 = .ok (.ishl, 1) := by decide +kernel
theorem dX5_join_118 : decode cX5_join 118 = .ok (.invokevirtual 158, 3) := by decide +kernel
theorem dX5_join_121 : decode cX5_join 121 = .ok (.invokevirtual 119, 3) := by decide +kernel
theorem dX5_join_124 : decode cX5_join 124 = .ok (.aload_n 0, 1) := by decide +kernel
theorem dX5_join_125 : decode cX5_join 125 = .ok (.dup, 1) := by decide +kernel
theorem dX5_join_126 : decode cX5_join 126 = .ok (.getfield 43, 3) := by decide +kernel
theorem dX5_join_129 : decode cX5_join 129 = .ok (.iconst 1, 1) := by decide +kernel
theorem dX5_join_130 : decode cX5_join 130 = .ok (.iadd, 1) := by decide +kernel
theorem dX5_join_131 : decode cX5_join 131 = .ok (.putfield 43, 3) := by decide +kernel
theorem dX5_join_134 : decode cX5_join 134 = .ok (.aload 4, 2) := by decide +kernel
theorem dX5_join_136 : decode cX5_join 136 = .ok (.getfield 139, 3) := by decide +kernel
theorem dX5_join_139 : decode cX5_join 139 = .ok (.invokestatic 162, 3) := by decide +kernel
theorem dX5_join_142 : decode cX5_join 142 = .ok (.ireturn, 1) := by decide +kernel
theorem dX5_leave_0 : decode cX5_leave 0 = .ok (.aload_n 0, 1) := by decide +kernel
theorem dX5_leave_1 : decode cX5_leave 1 = .ok (.iload_n 1, 1) := by decide +kernel
theorem dX5_leave_2 : decode cX5_leave 2 = .ok (.invokevirtual 123, 3) := by decide +kernel
theorem dX5_leave_5 : decode cX5_leave 5 = .ok (.iload_n 2, 1) := by decide +kernel
theorem dX5_leave_6 : decode cX5_leave 6 = .ok (.invokestatic 132, 3) := by decide +kernel
theorem dX5_leave_9 : decode cX5_leave 9 = .ok (.aload_n 0, 1) := by decide +kernel
theorem dX5_leave_10 : decode cX5_leave 10 = .ok (.iload_n 1, 1) := by decide +kernel
theorem dX5_leave_11 : decode cX5_leave 11 = .ok (.invokevirtual 126, 3) := by decide +kernel
theorem dX5_leave_14 : decode cX5_leave 14 = .ok (.aload_n 0, 1) := by decide +kernel
theorem dX5_leave_15 : decode cX5_leave 15 = .ok (.iload_n 1, 1) := by decide +kernel
theorem dX5_leave_16 : decode cX5_leave 16 = .ok (.iload_n 2, 1) := by decide +kernel
theorem dX5_leave_17 : decode cX5_leave 17 = .ok (.invokevirtual 167, 3) := by decide +kernel
theorem dX5_leave_20 : decode cX5_leave 20 = .ok (.aload_n 0, 1) := by decide +kernel
theorem dX5_leave_21 : decode cX5_leave 21 = .ok (.getfield 22, 3) := by decide +kernel
theorem dX5_leave_24 : decode cX5_leave 24 = .ok (.iload_n 1, 1) := by decide +kernel
theorem dX5_leave_25 : decode cX5_leave 25 = .ok (.iaload, 1) := by decide +kernel
theorem dX5_leave_26 : decode cX5_leave 26 = .ok (.istore_n 3, 1) := by decide +kernel
theorem dX5_leave_27 : decode cX5_leave 27 = .ok (.aload_n 0, 1) := by decide +kernel
theorem dX5_leave_28 : decode cX5_leave 28 = .ok (.getfield 11, 3) := by decide +kernel
theorem dX5_leave_31 : decode cX5_leave 31 = .ok (.iload_n 3, 1) := by decide +kernel
theorem dX5_leave_32 : decode cX5_leave 32 = .ok (.aaload, 1) := by decide +kernel
theorem dX5_leave_33 : decode cX5_leave 33 = .ok (.getfield 135, 3) := by decide +kernel
theorem dX5_leave_36 : decode cX5_leave 36 = .ok (.iload_n 2, 1) := by decide +kernel
theorem dX5_leave_37 : decode cX5_leave 37 = .ok (.aaload, 1) := by decide +kernel
theorem dX5_leave_38 : decode cX5_leave 38 = .ok (.iload_n 1, 1) := by decide +kernel
theorem dX5_leave_39 : decode cX5_leave 39 = .ok (.invokevirtual 170, 3) := by decide +kernel
theorem dX5_leave_42 : decode cX5_leave 42 = .ok (.aload_n 0, 1) := by decide +kernel
theorem dX5_leave_43 : decode cX5_leave 43 = .ok (.getfield 18, 3) := by decide +kernel
theorem dX5_leave_46 : decode cX5_leave 46 = .ok (.iload_n 3, 1) := by decide +kernel
theorem dX5_leave_47 : decode cX5_leave 47 = .ok (.iconst (-1), 1) := by decide +kernel
theorem dX5_leave_48 : decode cX5_leave 48 = .ok (.aload_n 0, 1) := by decide +kernel
theorem dX5_leave_49 : decode cX5_leave 49 = .ok (.getfield 35, 3) := by decide +kernel
theorem dX5_leave_52 : decode cX5_leave 52 = .ok (.iload_n 2, 1) := by decide +kernel
theorem dX5_leave_53 : decode cX5_leave 53 = .ok (.iload_n 1, 1) := by decide +kernel
theorem dX5_leave_54 : decode cX5_leave 54 = .ok (.invokevirtual 173, 3) := by decide +kernel
theorem dX5_leave_57 : decode cX5_leave 57 = .ok (.invokevirtual 119, 3) := by decide +kernel
theorem dX5_leave_60 : decode cX5_leave 60 = .ok (.aload_n 0, 1) := by decide +kernel
theorem dX5_leave_61 : decode cX5_leave 61 = .ok (.dup, 1) := by decide +kernel
theorem dX5_leave_62 : decode cX5_leave 62 = .ok (.getfield 43, 3) := by decide +kernel
theorem dX5_leave_65 : decode cX5_leave 65 = .ok (.iconst 1, 1) := by decide +kernel
theorem dX5_leave_66 : decode cX5_leave 66 = .ok (.iadd, 1) := by decide +kernel
theorem dX5_leave_67 : decode cX5_leave 67 = .ok (.putfield 43, 3) := by decide +kernel
theorem dX5_leave_70 : decode cX5_leave 70 = .ok (.return_, 1) := by decide +kernel
theorem dX5_setModes_0 : decode cX5_setModes 0 = .ok (.aload_n 0, 1) := by decide +kernel
theorem dX5_setModes_1 : decode cX5_setModes 1 = .ok (.iload_n 1, 1) := by decide +kernel
theorem dX5_setModes_2 : decode cX5_setModes 2 = .ok (.invokevirtual 123, 3) := by decide +kernel
theorem dX5_setModes_5 : decode cX5_setModes 5 = .ok (.iload_n 2, 1) := by decide +kernel
theorem dX5_setModes_6 : decode cX5_setModes 6 = .ok (.invokestatic 132, 3) := by decide +kernel
theorem dX5_setModes_9 : decode cX5_setModes 9 = .ok (.iload_n 3, 1) := by decide +kernel
theorem dX5_setModes_10 : decode cX5_setModes 10 = .ok (.ifCond .lt 21, 3) := by decide +kernel
theorem dX5_setModes_13 : decode cX5_setModes 13 = .ok (.iload_n 3, 1) := by decide +kernel
theorem dX5_setModes_14 : decode cX5_setModes 14 = .ok (.bipush 15, 2) := by decide +kernel
theorem dX5_setModes_16 : decode cX5_setModes 16 = .ok (.if_icmp .gt 15, 3) := by decide +kernel
theorem dX5_setModes_19 : decode cX5_setModes 19 = .ok (.iload 4, 2) := by decide +kernel
theorem dX5_setModes_21 : decode cX5_setModes 21 = .ok (.ifCond .lt 10, 3) := by decide +kernel
theorem dX5_setModes_24 : decode cX5_setModes 24 = .ok (.iload 4, 2) := by decide +kernel
theorem dX5_setModes_26 : decode cX5_setModes 26 = .ok (.ldc 176, 2) := by decide +kernel
theorem dX5_setModes_28 : decode cX5_setModes 28 = .ok (.if_icmp .le 13, 3) := by decide +kernel
theorem dX5_setModes_31 : decode cX5_setModes 31 = .ok (.new 101, 3) := by decide +kernel
theorem dX5_setModes_34 : decode cX5_setModes 34 = .ok (.dup, 1) := by decide +kernel
theorem dX5_setModes_35 : decode cX5_setModes 35 = .ok (.ldc 177, 2) := by decide +kernel
theorem dX5_setModes_37 : decode cX5_setModes 37 = .ok (.invokespecial 105, 3) := by decide +kernel
theorem dX5_setModes_40 : decode cX5_setModes 40 = .ok (.athrow, 1) := by decide +kernel
theorem dX5_setModes_41 : decode cX5_setModes 41 = .ok (.aload_n 0, 1) := by decide +kernel
theorem dX5_setModes_42 : decode cX5_setModes 42 = .ok (.iload_n 1, 1) := by decide +kernel
theorem dX5_setModes_43 : decode cX5_setModes 43 = .ok (.invokevirtual 126, 3) := by decide +kernel
theorem dX5_setModes_46 : decode cX5_setModes 46 = .ok (.aload_n 0, 1) := by decide +kernel
theorem dX5_setModes_47 : decode cX5_setModes 47 = .ok (.iload_n 1, 1) := by decide +kernel
theorem dX5_setModes_48 : decode cX5_setModes 48 = .ok (.iload_n 2, 1) := by decide +kernel
theorem dX5_setModes_49 : decode cX5_setModes 49 = .ok (.invokevirtual 167, 3) := by decide +kernel
theorem dX5_setModes_52 : decode cX5_setModes 52 = .ok (.aload_n 0, 1) := by decide +kernel
theorem dX5_setModes_53 : decode cX5_setModes 53 = .ok (.getfield 22, 3) := by decide +kernel
theorem dX5_setModes_56 : decode cX5_setModes 56 = .ok (.iload_n 1, 1) := by decide +kernel
theorem dX5_setModes_57 : decode cX5_setModes 57 = .ok (.iaload, 1) := by decide +kernel
theorem dX5_setModes_58 : decode cX5_setModes 58 = .ok (.istore 5, 2) := by decide +kernel
theorem dX5_setModes_60 : decode cX5_setModes 60 = .ok (.aload_n 0, 1) := by decide +kernel
theorem dX5_setModes_61 : decode cX5_setModes 61 = .ok (.getfield 11, 3) := by decide +kernel
theorem dX5_setModes_64 : decode cX5_setModes 64 = .ok (.iload 5, 2) := by decide +kernel
theorem dX5_setModes_66 : decode cX5_setModes 66 = .ok (.aaload, 1) := by decide +kernel
theorem dX5_setModes_67 : decode cX5_setModes 67 = .ok (.getfield 135, 3) := by decide +kernel
theorem dX5_setModes_70 : decode cX5_setModes 70 = .ok (.iload_n 2, 1) := by decide +kernel
theorem dX5_setModes_71 : decode cX5_setModes 71 = .ok (.aaload, 1) := by decide +kernel
theorem dX5_setModes_72 : decode cX5_setModes 72 = .ok (.astore 6, 2) := by decide +kernel
theorem dX5_setModes_74 : decode cX5_setModes 74 = .ok (.aload 6, 2) := by decide +kernel
theorem dX5_setModes_76 : decode cX5_setModes 76 = .ok (.getfield 179, 3) := by decide +kernel
theorem dX5_setModes_79 : decode cX5_setModes 79 = .ok (.istore 7, 2) := by decide +kernel
theorem dX5_setModes_81 : decode cX5_setModes 81 = .ok (.aload 6, 2) := by decide +kernel
theorem dX5_setModes_83 : decode cX5_setModes 83 = .ok (.iload_n 3, 1) := by decide +kernel
theorem dX5_setModes_84 : decode cX5_setModes 84 = .ok (.putfield 179, 3) := by decide +kernel
theorem dX5_setModes_87 : decode cX5_setModes 87 = .ok (.aload 6, 2) := by decide +kernel
theorem dX5_setModes_89 : decode cX5_setModes 89 = .ok (.iload 4, 2) := by decide +kernel
theorem dX5_setModes_91 : decode cX5_setModes 91 = .ok (.putfield 150, 3) := by decide +kernel
theorem dX5_setModes_94 : decode cX5_setModes 94 = .ok (.aload_n 0, 1) := by decide +kernel
theorem dX5_setModes_95 : decode cX5_setModes 95 = .ok (.getfield 18, 3) := by decide +kernel
theorem dX5_setModes_98 : decode cX5_setModes 98 = .ok (.iload 5, 2) := by decide +kernel
theorem dX5_setModes_100 : decode cX5_setModes 100 = .ok (.iconst (-1), 1) := by decide +kernel
theorem dX5_setModes_101 : decode cX5_setModes 101 = .ok (.aload_n 0, 1) := by decide +kernel
theorem dX5_setModes_102 : decode cX5_setModes 102 = .ok (.getfield 35, 3) := by decide +kernel
theorem dX5_setModes_105 : decode cX5_setModes 105 = .ok (.iconst 4, 1) := by decide +kernel
theorem dX5_setModes_106 : decode cX5_setModes 106 = .ok (.iload_n 2, 1) := by decide +kernel
theorem dX5_setModes_107 : decode cX5_setModes 107 = .ok (.aload 6, 2) := by decide +kernel
theorem dX5_setModes_109 : decode cX5_setModes 109 = .ok (.iconst 0, 1) := by decide +kernel
theorem dX5_setModes_110 : decode cX5_setModes 110 = .ok (.invokevirtual 158, 3) := by decide +kernel
theorem dX5_setModes_113 : decode cX5_setModes 113 = .ok (.invokevirtual 119, 3) := by decide +kernel
theorem dX5_setModes_116 : decode cX5_setModes 116 = .ok (.aload_n 0, 1) := by decide +kernel
theorem dX5_setModes_117 : decode cX5_setModes 117 = .ok (.dup, 1) := by decide +kernel
theorem dX5_setModes_118 : decode cX5_setModes 118 = .ok (.getfield 43, 3) := by decide +kernel
theorem dX5_setModes_121 : decode cX5_setModes 121 = .ok (.iconst 1, 1) := by decide +kernel
theorem dX5_setModes_122 : decode cX5_setModes 122 = .ok (.iadd, 1) := by decide +kernel
theorem dX5_setModes_123 : decode cX5_setModes 123 = .ok (.putfield 43, 3) := by decide +kernel
theorem dX5_setModes_126 : decode cX5_setModes 126 = .ok (.iload 7, 2) := by decide +kernel
theorem dX5_setModes_128 : decode cX5_setModes 128 = .ok (.ireturn, 1) := by decide +kernel
theorem dX5_say_0 : decode cX5_say 0 = .ok (.aload_n 0, 1) := by decide +kernel
theorem dX5_say_1 : decode cX5_say 1 = .ok (.iload_n 1, 1) := by decide +kernel
theorem dX5_say_2 : decode cX5_say 2 = .ok (.invokevirtual 123, 3) := by decide +kernel
theorem dX5_say_5 : decode cX5_say 5 = .ok (.iload_n 2, 1) := by decide +kernel
theorem dX5_say_6 : decode cX5_say 6 = .ok (.invokestatic 132, 3) := by decide +kernel
theorem dX5_say_9 : decode cX5_say 9 = .ok (.aload_n 0, 1) := by decide +kernel
theorem dX5_say_10 : decode cX5_say 10 = .ok (.iload_n 1, 1) := by decide +kernel
theorem dX5_say_11 : decode cX5_say 11 = .ok (.invokevirtual 182, 3) := by decide +kernel
theorem dX5_say_14 : decode cX5_say 14 = .ok (.ifCond .eq 6, 3) := by decide +kernel
theorem dX5_say_17 : decode cX5_say 17 = .ok (.bipush (-2), 2) := by decide +kernel
theorem dX5_say_19 : decode cX5_say 19 = .ok (.ireturn, 1) := by decide +kernel
theorem dX5_say_20 : decode cX5_say 20 = .ok (.aload_n 0, 1) := by decide +kernel
theorem dX5_say_21 : decode cX5_say 21 = .ok (.getfield 11, 3) := by decide +kernel
theorem dX5_say_24 : decode cX5_say 24 = .ok (.aload_n 0, 1) := by decide +kernel
theorem dX5_say_25 : decode cX5_say 25 = .ok (.getfield 22, 3) := by decide +kernel
theorem dX5_say_28 : decode cX5_say 28 = .ok (.iload_n 1, 1) := by decide +kernel
theorem dX5_say_29 : decode cX5_say 29 = .ok (.iaload, 1) := by decide +kernel
theorem dX5_say_30 : decode cX5_say 30 = .ok (.aaload, 1) := by decide +kernel
theorem dX5_say_31 : decode cX5_say 31 = .ok (.getfield 135, 3) := by decide +kernel
theorem dX5_say_34 : decode cX5_say 34 = .ok (.iload_n 2, 1) := by decide +kernel
theorem dX5_say_35 : decode cX5_say 35 = .ok (.aaload, 1) := by decide +kernel
theorem dX5_say_36 : decode cX5_say 36 = .ok (.astore_n 3, 1) := by decide +kernel
theorem dX5_say_37 : decode cX5_say 37 = .ok (.aload_n 3, 1) := by decide +kernel
theorem dX5_say_38 : decode cX5_say 38 = .ok (.getfield 139, 3) := by decide +kernel
theorem dX5_say_41 : decode cX5_say 41 = .ok (.iload_n 1, 1) := by decide +kernel
theorem dX5_say_42 : decode cX5_say 42 = .ok (.invokestatic 55, 3) := by decide +kernel
theorem dX5_say_45 : decode cX5_say 45 = .ok (.ifCond .ne 6, 3) := by decide +kernel
theorem dX5_say_48 : decode cX5_say 48 = .ok (.bipush (-3), 2) := by decide +kernel
theorem dX5_say_50 : decode cX5_say 50 = .ok (.ireturn, 1) := by decide +kernel
theorem dX5_say_51 : decode cX5_say 51 = .ok (.aload_n 3, 1) := by decide +kernel
theorem dX5_say_52 : decode cX5_say 52 = .ok (.getfield 150, 3) := by decide +kernel
theorem dX5_say_55 : decode cX5_say 55 = .ok (.aload_n 0, 1) := by decide +kernel
theorem dX5_say_56 : decode cX5_say 56 = .ok (.getfield 26, 3) := by decide +kernel
theorem dX5_say_59 : decode cX5_say 59 = .ok (.iload_n 1, 1) := by decide +kernel
theorem dX5_say_60 : decode cX5_say 60 = .ok (.iaload, 1) := by decide +kernel
theorem dX5_say_61 : decode cX5_say 61 = .ok (.invokestatic 55, 3) := by decide +kernel
theorem dX5_say_64 : decode cX5_say 64 = .ok (.ifCond .eq 6, 3) := by decide +kernel
theorem dX5_say_67 : decode cX5_say 67 = .ok (.bipush (-4), 2) := by decide +kernel
theorem dX5_say_69 : decode cX5_say 69 = .ok (.ireturn, 1) := by decide +kernel
theorem dX5_say_70 : decode cX5_say 70 = .ok (.aload_n 3, 1) := by decide +kernel
theorem dX5_say_71 : decode cX5_say 71 = .ok (.getfield 179, 3) := by decide +kernel
theorem dX5_say_74 : decode cX5_say 74 = .ok (.iconst 0, 1) := by decide +kernel
theorem dX5_say_75 : decode cX5_say 75 = .ok (.invokestatic 55, 3) := by decide +kernel
theorem dX5_say_78 : decode cX5_say 78 = .ok (.ifCond .eq 18, 3) := by decide +kernel
theorem dX5_say_81 : decode cX5_say 81 = .ok (.aload_n 0, 1) := by decide +kernel
theorem dX5_say_82 : decode cX5_say 82 = .ok (.aload_n 3, 1) := by decide +kernel
theorem dX5_say_83 : decode cX5_say 83 = .ok (.getfield 139, 3) := by decide +kernel
theorem dX5_say_86 : decode cX5_say 86 = .ok (.invokevirtual 186, 3) := by decide +kernel
theorem dX5_say_89 : decode cX5_say 89 = .ok (.iload_n 1, 1) := by decide +kernel
theorem dX5_say_90 : decode cX5_say 90 = .ok (.if_icmp .eq 6, 3) := by decide +kernel
theorem dX5_say_93 : decode cX5_say 93 = .ok (.bipush (-5), 2) := by decide +kernel
theorem dX5_say_95 : decode cX5_say 95 = .ok (.ireturn, 1) := by decide +kernel
theorem dX5_say_96 : decode cX5_say 96 = .ok (.aload_n 0, 1) := by decide +kernel
theorem dX5_say_97 : decode cX5_say 97 = .ok (.getfield 18, 3) := by decide +kernel
theorem dX5_say_100 : decode cX5_say 100 = .ok (.aload_n 0, 1) := by decide +kernel
theorem dX5_say_101 : decode cX5_say 101 = .ok (.getfield 22, 3) := by decide +kernel
theorem dX5_say_104 : decode cX5_say 104 = .ok (.iload_n 1, 1) := by decide +kernel
theorem dX5_say_105 : decode cX5_say 105 = .ok (.iaload, 1) := by decide +kernel
theorem dX5_say_106 : decode cX5_say 106 = .ok (.aload_n 0, 1) := by decide +kernel
theorem dX5_say_107 : decode cX5_say 107 = .ok (.aload_n 3, 1) := by decide +kernel
theorem dX5_say_108 : decode cX5_say 108 = .ok (.getfield 139, 3) := by decide +kernel
theorem dX5_say_111 : decode cX5_say 111 = .ok (.iconst 1, 1) := by decide +kernel
theorem dX5_say_112 : decode cX5_say 112 = .ok (.iload_n 1, 1) := by decide +kernel
theorem dX5_say_113 : decode cX5_say 113 = .ok (.ishl, 1) := by decide +kernel
theorem dX5_say_114 : decode cX5_say 114 = .ok (.iconst (-1), 1) := by decide +kernel
theorem dX5_say_115 : decode cX5_say 115 = .ok (.ixor, 1) := by decide +kernel
theorem dX5_say_116 : decode cX5_say 116 = .ok (.iand, 1) := by decide +kernel
theorem dX5_say_117 : decode cX5_say 117 = .ok (.invokevirtual 189, 3) := by decide +kernel
theorem dX5_say_120 : decode cX5_say 120 = .ok (.invokevirtual 192, 3) := by decide +kernel
theorem dX5_say_123 : decode cX5_say 123 = .ok (.ireturn, 1) := by decide +kernel
theorem dX5_users_0 : decode cX5_users 0 = .ok (.aload_n 0, 1) := by decide +kernel
theorem dX5_users_1 : decode cX5_users 1 = .ok (.getfield 39, 3) := by decide +kernel
theorem dX5_users_4 : decode cX5_users 4 = .ok (.ireturn, 1) := by decide +kernel
theorem dX5_clock_0 : decode cX5_clock 0 = .ok (.aload_n 0, 1) := by decide +kernel
theorem dX5_clock_1 : decode cX5_clock 1 = .ok (.getfield 43, 3) := by decide +kernel
theorem dX5_clock_4 : decode cX5_clock 4 = .ok (.ireturn, 1) := by decide +kernel
theorem dX5_known_0 : decode cX5_known 0 = .ok (.iload_n 1, 1) := by decide +kernel
theorem dX5_known_1 : decode cX5_known 1 = .ok (.invokestatic 47, 3) := by decide +kernel
theorem dX5_known_4 : decode cX5_known 4 = .ok (.aload_n 0, 1) := by decide +kernel
theorem dX5_known_5 : decode cX5_known 5 = .ok (.getfield 11, 3) := by decide +kernel
theorem dX5_known_8 : decode cX5_known 8 = .ok (.iload_n 1, 1) := by decide +kernel
theorem dX5_known_9 : decode cX5_known 9 = .ok (.aaload, 1) := by decide +kernel
theorem dX5_known_10 : decode cX5_known 10 = .ok (.getfield 196, 3) := by decide +kernel
theorem dX5_known_13 : decode cX5_known 13 = .ok (.ireturn, 1) := by decide +kernel
theorem dX5_members_0 : decode cX5_members 0 = .ok (.iload_n 1, 1) := by decide +kernel
theorem dX5_members_1 : decode cX5_members 1 = .ok (.invokestatic 47, 3) := by decide +kernel
theorem dX5_members_4 : decode cX5_members 4 = .ok (.iload_n 2, 1) := by decide +kernel
theorem dX5_members_5 : decode cX5_members 5 = .ok (.invokestatic 132, 3) := by decide +kernel
theorem dX5_members_8 : decode cX5_members 8 = .ok (.aload_n 0, 1) := by decide +kernel
theorem dX5_members_9 : decode cX5_members 9 = .ok (.getfield 11, 3) := by decide +kernel
theorem dX5_members_12 : decode cX5_members 12 = .ok (.iload_n 1, 1) := by decide +kernel
theorem dX5_members_13 : decode cX5_members 13 = .ok (.aaload, 1) := by decide +kernel
theorem dX5_members_14 : decode cX5_members 14 = .ok (.getfield 135, 3) := by decide +kernel
theorem dX5_members_17 : decode cX5_members 17 = .ok (.iload_n 2, 1) := by decide +kernel
theorem dX5_members_18 : decode cX5_members 18 = .ok (.aaload, 1) := by decide +kernel
theorem dX5_members_19 : decode cX5_members 19 = .ok (.getfield 139, 3) := by decide +kernel
theorem dX5_members_22 : decode cX5_members 22 = .ok (.ireturn, 1) := by decide +kernel
theorem dX5_age_0 : decode cX5_age 0 = .ok (.iload_n 1, 1) := by decide +kernel
theorem dX5_age_1 : decode cX5_age 1 = .ok (.invokestatic 47, 3) := by decide +kernel
theorem dX5_age_4 : decode cX5_age 4 = .ok (.iload_n 2, 1) := by decide +kernel
theorem dX5_age_5 : decode cX5_age 5 = .ok (.invokestatic 132, 3) := by decide +kernel
theorem dX5_age_8 : decode cX5_age 8 = .ok (.aload_n 0, 1) := by decide +kernel
theorem dX5_age_9 : decode cX5_age 9 = .ok (.getfield 11, 3) := by decide +kernel
theorem dX5_age_12 : decode cX5_age 12 = .ok (.iload_n 1, 1) := by decide +kernel
theorem dX5_age_13 : decode cX5_age 13 = .ok (.aaload, 1) := by decide +kernel
theorem dX5_age_14 : decode cX5_age 14 = .ok (.getfield 135, 3) := by decide +kernel
theorem dX5_age_17 : decode cX5_age 17 = .ok (.iload_n 2, 1) := by decide +kernel
theorem dX5_age_18 : decode cX5_age 18 = .ok (.aaload, 1) := by decide +kernel
theorem dX5_age_19 : decode cX5_age 19 = .ok (.getfield 199, 3) := by decide +kernel
theorem dX5_age_22 : decode cX5_age 22 = .ok (.ireturn, 1) := by decide +kernel
theorem dX5_modes_0 : decode cX5_modes 0 = .ok (.iload_n 1, 1) := by decide +kernel
theorem dX5_modes_1 : decode cX5_modes 1 = .ok (.invokestatic 47, 3) := by decide +kernel
theorem dX5_modes_4 : decode cX5_modes 4 = .ok (.iload_n 2, 1) := by decide +kernel
theorem dX5_modes_5 : decode cX5_modes 5 = .ok (.invokestatic 132, 3) := by decide +kernel
theorem dX5_modes_8 : decode cX5_modes 8 = .ok (.aload_n 0, 1) := by decide +kernel
theorem dX5_modes_9 : decode cX5_modes 9 = .ok (.getfield 11, 3) := by decide +kernel
theorem dX5_modes_12 : decode cX5_modes 12 = .ok (.iload_n 1, 1) := by decide +kernel
theorem dX5_modes_13 : decode cX5_modes 13 = .ok (.aaload, 1) := by decide +kernel
theorem dX5_modes_14 : decode cX5_modes 14 = .ok (.getfield 135, 3) := by decide +kernel
theorem dX5_modes_17 : decode cX5_modes 17 = .ok (.iload_n 2, 1) := by decide +kernel
theorem dX5_modes_18 : decode cX5_modes 18 = .ok (.aaload, 1) := by decide +kernel
theorem dX5_modes_19 : decode cX5_modes 19 = .ok (.getfield 179, 3) := by decide +kernel
theorem dX5_modes_22 : decode cX5_modes 22 = .ok (.ireturn, 1) := by decide +kernel
theorem dX5_bans_0 : decode cX5_bans 0 = .ok (.iload_n 1, 1) := by decide +kernel
theorem dX5_bans_1 : decode cX5_bans 1 = .ok (.invokestatic 47, 3) := by decide +kernel
theorem dX5_bans_4 : decode cX5_bans 4 = .ok (.iload_n 2, 1) := by decide +kernel
theorem dX5_bans_5 : decode cX5_bans 5 = .ok (.invokestatic 132, 3) := by decide +kernel
theorem dX5_bans_8 : decode cX5_bans 8 = .ok (.aload_n 0, 1) := by decide +kernel
theorem dX5_bans_9 : decode cX5_bans 9 = .ok (.getfield 11, 3) := by decide +kernel
theorem dX5_bans_12 : decode cX5_bans 12 = .ok (.iload_n 1, 1) := by decide +kernel
theorem dX5_bans_13 : decode cX5_bans 13 = .ok (.aaload, 1) := by decide +kernel
theorem dX5_bans_14 : decode cX5_bans 14 = .ok (.getfield 135, 3) := by decide +kernel
theorem dX5_bans_17 : decode cX5_bans 17 = .ok (.iload_n 2, 1) := by decide +kernel
theorem dX5_bans_18 : decode cX5_bans 18 = .ok (.aaload, 1) := by decide +kernel
theorem dX5_bans_19 : decode cX5_bans 19 = .ok (.getfield 150, 3) := by decide +kernel
theorem dX5_bans_22 : decode cX5_bans 22 = .ok (.ireturn, 1) := by decide +kernel
theorem dX5_areSame_0 : decode cX5_areSame 0 = .ok (.iload_n 1, 1) := by decide +kernel
theorem dX5_areSame_1 : decode cX5_areSame 1 = .ok (.invokestatic 47, 3) := by decide +kernel
theorem dX5_areSame_4 : decode cX5_areSame 4 = .ok (.iload_n 2, 1) := by decide +kernel
theorem dX5_areSame_5 : decode cX5_areSame 5 = .ok (.invokestatic 47, 3) := by decide +kernel
theorem dX5_areSame_8 : decode cX5_areSame 8 = .ok (.aload_n 0, 1) := by decide +kernel
theorem dX5_areSame_9 : decode cX5_areSame 9 = .ok (.getfield 11, 3) := by decide +kernel
theorem dX5_areSame_12 : decode cX5_areSame 12 = .ok (.iload_n 1, 1) := by decide +kernel
theorem dX5_areSame_13 : decode cX5_areSame 13 = .ok (.aaload, 1) := by decide +kernel
theorem dX5_areSame_14 : decode cX5_areSame 14 = .ok (.aload_n 0, 1) := by decide +kernel
theorem dX5_areSame_15 : decode cX5_areSame 15 = .ok (.getfield 11, 3) := by decide +kernel
theorem dX5_areSame_18 : decode cX5_areSame 18 = .ok (.iload_n 2, 1) := by decide +kernel
theorem dX5_areSame_19 : decode cX5_areSame 19 = .ok (.aaload, 1) := by decide +kernel
theorem dX5_areSame_20 : decode cX5_areSame 20 = .ok (.invokevirtual 202, 3) := by decide +kernel
theorem dX5_areSame_23 : decode cX5_areSame 23 = .ok (.ireturn, 1) := by decide +kernel
theorem dX5_joinedModes_0 : decode cX5_joinedModes 0 = .ok (.iload_n 1, 1) := by decide +kernel
theorem dX5_joinedModes_1 : decode cX5_joinedModes 1 = .ok (.invokestatic 47, 3) := by decide +kernel
theorem dX5_joinedModes_4 : decode cX5_joinedModes 4 = .ok (.iload_n 2, 1) := by decide +kernel
theorem dX5_joinedModes_5 : decode cX5_joinedModes 5 = .ok (.invokestatic 47, 3) := by decide +kernel
theorem dX5_joinedModes_8 : decode cX5_joinedModes 8 = .ok (.iload_n 3, 1) := by decide +kernel
theorem dX5_joinedModes_9 : decode cX5_joinedModes 9 = .ok (.invokestatic 132, 3) := by decide +kernel
theorem dX5_joinedModes_12 : decode cX5_joinedModes 12 = .ok (.aload_n 0, 1) := by decide +kernel
theorem dX5_joinedModes_13 : decode cX5_joinedModes 13 = .ok (.getfield 11, 3) := by decide +kernel
theorem dX5_joinedModes_16 : decode cX5_joinedModes 16 = .ok (.iload_n 1, 1) := by decide +kernel
theorem dX5_joinedModes_17 : decode cX5_joinedModes 17 = .ok (.aaload, 1) := by decide +kernel
theorem dX5_joinedModes_18 : decode cX5_joinedModes 18 = .ok (.getfield 135, 3) := by decide +kernel
theorem dX5_joinedModes_21 : decode cX5_joinedModes 21 = .ok (.iload_n 3, 1) := by decide +kernel
theorem dX5_joinedModes_22 : decode cX5_joinedModes 22 = .ok (.aaload, 1) := by decide +kernel
theorem dX5_joinedModes_23 : decode cX5_joinedModes 23 = .ok (.astore 4, 2) := by decide +kernel
theorem dX5_joinedModes_25 : decode cX5_joinedModes 25 = .ok (.aload_n 0, 1) := by decide +kernel
theorem dX5_joinedModes_26 : decode cX5_joinedModes 26 = .ok (.getfield 11, 3) := by decide +kernel
theorem dX5_joinedModes_29 : decode cX5_joinedModes 29 = .ok (.iload_n 2, 1) := by decide +kernel
theorem dX5_joinedModes_30 : decode cX5_joinedModes 30 = .ok (.aaload, 1) := by decide +kernel
theorem dX5_joinedModes_31 : decode cX5_joinedModes 31 = .ok (.getfield 135, 3) := by decide +kernel
theorem dX5_joinedModes_34 : decode cX5_joinedModes 34 = .ok (.iload_n 3, 1) := by decide +kernel
theorem dX5_joinedModes_35 : decode cX5_joinedModes 35 = .ok (.aaload, 1) := by decide +kernel
theorem dX5_joinedModes_36 : decode cX5_joinedModes 36 = .ok (.astore 5, 2) := by decide +kernel
theorem dX5_joinedModes_38 : decode cX5_joinedModes 38 = .ok (.aload 4, 2) := by decide +kernel
theorem dX5_joinedModes_40 : decode cX5_joinedModes 40 = .ok (.getfield 199, 3) := by decide +kernel
theorem dX5_joinedModes_43 : decode cX5_joinedModes 43 = .ok (.aload 4, 2) := by decide +kernel
theorem dX5_joinedModes_45 : decode cX5_joinedModes 45 = .ok (.getfield 179, 3) := by decide +kernel
theorem dX5_joinedModes_48 : decode cX5_joinedModes 48 = .ok (.aload 5, 2) := by decide +kernel
theorem dX5_joinedModes_50 : decode cX5_joinedModes 50 = .ok (.getfield 199, 3) := by decide +kernel
theorem dX5_joinedModes_53 : decode cX5_joinedModes 53 = .ok (.aload 5, 2) := by decide +kernel
theorem dX5_joinedModes_55 : decode cX5_joinedModes 55 = .ok (.getfield 179, 3) := by decide +kernel
theorem dX5_joinedModes_58 : decode cX5_joinedModes 58 = .ok (.invokestatic 206, 3) := by decide +kernel
theorem dX5_joinedModes_61 : decode cX5_joinedModes 61 = .ok (.ireturn, 1) := by decide +kernel
theorem dX5_checkServer_0 : decode cX5_checkServer 0 = .ok (.iload_n 0, 1) := by decide +kernel
theorem dX5_checkServer_1 : decode cX5_checkServer 1 = .ok (.ifCond .lt 9, 3) := by decide +kernel
theorem dX5_checkServer_4 : decode cX5_checkServer 4 = .ok (.iload_n 0, 1) := by decide +kernel
theorem dX5_checkServer_5 : decode cX5_checkServer 5 = .ok (.bipush 6, 2) := by decide +kernel
theorem dX5_checkServer_7 : decode cX5_checkServer 7 = .ok (.if_icmp .lt 13, 3) := by decide +kernel
theorem dX5_checkServer_10 : decode cX5_checkServer 10 = .ok (.new 210, 3) := by decide +kernel
theorem dX5_checkServer_13 : decode cX5_checkServer 13 = .ok (.dup, 1) := by decide +kernel
theorem dX5_checkServer_14 : decode cX5_checkServer 14 = .ok (.ldc 212, 2) := by decide +kernel
theorem dX5_checkServer_16 : decode cX5_checkServer 16 = .ok (.invokespecial 214, 3) := by decide +kernel
theorem dX5_checkServer_19 : decode cX5_checkServer 19 = .ok (.athrow, 1) := by decide +kernel
theorem dX5_checkServer_20 : decode cX5_checkServer 20 = .ok (.return_, 1) := by decide +kernel
theorem dX5_checkChannel_0 : decode cX5_checkChannel 0 = .ok (.iload_n 0, 1) := by decide +kernel
theorem dX5_checkChannel_1 : decode cX5_checkChannel 1 = .ok (.ifCond .lt 8, 3) := by decide +kernel
theorem dX5_checkChannel_4 : decode cX5_checkChannel 4 = .ok (.iload_n 0, 1) := by decide +kernel
theorem dX5_checkChannel_5 : decode cX5_checkChannel 5 = .ok (.iconst 4, 1) := by decide +kernel
theorem dX5_checkChannel_6 : decode cX5_checkChannel 6 = .ok (.if_icmp .lt 13, 3) := by decide +kernel
theorem dX5_checkChannel_9 : decode cX5_checkChannel 9 = .ok (.new 210, 3) := by decide +kernel
theorem dX5_checkChannel_12 : decode cX5_checkChannel 12 = .ok (.dup, 1) := by decide +kernel
theorem dX5_checkChannel_13 : decode cX5_checkChannel 13 = .ok (.ldc 215, 2) := by decide +kernel
theorem dX5_checkChannel_15 : decode cX5_checkChannel 15 = .ok (.invokespecial 214, 3) := by decide +kernel
theorem dX5_checkChannel_18 : decode cX5_checkChannel 18 = .ok (.athrow, 1) := by decide +kernel
theorem dX5_checkChannel_19 : decode cX5_checkChannel 19 = .ok (.return_, 1) := by decide +kernel
theorem dX5_checkUser_0 : decode cX5_checkUser 0 = .ok (.iload_n 1, 1) := by decide +kernel
theorem dX5_checkUser_1 : decode cX5_checkUser 1 = .ok (.ifCond .lt 11, 3) := by decide +kernel
theorem dX5_checkUser_4 : decode cX5_checkUser 4 = .ok (.iload_n 1, 1) := by decide +kernel
theorem dX5_checkUser_5 : decode cX5_checkUser 5 = .ok (.aload_n 0, 1) := by decide +kernel
theorem dX5_checkUser_6 : decode cX5_checkUser 6 = .ok (.getfield 39, 3) := by decide +kernel
theorem dX5_checkUser_9 : decode cX5_checkUser 9 = .ok (.if_icmp .lt 13, 3) := by decide +kernel
theorem dX5_checkUser_12 : decode cX5_checkUser 12 = .ok (.new 210, 3) := by decide +kernel
theorem dX5_checkUser_15 : decode cX5_checkUser 15 = .ok (.dup, 1) := by decide +kernel
theorem dX5_checkUser_16 : decode cX5_checkUser 16 = .ok (.ldc 217, 2) := by decide +kernel
theorem dX5_checkUser_18 : decode cX5_checkUser 18 = .ok (.invokespecial 214, 3) := by decide +kernel
theorem dX5_checkUser_21 : decode cX5_checkUser 21 = .ok (.athrow, 1) := by decide +kernel
theorem dX5_checkUser_22 : decode cX5_checkUser 22 = .ok (.return_, 1) := by decide +kernel
theorem dX5_checkNotGone_0 : decode cX5_checkNotGone 0 = .ok (.aload_n 0, 1) := by decide +kernel
theorem dX5_checkNotGone_1 : decode cX5_checkNotGone 1 = .ok (.iload_n 1, 1) := by decide +kernel
theorem dX5_checkNotGone_2 : decode cX5_checkNotGone 2 = .ok (.invokevirtual 182, 3) := by decide +kernel
theorem dX5_checkNotGone_5 : decode cX5_checkNotGone 5 = .ok (.ifCond .eq 13, 3) := by decide +kernel
theorem dX5_checkNotGone_8 : decode cX5_checkNotGone 8 = .ok (.new 59, 3) := by decide +kernel
theorem dX5_checkNotGone_11 : decode cX5_checkNotGone 11 = .ok (.dup, 1) := by decide +kernel
theorem dX5_checkNotGone_12 : decode cX5_checkNotGone 12 = .ok (.ldc 219, 2) := by decide +kernel
theorem dX5_checkNotGone_14 : decode cX5_checkNotGone 14 = .ok (.invokespecial 63, 3) := by decide +kernel
theorem dX5_checkNotGone_17 : decode cX5_checkNotGone 17 = .ok (.athrow, 1) := by decide +kernel
theorem dX5_checkNotGone_18 : decode cX5_checkNotGone 18 = .ok (.return_, 1) := by decide +kernel
theorem dX5_checkMember_0 : decode cX5_checkMember 0 = .ok (.aload_n 0, 1) := by decide +kernel
theorem dX5_checkMember_1 : decode cX5_checkMember 1 = .ok (.getfield 11, 3) := by decide +kernel
theorem dX5_checkMember_4 : decode cX5_checkMember 4 = .ok (.aload_n 0, 1) := by decide +kernel
theorem dX5_checkMember_5 : decode cX5_checkMember 5 = .ok (.getfield 22, 3) := by decide +kernel
theorem dX5_checkMember_8 : decode cX5_checkMember 8 = .ok (.iload_n 1, 1) := by decide +kernel
theorem dX5_checkMember_9 : decode cX5_checkMember 9 = .ok (.iaload, 1) := by decide +kernel
theorem dX5_checkMember_10 : decode cX5_checkMember 10 = .ok (.aaload, 1) := by decide +kernel
theorem dX5_checkMember_11 : decode cX5_checkMember 11 = .ok (.getfield 135, 3) := by decide +kernel
theorem dX5_checkMember_14 : decode cX5_checkMember 14 = .ok (.iload_n 2, 1) := by decide +kernel
theorem dX5_checkMember_15 : decode cX5_checkMember 15 = .ok (.aaload, 1) := by decide +kernel
theorem dX5_checkMember_16 : decode cX5_checkMember 16 = .ok (.getfield 139, 3) := by decide +kernel
theorem dX5_checkMember_19 : decode cX5_checkMember 19 = .ok (.iload_n 1, 1) := by decide +kernel
theorem dX5_checkMember_20 : decode cX5_checkMember 20 = .ok (.invokestatic 55, 3) := by decide +kernel
theorem dX5_checkMember_23 : decode cX5_checkMember 23 = .ok (.ifCond .ne 13, 3) := by decide +kernel
theorem dX5_checkMember_26 : decode cX5_checkMember 26 = .ok (.new 59, 3) := by decide +kernel
theorem dX5_checkMember_29 : decode cX5_checkMember 29 = .ok (.dup, 1) := by decide +kernel
theorem dX5_checkMember_30 : decode cX5_checkMember 30 = .ok (.ldc 221, 2) := by decide +kernel
theorem dX5_checkMember_32 : decode cX5_checkMember 32 = .ok (.invokespecial 63, 3) := by decide +kernel
theorem dX5_checkMember_35 : decode cX5_checkMember 35 = .ok (.athrow, 1) := by decide +kernel
theorem dX5_checkMember_36 : decode cX5_checkMember 36 = .ok (.return_, 1) := by decide +kernel
theorem dX5_burst_0 : decode cX5_burst 0 = .ok (.aload_n 0, 1) := by decide +kernel
theorem dX5_burst_1 : decode cX5_burst 1 = .ok (.getfield 11, 3) := by decide +kernel
theorem dX5_burst_4 : decode cX5_burst 4 = .ok (.iload_n 1, 1) := by decide +kernel
theorem dX5_burst_5 : decode cX5_burst 5 = .ok (.aaload, 1) := by decide +kernel
theorem dX5_burst_6 : decode cX5_burst 6 = .ok (.astore_n 3, 1) := by decide +kernel
theorem dX5_burst_7 : decode cX5_burst 7 = .ok (.iconst 0, 1) := by decide +kernel
theorem dX5_burst_8 : decode cX5_burst 8 = .ok (.istore 4, 2) := by decide +kernel
theorem dX5_burst_10 : decode cX5_burst 10 = .ok (.iload 4, 2) := by decide +kernel
theorem dX5_burst_12 : decode cX5_burst 12 = .ok (.aload_n 0, 1) := by decide +kernel
theorem dX5_burst_13 : decode cX5_burst 13 = .ok (.getfield 39, 3) := by decide +kernel
theorem dX5_burst_16 : decode cX5_burst 16 = .ok (.if_icmp .ge 37, 3) := by decide +kernel
theorem dX5_burst_19 : decode cX5_burst 19 = .ok (.aload_n 3, 1) := by decide +kernel
theorem dX5_burst_20 : decode cX5_burst 20 = .ok (.iload 4, 2) := by decide +kernel
theorem dX5_burst_22 : decode cX5_burst 22 = .ok (.invokevirtual 223, 3) := by decide +kernel
theorem dX5_burst_25 : decode cX5_burst 25 = .ok (.ifCond .eq 22, 3) := by decide +kernel
theorem dX5_burst_28 : decode cX5_burst 28 = .ok (.aload_n 0, 1) := by decide +kernel
theorem dX5_burst_29 : decode cX5_burst 29 = .ok (.getfield 18, 3) := by decide +kernel
theorem dX5_burst_32 : decode cX5_burst 32 = .ok (.iload_n 1, 1) := by decide +kernel
theorem dX5_burst_33 : decode cX5_burst 33 = .ok (.iload_n 2, 1) := by decide +kernel
theorem dX5_burst_34 : decode cX5_burst 34 = .ok (.aload_n 0, 1) := by decide +kernel
theorem dX5_burst_35 : decode cX5_burst 35 = .ok (.getfield 35, 3) := by decide +kernel
theorem dX5_burst_38 : decode cX5_burst 38 = .ok (.iconst 0, 1) := by decide +kernel
theorem dX5_burst_39 : decode cX5_burst 39 = .ok (.iload 4, 2) := by decide +kernel
theorem dX5_burst_41 : decode cX5_burst 41 = .ok (.invokevirtual 115, 3) := by decide +kernel
theorem dX5_burst_44 : decode cX5_burst 44 = .ok (.invokevirtual 226, 3) := by decide +kernel
theorem dX5_burst_47 : decode cX5_burst 47 = .ok (.iinc 4 1, 3) := by decide +kernel
theorem dX5_burst_50 : decode cX5_burst 50 = .ok (.goto (-40), 3) := by decide +kernel
theorem dX5_burst_53 : decode cX5_burst 53 = .ok (.iconst 0, 1) := by decide +kernel
theorem dX5_burst_54 : decode cX5_burst 54 = .ok (.istore 4, 2) := by decide +kernel
theorem dX5_burst_56 : decode cX5_burst 56 = .ok (.iload 4, 2) := by decide +kernel
theorem dX5_burst_58 : decode cX5_burst 58 = .ok (.iconst 4, 1) := by decide +kernel
theorem dX5_burst_59 : decode cX5_burst 59 = .ok (.if_icmp .ge 52, 3) := by decide +kernel
theorem dX5_burst_62 : decode cX5_burst 62 = .ok (.aload_n 3, 1) := by decide +kernel
theorem dX5_burst_63 : decode cX5_burst 63 = .ok (.getfield 135, 3) := by decide +kernel
theorem dX5_burst_66 : decode cX5_burst 66 = .ok (.iload 4, 2) := by decide +kernel
theorem dX5_burst_68 : decode cX5_burst 68 = .ok (.aaload, 1) := by decide +kernel
theorem dX5_burst_69 : decode cX5_burst 69 = .ok (.astore 5, 2) := by decide +kernel
theorem dX5_burst_71 : decode cX5_burst 71 = .ok (.aload 5, 2) := by decide +kernel
theorem dX5_burst_73 : decode cX5_burst 73 = .ok (.invokevirtual 146, 3) := by decide +kernel
theorem dX5_burst_76 : decode cX5_burst 76 = .ok (.ifCond .eq 29, 3) := by decide +kernel
theorem dX5_burst_79 : decode cX5_burst 79 = .ok (.aload_n 0, 1) := by decide +kernel
theorem dX5_burst_80 : decode cX5_burst 80 = .ok (.getfield 18, 3) := by decide +kernel
theorem dX5_burst_83 : decode cX5_burst 83 = .ok (.iload_n 1, 1) := by decide +kernel
theorem dX5_burst_84 : decode cX5_burst 84 = .ok (.iload_n 2, 1) := by decide +kernel
theorem dX5_burst_85 : decode cX5_burst 85 = .ok (.aload_n 0, 1) := by decide +kernel
theorem dX5_burst_86 : decode cX5_burst 86 = .ok (.getfield 35, 3) := by decide +kernel
theorem dX5_burst_89 : decode cX5_burst 89 = .ok (.iconst 2, 1) := by decide +kernel
theorem dX5_burst_90 : decode cX5_burst 90 = .ok (.iload 4, 2) := by decide +kernel
theorem dX5_burst_92 : decode cX5_burst 92 = .ok (.aload 5, 2) := by decide +kernel
theorem dX5_burst_94 : decode cX5_burst 94 = .ok (.aload 5, 2) := by decide +kernel
theorem dX5_burst_96 : decode cX5_burst 96 = .ok (.getfield 139, 3) := by decide +kernel
theorem dX5_burst_99 : decode cX5_burst 99 = .ok (.invokevirtual 158, 3) := by decide +kernel
theorem dX5_burst_102 : decode cX5_burst 102 = .ok (.invokevirtual 226, 3) := by decide +kernel
theorem dX5_burst_105 : decode cX5_burst 105 = .ok (.iinc 4 1, 3) := by decide +kernel
theorem dX5_burst_108 : decode cX5_burst 108 = .ok (.goto (-52), 3) := by decide +kernel
theorem dX5_burst_111 : decode cX5_burst 111 = .ok (.return_, 1) := by decide +kernel
theorem dX5_forgetUnreached_0 : decode cX5_forgetUnreached 0 = .ok (.aload_n 0, 1) := by decide +kernel
theorem dX5_forgetUnreached_1 : decode cX5_forgetUnreached 1 = .ok (.getfield 11, 3) := by decide +kernel
theorem dX5_forgetUnreached_4 : decode cX5_forgetUnreached 4 = .ok (.iload_n 1, 1) := by decide +kernel
theorem dX5_forgetUnreached_5 : decode cX5_forgetUnreached 5 = .ok (.aaload, 1) := by decide +kernel
theorem dX5_forgetUnreached_6 : decode cX5_forgetUnreached 6 = .ok (.astore_n 2, 1) := by decide +kernel
theorem dX5_forgetUnreached_7 : decode cX5_forgetUnreached 7 = .ok (.aload_n 0, 1) := by decide +kernel
theorem dX5_forgetUnreached_8 : decode cX5_forgetUnreached 8 = .ok (.getfield 18, 3) := by decide +kernel
theorem dX5_forgetUnreached_11 : decode cX5_forgetUnreached 11 = .ok (.iload_n 1, 1) := by decide +kernel
theorem dX5_forgetUnreached_12 : decode cX5_forgetUnreached 12 = .ok (.invokevirtual 51, 3) := by decide +kernel
theorem dX5_forgetUnreached_15 : decode cX5_forgetUnreached 15 = .ok (.istore_n 3, 1) := by decide +kernel
theorem dX5_forgetUnreached_16 : decode cX5_forgetUnreached 16 = .ok (.iconst 0, 1) := by decide +kernel
theorem dX5_forgetUnreached_17 : decode cX5_forgetUnreached 17 = .ok (.istore 4, 2) := by decide +kernel
theorem dX5_forgetUnreached_19 : decode cX5_forgetUnreached 19 = .ok (.iload 4, 2) := by decide +kernel
theorem dX5_forgetUnreached_21 : decode cX5_forgetUnreached 21 = .ok (.aload_n 0, 1) := by decide +kernel
theorem dX5_forgetUnreached_22 : decode cX5_forgetUnreached 22 = .ok (.getfield 39, 3) := by decide +kernel
theorem dX5_forgetUnreached_25 : decode cX5_forgetUnreached 25 = .ok (.if_icmp .ge 38, 3) := by decide +kernel
theorem dX5_forgetUnreached_28 : decode cX5_forgetUnreached 28 = .ok (.aload_n 2, 1) := by decide +kernel
theorem dX5_forgetUnreached_29 : decode cX5_forgetUnreached 29 = .ok (.iload 4, 2) := by decide +kernel
theorem dX5_forgetUnreached_31 : decode cX5_forgetUnreached 31 = .ok (.invokevirtual 223, 3) := by decide +kernel
theorem dX5_forgetUnreached_34 : decode cX5_forgetUnreached 34 = .ok (.ifCond .eq 23, 3) := by decide +kernel
theorem dX5_forgetUnreached_37 : decode cX5_forgetUnreached 37 = .ok (.iload_n 3, 1) := by decide +kernel
theorem dX5_forgetUnreached_38 : decode cX5_forgetUnreached 38 = .ok (.aload_n 0, 1) := by decide +kernel
theorem dX5_forgetUnreached_39 : decode cX5_forgetUnreached 39 = .ok (.getfield 22, 3) := by decide +kernel
theorem dX5_forgetUnreached_42 : decode cX5_forgetUnreached 42 = .ok (.iload 4, 2) := by decide +kernel
theorem dX5_forgetUnreached_44 : decode cX5_forgetUnreached 44 = .ok (.iaload, 1) := by decide +kernel
theorem dX5_forgetUnreached_45 : decode cX5_forgetUnreached 45 = .ok (.invokestatic 55, 3) := by decide +kernel
theorem dX5_forgetUnreached_48 : decode cX5_forgetUnreached 48 = .ok (.ifCond .ne 9, 3) := by decide +kernel
theorem dX5_forgetUnreached_51 : decode cX5_forgetUnreached 51 = .ok (.aload_n 2, 1) := by decide +kernel
theorem dX5_forgetUnreached_52 : decode cX5_forgetUnreached 52 = .ok (.iload 4, 2) := by decide +kernel
theorem dX5_forgetUnreached_54 : decode cX5_forgetUnreached 54 = .ok (.invokevirtual 129, 3) := by decide +kernel
theorem dX5_forgetUnreached_57 : decode cX5_forgetUnreached 57 = .ok (.iinc 4 1, 3) := by decide +kernel
theorem dX5_forgetUnreached_60 : decode cX5_forgetUnreached 60 = .ok (.goto (-41), 3) := by decide +kernel
theorem dX5_forgetUnreached_63 : decode cX5_forgetUnreached 63 = .ok (.return_, 1) := by decide +kernel
theorem dX5_deliverRound_0 : decode cX5_deliverRound 0 = .ok (.iconst 0, 1) := by decide +kernel
theorem dX5_deliverRound_1 : decode cX5_deliverRound 1 = .ok (.istore_n 1, 1) := by decide +kernel
theorem dX5_deliverRound_2 : decode cX5_deliverRound 2 = .ok (.iconst 0, 1) := by decide +kernel
theorem dX5_deliverRound_3 : decode cX5_deliverRound 3 = .ok (.istore_n 2, 1) := by decide +kernel
theorem dX5_deliverRound_4 : decode cX5_deliverRound 4 = .ok (.iload_n 2, 1) := by decide +kernel
theorem dX5_deliverRound_5 : decode cX5_deliverRound 5 = .ok (.bipush 6, 2) := by decide +kernel
theorem dX5_deliverRound_7 : decode cX5_deliverRound 7 = .ok (.if_icmp .ge 35, 3) := by decide +kernel
theorem dX5_deliverRound_10 : decode cX5_deliverRound 10 = .ok (.iconst 0, 1) := by decide +kernel
theorem dX5_deliverRound_11 : decode cX5_deliverRound 11 = .ok (.istore_n 3, 1) := by decide +kernel
theorem dX5_deliverRound_12 : decode cX5_deliverRound 12 = .ok (.iload_n 3, 1) := by decide +kernel
theorem dX5_deliverRound_13 : decode cX5_deliverRound 13 = .ok (.bipush 6, 2) := by decide +kernel
theorem dX5_deliverRound_15 : decode cX5_deliverRound 15 = .ok (.if_icmp .ge 21, 3) := by decide +kernel
theorem dX5_deliverRound_18 : decode cX5_deliverRound 18 = .ok (.aload_n 0, 1) := by decide +kernel
theorem dX5_deliverRound_19 : decode cX5_deliverRound 19 = .ok (.iload_n 2, 1) := by decide +kernel
theorem dX5_deliverRound_20 : decode cX5_deliverRound 20 = .ok (.iload_n 3, 1) := by decide +kernel
theorem dX5_deliverRound_21 : decode cX5_deliverRound 21 = .ok (.invokevirtual 87, 3) := by decide +kernel
theorem dX5_deliverRound_24 : decode cX5_deliverRound 24 = .ok (.ifCond .eq 6, 3) := by decide +kernel
theorem dX5_deliverRound_27 : decode cX5_deliverRound 27 = .ok (.iinc 1 1, 3) := by decide +kernel
theorem dX5_deliverRound_30 : decode cX5_deliverRound 30 = .ok (.iinc 3 1, 3) := by decide +kernel
theorem dX5_deliverRound_33 : decode cX5_deliverRound 33 = .ok (.goto (-21), 3) := by decide +kernel
theorem dX5_deliverRound_36 : decode cX5_deliverRound 36 = .ok (.iinc 2 1, 3) := by decide +kernel
theorem dX5_deliverRound_39 : decode cX5_deliverRound 39 = .ok (.goto (-35), 3) := by decide +kernel
theorem dX5_deliverRound_42 : decode cX5_deliverRound 42 = .ok (.iload_n 1, 1) := by decide +kernel
theorem dX5_deliverRound_43 : decode cX5_deliverRound 43 = .ok (.ireturn, 1) := by decide +kernel
theorem dX5_deliverFirst_0 : decode cX5_deliverFirst 0 = .ok (.aload_n 0, 1) := by decide +kernel
theorem dX5_deliverFirst_1 : decode cX5_deliverFirst 1 = .ok (.getfield 18, 3) := by decide +kernel
theorem dX5_deliverFirst_4 : decode cX5_deliverFirst 4 = .ok (.iload_n 1, 1) := by decide +kernel
theorem dX5_deliverFirst_5 : decode cX5_deliverFirst 5 = .ok (.iload_n 2, 1) := by decide +kernel
theorem dX5_deliverFirst_6 : decode cX5_deliverFirst 6 = .ok (.invokevirtual 229, 3) := by decide +kernel
theorem dX5_deliverFirst_9 : decode cX5_deliverFirst 9 = .ok (.astore_n 3, 1) := by decide +kernel
theorem dX5_deliverFirst_10 : decode cX5_deliverFirst 10 = .ok (.aload_n 3, 1) := by decide +kernel
theorem dX5_deliverFirst_11 : decode cX5_deliverFirst 11 = .ok (.ifnonnull 5, 3) := by decide +kernel
theorem dX5_deliverFirst_14 : decode cX5_deliverFirst 14 = .ok (.iconst 0, 1) := by decide +kernel
theorem dX5_deliverFirst_15 : decode cX5_deliverFirst 15 = .ok (.ireturn, 1) := by decide +kernel
theorem dX5_deliverFirst_16 : decode cX5_deliverFirst 16 = .ok (.aload_n 3, 1) := by decide +kernel
theorem dX5_deliverFirst_17 : decode cX5_deliverFirst 17 = .ok (.getfield 232, 3) := by decide +kernel
theorem dX5_deliverFirst_20 : decode cX5_deliverFirst 20 = .ok (.tableswitch 96 0 3 #[32, 42, 52, 62], 32) := by decide +kernel
theorem dX5_deliverFirst_52 : decode cX5_deliverFirst 52 = .ok (.aload_n 0, 1) := by decide +kernel
theorem dX5_deliverFirst_53 : decode cX5_deliverFirst 53 = .ok (.aload_n 3, 1) := by decide +kernel
theorem dX5_deliverFirst_54 : decode cX5_deliverFirst 54 = .ok (.iload_n 1, 1) := by decide +kernel
theorem dX5_deliverFirst_55 : decode cX5_deliverFirst 55 = .ok (.iload_n 2, 1) := by decide +kernel
theorem dX5_deliverFirst_56 : decode cX5_deliverFirst 56 = .ok (.invokevirtual 235, 3) := by decide +kernel
theorem dX5_deliverFirst_59 : decode cX5_deliverFirst 59 = .ok (.goto 64, 3) := by decide +kernel
theorem dX5_deliverFirst_62 : decode cX5_deliverFirst 62 = .ok (.aload_n 0, 1) := by decide +kernel
theorem dX5_deliverFirst_63 : decode cX5_deliverFirst 63 = .ok (.aload_n 3, 1) := by decide +kernel
theorem dX5_deliverFirst_64 : decode cX5_deliverFirst 64 = .ok (.iload_n 1, 1) := by decide +kernel
theorem dX5_deliverFirst_65 : decode cX5_deliverFirst 65 = .ok (.iload_n 2, 1) := by decide +kernel
theorem dX5_deliverFirst_66 : decode cX5_deliverFirst 66 = .ok (.invokevirtual 239, 3) := by decide +kernel
theorem dX5_deliverFirst_69 : decode cX5_deliverFirst 69 = .ok (.goto 54, 3) := by decide +kernel
theorem dX5_deliverFirst_72 : decode cX5_deliverFirst 72 = .ok (.aload_n 0, 1) := by decide +kernel
theorem dX5_deliverFirst_73 : decode cX5_deliverFirst 73 = .ok (.aload_n 3, 1) := by decide +kernel
theorem dX5_deliverFirst_74 : decode cX5_deliverFirst 74 = .ok (.iload_n 1, 1) := by decide +kernel
theorem dX5_deliverFirst_75 : decode cX5_deliverFirst 75 = .ok (.iload_n 2, 1) := by decide +kernel
theorem dX5_deliverFirst_76 : decode cX5_deliverFirst 76 = .ok (.invokevirtual 242, 3) := by decide +kernel
theorem dX5_deliverFirst_79 : decode cX5_deliverFirst 79 = .ok (.goto 44, 3) := by decide +kernel
theorem dX5_deliverFirst_82 : decode cX5_deliverFirst 82 = .ok (.aload_n 0, 1) := by decide +kernel
theorem dX5_deliverFirst_83 : decode cX5_deliverFirst 83 = .ok (.getfield 11, 3) := by decide +kernel
theorem dX5_deliverFirst_86 : decode cX5_deliverFirst 86 = .ok (.iload_n 2, 1) := by decide +kernel
theorem dX5_deliverFirst_87 : decode cX5_deliverFirst 87 = .ok (.aaload, 1) := by decide +kernel
theorem dX5_deliverFirst_88 : decode cX5_deliverFirst 88 = .ok (.getfield 135, 3) := by decide +kernel
theorem dX5_deliverFirst_91 : decode cX5_deliverFirst 91 = .ok (.aload_n 3, 1) := by decide +kernel
theorem dX5_deliverFirst_92 : decode cX5_deliverFirst 92 = .ok (.getfield 245, 3) := by decide +kernel
theorem dX5_deliverFirst_95 : decode cX5_deliverFirst 95 = .ok (.aaload, 1) := by decide +kernel
theorem dX5_deliverFirst_96 : decode cX5_deliverFirst 96 = .ok (.aload_n 3, 1) := by decide +kernel
theorem dX5_deliverFirst_97 : decode cX5_deliverFirst 97 = .ok (.getfield 248, 3) := by decide +kernel
theorem dX5_deliverFirst_100 : decode cX5_deliverFirst 100 = .ok (.invokevirtual 170, 3) := by decide +kernel
theorem dX5_deliverFirst_103 : decode cX5_deliverFirst 103 = .ok (.aload_n 0, 1) := by decide +kernel
theorem dX5_deliverFirst_104 : decode cX5_deliverFirst 104 = .ok (.getfield 18, 3) := by decide +kernel
theorem dX5_deliverFirst_107 : decode cX5_deliverFirst 107 = .ok (.iload_n 2, 1) := by decide +kernel
theorem dX5_deliverFirst_108 : decode cX5_deliverFirst 108 = .ok (.iload_n 1, 1) := by decide +kernel
theorem dX5_deliverFirst_109 : decode cX5_deliverFirst 109 = .ok (.aload_n 3, 1) := by decide +kernel
theorem dX5_deliverFirst_110 : decode cX5_deliverFirst 110 = .ok (.invokevirtual 119, 3) := by decide +kernel
theorem dX5_deliverFirst_113 : decode cX5_deliverFirst 113 = .ok (.goto 10, 3) := by decide +kernel
theorem dX5_deliverFirst_116 : decode cX5_deliverFirst 116 = .ok (.aload_n 0, 1) := by decide +kernel
theorem dX5_deliverFirst_117 : decode cX5_deliverFirst 117 = .ok (.aload_n 3, 1) := by decide +kernel
theorem dX5_deliverFirst_118 : decode cX5_deliverFirst 118 = .ok (.iload_n 1, 1) := by decide +kernel
theorem dX5_deliverFirst_119 : decode cX5_deliverFirst 119 = .ok (.iload_n 2, 1) := by decide +kernel
theorem dX5_deliverFirst_120 : decode cX5_deliverFirst 120 = .ok (.invokevirtual 251, 3) := by decide +kernel
theorem dX5_deliverFirst_123 : decode cX5_deliverFirst 123 = .ok (.aload_n 0, 1) := by decide +kernel
theorem dX5_deliverFirst_124 : decode cX5_deliverFirst 124 = .ok (.getfield 18, 3) := by decide +kernel
theorem dX5_deliverFirst_127 : decode cX5_deliverFirst 127 = .ok (.aload_n 3, 1) := by decide +kernel
theorem dX5_deliverFirst_128 : decode cX5_deliverFirst 128 = .ok (.invokevirtual 254, 3) := by decide +kernel
theorem dX5_deliverFirst_131 : decode cX5_deliverFirst 131 = .ok (.iconst 1, 1) := by decide +kernel
theorem dX5_deliverFirst_132 : decode cX5_deliverFirst 132 = .ok (.ireturn, 1) := by decide +kernel
theorem dX5_receiveUser_0 : decode cX5_receiveUser 0 = .ok (.aload_n 1, 1) := by decide +kernel
theorem dX5_receiveUser_1 : decode cX5_receiveUser 1 = .ok (.getfield 248, 3) := by decide +kernel
theorem dX5_receiveUser_4 : decode cX5_receiveUser 4 = .ok (.istore 4, 2) := by decide +kernel
theorem dX5_receiveUser_6 : decode cX5_receiveUser 6 = .ok (.aload_n 0, 1) := by decide +kernel
theorem dX5_receiveUser_7 : decode cX5_receiveUser 7 = .ok (.getfield 18, 3) := by decide +kernel
theorem dX5_receiveUser_10 : decode cX5_receiveUser 10 = .ok (.iload_n 3, 1) := by decide +kernel
theorem dX5_receiveUser_11 : decode cX5_receiveUser 11 = .ok (.invokevirtual 51, 3) := by decide +kernel
theorem dX5_receiveUser_14 : decode cX5_receiveUser 14 = .ok (.aload_n 0, 1) := by decide +kernel
theorem dX5_receiveUser_15 : decode cX5_receiveUser 15 = .ok (.getfield 22, 3) := by decide +kernel
theorem dX5_receiveUser_18 : decode cX5_receiveUser 18 = .ok (.iload 4, 2) := by decide +kernel
theorem dX5_receiveUser_20 : decode cX5_receiveUser 20 = .ok (.iaload, 1) := by decide +kernel
theorem dX5_receiveUser_21 : decode cX5_receiveUser 21 = .ok (.invokestatic 55, 3) := by decide +kernel
theorem dX5_receiveUser_24 : decode cX5_receiveUser 24 = .ok (.ifCond .ne 4, 3) := by decide +kernel
theorem dX5_receiveUser_27 : decode cX5_receiveUser 27 = .ok (.return_, 1) := by decide +kernel
theorem dX5_receiveUser_28 : decode cX5_receiveUser 28 = .ok (.aload_n 0, 1) := by decide +kernel
theorem dX5_receiveUser_29 : decode cX5_receiveUser 29 = .ok (.getfield 11, 3) := by decide +kernel
theorem dX5_receiveUser_32 : decode cX5_receiveUser 32 = .ok (.iload_n 3, 1) := by decide +kernel
theorem dX5_receiveUser_33 : decode cX5_receiveUser 33 = .ok (.aaload, 1) := by decide +kernel
theorem dX5_receiveUser_34 : decode cX5_receiveUser 34 = .ok (.astore 5, 2) := by decide +kernel
theorem dX5_receiveUser_36 : decode cX5_receiveUser 36 = .ok (.aload_n 0, 1) := by decide +kernel
theorem dX5_receiveUser_37 : decode cX5_receiveUser 37 = .ok (.aload 5, 2) := by decide +kernel
theorem dX5_receiveUser_39 : decode cX5_receiveUser 39 = .ok (.aload_n 0, 1) := by decide +kernel
theorem dX5_receiveUser_40 : decode cX5_receiveUser 40 = .ok (.getfield 26, 3) := by decide +kernel
theorem dX5_receiveUser_43 : decode cX5_receiveUser 43 = .ok (.iload 4, 2) := by decide +kernel
theorem dX5_receiveUser_45 : decode cX5_receiveUser 45 = .ok (.iaload, 1) := by decide +kernel
theorem dX5_receiveUser_46 : decode cX5_receiveUser 46 = .ok (.iload 4, 2) := by decide +kernel
theorem dX5_receiveUser_48 : decode cX5_receiveUser 48 = .ok (.invokevirtual 106, 3) := by decide +kernel
theorem dX5_receiveUser_51 : decode cX5_receiveUser 51 = .ok (.istore 6, 2) := by decide +kernel
theorem dX5_receiveUser_53 : decode cX5_receiveUser 53 = .ok (.iload 6, 2) := by decide +kernel
theorem dX5_receiveUser_55 : decode cX5_receiveUser 55 = .ok (.iconst (-1), 1) := by decide +kernel
theorem dX5_receiveUser_56 : decode cX5_receiveUser 56 = .ok (.if_icmp .eq 40, 3) := by decide +kernel
theorem dX5_receiveUser_59 : decode cX5_receiveUser 59 = .ok (.aload_n 0, 1) := by decide +kernel
theorem dX5_receiveUser_60 : decode cX5_receiveUser 60 = .ok (.getfield 29, 3) := by decide +kernel
theorem dX5_receiveUser_63 : decode cX5_receiveUser 63 = .ok (.iload 6, 2) := by decide +kernel
theorem dX5_receiveUser_65 : decode cX5_receiveUser 65 = .ok (.iaload, 1) := by decide +kernel
theorem dX5_receiveUser_66 : decode cX5_receiveUser 66 = .ok (.aload_n 0, 1) := by decide +kernel
theorem dX5_receiveUser_67 : decode cX5_receiveUser 67 = .ok (.getfield 29, 3) := by decide +kernel
theorem dX5_receiveUser_70 : decode cX5_receiveUser 70 = .ok (.iload 4, 2) := by decide +kernel
theorem dX5_receiveUser_72 : decode cX5_receiveUser 72 = .ok (.iaload, 1) := by decide +kernel
theorem dX5_receiveUser_73 : decode cX5_receiveUser 73 = .ok (.if_icmp .ge 23, 3) := by decide +kernel
theorem dX5_receiveUser_76 : decode cX5_receiveUser 76 = .ok (.aload_n 0, 1) := by decide +kernel
theorem dX5_receiveUser_77 : decode cX5_receiveUser 77 = .ok (.getfield 18, 3) := by decide +kernel
theorem dX5_receiveUser_80 : decode cX5_receiveUser 80 = .ok (.iload_n 3, 1) := by decide +kernel
theorem dX5_receiveUser_81 : decode cX5_receiveUser 81 = .ok (.iload_n 2, 1) := by decide +kernel
theorem dX5_receiveUser_82 : decode cX5_receiveUser 82 = .ok (.aload_n 0, 1) := by decide +kernel
theorem dX5_receiveUser_83 : decode cX5_receiveUser 83 = .ok (.getfield 35, 3) := by decide +kernel
theorem dX5_receiveUser_86 : decode cX5_receiveUser 86 = .ok (.iconst 1, 1) := by decide +kernel
theorem dX5_receiveUser_87 : decode cX5_receiveUser 87 = .ok (.iload 4, 2) := by decide +kernel
theorem dX5_receiveUser_89 : decode cX5_receiveUser 89 = .ok (.invokevirtual 115, 3) := by decide +kernel
theorem dX5_receiveUser_92 : decode cX5_receiveUser 92 = .ok (.invokevirtual 226, 3) := by decide +kernel
theorem dX5_receiveUser_95 : decode cX5_receiveUser 95 = .ok (.return_, 1) := by decide +kernel
theorem dX5_receiveUser_96 : decode cX5_receiveUser 96 = .ok (.iload 6, 2) := by decide +kernel
theorem dX5_receiveUser_98 : decode cX5_receiveUser 98 = .ok (.iconst (-1), 1) := by decide +kernel
theorem dX5_receiveUser_99 : decode cX5_receiveUser 99 = .ok (.if_icmp .eq 29, 3) := by decide +kernel
theorem dX5_receiveUser_102 : decode cX5_receiveUser 102 = .ok (.aload 5, 2) := by decide +kernel
theorem dX5_receiveUser_104 : decode cX5_receiveUser 104 = .ok (.iload 6, 2) := by decide +kernel
theorem dX5_receiveUser_106 : decode cX5_receiveUser 106 = .ok (.invokevirtual 129, 3) := by decide +kernel
theorem dX5_receiveUser_109 : decode cX5_receiveUser 109 = .ok (.aload_n 0, 1) := by decide +kernel
theorem dX5_receiveUser_110 : decode cX5_receiveUser 110 = .ok (.getfield 18, 3) := by decide +kernel
theorem dX5_receiveUser_113 : decode cX5_receiveUser 113 = .ok (.iload_n 3, 1) := by decide +kernel
theorem dX5_receiveUser_114 : decode cX5_receiveUser 114 = .ok (.iconst (-1), 1) := by decide +kernel
theorem dX5_receiveUser_115 : decode cX5_receiveUser 115 = .ok (.aload_n 0, 1) := by decide +kernel
theorem dX5_receiveUser_116 : decode cX5_receiveUser 116 = .ok (.getfield 35, 3) := by decide +kernel
theorem dX5_receiveUser_119 : decode cX5_receiveUser 119 = .ok (.iconst 1, 1) := by decide +kernel
theorem dX5_receiveUser_120 : decode cX5_receiveUser 120 = .ok (.iload 6, 2) := by decide +kernel
theorem dX5_receiveUser_122 : decode cX5_receiveUser 122 = .ok (.invokevirtual 115, 3) := by decide +kernel
theorem dX5_receiveUser_125 : decode cX5_receiveUser 125 = .ok (.invokevirtual 119, 3) := by decide +kernel
theorem dX5_receiveUser_128 : decode cX5_receiveUser 128 = .ok (.aload 5, 2) := by decide +kernel
theorem dX5_receiveUser_130 : decode cX5_receiveUser 130 = .ok (.iload 4, 2) := by decide +kernel
theorem dX5_receiveUser_132 : decode cX5_receiveUser 132 = .ok (.invokevirtual 112, 3) := by decide +kernel
theorem dX5_receiveUser_135 : decode cX5_receiveUser 135 = .ok (.aload_n 0, 1) := by decide +kernel
theorem dX5_receiveUser_136 : decode cX5_receiveUser 136 = .ok (.getfield 18, 3) := by decide +kernel
theorem dX5_receiveUser_139 : decode cX5_receiveUser 139 = .ok (.iload_n 3, 1) := by decide +kernel
theorem dX5_receiveUser_140 : decode cX5_receiveUser 140 = .ok (.iload_n 2, 1) := by decide +kernel
theorem dX5_receiveUser_141 : decode cX5_receiveUser 141 = .ok (.aload_n 1, 1) := by decide +kernel
theorem dX5_receiveUser_142 : decode cX5_receiveUser 142 = .ok (.invokevirtual 119, 3) := by decide +kernel
theorem dX5_receiveUser_145 : decode cX5_receiveUser 145 = .ok (.return_, 1) := by decide +kernel
theorem dX5_receiveQuit_0 : decode cX5_receiveQuit 0 = .ok (.aload_n 0, 1) := by decide +kernel
theorem dX5_receiveQuit_1 : decode cX5_receiveQuit 1 = .ok (.getfield 11, 3) := by decide +kernel
theorem dX5_receiveQuit_4 : decode cX5_receiveQuit 4 = .ok (.iload_n 3, 1) := by decide +kernel
theorem dX5_receiveQuit_5 : decode cX5_receiveQuit 5 = .ok (.aaload, 1) := by decide +kernel
theorem dX5_receiveQuit_6 : decode cX5_receiveQuit 6 = .ok (.astore 4, 2) := by decide +kernel
theorem dX5_receiveQuit_8 : decode cX5_receiveQuit 8 = .ok (.aload 4, 2) := by decide +kernel
theorem dX5_receiveQuit_10 : decode cX5_receiveQuit 10 = .ok (.aload_n 1, 1) := by decide +kernel
theorem dX5_receiveQuit_11 : decode cX5_receiveQuit 11 = .ok (.getfield 248, 3) := by decide +kernel
theorem dX5_receiveQuit_14 : decode cX5_receiveQuit 14 = .ok (.invokevirtual 223, 3) := by decide +kernel
theorem dX5_receiveQuit_17 : decode cX5_receiveQuit 17 = .ok (.ifCond .eq 22, 3) := by decide +kernel
theorem dX5_receiveQuit_20 : decode cX5_receiveQuit 20 = .ok (.aload 4, 2) := by decide +kernel
theorem dX5_receiveQuit_22 : decode cX5_receiveQuit 22 = .ok (.aload_n 1, 1) := by decide +kernel
theorem dX5_receiveQuit_23 : decode cX5_receiveQuit 23 = .ok (.getfield 248, 3) := by decide +kernel
theorem dX5_receiveQuit_26 : decode cX5_receiveQuit 26 = .ok (.invokevirtual 129, 3) := by decide +kernel
theorem dX5_receiveQuit_29 : decode cX5_receiveQuit 29 = .ok (.aload_n 0, 1) := by decide +kernel
theorem dX5_receiveQuit_30 : decode cX5_receiveQuit 30 = .ok (.getfield 18, 3) := by decide +kernel
theorem dX5_receiveQuit_33 : decode cX5_receiveQuit 33 = .ok (.iload_n 3, 1) := by decide +kernel
theorem dX5_receiveQuit_34 : decode cX5_receiveQuit 34 = .ok (.iload_n 2, 1) := by decide +kernel
theorem dX5_receiveQuit_35 : decode cX5_receiveQuit 35 = .ok (.aload_n 1, 1) := by decide +kernel
theorem dX5_receiveQuit_36 : decode cX5_receiveQuit 36 = .ok (.invokevirtual 119, 3) := by decide +kernel
theorem dX5_receiveQuit_39 : decode cX5_receiveQuit 39 = .ok (.return_, 1) := by decide +kernel
theorem dX5_receiveChannel_0 : decode cX5_receiveChannel 0 = .ok (.aload_n 0, 1) := by decide +kernel
theorem dX5_receiveChannel_1 : decode cX5_receiveChannel 1 = .ok (.getfield 11, 3) := by decide +kernel
theorem dX5_receiveChannel_4 : decode cX5_receiveChannel 4 = .ok (.iload_n 3, 1) := by decide +kernel
theorem dX5_receiveChannel_5 : decode cX5_receiveChannel 5 = .ok (.aaload, 1) := by decide +kernel
theorem dX5_receiveChannel_6 : decode cX5_receiveChannel 6 = .ok (.astore 4, 2) := by decide +kernel
theorem dX5_receiveChannel_8 : decode cX5_receiveChannel 8 = .ok (.aload_n 1, 1) := by decide +kernel
theorem dX5_receiveChannel_9 : decode cX5_receiveChannel 9 = .ok (.getfield 258, 3) := by decide +kernel
theorem dX5_receiveChannel_12 : decode cX5_receiveChannel 12 = .ok (.aload 4, 2) := by decide +kernel
theorem dX5_receiveChannel_14 : decode cX5_receiveChannel 14 = .ok (.getfield 196, 3) := by decide +kernel
theorem dX5_receiveChannel_17 : decode cX5_receiveChannel 17 = .ok (.iand, 1) := by decide +kernel
theorem dX5_receiveChannel_18 : decode cX5_receiveChannel 18 = .ok (.istore 5, 2) := by decide +kernel
theorem dX5_receiveChannel_20 : decode cX5_receiveChannel 20 = .ok (.iload 5, 2) := by decide +kernel
theorem dX5_receiveChannel_22 : decode cX5_receiveChannel 22 = .ok (.ifCond .eq 19, 3) := by decide +kernel
theorem dX5_receiveChannel_25 : decode cX5_receiveChannel 25 = .ok (.aload 4, 2) := by decide +kernel
theorem dX5_receiveChannel_27 : decode cX5_receiveChannel 27 = .ok (.getfield 135, 3) := by decide +kernel
theorem dX5_receiveChannel_30 : decode cX5_receiveChannel 30 = .ok (.aload_n 1, 1) := by decide +kernel
theorem dX5_receiveChannel_31 : decode cX5_receiveChannel 31 = .ok (.getfield 245, 3) := by decide +kernel
theorem dX5_receiveChannel_34 : decode cX5_receiveChannel 34 = .ok (.aaload, 1) := by decide +kernel
theorem dX5_receiveChannel_35 : decode cX5_receiveChannel 35 = .ok (.aload_n 1, 1) := by decide +kernel
theorem dX5_receiveChannel_36 : decode cX5_receiveChannel 36 = .ok (.iload 5, 2) := by decide +kernel
theorem dX5_receiveChannel_38 : decode cX5_receiveChannel 38 = .ok (.invokevirtual 259, 3) := by decide +kernel
theorem dX5_receiveChannel_41 : decode cX5_receiveChannel 41 = .ok (.aload_n 0, 1) := by decide +kernel
theorem dX5_receiveChannel_42 : decode cX5_receiveChannel 42 = .ok (.getfield 18, 3) := by decide +kernel
theorem dX5_receiveChannel_45 : decode cX5_receiveChannel 45 = .ok (.iload_n 3, 1) := by decide +kernel
theorem dX5_receiveChannel_46 : decode cX5_receiveChannel 46 = .ok (.iload_n 2, 1) := by decide +kernel
theorem dX5_receiveChannel_47 : decode cX5_receiveChannel 47 = .ok (.aload_n 1, 1) := by decide +kernel
theorem dX5_receiveChannel_48 : decode cX5_receiveChannel 48 = .ok (.invokevirtual 119, 3) := by decide +kernel
theorem dX5_receiveChannel_51 : decode cX5_receiveChannel 51 = .ok (.return_, 1) := by decide +kernel
theorem dX5_receiveModes_0 : decode cX5_receiveModes 0 = .ok (.aload_n 0, 1) := by decide +kernel
theorem dX5_receiveModes_1 : decode cX5_receiveModes 1 = .ok (.getfield 11, 3) := by decide +kernel
theorem dX5_receiveModes_4 : decode cX5_receiveModes 4 = .ok (.iload_n 3, 1) := by decide +kernel
theorem dX5_receiveModes_5 : decode cX5_receiveModes 5 = .ok (.aaload, 1) := by decide +kernel
theorem dX5_receiveModes_6 : decode cX5_receiveModes 6 = .ok (.getfield 135, 3) := by decide +kernel
theorem dX5_receiveModes_9 : decode cX5_receiveModes 9 = .ok (.aload_n 1, 1) := by decide +kernel
theorem dX5_receiveModes_10 : decode cX5_receiveModes 10 = .ok (.getfield 245, 3) := by decide +kernel
theorem dX5_receiveModes_13 : decode cX5_receiveModes 13 = .ok (.aaload, 1) := by decide +kernel
theorem dX5_receiveModes_14 : decode cX5_receiveModes 14 = .ok (.astore 4, 2) := by decide +kernel
theorem dX5_receiveModes_16 : decode cX5_receiveModes 16 = .ok (.aload 4, 2) := by decide +kernel
theorem dX5_receiveModes_18 : decode cX5_receiveModes 18 = .ok (.invokevirtual 146, 3) := by decide +kernel
theorem dX5_receiveModes_21 : decode cX5_receiveModes 21 = .ok (.ifCond .eq 33, 3) := by decide +kernel
theorem dX5_receiveModes_24 : decode cX5_receiveModes 24 = .ok (.aload 4, 2) := by decide +kernel
theorem dX5_receiveModes_26 : decode cX5_receiveModes 26 = .ok (.getfield 199, 3) := by decide +kernel
theorem dX5_receiveModes_29 : decode cX5_receiveModes 29 = .ok (.aload_n 1, 1) := by decide +kernel
theorem dX5_receiveModes_30 : decode cX5_receiveModes 30 = .ok (.getfield 263, 3) := by decide +kernel
theorem dX5_receiveModes_33 : decode cX5_receiveModes 33 = .ok (.if_icmp .ne 21, 3) := by decide +kernel
theorem dX5_receiveModes_36 : decode cX5_receiveModes 36 = .ok (.aload 4, 2) := by decide +kernel
theorem dX5_receiveModes_38 : decode cX5_receiveModes 38 = .ok (.aload_n 1, 1) := by decide +kernel
theorem dX5_receiveModes_39 : decode cX5_receiveModes 39 = .ok (.getfield 264, 3) := by decide +kernel
theorem dX5_receiveModes_42 : decode cX5_receiveModes 42 = .ok (.putfield 179, 3) := by decide +kernel
theorem dX5_receiveModes_45 : decode cX5_receiveModes 45 = .ok (.aload 4, 2) := by decide +kernel
theorem dX5_receiveModes_47 : decode cX5_receiveModes 47 = .ok (.aload_n 1, 1) := by decide +kernel
theorem dX5_receiveModes_48 : decode cX5_receiveModes 48 = .ok (.getfield 265, 3) := by decide +kernel
theorem dX5_receiveModes_51 : decode cX5_receiveModes 51 = .ok (.putfield 150, 3) := by decide +kernel
theorem dX5_receiveModes_54 : decode cX5_receiveModes 54 = .ok (.aload_n 0, 1) := by decide +kernel
theorem dX5_receiveModes_55 : decode cX5_receiveModes 55 = .ok (.getfield 18, 3) := by decide +kernel
theorem dX5_receiveModes_58 : decode cX5_receiveModes 58 = .ok (.iload_n 3, 1) := by decide +kernel
theorem dX5_receiveModes_59 : decode cX5_receiveModes 59 = .ok (.iload_n 2, 1) := by decide +kernel
theorem dX5_receiveModes_60 : decode cX5_receiveModes 60 = .ok (.aload_n 1, 1) := by decide +kernel
theorem dX5_receiveModes_61 : decode cX5_receiveModes 61 = .ok (.invokevirtual 119, 3) := by decide +kernel
theorem dX5_receiveModes_64 : decode cX5_receiveModes 64 = .ok (.return_, 1) := by decide +kernel
theorem dX5_isGone_0 : decode cX5_isGone 0 = .ok (.aload_n 0, 1) := by decide +kernel
theorem dX5_isGone_1 : decode cX5_isGone 1 = .ok (.getfield 11, 3) := by decide +kernel
theorem dX5_isGone_4 : decode cX5_isGone 4 = .ok (.aload_n 0, 1) := by decide +kernel
theorem dX5_isGone_5 : decode cX5_isGone 5 = .ok (.getfield 22, 3) := by decide +kernel
theorem dX5_isGone_8 : decode cX5_isGone 8 = .ok (.iload_n 1, 1) := by decide +kernel
theorem dX5_isGone_9 : decode cX5_isGone 9 = .ok (.iaload, 1) := by decide +kernel
theorem dX5_isGone_10 : decode cX5_isGone 10 = .ok (.aaload, 1) := by decide +kernel
theorem dX5_isGone_11 : decode cX5_isGone 11 = .ok (.iload_n 1, 1) := by decide +kernel
theorem dX5_isGone_12 : decode cX5_isGone 12 = .ok (.invokevirtual 223, 3) := by decide +kernel
theorem dX5_isGone_15 : decode cX5_isGone 15 = .ok (.ifCond .ne 7, 3) := by decide +kernel
theorem dX5_isGone_18 : decode cX5_isGone 18 = .ok (.iconst 1, 1) := by decide +kernel
theorem dX5_isGone_19 : decode cX5_isGone 19 = .ok (.goto 4, 3) := by decide +kernel
theorem dX5_isGone_22 : decode cX5_isGone 22 = .ok (.iconst 0, 1) := by decide +kernel
theorem dX5_isGone_23 : decode cX5_isGone 23 = .ok (.ireturn, 1) := by decide +kernel
theorem dX5_namesake_0 : decode cX5_namesake 0 = .ok (.iconst 0, 1) := by decide +kernel
theorem dX5_namesake_1 : decode cX5_namesake 1 = .ok (.istore 4, 2) := by decide +kernel
theorem dX5_namesake_3 : decode cX5_namesake 3 = .ok (.iload 4, 2) := by decide +kernel
theorem dX5_namesake_5 : decode cX5_namesake 5 = .ok (.aload_n 0, 1) := by decide +kernel
theorem dX5_namesake_6 : decode cX5_namesake 6 = .ok (.getfield 39, 3) := by decide +kernel
theorem dX5_namesake_9 : decode cX5_namesake 9 = .ok (.if_icmp .ge 38, 3) := by decide +kernel
theorem dX5_namesake_12 : decode cX5_namesake 12 = .ok (.iload 4, 2) := by decide +kernel
theorem dX5_namesake_14 : decode cX5_namesake 14 = .ok (.iload_n 3, 1) := by decide +kernel
theorem dX5_namesake_15 : decode cX5_namesake 15 = .ok (.if_icmp .eq 26, 3) := by decide +kernel
theorem dX5_namesake_18 : decode cX5_namesake 18 = .ok (.aload_n 0, 1) := by decide +kernel
theorem dX5_namesake_19 : decode cX5_namesake 19 = .ok (.getfield 26, 3) := by decide +kernel
theorem dX5_namesake_22 : decode cX5_namesake 22 = .ok (.iload 4, 2) := by decide +kernel
theorem dX5_namesake_24 : decode cX5_namesake 24 = .ok (.iaload, 1) := by decide +kernel
theorem dX5_namesake_25 : decode cX5_namesake 25 = .ok (.iload_n 2, 1) := by decide +kernel
theorem dX5_namesake_26 : decode cX5_namesake 26 = .ok (.if_icmp .ne 15, 3) := by decide +kernel
theorem dX5_namesake_29 : decode cX5_namesake 29 = .ok (.aload_n 1, 1) := by decide +kernel
theorem dX5_namesake_30 : decode cX5_namesake 30 = .ok (.iload 4, 2) := by decide +kernel
theorem dX5_namesake_32 : decode cX5_namesake 32 = .ok (.invokevirtual 223, 3) := by decide +kernel
theorem dX5_namesake_35 : decode cX5_namesake 35 = .ok (.ifCond .eq 6, 3) := by decide +kernel
theorem dX5_namesake_38 : decode cX5_namesake 38 = .ok (.iload 4, 2) := by decide +kernel
theorem dX5_namesake_40 : decode cX5_namesake 40 = .ok (.ireturn, 1) := by decide +kernel
theorem dX5_namesake_41 : decode cX5_namesake 41 = .ok (.iinc 4 1, 3) := by decide +kernel
theorem dX5_namesake_44 : decode cX5_namesake 44 = .ok (.goto (-41), 3) := by decide +kernel
theorem dX5_namesake_47 : decode cX5_namesake 47 = .ok (.iconst (-1), 1) := by decide +kernel
theorem dX5_namesake_48 : decode cX5_namesake 48 = .ok (.ireturn, 1) := by decide +kernel
theorem dX5_eldestOf_0 : decode cX5_eldestOf 0 = .ok (.iconst (-1), 1) := by decide +kernel
theorem dX5_eldestOf_1 : decode cX5_eldestOf 1 = .ok (.istore_n 2, 1) := by decide +kernel
theorem dX5_eldestOf_2 : decode cX5_eldestOf 2 = .ok (.iconst 0, 1) := by decide +kernel
theorem dX5_eldestOf_3 : decode cX5_eldestOf 3 = .ok (.istore_n 3, 1) := by decide +kernel
theorem dX5_eldestOf_4 : decode cX5_eldestOf 4 = .ok (.iload_n 3, 1) := by decide +kernel
theorem dX5_eldestOf_5 : decode cX5_eldestOf 5 = .ok (.aload_n 0, 1) := by decide +kernel
theorem dX5_eldestOf_6 : decode cX5_eldestOf 6 = .ok (.getfield 39, 3) := by decide +kernel
theorem dX5_eldestOf_9 : decode cX5_eldestOf 9 = .ok (.if_icmp .ge 39, 3) := by decide +kernel
theorem dX5_eldestOf_12 : decode cX5_eldestOf 12 = .ok (.iload_n 1, 1) := by decide +kernel
theorem dX5_eldestOf_13 : decode cX5_eldestOf 13 = .ok (.iload_n 3, 1) := by decide +kernel
theorem dX5_eldestOf_14 : decode cX5_eldestOf 14 = .ok (.invokestatic 55, 3) := by decide +kernel
theorem dX5_eldestOf_17 : decode cX5_eldestOf 17 = .ok (.ifCond .eq 25, 3) := by decide +kernel
theorem dX5_eldestOf_20 : decode cX5_eldestOf 20 = .ok (.iload_n 2, 1) := by decide +kernel
theorem dX5_eldestOf_21 : decode cX5_eldestOf 21 = .ok (.iconst (-1), 1) := by decide +kernel
theorem dX5_eldestOf_22 : decode cX5_eldestOf 22 = .ok (.if_icmp .eq 18, 3) := by decide +kernel
theorem dX5_eldestOf_25 : decode cX5_eldestOf 25 = .ok (.aload_n 0, 1) := by decide +kernel
theorem dX5_eldestOf_26 : decode cX5_eldestOf 26 = .ok (.getfield 29, 3) := by decide +kernel
theorem dX5_eldestOf_29 : decode cX5_eldestOf 29 = .ok (.iload_n 3, 1) := by decide +kernel
theorem dX5_eldestOf_30 : decode cX5_eldestOf 30 = .ok (.iaload, 1) := by decide +kernel
theorem dX5_eldestOf_31 : decode cX5_eldestOf 31 = .ok (.aload_n 0, 1) := by decide +kernel
theorem dX5_eldestOf_32 : decode cX5_eldestOf 32 = .ok (.getfield 29, 3) := by decide +kernel
theorem dX5_eldestOf_35 : decode cX5_eldestOf 35 = .ok (.iload_n 2, 1) := by decide +kernel
theorem dX5_eldestOf_36 : decode cX5_eldestOf 36 = .ok (.iaload, 1) := by decide +kernel
theorem dX5_eldestOf_37 : decode cX5_eldestOf 37 = .ok (.if_icmp .ge 5, 3) := by decide +kernel
theorem dX5_eldestOf_40 : decode cX5_eldestOf 40 = .ok (.iload_n 3, 1) := by decide +kernel
theorem dX5_eldestOf_41 : decode cX5_eldestOf 41 = .ok (.istore_n 2, 1) := by decide +kernel
theorem dX5_eldestOf_42 : decode cX5_eldestOf 42 = .ok (.iinc 3 1, 3) := by decide +kernel
theorem dX5_eldestOf_45 : decode cX5_eldestOf 45 = .ok (.goto (-41), 3) := by decide +kernel
theorem dX5_eldestOf_48 : decode cX5_eldestOf 48 = .ok (.iload_n 2, 1) := by decide +kernel
theorem dX5_eldestOf_49 : decode cX5_eldestOf 49 = .ok (.ireturn, 1) := by decide +kernel
theorem dX5_homesOf_0 : decode cX5_homesOf 0 = .ok (.iconst 0, 1) := by decide +kernel
theorem dX5_homesOf_1 : decode cX5_homesOf 1 = .ok (.istore_n 2, 1) := by decide +kernel
theorem dX5_homesOf_2 : decode cX5_homesOf 2 = .ok (.iconst 0, 1) := by decide +kernel
theorem dX5_homesOf_3 : decode cX5_homesOf 3 = .ok (.istore_n 3, 1) := by decide +kernel
theorem dX5_homesOf_4 : decode cX5_homesOf 4 = .ok (.iload_n 3, 1) := by decide +kernel
theorem dX5_homesOf_5 : decode cX5_homesOf 5 = .ok (.aload_n 0, 1) := by decide +kernel
theorem dX5_homesOf_6 : decode cX5_homesOf 6 = .ok (.getfield 39, 3) := by decide +kernel
theorem dX5_homesOf_9 : decode cX5_homesOf 9 = .ok (.if_icmp .ge 28, 3) := by decide +kernel
theorem dX5_homesOf_12 : decode cX5_homesOf 12 = .ok (.iload_n 1, 1) := by decide +kernel
theorem dX5_homesOf_13 : decode cX5_homesOf 13 = .ok (.iload_n 3, 1) := by decide +kernel
theorem dX5_homesOf_14 : decode cX5_homesOf 14 = .ok (.invokestatic 55, 3) := by decide +kernel
theorem dX5_homesOf_17 : decode cX5_homesOf 17 = .ok (.ifCond .eq 14, 3) := by decide +kernel
theorem dX5_homesOf_20 : decode cX5_homesOf 20 = .ok (.iload_n 2, 1) := by decide +kernel
theorem dX5_homesOf_21 : decode cX5_homesOf 21 = .ok (.iconst 1, 1) := by decide +kernel
theorem dX5_homesOf_22 : decode cX5_homesOf 22 = .ok (.aload_n 0, 1) := by decide +kernel
theorem dX5_homesOf_23 : decode cX5_homesOf 23 = .ok (.getfield 22, 3) := by decide +kernel
theorem dX5_homesOf_26 : decode cX5_homesOf 26 = .ok (.iload_n 3, 1) := by decide +kernel
theorem dX5_homesOf_27 : decode cX5_homesOf 27 = .ok (.iaload, 1) := by decide +kernel
theorem dX5_homesOf_28 : decode cX5_homesOf 28 = .ok (.ishl, 1) := by decide +kernel
theorem dX5_homesOf_29 : decode cX5_homesOf 29 = .ok (.ior, 1) := by decide +kernel
theorem dX5_homesOf_30 : decode cX5_homesOf 30 = .ok (.istore_n 2, 1) := by decide +kernel
theorem dX5_homesOf_31 : decode cX5_homesOf 31 = .ok (.iinc 3 1, 3) := by decide +kernel
theorem dX5_homesOf_34 : decode cX5_homesOf 34 = .ok (.goto (-30), 3) := by decide +kernel
theorem dX5_homesOf_37 : decode cX5_homesOf 37 = .ok (.iload_n 2, 1) := by decide +kernel
theorem dX5_homesOf_38 : decode cX5_homesOf 38 = .ok (.ireturn, 1) := by decide +kernel
theorem dX5_has_0 : decode cX5_has 0 = .ok (.iload_n 0, 1) := by decide +kernel
theorem dX5_has_1 : decode cX5_has 1 = .ok (.iload_n 1, 1) := by decide +kernel
theorem dX5_has_2 : decode cX5_has 2 = .ok (.ishr, 1) := by decide +kernel
theorem dX5_has_3 : decode cX5_has 3 = .ok (.iconst 1, 1) := by decide +kernel
theorem dX5_has_4 : decode cX5_has 4 = .ok (.iand, 1) := by decide +kernel
theorem dX5_has_5 : decode cX5_has 5 = .ok (.ifCond .eq 7, 3) := by decide +kernel
theorem dX5_has_8 : decode cX5_has 8 = .ok (.iconst 1, 1) := by decide +kernel
theorem dX5_has_9 : decode cX5_has 9 = .ok (.goto 4, 3) := by decide +kernel
theorem dX5_has_12 : decode cX5_has 12 = .ok (.iconst 0, 1) := by decide +kernel
theorem dX5_has_13 : decode cX5_has 13 = .ok (.ireturn, 1) := by decide +kernel
theorem dX5_letterIn_0 : decode cX5_letterIn 0 = .ok (.iload_n 0, 1) := by decide +kernel
theorem dX5_letterIn_1 : decode cX5_letterIn 1 = .ok (.bipush 97, 2) := by decide +kernel
theorem dX5_letterIn_3 : decode cX5_letterIn 3 = .ok (.if_icmp .lt 14, 3) := by decide +kernel
theorem dX5_letterIn_6 : decode cX5_letterIn 6 = .ok (.iload_n 0, 1) := by decide +kernel
theorem dX5_letterIn_7 : decode cX5_letterIn 7 = .ok (.bipush 122, 2) := by decide +kernel
theorem dX5_letterIn_9 : decode cX5_letterIn 9 = .ok (.if_icmp .gt 8, 3) := by decide +kernel
theorem dX5_letterIn_12 : decode cX5_letterIn 12 = .ok (.iload_n 0, 1) := by decide +kernel
theorem dX5_letterIn_13 : decode cX5_letterIn 13 = .ok (.bipush 97, 2) := by decide +kernel
theorem dX5_letterIn_15 : decode cX5_letterIn 15 = .ok (.isub, 1) := by decide +kernel
theorem dX5_letterIn_16 : decode cX5_letterIn 16 = .ok (.ireturn, 1) := by decide +kernel
theorem dX5_letterIn_17 : decode cX5_letterIn 17 = .ok (.iload_n 0, 1) := by decide +kernel
theorem dX5_letterIn_18 : decode cX5_letterIn 18 = .ok (.bipush 65, 2) := by decide +kernel
theorem dX5_letterIn_20 : decode cX5_letterIn 20 = .ok (.if_icmp .lt 14, 3) := by decide +kernel
theorem dX5_letterIn_23 : decode cX5_letterIn 23 = .ok (.iload_n 0, 1) := by decide +kernel
theorem dX5_letterIn_24 : decode cX5_letterIn 24 = .ok (.bipush 90, 2) := by decide +kernel
theorem dX5_letterIn_26 : decode cX5_letterIn 26 = .ok (.if_icmp .gt 8, 3) := by decide +kernel
theorem dX5_letterIn_29 : decode cX5_letterIn 29 = .ok (.iload_n 0, 1) := by decide +kernel
theorem dX5_letterIn_30 : decode cX5_letterIn 30 = .ok (.bipush 65, 2) := by decide +kernel
theorem dX5_letterIn_32 : decode cX5_letterIn 32 = .ok (.isub, 1) := by decide +kernel
theorem dX5_letterIn_33 : decode cX5_letterIn 33 = .ok (.ireturn, 1) := by decide +kernel
theorem dX5_letterIn_34 : decode cX5_letterIn 34 = .ok (.iconst (-1), 1) := by decide +kernel
theorem dX5_letterIn_35 : decode cX5_letterIn 35 = .ok (.ireturn, 1) := by decide +kernel
theorem dX5_settledSet_0 : decode cX5_settledSet 0 = .ok (.iload_n 0, 1) := by decide +kernel
theorem dX5_settledSet_1 : decode cX5_settledSet 1 = .ok (.iconst (-1), 1) := by decide +kernel
theorem dX5_settledSet_2 : decode cX5_settledSet 2 = .ok (.if_icmp .ne 5, 3) := by decide +kernel
theorem dX5_settledSet_5 : decode cX5_settledSet 5 = .ok (.iload_n 3, 1) := by decide +kernel
theorem dX5_settledSet_6 : decode cX5_settledSet 6 = .ok (.ireturn, 1) := by decide +kernel
theorem dX5_settledSet_7 : decode cX5_settledSet 7 = .ok (.iload_n 2, 1) := by decide +kernel
theorem dX5_settledSet_8 : decode cX5_settledSet 8 = .ok (.iconst (-1), 1) := by decide +kernel
theorem dX5_settledSet_9 : decode cX5_settledSet 9 = .ok (.if_icmp .ne 5, 3) := by decide +kernel
theorem dX5_settledSet_12 : decode cX5_settledSet 12 = .ok (.iload_n 1, 1) := by decide +kernel
theorem dX5_settledSet_13 : decode cX5_settledSet 13 = .ok (.ireturn, 1) := by decide +kernel
theorem dX5_settledSet_14 : decode cX5_settledSet 14 = .ok (.iload_n 0, 1) := by decide +kernel
theorem dX5_settledSet_15 : decode cX5_settledSet 15 = .ok (.iload_n 2, 1) := by decide +kernel
theorem dX5_settledSet_16 : decode cX5_settledSet 16 = .ok (.if_icmp .ne 7, 3) := by decide +kernel
theorem dX5_settledSet_19 : decode cX5_settledSet 19 = .ok (.iload_n 1, 1) := by decide +kernel
theorem dX5_settledSet_20 : decode cX5_settledSet 20 = .ok (.iload_n 3, 1) := by decide +kernel
theorem dX5_settledSet_21 : decode cX5_settledSet 21 = .ok (.ior, 1) := by decide +kernel
theorem dX5_settledSet_22 : decode cX5_settledSet 22 = .ok (.ireturn, 1) := by decide +kernel
theorem dX5_settledSet_23 : decode cX5_settledSet 23 = .ok (.iload_n 0, 1) := by decide +kernel
theorem dX5_settledSet_24 : decode cX5_settledSet 24 = .ok (.iload_n 2, 1) := by decide +kernel
theorem dX5_settledSet_25 : decode cX5_settledSet 25 = .ok (.if_icmp .ge 7, 3) := by decide +kernel
theorem dX5_settledSet_28 : decode cX5_settledSet 28 = .ok (.iload_n 1, 1) := by decide +kernel
theorem dX5_settledSet_29 : decode cX5_settledSet 29 = .ok (.goto 4, 3) := by decide +kernel
theorem dX5_settledSet_32 : decode cX5_settledSet 32 = .ok (.iload_n 3, 1) := by decide +kernel
theorem dX5_settledSet_33 : decode cX5_settledSet 33 = .ok (.ireturn, 1) := by decide +kernel
end
section
theorem dX6_init_0 : decode cX6_init 0 = .ok (.aload_n 0, 1) := by decide +kernel
theorem dX6_init_1 : decode cX6_init 1 = .ok (.invokespecial 1, 3) := by decide +kernel
theorem dX6_init_4 : decode cX6_init 4 = .ok (.aload_n 0, 1) := by decide +kernel
theorem dX6_init_5 : decode cX6_init 5 = .ok (.bipush 20, 2) := by decide +kernel
theorem dX6_init_7 : decode cX6_init 7 = .ok (.newarray .int, 2) := by decide +kernel
theorem dX6_init_9 : decode cX6_init 9 = .ok (.putfield 7, 3) := by decide +kernel
theorem dX6_init_12 : decode cX6_init 12 = .ok (.aload_n 0, 1) := by decide +kernel
theorem dX6_init_13 : decode cX6_init 13 = .ok (.bipush 20, 2) := by decide +kernel
theorem dX6_init_15 : decode cX6_init 15 = .ok (.newarray .int, 2) := by decide +kernel
theorem dX6_init_17 : decode cX6_init 17 = .ok (.putfield 13, 3) := by decide +kernel
theorem dX6_init_20 : decode cX6_init 20 = .ok (.aload_n 0, 1) := by decide +kernel
theorem dX6_init_21 : decode cX6_init 21 = .ok (.bipush 20, 2) := by decide +kernel
theorem dX6_init_23 : decode cX6_init 23 = .ok (.newarray .int, 2) := by decide +kernel
theorem dX6_init_25 : decode cX6_init 25 = .ok (.putfield 16, 3) := by decide +kernel
theorem dX6_init_28 : decode cX6_init 28 = .ok (.aload_n 0, 1) := by decide +kernel
theorem dX6_init_29 : decode cX6_init 29 = .ok (.bipush 6, 2) := by decide +kernel
theorem dX6_init_31 : decode cX6_init 31 = .ok (.newarray .int, 2) := by decide +kernel
theorem dX6_init_33 : decode cX6_init 33 = .ok (.putfield 19, 3) := by decide +kernel
theorem dX6_init_36 : decode cX6_init 36 = .ok (.aload_n 0, 1) := by decide +kernel
theorem dX6_init_37 : decode cX6_init 37 = .ok (.bipush 6, 2) := by decide +kernel
theorem dX6_init_39 : decode cX6_init 39 = .ok (.newarray .int, 2) := by decide +kernel
theorem dX6_init_41 : decode cX6_init 41 = .ok (.putfield 22, 3) := by decide +kernel
theorem dX6_init_44 : decode cX6_init 44 = .ok (.aload_n 0, 1) := by decide +kernel
theorem dX6_init_45 : decode cX6_init 45 = .ok (.bipush 24, 2) := by decide +kernel
theorem dX6_init_47 : decode cX6_init 47 = .ok (.newarray .int, 2) := by decide +kernel
theorem dX6_init_49 : decode cX6_init 49 = .ok (.putfield 25, 3) := by decide +kernel
theorem dX6_init_52 : decode cX6_init 52 = .ok (.aload_n 0, 1) := by decide +kernel
theorem dX6_init_53 : decode cX6_init 53 = .ok (.bipush 24, 2) := by decide +kernel
theorem dX6_init_55 : decode cX6_init 55 = .ok (.newarray .int, 2) := by decide +kernel
theorem dX6_init_57 : decode cX6_init 57 = .ok (.putfield 28, 3) := by decide +kernel
theorem dX6_init_60 : decode cX6_init 60 = .ok (.aload_n 0, 1) := by decide +kernel
theorem dX6_init_61 : decode cX6_init 61 = .ok (.bipush 24, 2) := by decide +kernel
theorem dX6_init_63 : decode cX6_init 63 = .ok (.newarray .int, 2) := by decide +kernel
theorem dX6_init_65 : decode cX6_init 65 = .ok (.putfield 31, 3) := by decide +kernel
theorem dX6_init_68 : decode cX6_init 68 = .ok (.aload_n 0, 1) := by decide +kernel
theorem dX6_init_69 : decode cX6_init 69 = .ok (.bipush 24, 2) := by decide +kernel
theorem dX6_init_71 : decode cX6_init 71 = .ok (.newarray .int, 2) := by decide +kernel
theorem dX6_init_73 : decode cX6_init 73 = .ok (.putfield 34, 3) := by decide +kernel
theorem dX6_init_76 : decode cX6_init 76 = .ok (.aload_n 0, 1) := by decide +kernel
theorem dX6_init_77 : decode cX6_init 77 = .ok (.bipush 36, 2) := by decide +kernel
theorem dX6_init_79 : decode cX6_init 79 = .ok (.newarray .int, 2) := by decide +kernel
theorem dX6_init_81 : decode cX6_init 81 = .ok (.putfield 37, 3) := by decide +kernel
theorem dX6_init_84 : decode cX6_init 84 = .ok (.aload_n 0, 1) := by decide +kernel
theorem dX6_init_85 : decode cX6_init 85 = .ok (.bipush 36, 2) := by decide +kernel
theorem dX6_init_87 : decode cX6_init 87 = .ok (.newarray .int, 2) := by decide +kernel
theorem dX6_init_89 : decode cX6_init 89 = .ok (.putfield 40, 3) := by decide +kernel
theorem dX6_init_92 : decode cX6_init 92 = .ok (.aload_n 0, 1) := by decide +kernel
theorem dX6_init_93 : decode cX6_init 93 = .ok (.sipush 16384, 3) := by decide +kernel
theorem dX6_init_96 : decode cX6_init 96 = .ok (.newarray .int, 2) := by decide +kernel
theorem dX6_init_98 : decode cX6_init 98 = .ok (.putfield 43, 3) := by decide +kernel
theorem dX6_init_101 : decode cX6_init 101 = .ok (.aload_n 0, 1) := by decide +kernel
theorem dX6_init_102 : decode cX6_init 102 = .ok (.sipush 16384, 3) := by decide +kernel
theorem dX6_init_105 : decode cX6_init 105 = .ok (.newarray .int, 2) := by decide +kernel
theorem dX6_init_107 : decode cX6_init 107 = .ok (.putfield 46, 3) := by decide +kernel
theorem dX6_init_110 : decode cX6_init 110 = .ok (.aload_n 0, 1) := by decide +kernel
theorem dX6_init_111 : decode cX6_init 111 = .ok (.sipush 16384, 3) := by decide +kernel
theorem dX6_init_114 : decode cX6_init 114 = .ok (.newarray .int, 2) := by decide +kernel
theorem dX6_init_116 : decode cX6_init 116 = .ok (.putfield 49, 3) := by decide +kernel
theorem dX6_init_119 : decode cX6_init 119 = .ok (.aload_n 0, 1) := by decide +kernel
theorem dX6_init_120 : decode cX6_init 120 = .ok (.sipush 16384, 3) := by decide +kernel
theorem dX6_init_123 : decode cX6_init 123 = .ok (.newarray .int, 2) := by decide +kernel
theorem dX6_init_125 : decode cX6_init 125 = .ok (.putfield 52, 3) := by decide +kernel
theorem dX6_init_128 : decode cX6_init 128 = .ok (.aload_n 0, 1) := by decide +kernel
theorem dX6_init_129 : decode cX6_init 129 = .ok (.sipush 16384, 3) := by decide +kernel
theorem dX6_init_132 : decode cX6_init 132 = .ok (.newarray .int, 2) := by decide +kernel
theorem dX6_init_134 : decode cX6_init 134 = .ok (.putfield 55, 3) := by decide +kernel
theorem dX6_init_137 : decode cX6_init 137 = .ok (.aload_n 0, 1) := by decide +kernel
theorem dX6_init_138 : decode cX6_init 138 = .ok (.sipush 16384, 3) := by decide +kernel
theorem dX6_init_141 : decode cX6_init 141 = .ok (.newarray .int, 2) := by decide +kernel
theorem dX6_init_143 : decode cX6_init 143 = .ok (.putfield 58, 3) := by decide +kernel
theorem dX6_init_146 : decode cX6_init 146 = .ok (.aload_n 0, 1) := by decide +kernel
theorem dX6_init_147 : decode cX6_init 147 = .ok (.sipush 16384, 3) := by decide +kernel
theorem dX6_init_150 : decode cX6_init 150 = .ok (.newarray .int, 2) := by decide +kernel
theorem dX6_init_152 : decode cX6_init 152 = .ok (.putfield 61, 3) := by decide +kernel
theorem dX6_init_155 : decode cX6_init 155 = .ok (.iconst 0, 1) := by decide +kernel
theorem dX6_init_156 : decode cX6_init 156 = .ok (.istore_n 1, 1) := by decide +kernel
theorem dX6_init_157 : decode cX6_init 157 = .ok (.iload_n 1, 1) := by decide +kernel
theorem dX6_init_158 : decode cX6_init 158 = .ok (.bipush 24, 2) := by decide +kernel
theorem dX6_init_160 : decode cX6_init 160 = .ok (.if_icmp .ge 16, 3) := by decide +kernel
theorem dX6_init_163 : decode cX6_init 163 = .ok (.aload_n 0, 1) := by decide +kernel
theorem dX6_init_164 : decode cX6_init 164 = .ok (.getfield 25, 3) := by decide +kernel
theorem dX6_init_167 : decode cX6_init 167 = .ok (.iload_n 1, 1) := by decide +kernel
theorem dX6_init_168 : decode cX6_init 168 = .ok (.iconst (-1), 1) := by decide +kernel
theorem dX6_init_169 : decode cX6_init 169 = .ok (.iastore, 1) := by decide +kernel
theorem dX6_init_170 : decode cX6_init 170 = .ok (.iinc 1 1, 3) := by decide +kernel
theorem dX6_init_173 : decode cX6_init 173 = .ok (.goto (-16), 3) := by decide +kernel
theorem dX6_init_176 : decode cX6_init 176 = .ok (.iconst 0, 1) := by decide +kernel
theorem dX6_init_177 : decode cX6_init 177 = .ok (.istore_n 1, 1) := by decide +kernel
theorem dX6_init_178 : decode cX6_init 178 = .ok (.iload_n 1, 1) := by decide +kernel
theorem dX6_init_179 : decode cX6_init 179 = .ok (.bipush 36, 2) := by decide +kernel
theorem dX6_init_181 : decode cX6_init 181 = .ok (.if_icmp .ge 16, 3) := by decide +kernel
theorem dX6_init_184 : decode cX6_init 184 = .ok (.aload_n 0, 1) := by decide +kernel
theorem dX6_init_185 : decode cX6_init 185 = .ok (.getfield 37, 3) := by decide +kernel
theorem dX6_init_188 : decode cX6_init 188 = .ok (.iload_n 1, 1) := by decide +kernel
theorem dX6_init_189 : decode cX6_init 189 = .ok (.iconst (-1), 1) := by decide +kernel
theorem dX6_init_190 : decode cX6_init 190 = .ok (.iastore, 1) := by decide +kernel
theorem dX6_init_191 : decode cX6_init 191 = .ok (.iinc 1 1, 3) := by decide +kernel
theorem dX6_init_194 : decode cX6_init 194 = .ok (.goto (-16), 3) := by decide +kernel
theorem dX6_init_197 : decode cX6_init 197 = .ok (.iconst 0, 1) := by decide +kernel
theorem dX6_init_198 : decode cX6_init 198 = .ok (.istore_n 1, 1) := by decide +kernel
theorem dX6_init_199 : decode cX6_init 199 = .ok (.iload_n 1, 1) := by decide +kernel
theorem dX6_init_200 : decode cX6_init 200 = .ok (.sipush 16384, 3) := by decide +kernel
theorem dX6_init_203 : decode cX6_init 203 = .ok (.if_icmp .ge 18, 3) := by decide +kernel
theorem dX6_init_206 : decode cX6_init 206 = .ok (.aload_n 0, 1) := by decide +kernel
theorem dX6_init_207 : decode cX6_init 207 = .ok (.getfield 43, 3) := by decide +kernel
theorem dX6_init_210 : decode cX6_init 210 = .ok (.iload_n 1, 1) := by decide +kernel
theorem dX6_init_211 : decode cX6_init 211 = .ok (.iload_n 1, 1) := by decide +kernel
theorem dX6_init_212 : decode cX6_init 212 = .ok (.iconst 1, 1) := by decide +kernel
theorem dX6_init_213 : decode cX6_init 213 = .ok (.iadd, 1) := by decide +kernel
theorem dX6_init_214 : decode cX6_init 214 = .ok (.iastore, 1) := by decide +kernel
theorem dX6_init_215 : decode cX6_init 215 = .ok (.iinc 1 1, 3) := by decide +kernel
theorem dX6_init_218 : decode cX6_init 218 = .ok (.goto (-19), 3) := by decide +kernel
theorem dX6_init_221 : decode cX6_init 221 = .ok (.return_, 1) := by decide +kernel
theorem dX6_thrown_0 : decode cX6_thrown 0 = .ok (.aload_n 0, 1) := by decide +kernel
theorem dX6_thrown_1 : decode cX6_thrown 1 = .ok (.getfield 64, 3) := by decide +kernel
theorem dX6_thrown_4 : decode cX6_thrown 4 = .ok (.ireturn, 1) := by decide +kernel
theorem dX6_holds_0 : decode cX6_holds 0 = .ok (.aload_n 0, 1) := by decide +kernel
theorem dX6_holds_1 : decode cX6_holds 1 = .ok (.iload_n 1, 1) := by decide +kernel
theorem dX6_holds_2 : decode cX6_holds 2 = .ok (.putfield 64, 3) := by decide +kernel
theorem dX6_holds_5 : decode cX6_holds 5 = .ok (.iload_n 1, 1) := by decide +kernel
theorem dX6_holds_6 : decode cX6_holds 6 = .ok (.ifCond .ne 7, 3) := by decide +kernel
theorem dX6_holds_9 : decode cX6_holds 9 = .ok (.iconst 1, 1) := by decide +kernel
theorem dX6_holds_10 : decode cX6_holds 10 = .ok (.goto 4, 3) := by decide +kernel
theorem dX6_holds_13 : decode cX6_holds 13 = .ok (.iconst 0, 1) := by decide +kernel
theorem dX6_holds_14 : decode cX6_holds 14 = .ok (.ireturn, 1) := by decide +kernel
theorem dX6_isServer_0 : decode cX6_isServer 0 = .ok (.iload_n 0, 1) := by decide +kernel
theorem dX6_isServer_1 : decode cX6_isServer 1 = .ok (.ifCond .lt 13, 3) := by decide +kernel
theorem dX6_isServer_4 : decode cX6_isServer 4 = .ok (.iload_n 0, 1) := by decide +kernel
theorem dX6_isServer_5 : decode cX6_isServer 5 = .ok (.bipush 6, 2) := by decide +kernel
theorem dX6_isServer_7 : decode cX6_isServer 7 = .ok (.if_icmp .ge 7, 3) := by decide +kernel
theorem dX6_isServer_10 : decode cX6_isServer 10 = .ok (.iconst 1, 1) := by decide +kernel
theorem dX6_isServer_11 : decode cX6_isServer 11 = .ok (.goto 4, 3) := by decide +kernel
theorem dX6_isServer_14 : decode cX6_isServer 14 = .ok (.iconst 0, 1) := by decide +kernel
theorem dX6_isServer_15 : decode cX6_isServer 15 = .ok (.ireturn, 1) := by decide +kernel
theorem dX6_isChannel_0 : decode cX6_isChannel 0 = .ok (.iload_n 0, 1) := by decide +kernel
theorem dX6_isChannel_1 : decode cX6_isChannel 1 = .ok (.ifCond .lt 12, 3) := by decide +kernel
theorem dX6_isChannel_4 : decode cX6_isChannel 4 = .ok (.iload_n 0, 1) := by decide +kernel
theorem dX6_isChannel_5 : decode cX6_isChannel 5 = .ok (.iconst 4, 1) := by decide +kernel
theorem dX6_isChannel_6 : decode cX6_isChannel 6 = .ok (.if_icmp .ge 7, 3) := by decide +kernel
theorem dX6_isChannel_9 : decode cX6_isChannel 9 = .ok (.iconst 1, 1) := by decide +kernel
theorem dX6_isChannel_10 : decode cX6_isChannel 10 = .ok (.goto 4, 3) := by decide +kernel
theorem dX6_isChannel_13 : decode cX6_isChannel 13 = .ok (.iconst 0, 1) := by decide +kernel
theorem dX6_isChannel_14 : decode cX6_isChannel 14 = .ok (.ireturn, 1) := by decide +kernel
theorem dX6_has_0 : decode cX6_has 0 = .ok (.iload_n 0, 1) := by decide +kernel
theorem dX6_has_1 : decode cX6_has 1 = .ok (.iload_n 1, 1) := by decide +kernel
theorem dX6_has_2 : decode cX6_has 2 = .ok (.ishr, 1) := by decide +kernel
theorem dX6_has_3 : decode cX6_has 3 = .ok (.iconst 1, 1) := by decide +kernel
theorem dX6_has_4 : decode cX6_has 4 = .ok (.iand, 1) := by decide +kernel
theorem dX6_has_5 : decode cX6_has 5 = .ok (.iconst 1, 1) := by decide +kernel
theorem dX6_has_6 : decode cX6_has 6 = .ok (.if_icmp .ne 7, 3) := by decide +kernel
theorem dX6_has_9 : decode cX6_has 9 = .ok (.iconst 1, 1) := by decide +kernel
theorem dX6_has_10 : decode cX6_has 10 = .ok (.goto 4, 3) := by decide +kernel
theorem dX6_has_13 : decode cX6_has 13 = .ok (.iconst 0, 1) := by decide +kernel
theorem dX6_has_14 : decode cX6_has 14 = .ok (.ireturn, 1) := by decide +kernel
theorem dX6_at_0 : decode cX6_at 0 = .ok (.iconst 4, 1) := by decide +kernel
theorem dX6_at_1 : decode cX6_at 1 = .ok (.iload_n 0, 1) := by decide +kernel
theorem dX6_at_2 : decode cX6_at 2 = .ok (.imul, 1) := by decide +kernel
theorem dX6_at_3 : decode cX6_at 3 = .ok (.iload_n 1, 1) := by decide +kernel
theorem dX6_at_4 : decode cX6_at 4 = .ok (.iadd, 1) := by decide +kernel
theorem dX6_at_5 : decode cX6_at 5 = .ok (.ireturn, 1) := by decide +kernel
theorem dX6_makes_0 : decode cX6_makes 0 = .ok (.aload_n 0, 1) := by decide +kernel
theorem dX6_makes_1 : decode cX6_makes 1 = .ok (.iload_n 1, 1) := by decide +kernel
theorem dX6_makes_2 : decode cX6_makes 2 = .ok (.putfield 68, 3) := by decide +kernel
theorem dX6_makes_5 : decode cX6_makes 5 = .ok (.aload_n 0, 1) := by decide +kernel
theorem dX6_makes_6 : decode cX6_makes 6 = .ok (.iload_n 2, 1) := by decide +kernel
theorem dX6_makes_7 : decode cX6_makes 7 = .ok (.putfield 71, 3) := by decide +kernel
theorem dX6_makes_10 : decode cX6_makes 10 = .ok (.aload_n 0, 1) := by decide +kernel
theorem dX6_makes_11 : decode cX6_makes 11 = .ok (.iload_n 3, 1) := by decide +kernel
theorem dX6_makes_12 : decode cX6_makes 12 = .ok (.putfield 74, 3) := by decide +kernel
theorem dX6_makes_15 : decode cX6_makes 15 = .ok (.return_, 1) := by decide +kernel
theorem dX6_tells_0 : decode cX6_tells 0 = .ok (.aload_n 0, 1) := by decide +kernel
theorem dX6_tells_1 : decode cX6_tells 1 = .ok (.iload_n 1, 1) := by decide +kernel
theorem dX6_tells_2 : decode cX6_tells 2 = .ok (.iload_n 3, 1) := by decide +kernel
theorem dX6_tells_3 : decode cX6_tells 3 = .ok (.iload 4, 2) := by decide +kernel
theorem dX6_tells_5 : decode cX6_tells 5 = .ok (.invokevirtual 77, 3) := by decide +kernel
theorem dX6_tells_8 : decode cX6_tells 8 = .ok (.aload_n 0, 1) := by decide +kernel
theorem dX6_tells_9 : decode cX6_tells 9 = .ok (.aload_n 0, 1) := by decide +kernel
theorem dX6_tells_10 : decode cX6_tells 10 = .ok (.getfield 25, 3) := by decide +kernel
theorem dX6_tells_13 : decode cX6_tells 13 = .ok (.iload_n 2, 1) := by decide +kernel
theorem dX6_tells_14 : decode cX6_tells 14 = .ok (.iload_n 3, 1) := by decide +kernel
theorem dX6_tells_15 : decode cX6_tells 15 = .ok (.invokestatic 81, 3) := by decide +kernel
theorem dX6_tells_18 : decode cX6_tells 18 = .ok (.iaload, 1) := by decide +kernel
theorem dX6_tells_19 : decode cX6_tells 19 = .ok (.putfield 85, 3) := by decide +kernel
theorem dX6_tells_22 : decode cX6_tells 22 = .ok (.aload_n 0, 1) := by decide +kernel
theorem dX6_tells_23 : decode cX6_tells 23 = .ok (.aload_n 0, 1) := by decide +kernel
theorem dX6_tells_24 : decode cX6_tells 24 = .ok (.getfield 28, 3) := by decide +kernel
theorem dX6_tells_27 : decode cX6_tells 27 = .ok (.iload_n 2, 1) := by decide +kernel
theorem dX6_tells_28 : decode cX6_tells 28 = .ok (.iload_n 3, 1) := by decide +kernel
theorem dX6_tells_29 : decode cX6_tells 29 = .ok (.invokestatic 81, 3) := by decide +kernel
theorem dX6_tells_32 : decode cX6_tells 32 = .ok (.iaload, 1) := by decide +kernel
theorem dX6_tells_33 : decode cX6_tells 33 = .ok (.putfield 88, 3) := by decide +kernel
theorem dX6_tells_36 : decode cX6_tells 36 = .ok (.aload_n 0, 1) := by decide +kernel
theorem dX6_tells_37 : decode cX6_tells 37 = .ok (.aload_n 0, 1) := by decide +kernel
theorem dX6_tells_38 : decode cX6_tells 38 = .ok (.getfield 31, 3) := by decide +kernel
theorem dX6_tells_41 : decode cX6_tells 41 = .ok (.iload_n 2, 1) := by decide +kernel
theorem dX6_tells_42 : decode cX6_tells 42 = .ok (.iload_n 3, 1) := by decide +kernel
theorem dX6_tells_43 : decode cX6_tells 43 = .ok (.invokestatic 81, 3) := by decide +kernel
theorem dX6_tells_46 : decode cX6_tells 46 = .ok (.iaload, 1) := by decide +kernel
theorem dX6_tells_47 : decode cX6_tells 47 = .ok (.putfield 91, 3) := by decide +kernel
theorem dX6_tells_50 : decode cX6_tells 50 = .ok (.return_, 1) := by decide +kernel
theorem dX6_puts_0 : decode cX6_puts 0 = .ok (.aload_n 0, 1) := by decide +kernel
theorem dX6_puts_1 : decode cX6_puts 1 = .ok (.getfield 94, 3) := by decide +kernel
theorem dX6_puts_4 : decode cX6_puts 4 = .ok (.istore_n 3, 1) := by decide +kernel
theorem dX6_puts_5 : decode cX6_puts 5 = .ok (.bipush 6, 2) := by decide +kernel
theorem dX6_puts_7 : decode cX6_puts 7 = .ok (.iload_n 1, 1) := by decide +kernel
theorem dX6_puts_8 : decode cX6_puts 8 = .ok (.imul, 1) := by decide +kernel
theorem dX6_puts_9 : decode cX6_puts 9 = .ok (.iload_n 2, 1) := by decide +kernel
theorem dX6_puts_10 : decode cX6_puts 10 = .ok (.iadd, 1) := by decide +kernel
theorem dX6_puts_11 : decode cX6_puts 11 = .ok (.istore 4, 2) := by decide +kernel
theorem dX6_puts_13 : decode cX6_puts 13 = .ok (.aload_n 0, 1) := by decide +kernel
theorem dX6_puts_14 : decode cX6_puts 14 = .ok (.aload_n 0, 1) := by decide +kernel
theorem dX6_puts_15 : decode cX6_puts 15 = .ok (.getfield 43, 3) := by decide +kernel
theorem dX6_puts_18 : decode cX6_puts 18 = .ok (.iload_n 3, 1) := by decide +kernel
theorem dX6_puts_19 : decode cX6_puts 19 = .ok (.iaload, 1) := by decide +kernel
theorem dX6_puts_20 : decode cX6_puts 20 = .ok (.putfield 94, 3) := by decide +kernel
theorem dX6_puts_23 : decode cX6_puts 23 = .ok (.aload_n 0, 1) := by decide +kernel
theorem dX6_puts_24 : decode cX6_puts 24 = .ok (.getfield 43, 3) := by decide +kernel
theorem dX6_puts_27 : decode cX6_puts 27 = .ok (.iload_n 3, 1) := by decide +kernel
theorem dX6_puts_28 : decode cX6_puts 28 = .ok (.iconst (-1), 1) := by decide +kernel
theorem dX6_puts_29 : decode cX6_puts 29 = .ok (.iastore, 1) := by decide +kernel
theorem dX6_puts_30 : decode cX6_puts 30 = .ok (.aload_n 0, 1) := by decide +kernel
theorem dX6_puts_31 : decode cX6_puts 31 = .ok (.getfield 46, 3) := by decide +kernel
theorem dX6_puts_34 : decode cX6_puts 34 = .ok (.iload_n 3, 1) := by decide +kernel
theorem dX6_puts_35 : decode cX6_puts 35 = .ok (.aload_n 0, 1) := by decide +kernel
theorem dX6_puts_36 : decode cX6_puts 36 = .ok (.getfield 68, 3) := by decide +kernel
theorem dX6_puts_39 : decode cX6_puts 39 = .ok (.iastore, 1) := by decide +kernel
theorem dX6_puts_40 : decode cX6_puts 40 = .ok (.aload_n 0, 1) := by decide +kernel
theorem dX6_puts_41 : decode cX6_puts 41 = .ok (.getfield 49, 3) := by decide +kernel
theorem dX6_puts_44 : decode cX6_puts 44 = .ok (.iload_n 3, 1) := by decide +kernel
theorem dX6_puts_45 : decode cX6_puts 45 = .ok (.aload_n 0, 1) := by decide +kernel
theorem dX6_puts_46 : decode cX6_puts 46 = .ok (.getfield 71, 3) := by decide +kernel
theorem dX6_puts_49 : decode cX6_puts 49 = .ok (.iastore, 1) := by decide +kernel
theorem dX6_puts_50 : decode cX6_puts 50 = .ok (.aload_n 0, 1) := by decide +kernel
theorem dX6_puts_51 : decode cX6_puts 51 = .ok (.getfield 52, 3) := by decide +kernel
theorem dX6_puts_54 : decode cX6_puts 54 = .ok (.iload_n 3, 1) := by decide +kernel
theorem dX6_puts_55 : decode cX6_puts 55 = .ok (.aload_n 0, 1) := by decide +kernel
theorem dX6_puts_56 : decode cX6_puts 56 = .ok (.getfield 74, 3) := by decide +kernel
theorem dX6_puts_59 : decode cX6_puts 59 = .ok (.iastore, 1) := by decide +kernel
theorem dX6_puts_60 : decode cX6_puts 60 = .ok (.aload_n 0, 1) := by decide +kernel
theorem dX6_puts_61 : decode cX6_puts 61 = .ok (.getfield 55, 3) := by decide +kernel
theorem dX6_puts_64 : decode cX6_puts 64 = .ok (.iload_n 3, 1) := by decide +kernel
theorem dX6_puts_65 : decode cX6_puts 65 = .ok (.aload_n 0, 1) := by decide +kernel
theorem dX6_puts_66 : decode cX6_puts 66 = .ok (.getfield 85, 3) := by decide +kernel
theorem dX6_puts_69 : decode cX6_puts 69 = .ok (.iastore, 1) := by decide +kernel
theorem dX6_puts_70 : decode cX6_puts 70 = .ok (.aload_n 0, 1) := by decide +kernel
theorem dX6_puts_71 : decode cX6_puts 71 = .ok (.getfield 58, 3) := by decide +kernel
theorem dX6_puts_74 : decode cX6_puts 74 = .ok (.iload_n 3, 1) := by decide +kernel
theorem dX6_puts_75 : decode cX6_puts 75 = .ok (.aload_n 0, 1) := by decide +kernel
theorem dX6_puts_76 : decode cX6_puts 76 = .ok (.getfield 88, 3) := by decide +kernel
theorem dX6_puts_79 : decode cX6_puts 79 = .ok (.iastore, 1) := by decide +kernel
theorem dX6_puts_80 : decode cX6_puts 80 = .ok (.aload_n 0, 1) := by decide +kernel
theorem dX6_puts_81 : decode cX6_puts 81 = .ok (.getfield 61, 3) := by decide +kernel
theorem dX6_puts_84 : decode cX6_puts 84 = .ok (.iload_n 3, 1) := by decide +kernel
theorem dX6_puts_85 : decode cX6_puts 85 = .ok (.aload_n 0, 1) := by decide +kernel
theorem dX6_puts_86 : decode cX6_puts 86 = .ok (.getfield 91, 3) := by decide +kernel
theorem dX6_puts_89 : decode cX6_puts 89 = .ok (.iastore, 1) := by decide +kernel
theorem dX6_puts_90 : decode cX6_puts 90 = .ok (.aload_n 0, 1) := by decide +kernel
theorem dX6_puts_91 : decode cX6_puts 91 = .ok (.getfield 37, 3) := by decide +kernel
theorem dX6_puts_94 : decode cX6_puts 94 = .ok (.iload 4, 2) := by decide +kernel
theorem dX6_puts_96 : decode cX6_puts 96 = .ok (.iaload, 1) := by decide +kernel
theorem dX6_puts_97 : decode cX6_puts 97 = .ok (.iconst (-1), 1) := by decide +kernel
theorem dX6_puts_98 : decode cX6_puts 98 = .ok (.if_icmp .ne 14, 3) := by decide +kernel
theorem dX6_puts_101 : decode cX6_puts 101 = .ok (.aload_n 0, 1) := by decide +kernel
theorem dX6_puts_102 : decode cX6_puts 102 = .ok (.getfield 37, 3) := by decide +kernel
theorem dX6_puts_105 : decode cX6_puts 105 = .ok (.iload 4, 2) := by decide +kernel
theorem dX6_puts_107 : decode cX6_puts 107 = .ok (.iload_n 3, 1) := by decide +kernel
theorem dX6_puts_108 : decode cX6_puts 108 = .ok (.iastore, 1) := by decide +kernel
theorem dX6_puts_109 : decode cX6_puts 109 = .ok (.goto 16, 3) := by decide +kernel
theorem dX6_puts_112 : decode cX6_puts 112 = .ok (.aload_n 0, 1) := by decide +kernel
theorem dX6_puts_113 : decode cX6_puts 113 = .ok (.getfield 43, 3) := by decide +kernel
theorem dX6_puts_116 : decode cX6_puts 116 = .ok (.aload_n 0, 1) := by decide +kernel
theorem dX6_puts_117 : decode cX6_puts 117 = .ok (.getfield 40, 3) := by decide +kernel
theorem dX6_puts_120 : decode cX6_puts 120 = .ok (.iload 4, 2) := by decide +kernel
theorem dX6_puts_122 : decode cX6_puts 122 = .ok (.iaload, 1) := by decide +kernel
theorem dX6_puts_123 : decode cX6_puts 123 = .ok (.iload_n 3, 1) := by decide +kernel
theorem dX6_puts_124 : decode cX6_puts 124 = .ok (.iastore, 1) := by decide +kernel
theorem dX6_puts_125 : decode cX6_puts 125 = .ok (.aload_n 0, 1) := by decide +kernel
theorem dX6_puts_126 : decode cX6_puts 126 = .ok (.getfield 40, 3) := by decide +kernel
theorem dX6_puts_129 : decode cX6_puts 129 = .ok (.iload 4, 2) := by decide +kernel
theorem dX6_puts_131 : decode cX6_puts 131 = .ok (.iload_n 3, 1) := by decide +kernel
theorem dX6_puts_132 : decode cX6_puts 132 = .ok (.iastore, 1) := by decide +kernel
theorem dX6_puts_133 : decode cX6_puts 133 = .ok (.aload_n 0, 1) := by decide +kernel
theorem dX6_puts_134 : decode cX6_puts 134 = .ok (.dup, 1) := by decide +kernel
theorem dX6_puts_135 : decode cX6_puts 135 = .ok (.getfield 97, 3) := by decide +kernel
theorem dX6_puts_138 : decode cX6_puts 138 = .ok (.iconst 1, 1) := by decide +kernel
theorem dX6_puts_139 : decode cX6_puts 139 = .ok (.iadd, 1) := by decide +kernel
theorem dX6_puts_140 : decode cX6_puts 140 = .ok (.putfield 97, 3) := by decide +kernel
theorem dX6_puts_143 : decode cX6_puts 143 = .ok (.return_, 1) := by decide +kernel
theorem dX6_sends_0 : decode cX6_sends 0 = .ok (.iconst 0, 1) := by decide +kernel
theorem dX6_sends_1 : decode cX6_sends 1 = .ok (.istore_n 3, 1) := by decide +kernel
theorem dX6_sends_2 : decode cX6_sends 2 = .ok (.iload_n 3, 1) := by decide +kernel
theorem dX6_sends_3 : decode cX6_sends 3 = .ok (.bipush 6, 2) := by decide +kernel
theorem dX6_sends_5 : decode cX6_sends 5 = .ok (.if_icmp .ge 33, 3) := by decide +kernel
theorem dX6_sends_8 : decode cX6_sends 8 = .ok (.aload_n 0, 1) := by decide +kernel
theorem dX6_sends_9 : decode cX6_sends 9 = .ok (.getfield 19, 3) := by decide +kernel
theorem dX6_sends_12 : decode cX6_sends 12 = .ok (.iload_n 1, 1) := by decide +kernel
theorem dX6_sends_13 : decode cX6_sends 13 = .ok (.iaload, 1) := by decide +kernel
theorem dX6_sends_14 : decode cX6_sends 14 = .ok (.iload_n 3, 1) := by decide +kernel
theorem dX6_sends_15 : decode cX6_sends 15 = .ok (.invokestatic 100, 3) := by decide +kernel
theorem dX6_sends_18 : decode cX6_sends 18 = .ok (.ifCond .eq 14, 3) := by decide +kernel
theorem dX6_sends_21 : decode cX6_sends 21 = .ok (.iload_n 3, 1) := by decide +kernel
theorem dX6_sends_22 : decode cX6_sends 22 = .ok (.iload_n 2, 1) := by decide +kernel
theorem dX6_sends_23 : decode cX6_sends 23 = .ok (.if_icmp .eq 9, 3) := by decide +kernel
theorem dX6_sends_26 : decode cX6_sends 26 = .ok (.aload_n 0, 1) := by decide +kernel
theorem dX6_sends_27 : decode cX6_sends 27 = .ok (.iload_n 1, 1) := by decide +kernel
theorem dX6_sends_28 : decode cX6_sends 28 = .ok (.iload_n 3, 1) := by decide +kernel
theorem dX6_sends_29 : decode cX6_sends 29 = .ok (.invokevirtual 104, 3) := by decide +kernel
theorem dX6_sends_32 : decode cX6_sends 32 = .ok (.iinc 3 1, 3) := by decide +kernel
theorem dX6_sends_35 : decode cX6_sends 35 = .ok (.goto (-33), 3) := by decide +kernel
theorem dX6_sends_38 : decode cX6_sends 38 = .ok (.return_, 1) := by decide +kernel
theorem dX6_takes_0 : decode cX6_takes 0 = .ok (.aload_n 0, 1) := by decide +kernel
theorem dX6_takes_1 : decode cX6_takes 1 = .ok (.getfield 37, 3) := by decide +kernel
theorem dX6_takes_4 : decode cX6_takes 4 = .ok (.iload_n 1, 1) := by decide +kernel
theorem dX6_takes_5 : decode cX6_takes 5 = .ok (.iaload, 1) := by decide +kernel
theorem dX6_takes_6 : decode cX6_takes 6 = .ok (.istore_n 2, 1) := by decide +kernel
theorem dX6_takes_7 : decode cX6_takes 7 = .ok (.aload_n 0, 1) := by decide +kernel
theorem dX6_takes_8 : decode cX6_takes 8 = .ok (.getfield 37, 3) := by decide +kernel
theorem dX6_takes_11 : decode cX6_takes 11 = .ok (.iload_n 1, 1) := by decide +kernel
theorem dX6_takes_12 : decode cX6_takes 12 = .ok (.aload_n 0, 1) := by decide +kernel
theorem dX6_takes_13 : decode cX6_takes 13 = .ok (.getfield 43, 3) := by decide +kernel
theorem dX6_takes_16 : decode cX6_takes 16 = .ok (.iload_n 2, 1) := by decide +kernel
theorem dX6_takes_17 : decode cX6_takes 17 = .ok (.iaload, 1) := by decide +kernel
theorem dX6_takes_18 : decode cX6_takes 18 = .ok (.iastore, 1) := by decide +kernel
theorem dX6_takes_19 : decode cX6_takes 19 = .ok (.aload_n 0, 1) := by decide +kernel
theorem dX6_takes_20 : decode cX6_takes 20 = .ok (.aload_n 0, 1) := by decide +kernel
theorem dX6_takes_21 : decode cX6_takes 21 = .ok (.getfield 46, 3) := by decide +kernel
theorem dX6_takes_24 : decode cX6_takes 24 = .ok (.iload_n 2, 1) := by decide +kernel
theorem dX6_takes_25 : decode cX6_takes 25 = .ok (.iaload, 1) := by decide +kernel
theorem dX6_takes_26 : decode cX6_takes 26 = .ok (.putfield 68, 3) := by decide +kernel
theorem dX6_takes_29 : decode cX6_takes 29 = .ok (.aload_n 0, 1) := by decide +kernel
theorem dX6_takes_30 : decode cX6_takes 30 = .ok (.aload_n 0, 1) := by decide +kernel
theorem dX6_takes_31 : decode cX6_takes 31 = .ok (.getfield 49, 3) := by decide +kernel
theorem dX6_takes_34 : decode cX6_takes 34 = .ok (.iload_n 2, 1) := by decide +kernel
theorem dX6_takes_35 : decode cX6_takes 35 = .ok (.iaload, 1) := by decide +kernel
theorem dX6_takes_36 : decode cX6_takes 36 = .ok (.putfield 71, 3) := by decide +kernel
theorem dX6_takes_39 : decode cX6_takes 39 = .ok (.aload_n 0, 1) := by decide +kernel
theorem dX6_takes_40 : decode cX6_takes 40 = .ok (.aload_n 0, 1) := by decide +kernel
theorem dX6_takes_41 : decode cX6_takes 41 = .ok (.getfield 52, 3) := by decide +kernel
theorem dX6_takes_44 : decode cX6_takes 44 = .ok (.iload_n 2, 1) := by decide +kernel
theorem dX6_takes_45 : decode cX6_takes 45 = .ok (.iaload, 1) := by decide +kernel
theorem dX6_takes_46 : decode cX6_takes 46 = .ok (.putfield 74, 3) := by decide +kernel
theorem dX6_takes_49 : decode cX6_takes 49 = .ok (.aload_n 0, 1) := by decide +kernel
theorem dX6_takes_50 : decode cX6_takes 50 = .ok (.aload_n 0, 1) := by decide +kernel
theorem dX6_takes_51 : decode cX6_takes 51 = .ok (.getfield 55, 3) := by decide +kernel
theorem dX6_takes_54 : decode cX6_takes 54 = .ok (.iload_n 2, 1) := by decide +kernel
theorem dX6_takes_55 : decode cX6_takes 55 = .ok (.iaload, 1) := by decide +kernel
theorem dX6_takes_56 : decode cX6_takes 56 = .ok (.putfield 85, 3) := by decide +kernel
theorem dX6_takes_59 : decode cX6_takes 59 = .ok (.aload_n 0, 1) := by decide +kernel
theorem dX6_takes_60 : decode cX6_takes 60 = .ok (.aload_n 0, 1) := by decide +kernel
theorem dX6_takes_61 : decode cX6_takes 61 = .ok (.getfield 58, 3) := by decide +kernel
theorem dX6_takes_64 : decode cX6_takes 64 = .ok (.iload_n 2, 1) := by decide +kernel
theorem dX6_takes_65 : decode cX6_takes 65 = .ok (.iaload, 1) := by decide +kernel
theorem dX6_takes_66 : decode cX6_takes 66 = .ok (.putfield 88, 3) := by decide +kernel
theorem dX6_takes_69 : decode cX6_takes 69 = .ok (.aload_n 0, 1) := by decide +kernel
theorem dX6_takes_70 : decode cX6_takes 70 = .ok (.aload_n 0, 1) := by decide +kernel
theorem dX6_takes_71 : decode cX6_takes 71 = .ok (.getfield 61, 3) := by decide +kernel
theorem dX6_takes_74 : decode cX6_takes 74 = .ok (.iload_n 2, 1) := by decide +kernel
theorem dX6_takes_75 : decode cX6_takes 75 = .ok (.iaload, 1) := by decide +kernel
theorem dX6_takes_76 : decode cX6_takes 76 = .ok (.putfield 91, 3) := by decide +kernel
theorem dX6_takes_79 : decode cX6_takes 79 = .ok (.aload_n 0, 1) := by decide +kernel
theorem dX6_takes_80 : decode cX6_takes 80 = .ok (.getfield 43, 3) := by decide +kernel
theorem dX6_takes_83 : decode cX6_takes 83 = .ok (.iload_n 2, 1) := by decide +kernel
theorem dX6_takes_84 : decode cX6_takes 84 = .ok (.aload_n 0, 1) := by decide +kernel
theorem dX6_takes_85 : decode cX6_takes 85 = .ok (.getfield 94, 3) := by decide +kernel
theorem dX6_takes_88 : decode cX6_takes 88 = .ok (.iastore, 1) := by decide +kernel
theorem dX6_takes_89 : decode cX6_takes 89 = .ok (.aload_n 0, 1) := by decide +kernel
theorem dX6_takes_90 : decode cX6_takes 90 = .ok (.iload_n 2, 1) := by decide +kernel
theorem dX6_takes_91 : decode cX6_takes 91 = .ok (.putfield 94, 3) := by decide +kernel
theorem dX6_takes_94 : decode cX6_takes 94 = .ok (.aload_n 0, 1) := by decide +kernel
theorem dX6_takes_95 : decode cX6_takes 95 = .ok (.dup, 1) := by decide +kernel
theorem dX6_takes_96 : decode cX6_takes 96 = .ok (.getfield 97, 3) := by decide +kernel
theorem dX6_takes_99 : decode cX6_takes 99 = .ok (.iconst 1, 1) := by decide +kernel
theorem dX6_takes_100 : decode cX6_takes 100 = .ok (.isub, 1) := by decide +kernel
theorem dX6_takes_101 : decode cX6_takes 101 = .ok (.putfield 97, 3) := by decide +kernel
theorem dX6_takes_104 : decode cX6_takes 104 = .ok (.return_, 1) := by decide +kernel
theorem dX6_treeOf_0 : decode cX6_treeOf 0 = .ok (.iconst 1, 1) := by decide +kernel
theorem dX6_treeOf_1 : decode cX6_treeOf 1 = .ok (.iload_n 1, 1) := by decide +kernel
theorem dX6_treeOf_2 : decode cX6_treeOf 2 = .ok (.ishl, 1) := by decide +kernel
theorem dX6_treeOf_3 : decode cX6_treeOf 3 = .ok (.istore_n 2, 1) := by decide +kernel
theorem dX6_treeOf_4 : decode cX6_treeOf 4 = .ok (.iconst 0, 1) := by decide +kernel
theorem dX6_treeOf_5 : decode cX6_treeOf 5 = .ok (.istore_n 3, 1) := by decide +kernel
theorem dX6_treeOf_6 : decode cX6_treeOf 6 = .ok (.iload_n 2, 1) := by decide +kernel
theorem dX6_treeOf_7 : decode cX6_treeOf 7 = .ok (.iload_n 3, 1) := by decide +kernel
theorem dX6_treeOf_8 : decode cX6_treeOf 8 = .ok (.if_icmp .eq 47, 3) := by decide +kernel
theorem dX6_treeOf_11 : decode cX6_treeOf 11 = .ok (.iload_n 2, 1) := by decide +kernel
theorem dX6_treeOf_12 : decode cX6_treeOf 12 = .ok (.istore_n 3, 1) := by decide +kernel
theorem dX6_treeOf_13 : decode cX6_treeOf 13 = .ok (.iconst 0, 1) := by decide +kernel
theorem dX6_treeOf_14 : decode cX6_treeOf 14 = .ok (.istore 4, 2) := by decide +kernel
theorem dX6_treeOf_16 : decode cX6_treeOf 16 = .ok (.iload 4, 2) := by decide +kernel
theorem dX6_treeOf_18 : decode cX6_treeOf 18 = .ok (.bipush 6, 2) := by decide +kernel
theorem dX6_treeOf_20 : decode cX6_treeOf 20 = .ok (.if_icmp .ge 32, 3) := by decide +kernel
theorem dX6_treeOf_23 : decode cX6_treeOf 23 = .ok (.iload_n 2, 1) := by decide +kernel
theorem dX6_treeOf_24 : decode cX6_treeOf 24 = .ok (.iload_n 2, 1) := by decide +kernel
theorem dX6_treeOf_25 : decode cX6_treeOf 25 = .ok (.iload 4, 2) := by decide +kernel
theorem dX6_treeOf_27 : decode cX6_treeOf 27 = .ok (.invokestatic 100, 3) := by decide +kernel
theorem dX6_treeOf_30 : decode cX6_treeOf 30 = .ok (.ifCond .eq 13, 3) := by decide +kernel
theorem dX6_treeOf_33 : decode cX6_treeOf 33 = .ok (.aload_n 0, 1) := by decide +kernel
theorem dX6_treeOf_34 : decode cX6_treeOf 34 = .ok (.getfield 19, 3) := by decide +kernel
theorem dX6_treeOf_37 : decode cX6_treeOf 37 = .ok (.iload 4, 2) := by decide +kernel
theorem dX6_treeOf_39 : decode cX6_treeOf 39 = .ok (.iaload, 1) := by decide +kernel
theorem dX6_treeOf_40 : decode cX6_treeOf 40 = .ok (.goto 4, 3) := by decide +kernel
theorem dX6_treeOf_43 : decode cX6_treeOf 43 = .ok (.iconst 0, 1) := by decide +kernel
theorem dX6_treeOf_44 : decode cX6_treeOf 44 = .ok (.ior, 1) := by decide +kernel
theorem dX6_treeOf_45 : decode cX6_treeOf 45 = .ok (.istore_n 2, 1) := by decide +kernel
theorem dX6_treeOf_46 : decode cX6_treeOf 46 = .ok (.iinc 4 1, 3) := by decide +kernel
theorem dX6_treeOf_49 : decode cX6_treeOf 49 = .ok (.goto (-33), 3) := by decide +kernel
theorem dX6_treeOf_52 : decode cX6_treeOf 52 = .ok (.goto (-46), 3) := by decide +kernel
theorem dX6_treeOf_55 : decode cX6_treeOf 55 = .ok (.iload_n 2, 1) := by decide +kernel
theorem dX6_treeOf_56 : decode cX6_treeOf 56 = .ok (.ireturn, 1) := by decide +kernel
theorem dX6_leaves_0 : decode cX6_leaves 0 = .ok (.iload_n 1, 1) := by decide +kernel
theorem dX6_leaves_1 : decode cX6_leaves 1 = .ok (.iload_n 2, 1) := by decide +kernel
theorem dX6_leaves_2 : decode cX6_leaves 2 = .ok (.invokestatic 81, 3) := by decide +kernel
theorem dX6_leaves_5 : decode cX6_leaves 5 = .ok (.istore 4, 2) := by decide +kernel
theorem dX6_leaves_7 : decode cX6_leaves 7 = .ok (.aload_n 0, 1) := by decide +kernel
theorem dX6_leaves_8 : decode cX6_leaves 8 = .ok (.getfield 34, 3) := by decide +kernel
theorem dX6_leaves_11 : decode cX6_leaves 11 = .ok (.iload 4, 2) := by decide +kernel
theorem dX6_leaves_13 : decode cX6_leaves 13 = .ok (.dup2, 1) := by decide +kernel
theorem dX6_leaves_14 : decode cX6_leaves 14 = .ok (.iaload, 1) := by decide +kernel
theorem dX6_leaves_15 : decode cX6_leaves 15 = .ok (.iconst 1, 1) := by decide +kernel
theorem dX6_leaves_16 : decode cX6_leaves 16 = .ok (.iload_n 3, 1) := by decide +kernel
theorem dX6_leaves_17 : decode cX6_leaves 17 = .ok (.ishl, 1) := by decide +kernel
theorem dX6_leaves_18 : decode cX6_leaves 18 = .ok (.iconst (-1), 1) := by decide +kernel
theorem dX6_leaves_19 : decode cX6_leaves 19 = .ok (.ixor, 1) := by decide +kernel
theorem dX6_leaves_20 : decode cX6_leaves 20 = .ok (.iand, 1) := by decide +kernel
theorem dX6_leaves_21 : decode cX6_leaves 21 = .ok (.iastore, 1) := by decide +kernel
theorem dX6_leaves_22 : decode cX6_leaves 22 = .ok (.aload_n 0, 1) := by decide +kernel
theorem dX6_leaves_23 : decode cX6_leaves 23 = .ok (.getfield 25, 3) := by decide +kernel
theorem dX6_leaves_26 : decode cX6_leaves 26 = .ok (.iload 4, 2) := by decide +kernel
theorem dX6_leaves_28 : decode cX6_leaves 28 = .ok (.aload_n 0, 1) := by decide +kernel
theorem dX6_leaves_29 : decode cX6_leaves 29 = .ok (.getfield 34, 3) := by decide +kernel
theorem dX6_leaves_32 : decode cX6_leaves 32 = .ok (.iload 4, 2) := by decide +kernel
theorem dX6_leaves_34 : decode cX6_leaves 34 = .ok (.iaload, 1) := by decide +kernel
theorem dX6_leaves_35 : decode cX6_leaves 35 = .ok (.ifCond .ne 7, 3) := by decide +kernel
theorem dX6_leaves_38 : decode cX6_leaves 38 = .ok (.iconst (-1), 1) := by decide +kernel
theorem dX6_leaves_39 : decode cX6_leaves 39 = .ok (.goto 10, 3) := by decide +kernel
theorem dX6_leaves_42 : decode cX6_leaves 42 = .ok (.aload_n 0, 1) := by decide +kernel
theorem dX6_leaves_43 : decode cX6_leaves 43 = .ok (.getfield 25, 3) := by decide +kernel
theorem dX6_leaves_46 : decode cX6_leaves 46 = .ok (.iload 4, 2) := by decide +kernel
theorem dX6_leaves_48 : decode cX6_leaves 48 = .ok (.iaload, 1) := by decide +kernel
theorem dX6_leaves_49 : decode cX6_leaves 49 = .ok (.iastore, 1) := by decide +kernel
theorem dX6_leaves_50 : decode cX6_leaves 50 = .ok (.return_, 1) := by decide +kernel
theorem dX6_quits_0 : decode cX6_quits 0 = .ok (.aload_n 0, 1) := by decide +kernel
theorem dX6_quits_1 : decode cX6_quits 1 = .ok (.getfield 22, 3) := by decide +kernel
theorem dX6_quits_4 : decode cX6_quits 4 = .ok (.iload_n 1, 1) := by decide +kernel
theorem dX6_quits_5 : decode cX6_quits 5 = .ok (.dup2, 1) := by decide +kernel
theorem dX6_quits_6 : decode cX6_quits 6 = .ok (.iaload, 1) := by decide +kernel
theorem dX6_quits_7 : decode cX6_quits 7 = .ok (.iconst 1, 1) := by decide +kernel
theorem dX6_quits_8 : decode cX6_quits 8 = .ok (.iload_n 2, 1) := by decide +kernel
theorem dX6_quits_9 : decode cX6_quits 9 = .ok (.ishl, 1) := by decide +kernel
theorem dX6_quits_10 : decode cX6_quits 10 = .ok (.iconst (-1), 1) := by decide +kernel
theorem dX6_quits_11 : decode cX6_quits 11 = .ok (.ixor, 1) := by decide +kernel
theorem dX6_quits_12 : decode cX6_quits 12 = .ok (.iand, 1) := by decide +kernel
theorem dX6_quits_13 : decode cX6_quits 13 = .ok (.iastore, 1) := by decide +kernel
theorem dX6_quits_14 : decode cX6_quits 14 = .ok (.iconst 0, 1) := by decide +kernel
theorem dX6_quits_15 : decode cX6_quits 15 = .ok (.istore_n 3, 1) := by decide +kernel
theorem dX6_quits_16 : decode cX6_quits 16 = .ok (.iload_n 3, 1) := by decide +kernel
theorem dX6_quits_17 : decode cX6_quits 17 = .ok (.iconst 4, 1) := by decide +kernel
theorem dX6_quits_18 : decode cX6_quits 18 = .ok (.if_icmp .ge 16, 3) := by decide +kernel
theorem dX6_quits_21 : decode cX6_quits 21 = .ok (.aload_n 0, 1) := by decide +kernel
theorem dX6_quits_22 : decode cX6_quits 22 = .ok (.iload_n 1, 1) := by decide +kernel
theorem dX6_quits_23 : decode cX6_quits 23 = .ok (.iload_n 3, 1) := by decide +kernel
theorem dX6_quits_24 : decode cX6_quits 24 = .ok (.iload_n 2, 1) := by decide +kernel
theorem dX6_quits_25 : decode cX6_quits 25 = .ok (.invokevirtual 108, 3) := by decide +kernel
theorem dX6_quits_28 : decode cX6_quits 28 = .ok (.iinc 3 1, 3) := by decide +kernel
theorem dX6_quits_31 : decode cX6_quits 31 = .ok (.goto (-15), 3) := by decide +kernel
theorem dX6_quits_34 : decode cX6_quits 34 = .ok (.return_, 1) := by decide +kernel
theorem dX6_namesake_0 : decode cX6_namesake 0 = .ok (.iconst (-1), 1) := by decide +kernel
theorem dX6_namesake_1 : decode cX6_namesake 1 = .ok (.istore 4, 2) := by decide +kernel
theorem dX6_namesake_3 : decode cX6_namesake 3 = .ok (.iconst 0, 1) := by decide +kernel
theorem dX6_namesake_4 : decode cX6_namesake 4 = .ok (.istore 5, 2) := by decide +kernel
theorem dX6_namesake_6 : decode cX6_namesake 6 = .ok (.iload 5, 2) := by decide +kernel
theorem dX6_namesake_8 : decode cX6_namesake 8 = .ok (.aload_n 0, 1) := by decide +kernel
theorem dX6_namesake_9 : decode cX6_namesake 9 = .ok (.getfield 111, 3) := by decide +kernel
theorem dX6_namesake_12 : decode cX6_namesake 12 = .ok (.if_icmp .ge 49, 3) := by decide +kernel
theorem dX6_namesake_15 : decode cX6_namesake 15 = .ok (.aload_n 0, 1) := by decide +kernel
theorem dX6_namesake_16 : decode cX6_namesake 16 = .ok (.getfield 22, 3) := by decide +kernel
theorem dX6_namesake_19 : decode cX6_namesake 19 = .ok (.iload_n 1, 1) := by decide +kernel
theorem dX6_namesake_20 : decode cX6_namesake 20 = .ok (.iaload, 1) := by decide +kernel
theorem dX6_namesake_21 : decode cX6_namesake 21 = .ok (.iload 5, 2) := by decide +kernel
theorem dX6_namesake_23 : decode cX6_namesake 23 = .ok (.invokestatic 100, 3) := by decide +kernel
theorem dX6_namesake_26 : decode cX6_namesake 26 = .ok (.ifCond .eq 25, 3) := by decide +kernel
theorem dX6_namesake_29 : decode cX6_namesake 29 = .ok (.aload_n 0, 1) := by decide +kernel
theorem dX6_namesake_30 : decode cX6_namesake 30 = .ok (.getfield 7, 3) := by decide +kernel
theorem dX6_namesake_33 : decode cX6_namesake 33 = .ok (.iload 5, 2) := by decide +kernel
theorem dX6_namesake_35 : decode cX6_namesake 35 = .ok (.iaload, 1) := by decide +kernel
theorem dX6_namesake_36 : decode cX6_namesake 36 = .ok (.iload_n 2, 1) := by decide +kernel
theorem dX6_namesake_37 : decode cX6_namesake 37 = .ok (.if_icmp .ne 14, 3) := by decide +kernel
theorem dX6_namesake_40 : decode cX6_namesake 40 = .ok (.iload 5, 2) := by decide +kernel
theorem dX6_namesake_42 : decode cX6_namesake 42 = .ok (.iload_n 3, 1) := by decide +kernel
theorem dX6_namesake_43 : decode cX6_namesake 43 = .ok (.if_icmp .eq 8, 3) := by decide +kernel
theorem dX6_namesake_46 : decode cX6_namesake 46 = .ok (.iload 5, 2) := by decide +kernel
theorem dX6_namesake_48 : decode cX6_namesake 48 = .ok (.goto 5, 3) := by decide +kernel
theorem dX6_namesake_51 : decode cX6_namesake 51 = .ok (.iload 4, 2) := by decide +kernel
theorem dX6_namesake_53 : decode cX6_namesake 53 = .ok (.istore 4, 2) := by decide +kernel
theorem dX6_namesake_55 : decode cX6_namesake 55 = .ok (.iinc 5 1, 3) := by decide +kernel
theorem dX6_namesake_58 : decode cX6_namesake 58 = .ok (.goto (-52), 3) := by decide +kernel
theorem dX6_namesake_61 : decode cX6_namesake 61 = .ok (.iload 4, 2) := by decide +kernel
theorem dX6_namesake_63 : decode cX6_namesake 63 = .ok (.ireturn, 1) := by decide +kernel
theorem dX6_getsUser_0 : decode cX6_getsUser 0 = .ok (.aload_n 0, 1) := by decide +kernel
theorem dX6_getsUser_1 : decode cX6_getsUser 1 = .ok (.getfield 71, 3) := by decide +kernel
theorem dX6_getsUser_4 : decode cX6_getsUser 4 = .ok (.istore_n 3, 1) := by decide +kernel
theorem dX6_getsUser_5 : decode cX6_getsUser 5 = .ok (.aload_n 0, 1) := by decide +kernel
theorem dX6_getsUser_6 : decode cX6_getsUser 6 = .ok (.iload_n 1, 1) := by decide +kernel
theorem dX6_getsUser_7 : decode cX6_getsUser 7 = .ok (.invokevirtual 114, 3) := by decide +kernel
theorem dX6_getsUser_10 : decode cX6_getsUser 10 = .ok (.aload_n 0, 1) := by decide +kernel
theorem dX6_getsUser_11 : decode cX6_getsUser 11 = .ok (.getfield 13, 3) := by decide +kernel
theorem dX6_getsUser_14 : decode cX6_getsUser 14 = .ok (.iload_n 3, 1) := by decide +kernel
theorem dX6_getsUser_15 : decode cX6_getsUser 15 = .ok (.iaload, 1) := by decide +kernel
theorem dX6_getsUser_16 : decode cX6_getsUser 16 = .ok (.invokestatic 100, 3) := by decide +kernel
theorem dX6_getsUser_19 : decode cX6_getsUser 19 = .ok (.ifCond .ne 4, 3) := by decide +kernel
theorem dX6_getsUser_22 : decode cX6_getsUser 22 = .ok (.return_, 1) := by decide +kernel
theorem dX6_getsUser_23 : decode cX6_getsUser 23 = .ok (.aload_n 0, 1) := by decide +kernel
theorem dX6_getsUser_24 : decode cX6_getsUser 24 = .ok (.iload_n 1, 1) := by decide +kernel
theorem dX6_getsUser_25 : decode cX6_getsUser 25 = .ok (.aload_n 0, 1) := by decide +kernel
theorem dX6_getsUser_26 : decode cX6_getsUser 26 = .ok (.getfield 7, 3) := by decide +kernel
theorem dX6_getsUser_29 : decode cX6_getsUser 29 = .ok (.iload_n 3, 1) := by decide +kernel
theorem dX6_getsUser_30 : decode cX6_getsUser 30 = .ok (.iaload, 1) := by decide +kernel
theorem dX6_getsUser_31 : decode cX6_getsUser 31 = .ok (.iload_n 3, 1) := by decide +kernel
theorem dX6_getsUser_32 : decode cX6_getsUser 32 = .ok (.invokevirtual 118, 3) := by decide +kernel
theorem dX6_getsUser_35 : decode cX6_getsUser 35 = .ok (.istore 4, 2) := by decide +kernel
theorem dX6_getsUser_37 : decode cX6_getsUser 37 = .ok (.iload 4, 2) := by decide +kernel
theorem dX6_getsUser_39 : decode cX6_getsUser 39 = .ok (.iconst (-1), 1) := by decide +kernel
theorem dX6_getsUser_40 : decode cX6_getsUser 40 = .ok (.if_icmp .eq 33, 3) := by decide +kernel
theorem dX6_getsUser_43 : decode cX6_getsUser 43 = .ok (.aload_n 0, 1) := by decide +kernel
theorem dX6_getsUser_44 : decode cX6_getsUser 44 = .ok (.getfield 16, 3) := by decide +kernel
theorem dX6_getsUser_47 : decode cX6_getsUser 47 = .ok (.iload 4, 2) := by decide +kernel
theorem dX6_getsUser_49 : decode cX6_getsUser 49 = .ok (.iaload, 1) := by decide +kernel
theorem dX6_getsUser_50 : decode cX6_getsUser 50 = .ok (.aload_n 0, 1) := by decide +kernel
theorem dX6_getsUser_51 : decode cX6_getsUser 51 = .ok (.getfield 16, 3) := by decide +kernel
theorem dX6_getsUser_54 : decode cX6_getsUser 54 = .ok (.iload_n 3, 1) := by decide +kernel
theorem dX6_getsUser_55 : decode cX6_getsUser 55 = .ok (.iaload, 1) := by decide +kernel
theorem dX6_getsUser_56 : decode cX6_getsUser 56 = .ok (.if_icmp .ge 17, 3) := by decide +kernel
theorem dX6_getsUser_59 : decode cX6_getsUser 59 = .ok (.aload_n 0, 1) := by decide +kernel
theorem dX6_getsUser_60 : decode cX6_getsUser 60 = .ok (.iconst 1, 1) := by decide +kernel
theorem dX6_getsUser_61 : decode cX6_getsUser 61 = .ok (.iload_n 3, 1) := by decide +kernel
theorem dX6_getsUser_62 : decode cX6_getsUser 62 = .ok (.iconst 0, 1) := by decide +kernel
theorem dX6_getsUser_63 : decode cX6_getsUser 63 = .ok (.invokevirtual 77, 3) := by decide +kernel
theorem dX6_getsUser_66 : decode cX6_getsUser 66 = .ok (.aload_n 0, 1) := by decide +kernel
theorem dX6_getsUser_67 : decode cX6_getsUser 67 = .ok (.iload_n 1, 1) := by decide +kernel
theorem dX6_getsUser_68 : decode cX6_getsUser 68 = .ok (.iload_n 2, 1) := by decide +kernel
theorem dX6_getsUser_69 : decode cX6_getsUser 69 = .ok (.invokevirtual 104, 3) := by decide +kernel
theorem dX6_getsUser_72 : decode cX6_getsUser 72 = .ok (.return_, 1) := by decide +kernel
theorem dX6_getsUser_73 : decode cX6_getsUser 73 = .ok (.iload 4, 2) := by decide +kernel
theorem dX6_getsUser_75 : decode cX6_getsUser 75 = .ok (.iconst (-1), 1) := by decide +kernel
theorem dX6_getsUser_76 : decode cX6_getsUser 76 = .ok (.if_icmp .eq 24, 3) := by decide +kernel
theorem dX6_getsUser_79 : decode cX6_getsUser 79 = .ok (.aload_n 0, 1) := by decide +kernel
theorem dX6_getsUser_80 : decode cX6_getsUser 80 = .ok (.iload_n 1, 1) := by decide +kernel
theorem dX6_getsUser_81 : decode cX6_getsUser 81 = .ok (.iload 4, 2) := by decide +kernel
theorem dX6_getsUser_83 : decode cX6_getsUser 83 = .ok (.invokevirtual 122, 3) := by decide +kernel
theorem dX6_getsUser_86 : decode cX6_getsUser 86 = .ok (.aload_n 0, 1) := by decide +kernel
theorem dX6_getsUser_87 : decode cX6_getsUser 87 = .ok (.iconst 1, 1) := by decide +kernel
theorem dX6_getsUser_88 : decode cX6_getsUser 88 = .ok (.iload 4, 2) := by decide +kernel
theorem dX6_getsUser_90 : decode cX6_getsUser 90 = .ok (.iconst 0, 1) := by decide +kernel
theorem dX6_getsUser_91 : decode cX6_getsUser 91 = .ok (.invokevirtual 77, 3) := by decide +kernel
theorem dX6_getsUser_94 : decode cX6_getsUser 94 = .ok (.aload_n 0, 1) := by decide +kernel
theorem dX6_getsUser_95 : decode cX6_getsUser 95 = .ok (.iload_n 1, 1) := by decide +kernel
theorem dX6_getsUser_96 : decode cX6_getsUser 96 = .ok (.iconst (-1), 1) := by decide +kernel
theorem dX6_getsUser_97 : decode cX6_getsUser 97 = .ok (.invokevirtual 125, 3) := by decide +kernel
theorem dX6_getsUser_100 : decode cX6_getsUser 100 = .ok (.aload_n 0, 1) := by decide +kernel
theorem dX6_getsUser_101 : decode cX6_getsUser 101 = .ok (.getfield 22, 3) := by decide +kernel
theorem dX6_getsUser_104 : decode cX6_getsUser 104 = .ok (.iload_n 1, 1) := by decide +kernel
theorem dX6_getsUser_105 : decode cX6_getsUser 105 = .ok (.dup2, 1) := by decide +kernel
theorem dX6_getsUser_106 : decode cX6_getsUser 106 = .ok (.iaload, 1) := by decide +kernel
theorem dX6_getsUser_107 : decode cX6_getsUser 107 = .ok (.iconst 1, 1) := by decide +kernel
theorem dX6_getsUser_108 : decode cX6_getsUser 108 = .ok (.iload_n 3, 1) := by decide +kernel
theorem dX6_getsUser_109 : decode cX6_getsUser 109 = .ok (.ishl, 1) := by decide +kernel
theorem dX6_getsUser_110 : decode cX6_getsUser 110 = .ok (.ior, 1) := by decide +kernel
theorem dX6_getsUser_111 : decode cX6_getsUser 111 = .ok (.iastore, 1) := by decide +kernel
theorem dX6_getsUser_112 : decode cX6_getsUser 112 = .ok (.aload_n 0, 1) := by decide +kernel
theorem dX6_getsUser_113 : decode cX6_getsUser 113 = .ok (.iconst 0, 1) := by decide +kernel
theorem dX6_getsUser_114 : decode cX6_getsUser 114 = .ok (.iload_n 3, 1) := by decide +kernel
theorem dX6_getsUser_115 : decode cX6_getsUser 115 = .ok (.iconst 0, 1) := by decide +kernel
theorem dX6_getsUser_116 : decode cX6_getsUser 116 = .ok (.invokevirtual 77, 3) := by decide +kernel
theorem dX6_getsUser_119 : decode cX6_getsUser 119 = .ok (.aload_n 0, 1) := by decide +kernel
theorem dX6_getsUser_120 : decode cX6_getsUser 120 = .ok (.iload_n 1, 1) := by decide +kernel
theorem dX6_getsUser_121 : decode cX6_getsUser 121 = .ok (.iload_n 2, 1) := by decide +kernel
theorem dX6_getsUser_122 : decode cX6_getsUser 122 = .ok (.invokevirtual 125, 3) := by decide +kernel
theorem dX6_getsUser_125 : decode cX6_getsUser 125 = .ok (.return_, 1) := by decide +kernel
theorem dX6_getsChannel_0 : decode cX6_getsChannel 0 = .ok (.iload_n 1, 1) := by decide +kernel
theorem dX6_getsChannel_1 : decode cX6_getsChannel 1 = .ok (.aload_n 0, 1) := by decide +kernel
theorem dX6_getsChannel_2 : decode cX6_getsChannel 2 = .ok (.getfield 71, 3) := by decide +kernel
theorem dX6_getsChannel_5 : decode cX6_getsChannel 5 = .ok (.invokestatic 81, 3) := by decide +kernel
theorem dX6_getsChannel_8 : decode cX6_getsChannel 8 = .ok (.istore_n 2, 1) := by decide +kernel
theorem dX6_getsChannel_9 : decode cX6_getsChannel 9 = .ok (.aload_n 0, 1) := by decide +kernel
theorem dX6_getsChannel_10 : decode cX6_getsChannel 10 = .ok (.getfield 74, 3) := by decide +kernel
theorem dX6_getsChannel_13 : decode cX6_getsChannel 13 = .ok (.aload_n 0, 1) := by decide +kernel
theorem dX6_getsChannel_14 : decode cX6_getsChannel 14 = .ok (.getfield 22, 3) := by decide +kernel
theorem dX6_getsChannel_17 : decode cX6_getsChannel 17 = .ok (.iload_n 1, 1) := by decide +kernel
theorem dX6_getsChannel_18 : decode cX6_getsChannel 18 = .ok (.iaload, 1) := by decide +kernel
theorem dX6_getsChannel_19 : decode cX6_getsChannel 19 = .ok (.iand, 1) := by decide +kernel
theorem dX6_getsChannel_20 : decode cX6_getsChannel 20 = .ok (.istore_n 3, 1) := by decide +kernel
theorem dX6_getsChannel_21 : decode cX6_getsChannel 21 = .ok (.iload_n 3, 1) := by decide +kernel
theorem dX6_getsChannel_22 : decode cX6_getsChannel 22 = .ok (.ifCond .ne 4, 3) := by decide +kernel
theorem dX6_getsChannel_25 : decode cX6_getsChannel 25 = .ok (.return_, 1) := by decide +kernel
theorem dX6_getsChannel_26 : decode cX6_getsChannel 26 = .ok (.aload_n 0, 1) := by decide +kernel
theorem dX6_getsChannel_27 : decode cX6_getsChannel 27 = .ok (.getfield 25, 3) := by decide +kernel
theorem dX6_getsChannel_30 : decode cX6_getsChannel 30 = .ok (.iload_n 2, 1) := by decide +kernel
theorem dX6_getsChannel_31 : decode cX6_getsChannel 31 = .ok (.iaload, 1) := by decide +kernel
theorem dX6_getsChannel_32 : decode cX6_getsChannel 32 = .ok (.iconst (-1), 1) := by decide +kernel
theorem dX6_getsChannel_33 : decode cX6_getsChannel 33 = .ok (.if_icmp .ne 7, 3) := by decide +kernel
theorem dX6_getsChannel_36 : decode cX6_getsChannel 36 = .ok (.iconst 1, 1) := by decide +kernel
theorem dX6_getsChannel_37 : decode cX6_getsChannel 37 = .ok (.goto 4, 3) := by decide +kernel
theorem dX6_getsChannel_40 : decode cX6_getsChannel 40 = .ok (.iconst 0, 1) := by decide +kernel
theorem dX6_getsChannel_41 : decode cX6_getsChannel 41 = .ok (.istore 4, 2) := by decide +kernel
theorem dX6_getsChannel_43 : decode cX6_getsChannel 43 = .ok (.iload 4, 2) := by decide +kernel
theorem dX6_getsChannel_45 : decode cX6_getsChannel 45 = .ok (.ifCond .ne 16, 3) := by decide +kernel
theorem dX6_getsChannel_48 : decode cX6_getsChannel 48 = .ok (.aload_n 0, 1) := by decide +kernel
theorem dX6_getsChannel_49 : decode cX6_getsChannel 49 = .ok (.getfield 85, 3) := by decide +kernel
theorem dX6_getsChannel_52 : decode cX6_getsChannel 52 = .ok (.aload_n 0, 1) := by decide +kernel
theorem dX6_getsChannel_53 : decode cX6_getsChannel 53 = .ok (.getfield 25, 3) := by decide +kernel
theorem dX6_getsChannel_56 : decode cX6_getsChannel 56 = .ok (.iload_n 2, 1) := by decide +kernel
theorem dX6_getsChannel_57 : decode cX6_getsChannel 57 = .ok (.iaload, 1) := by decide +kernel
theorem dX6_getsChannel_58 : decode cX6_getsChannel 58 = .ok (.if_icmp .ge 7, 3) := by decide +kernel
theorem dX6_getsChannel_61 : decode cX6_getsChannel 61 = .ok (.iconst 1, 1) := by decide +kernel
theorem dX6_getsChannel_62 : decode cX6_getsChannel 62 = .ok (.goto 4, 3) := by decide +kernel
theorem dX6_getsChannel_65 : decode cX6_getsChannel 65 = .ok (.iconst 0, 1) := by decide +kernel
theorem dX6_getsChannel_66 : decode cX6_getsChannel 66 = .ok (.istore 5, 2) := by decide +kernel
theorem dX6_getsChannel_68 : decode cX6_getsChannel 68 = .ok (.iload 4, 2) := by decide +kernel
theorem dX6_getsChannel_70 : decode cX6_getsChannel 70 = .ok (.ifCond .ne 20, 3) := by decide +kernel
theorem dX6_getsChannel_73 : decode cX6_getsChannel 73 = .ok (.aload_n 0, 1) := by decide +kernel
theorem dX6_getsChannel_74 : decode cX6_getsChannel 74 = .ok (.getfield 85, 3) := by decide +kernel
theorem dX6_getsChannel_77 : decode cX6_getsChannel 77 = .ok (.aload_n 0, 1) := by decide +kernel
theorem dX6_getsChannel_78 : decode cX6_getsChannel 78 = .ok (.getfield 25, 3) := by decide +kernel
theorem dX6_getsChannel_81 : decode cX6_getsChannel 81 = .ok (.iload_n 2, 1) := by decide +kernel
theorem dX6_getsChannel_82 : decode cX6_getsChannel 82 = .ok (.iaload, 1) := by decide +kernel
theorem dX6_getsChannel_83 : decode cX6_getsChannel 83 = .ok (.if_icmp .ne 7, 3) := by decide +kernel
theorem dX6_getsChannel_86 : decode cX6_getsChannel 86 = .ok (.iconst 1, 1) := by decide +kernel
theorem dX6_getsChannel_87 : decode cX6_getsChannel 87 = .ok (.goto 4, 3) := by decide +kernel
theorem dX6_getsChannel_90 : decode cX6_getsChannel 90 = .ok (.iconst 0, 1) := by decide +kernel
theorem dX6_getsChannel_91 : decode cX6_getsChannel 91 = .ok (.istore 6, 2) := by decide +kernel
theorem dX6_getsChannel_93 : decode cX6_getsChannel 93 = .ok (.aload_n 0, 1) := by decide +kernel
theorem dX6_getsChannel_94 : decode cX6_getsChannel 94 = .ok (.getfield 28, 3) := by decide +kernel
theorem dX6_getsChannel_97 : decode cX6_getsChannel 97 = .ok (.iload_n 2, 1) := by decide +kernel
theorem dX6_getsChannel_98 : decode cX6_getsChannel 98 = .ok (.iload 5, 2) := by decide +kernel
theorem dX6_getsChannel_100 : decode cX6_getsChannel 100 = .ok (.ifCond .eq 10, 3) := by decide +kernel
theorem dX6_getsChannel_103 : decode cX6_getsChannel 103 = .ok (.aload_n 0, 1) := by decide +kernel
theorem dX6_getsChannel_104 : decode cX6_getsChannel 104 = .ok (.getfield 88, 3) := by decide +kernel
theorem dX6_getsChannel_107 : decode cX6_getsChannel 107 = .ok (.goto 28, 3) := by decide +kernel
theorem dX6_getsChannel_110 : decode cX6_getsChannel 110 = .ok (.iload 6, 2) := by decide +kernel
theorem dX6_getsChannel_112 : decode cX6_getsChannel 112 = .ok (.ifCond .eq 17, 3) := by decide +kernel
theorem dX6_getsChannel_115 : decode cX6_getsChannel 115 = .ok (.aload_n 0, 1) := by decide +kernel
theorem dX6_getsChannel_116 : decode cX6_getsChannel 116 = .ok (.getfield 28, 3) := by decide +kernel
theorem dX6_getsChannel_119 : decode cX6_getsChannel 119 = .ok (.iload_n 2, 1) := by decide +kernel
theorem dX6_getsChannel_120 : decode cX6_getsChannel 120 = .ok (.iaload, 1) := by decide +kernel
theorem dX6_getsChannel_121 : decode cX6_getsChannel 121 = .ok (.aload_n 0, 1) := by decide +kernel
theorem dX6_getsChannel_122 : decode cX6_getsChannel 122 = .ok (.getfield 88, 3) := by decide +kernel
theorem dX6_getsChannel_125 : decode cX6_getsChannel 125 = .ok (.ior, 1) := by decide +kernel
theorem dX6_getsChannel_126 : decode cX6_getsChannel 126 = .ok (.goto 9, 3) := by decide +kernel
theorem dX6_getsChannel_129 : decode cX6_getsChannel 129 = .ok (.aload_n 0, 1) := by decide +kernel
theorem dX6_getsChannel_130 : decode cX6_getsChannel 130 = .ok (.getfield 28, 3) := by decide +kernel
theorem dX6_getsChannel_133 : decode cX6_getsChannel 133 = .ok (.iload_n 2, 1) := by decide +kernel
theorem dX6_getsChannel_134 : decode cX6_getsChannel 134 = .ok (.iaload, 1) := by decide +kernel
theorem dX6_getsChannel_135 : decode cX6_getsChannel 135 = .ok (.iastore, 1) := by decide +kernel
theorem dX6_getsChannel_136 : decode cX6_getsChannel 136 = .ok (.aload_n 0, 1) := by decide +kernel
theorem dX6_getsChannel_137 : decode cX6_getsChannel 137 = .ok (.getfield 31, 3) := by decide +kernel
theorem dX6_getsChannel_140 : decode cX6_getsChannel 140 = .ok (.iload_n 2, 1) := by decide +kernel
theorem dX6_getsChannel_141 : decode cX6_getsChannel 141 = .ok (.iload 5, 2) := by decide +kernel
theorem dX6_getsChannel_143 : decode cX6_getsChannel 143 = .ok (.ifCond .eq 10, 3) := by decide +kernel
theorem dX6_getsChannel_146 : decode cX6_getsChannel 146 = .ok (.aload_n 0, 1) := by decide +kernel
theorem dX6_getsChannel_147 : decode cX6_getsChannel 147 = .ok (.getfield 91, 3) := by decide +kernel
theorem dX6_getsChannel_150 : decode cX6_getsChannel 150 = .ok (.goto 28, 3) := by decide +kernel
theorem dX6_getsChannel_153 : decode cX6_getsChannel 153 = .ok (.iload 6, 2) := by decide +kernel
theorem dX6_getsChannel_155 : decode cX6_getsChannel 155 = .ok (.ifCond .eq 17, 3) := by decide +kernel
theorem dX6_getsChannel_158 : decode cX6_getsChannel 158 = .ok (.aload_n 0, 1) := by decide +kernel
theorem dX6_getsChannel_159 : decode cX6_getsChannel 159 = .ok (.getfield 31, 3) := by decide +kernel
theorem dX6_getsChannel_162 : decode cX6_getsChannel 162 = .ok (.iload_n 2, 1) := by decide +kernel
theorem dX6_getsChannel_163 : decode cX6_getsChannel 163 = .ok (.iaload, 1) := by decide +kernel
theorem dX6_getsChannel_164 : decode cX6_getsChannel 164 = .ok (.aload_n 0, 1) := by decide +kernel
theorem dX6_getsChannel_165 : decode cX6_getsChannel 165 = .ok (.getfield 91, 3) := by decide +kernel
theorem dX6_getsChannel_168 : decode cX6_getsChannel 168 = .ok (.ior, 1) := by decide +kernel
theorem dX6_getsChannel_169 : decode cX6_getsChannel 169 = .ok (.goto 9, 3) := by decide +kernel
theorem dX6_getsChannel_172 : decode cX6_getsChannel 172 = .ok (.aload_n 0, 1) := by decide +kernel
theorem dX6_getsChannel_173 : decode cX6_getsChannel 173 = .ok (.getfield 31, 3) := by decide +kernel
theorem dX6_getsChannel_176 : decode cX6_getsChannel 176 = .ok (.iload_n 2, 1) := by decide +kernel
theorem dX6_getsChannel_177 : decode cX6_getsChannel 177 = .ok (.iaload, 1) := by decide +kernel
theorem dX6_getsChannel_178 : decode cX6_getsChannel 178 = .ok (.iastore, 1) := by decide +kernel
theorem dX6_getsChannel_179 : decode cX6_getsChannel 179 = .ok (.aload_n 0, 1) := by decide +kernel
theorem dX6_getsChannel_180 : decode cX6_getsChannel 180 = .ok (.getfield 25, 3) := by decide +kernel
theorem dX6_getsChannel_183 : decode cX6_getsChannel 183 = .ok (.iload_n 2, 1) := by decide +kernel
theorem dX6_getsChannel_184 : decode cX6_getsChannel 184 = .ok (.iload 5, 2) := by decide +kernel
theorem dX6_getsChannel_186 : decode cX6_getsChannel 186 = .ok (.ifCond .eq 10, 3) := by decide +kernel
theorem dX6_getsChannel_189 : decode cX6_getsChannel 189 = .ok (.aload_n 0, 1) := by decide +kernel
theorem dX6_getsChannel_190 : decode cX6_getsChannel 190 = .ok (.getfield 85, 3) := by decide +kernel
theorem dX6_getsChannel_193 : decode cX6_getsChannel 193 = .ok (.goto 9, 3) := by decide +kernel
theorem dX6_getsChannel_196 : decode cX6_getsChannel 196 = .ok (.aload_n 0, 1) := by decide +kernel
theorem dX6_getsChannel_197 : decode cX6_getsChannel 197 = .ok (.getfield 25, 3) := by decide +kernel
theorem dX6_getsChannel_200 : decode cX6_getsChannel 200 = .ok (.iload_n 2, 1) := by decide +kernel
theorem dX6_getsChannel_201 : decode cX6_getsChannel 201 = .ok (.iaload, 1) := by decide +kernel
theorem dX6_getsChannel_202 : decode cX6_getsChannel 202 = .ok (.iastore, 1) := by decide +kernel
theorem dX6_getsChannel_203 : decode cX6_getsChannel 203 = .ok (.aload_n 0, 1) := by decide +kernel
theorem dX6_getsChannel_204 : decode cX6_getsChannel 204 = .ok (.getfield 34, 3) := by decide +kernel
theorem dX6_getsChannel_207 : decode cX6_getsChannel 207 = .ok (.iload_n 2, 1) := by decide +kernel
theorem dX6_getsChannel_208 : decode cX6_getsChannel 208 = .ok (.iload 4, 2) := by decide +kernel
theorem dX6_getsChannel_210 : decode cX6_getsChannel 210 = .ok (.ifCond .eq 7, 3) := by decide +kernel
theorem dX6_getsChannel_213 : decode cX6_getsChannel 213 = .ok (.iload_n 3, 1) := by decide +kernel
theorem dX6_getsChannel_214 : decode cX6_getsChannel 214 = .ok (.goto 11, 3) := by decide +kernel
theorem dX6_getsChannel_217 : decode cX6_getsChannel 217 = .ok (.aload_n 0, 1) := by decide +kernel
theorem dX6_getsChannel_218 : decode cX6_getsChannel 218 = .ok (.getfield 34, 3) := by decide +kernel
theorem dX6_getsChannel_221 : decode cX6_getsChannel 221 = .ok (.iload_n 2, 1) := by decide +kernel
theorem dX6_getsChannel_222 : decode cX6_getsChannel 222 = .ok (.iaload, 1) := by decide +kernel
theorem dX6_getsChannel_223 : decode cX6_getsChannel 223 = .ok (.iload_n 3, 1) := by decide +kernel
theorem dX6_getsChannel_224 : decode cX6_getsChannel 224 = .ok (.ior, 1) := by decide +kernel
theorem dX6_getsChannel_225 : decode cX6_getsChannel 225 = .ok (.iastore, 1) := by decide +kernel
theorem dX6_getsChannel_226 : decode cX6_getsChannel 226 = .ok (.return_, 1) := by decide +kernel
theorem dX6_gets_0 : decode cX6_gets 0 = .ok (.aload_n 0, 1) := by decide +kernel
theorem dX6_gets_1 : decode cX6_gets 1 = .ok (.getfield 68, 3) := by decide +kernel
theorem dX6_gets_4 : decode cX6_gets 4 = .ok (.ifCond .ne 12, 3) := by decide +kernel
theorem dX6_gets_7 : decode cX6_gets 7 = .ok (.aload_n 0, 1) := by decide +kernel
theorem dX6_gets_8 : decode cX6_gets 8 = .ok (.iload_n 1, 1) := by decide +kernel
theorem dX6_gets_9 : decode cX6_gets 9 = .ok (.iload_n 2, 1) := by decide +kernel
theorem dX6_gets_10 : decode cX6_gets 10 = .ok (.invokevirtual 128, 3) := by decide +kernel
theorem dX6_gets_13 : decode cX6_gets 13 = .ok (.goto 193, 3) := by decide +kernel
theorem dX6_gets_16 : decode cX6_gets 16 = .ok (.aload_n 0, 1) := by decide +kernel
theorem dX6_gets_17 : decode cX6_gets 17 = .ok (.getfield 68, 3) := by decide +kernel
theorem dX6_gets_20 : decode cX6_gets 20 = .ok (.iconst 1, 1) := by decide +kernel
theorem dX6_gets_21 : decode cX6_gets 21 = .ok (.if_icmp .ne 37, 3) := by decide +kernel
theorem dX6_gets_24 : decode cX6_gets 24 = .ok (.aload_n 0, 1) := by decide +kernel
theorem dX6_gets_25 : decode cX6_gets 25 = .ok (.getfield 22, 3) := by decide +kernel
theorem dX6_gets_28 : decode cX6_gets 28 = .ok (.iload_n 1, 1) := by decide +kernel
theorem dX6_gets_29 : decode cX6_gets 29 = .ok (.iaload, 1) := by decide +kernel
theorem dX6_gets_30 : decode cX6_gets 30 = .ok (.aload_n 0, 1) := by decide +kernel
theorem dX6_gets_31 : decode cX6_gets 31 = .ok (.getfield 71, 3) := by decide +kernel
theorem dX6_gets_34 : decode cX6_gets 34 = .ok (.invokestatic 100, 3) := by decide +kernel
theorem dX6_gets_37 : decode cX6_gets 37 = .ok (.ifCond .eq 169, 3) := by decide +kernel
theorem dX6_gets_40 : decode cX6_gets 40 = .ok (.aload_n 0, 1) := by decide +kernel
theorem dX6_gets_41 : decode cX6_gets 41 = .ok (.iload_n 1, 1) := by decide +kernel
theorem dX6_gets_42 : decode cX6_gets 42 = .ok (.aload_n 0, 1) := by decide +kernel
theorem dX6_gets_43 : decode cX6_gets 43 = .ok (.getfield 71, 3) := by decide +kernel
theorem dX6_gets_46 : decode cX6_gets 46 = .ok (.invokevirtual 122, 3) := by decide +kernel
theorem dX6_gets_49 : decode cX6_gets 49 = .ok (.aload_n 0, 1) := by decide +kernel
theorem dX6_gets_50 : decode cX6_gets 50 = .ok (.iload_n 1, 1) := by decide +kernel
theorem dX6_gets_51 : decode cX6_gets 51 = .ok (.iload_n 2, 1) := by decide +kernel
theorem dX6_gets_52 : decode cX6_gets 52 = .ok (.invokevirtual 125, 3) := by decide +kernel
theorem dX6_gets_55 : decode cX6_gets 55 = .ok (.goto 151, 3) := by decide +kernel
theorem dX6_gets_58 : decode cX6_gets 58 = .ok (.aload_n 0, 1) := by decide +kernel
theorem dX6_gets_59 : decode cX6_gets 59 = .ok (.getfield 68, 3) := by decide +kernel
theorem dX6_gets_62 : decode cX6_gets 62 = .ok (.iconst 2, 1) := by decide +kernel
theorem dX6_gets_63 : decode cX6_gets 63 = .ok (.if_icmp .ne 11, 3) := by decide +kernel
theorem dX6_gets_66 : decode cX6_gets 66 = .ok (.aload_n 0, 1) := by decide +kernel
theorem dX6_gets_67 : decode cX6_gets 67 = .ok (.iload_n 1, 1) := by decide +kernel
theorem dX6_gets_68 : decode cX6_gets 68 = .ok (.invokevirtual 131, 3) := by decide +kernel
theorem dX6_gets_71 : decode cX6_gets 71 = .ok (.goto 129, 3) := by decide +kernel
theorem dX6_gets_74 : decode cX6_gets 74 = .ok (.aload_n 0, 1) := by decide +kernel
theorem dX6_gets_75 : decode cX6_gets 75 = .ok (.getfield 68, 3) := by decide +kernel
theorem dX6_gets_78 : decode cX6_gets 78 = .ok (.iconst 3, 1) := by decide +kernel
theorem dX6_gets_79 : decode cX6_gets 79 = .ok (.if_icmp .ne 59, 3) := by decide +kernel
theorem dX6_gets_82 : decode cX6_gets 82 = .ok (.aload_n 0, 1) := by decide +kernel
theorem dX6_gets_83 : decode cX6_gets 83 = .ok (.getfield 34, 3) := by decide +kernel
theorem dX6_gets_86 : decode cX6_gets 86 = .ok (.iload_n 1, 1) := by decide +kernel
theorem dX6_gets_87 : decode cX6_gets 87 = .ok (.aload_n 0, 1) := by decide +kernel
theorem dX6_gets_88 : decode cX6_gets 88 = .ok (.getfield 71, 3) := by decide +kernel
theorem dX6_gets_91 : decode cX6_gets 91 = .ok (.invokestatic 81, 3) := by decide +kernel
theorem dX6_gets_94 : decode cX6_gets 94 = .ok (.iaload, 1) := by decide +kernel
theorem dX6_gets_95 : decode cX6_gets 95 = .ok (.aload_n 0, 1) := by decide +kernel
theorem dX6_gets_96 : decode cX6_gets 96 = .ok (.getfield 74, 3) := by decide +kernel
theorem dX6_gets_99 : decode cX6_gets 99 = .ok (.invokestatic 100, 3) := by decide +kernel
theorem dX6_gets_102 : decode cX6_gets 102 = .ok (.ifCond .eq 36, 3) := by decide +kernel
theorem dX6_gets_105 : decode cX6_gets 105 = .ok (.aload_n 0, 1) := by decide +kernel
theorem dX6_gets_106 : decode cX6_gets 106 = .ok (.getfield 25, 3) := by decide +kernel
theorem dX6_gets_109 : decode cX6_gets 109 = .ok (.iload_n 1, 1) := by decide +kernel
theorem dX6_gets_110 : decode cX6_gets 110 = .ok (.aload_n 0, 1) := by decide +kernel
theorem dX6_gets_111 : decode cX6_gets 111 = .ok (.getfield 71, 3) := by decide +kernel
theorem dX6_gets_114 : decode cX6_gets 114 = .ok (.invokestatic 81, 3) := by decide +kernel
theorem dX6_gets_117 : decode cX6_gets 117 = .ok (.iaload, 1) := by decide +kernel
theorem dX6_gets_118 : decode cX6_gets 118 = .ok (.iconst (-1), 1) := by decide +kernel
theorem dX6_gets_119 : decode cX6_gets 119 = .ok (.if_icmp .eq 19, 3) := by decide +kernel
theorem dX6_gets_122 : decode cX6_gets 122 = .ok (.aload_n 0, 1) := by decide +kernel
theorem dX6_gets_123 : decode cX6_gets 123 = .ok (.iload_n 1, 1) := by decide +kernel
theorem dX6_gets_124 : decode cX6_gets 124 = .ok (.aload_n 0, 1) := by decide +kernel
theorem dX6_gets_125 : decode cX6_gets 125 = .ok (.getfield 71, 3) := by decide +kernel
theorem dX6_gets_128 : decode cX6_gets 128 = .ok (.aload_n 0, 1) := by decide +kernel
theorem dX6_gets_129 : decode cX6_gets 129 = .ok (.getfield 74, 3) := by decide +kernel
theorem dX6_gets_132 : decode cX6_gets 132 = .ok (.invokevirtual 108, 3) := by decide +kernel
theorem dX6_gets_135 : decode cX6_gets 135 = .ok (.goto 65, 3) := by decide +kernel
theorem dX6_gets_138 : decode cX6_gets 138 = .ok (.aload_n 0, 1) := by decide +kernel
theorem dX6_gets_139 : decode cX6_gets 139 = .ok (.getfield 68, 3) := by decide +kernel
theorem dX6_gets_142 : decode cX6_gets 142 = .ok (.iconst 4, 1) := by decide +kernel
theorem dX6_gets_143 : decode cX6_gets 143 = .ok (.if_icmp .ne 57, 3) := by decide +kernel
theorem dX6_gets_146 : decode cX6_gets 146 = .ok (.aload_n 0, 1) := by decide +kernel
theorem dX6_gets_147 : decode cX6_gets 147 = .ok (.getfield 25, 3) := by decide +kernel
theorem dX6_gets_150 : decode cX6_gets 150 = .ok (.iload_n 1, 1) := by decide +kernel
theorem dX6_gets_151 : decode cX6_gets 151 = .ok (.aload_n 0, 1) := by decide +kernel
theorem dX6_gets_152 : decode cX6_gets 152 = .ok (.getfield 71, 3) := by decide +kernel
theorem dX6_gets_155 : decode cX6_gets 155 = .ok (.invokestatic 81, 3) := by decide +kernel
theorem dX6_gets_158 : decode cX6_gets 158 = .ok (.iaload, 1) := by decide +kernel
theorem dX6_gets_159 : decode cX6_gets 159 = .ok (.aload_n 0, 1) := by decide +kernel
theorem dX6_gets_160 : decode cX6_gets 160 = .ok (.getfield 85, 3) := by decide +kernel
theorem dX6_gets_163 : decode cX6_gets 163 = .ok (.if_icmp .ne 37, 3) := by decide +kernel
theorem dX6_gets_166 : decode cX6_gets 166 = .ok (.aload_n 0, 1) := by decide +kernel
theorem dX6_gets_167 : decode cX6_gets 167 = .ok (.getfield 28, 3) := by decide +kernel
theorem dX6_gets_170 : decode cX6_gets 170 = .ok (.iload_n 1, 1) := by decide +kernel
theorem dX6_gets_171 : decode cX6_gets 171 = .ok (.aload_n 0, 1) := by decide +kernel
theorem dX6_gets_172 : decode cX6_gets 172 = .ok (.getfield 71, 3) := by decide +kernel
theorem dX6_gets_175 : decode cX6_gets 175 = .ok (.invokestatic 81, 3) := by decide +kernel
theorem dX6_gets_178 : decode cX6_gets 178 = .ok (.aload_n 0, 1) := by decide +kernel
theorem dX6_gets_179 : decode cX6_gets 179 = .ok (.getfield 88, 3) := by decide +kernel
theorem dX6_gets_182 : decode cX6_gets 182 = .ok (.iastore, 1) := by decide +kernel
theorem dX6_gets_183 : decode cX6_gets 183 = .ok (.aload_n 0, 1) := by decide +kernel
theorem dX6_gets_184 : decode cX6_gets 184 = .ok (.getfield 31, 3) := by decide +kernel
theorem dX6_gets_187 : decode cX6_gets 187 = .ok (.iload_n 1, 1) := by decide +kernel
theorem dX6_gets_188 : decode cX6_gets 188 = .ok (.aload_n 0, 1) := by decide +kernel
theorem dX6_gets_189 : decode cX6_gets 189 = .ok (.getfield 71, 3) := by decide +kernel
theorem dX6_gets_192 : decode cX6_gets 192 = .ok (.invokestatic 81, 3) := by decide +kernel
theorem dX6_gets_195 : decode cX6_gets 195 = .ok (.aload_n 0, 1) := by decide +kernel
theorem dX6_gets_196 : decode cX6_gets 196 = .ok (.getfield 91, 3) := by decide +kernel
theorem dX6_gets_199 : decode cX6_gets 199 = .ok (.iastore, 1) := by decide +kernel
theorem dX6_gets_200 : decode cX6_gets 200 = .ok (.aload_n 0, 1) := by decide +kernel
theorem dX6_gets_201 : decode cX6_gets 201 = .ok (.iload_n 1, 1) := by decide +kernel
theorem dX6_gets_202 : decode cX6_gets 202 = .ok (.iload_n 2, 1) := by decide +kernel
theorem dX6_gets_203 : decode cX6_gets 203 = .ok (.invokevirtual 125, 3) := by decide +kernel
theorem dX6_gets_206 : decode cX6_gets 206 = .ok (.return_, 1) := by decide +kernel
theorem dX6_bursts_0 : decode cX6_bursts 0 = .ok (.iconst 0, 1) := by decide +kernel
theorem dX6_bursts_1 : decode cX6_bursts 1 = .ok (.istore_n 3, 1) := by decide +kernel
theorem dX6_bursts_2 : decode cX6_bursts 2 = .ok (.iload_n 3, 1) := by decide +kernel
theorem dX6_bursts_3 : decode cX6_bursts 3 = .ok (.aload_n 0, 1) := by decide +kernel
theorem dX6_bursts_4 : decode cX6_bursts 4 = .ok (.getfield 111, 3) := by decide +kernel
theorem dX6_bursts_7 : decode cX6_bursts 7 = .ok (.if_icmp .ge 35, 3) := by decide +kernel
theorem dX6_bursts_10 : decode cX6_bursts 10 = .ok (.aload_n 0, 1) := by decide +kernel
theorem dX6_bursts_11 : decode cX6_bursts 11 = .ok (.getfield 22, 3) := by decide +kernel
theorem dX6_bursts_14 : decode cX6_bursts 14 = .ok (.iload_n 1, 1) := by decide +kernel
theorem dX6_bursts_15 : decode cX6_bursts 15 = .ok (.iaload, 1) := by decide +kernel
theorem dX6_bursts_16 : decode cX6_bursts 16 = .ok (.iload_n 3, 1) := by decide +kernel
theorem dX6_bursts_17 : decode cX6_bursts 17 = .ok (.invokestatic 100, 3) := by decide +kernel
theorem dX6_bursts_20 : decode cX6_bursts 20 = .ok (.ifCond .eq 16, 3) := by decide +kernel
theorem dX6_bursts_23 : decode cX6_bursts 23 = .ok (.aload_n 0, 1) := by decide +kernel
theorem dX6_bursts_24 : decode cX6_bursts 24 = .ok (.iconst 0, 1) := by decide +kernel
theorem dX6_bursts_25 : decode cX6_bursts 25 = .ok (.iload_n 3, 1) := by decide +kernel
theorem dX6_bursts_26 : decode cX6_bursts 26 = .ok (.iconst 0, 1) := by decide +kernel
theorem dX6_bursts_27 : decode cX6_bursts 27 = .ok (.invokevirtual 77, 3) := by decide +kernel
theorem dX6_bursts_30 : decode cX6_bursts 30 = .ok (.aload_n 0, 1) := by decide +kernel
theorem dX6_bursts_31 : decode cX6_bursts 31 = .ok (.iload_n 1, 1) := by decide +kernel
theorem dX6_bursts_32 : decode cX6_bursts 32 = .ok (.iload_n 2, 1) := by decide +kernel
theorem dX6_bursts_33 : decode cX6_bursts 33 = .ok (.invokevirtual 104, 3) := by decide +kernel
theorem dX6_bursts_36 : decode cX6_bursts 36 = .ok (.iinc 3 1, 3) := by decide +kernel
theorem dX6_bursts_39 : decode cX6_bursts 39 = .ok (.goto (-37), 3) := by decide +kernel
theorem dX6_bursts_42 : decode cX6_bursts 42 = .ok (.iconst 0, 1) := by decide +kernel
theorem dX6_bursts_43 : decode cX6_bursts 43 = .ok (.istore_n 3, 1) := by decide +kernel
theorem dX6_bursts_44 : decode cX6_bursts 44 = .ok (.iload_n 3, 1) := by decide +kernel
theorem dX6_bursts_45 : decode cX6_bursts 45 = .ok (.iconst 4, 1) := by decide +kernel
theorem dX6_bursts_46 : decode cX6_bursts 46 = .ok (.if_icmp .ge 46, 3) := by decide +kernel
theorem dX6_bursts_49 : decode cX6_bursts 49 = .ok (.aload_n 0, 1) := by decide +kernel
theorem dX6_bursts_50 : decode cX6_bursts 50 = .ok (.getfield 25, 3) := by decide +kernel
theorem dX6_bursts_53 : decode cX6_bursts 53 = .ok (.iload_n 1, 1) := by decide +kernel
theorem dX6_bursts_54 : decode cX6_bursts 54 = .ok (.iload_n 3, 1) := by decide +kernel
theorem dX6_bursts_55 : decode cX6_bursts 55 = .ok (.invokestatic 81, 3) := by decide +kernel
theorem dX6_bursts_58 : decode cX6_bursts 58 = .ok (.iaload, 1) := by decide +kernel
theorem dX6_bursts_59 : decode cX6_bursts 59 = .ok (.iconst (-1), 1) := by decide +kernel
theorem dX6_bursts_60 : decode cX6_bursts 60 = .ok (.if_icmp .eq 26, 3) := by decide +kernel
theorem dX6_bursts_63 : decode cX6_bursts 63 = .ok (.aload_n 0, 1) := by decide +kernel
theorem dX6_bursts_64 : decode cX6_bursts 64 = .ok (.iconst 2, 1) := by decide +kernel
theorem dX6_bursts_65 : decode cX6_bursts 65 = .ok (.iload_n 1, 1) := by decide +kernel
theorem dX6_bursts_66 : decode cX6_bursts 66 = .ok (.iload_n 3, 1) := by decide +kernel
theorem dX6_bursts_67 : decode cX6_bursts 67 = .ok (.aload_n 0, 1) := by decide +kernel
theorem dX6_bursts_68 : decode cX6_bursts 68 = .ok (.getfield 34, 3) := by decide +kernel
theorem dX6_bursts_71 : decode cX6_bursts 71 = .ok (.iload_n 1, 1) := by decide +kernel
theorem dX6_bursts_72 : decode cX6_bursts 72 = .ok (.iload_n 3, 1) := by decide +kernel
theorem dX6_bursts_73 : decode cX6_bursts 73 = .ok (.invokestatic 81, 3) := by decide +kernel
theorem dX6_bursts_76 : decode cX6_bursts 76 = .ok (.iaload, 1) := by decide +kernel
theorem dX6_bursts_77 : decode cX6_bursts 77 = .ok (.invokevirtual 135, 3) := by decide +kernel
theorem dX6_bursts_80 : decode cX6_bursts 80 = .ok (.aload_n 0, 1) := by decide +kernel
theorem dX6_bursts_81 : decode cX6_bursts 81 = .ok (.iload_n 1, 1) := by decide +kernel
theorem dX6_bursts_82 : decode cX6_bursts 82 = .ok (.iload_n 2, 1) := by decide +kernel
theorem dX6_bursts_83 : decode cX6_bursts 83 = .ok (.invokevirtual 104, 3) := by decide +kernel
theorem dX6_bursts_86 : decode cX6_bursts 86 = .ok (.iinc 3 1, 3) := by decide +kernel
theorem dX6_bursts_89 : decode cX6_bursts 89 = .ok (.goto (-45), 3) := by decide +kernel
theorem dX6_bursts_92 : decode cX6_bursts 92 = .ok (.return_, 1) := by decide +kernel
theorem dX6_link_0 : decode cX6_link 0 = .ok (.iload_n 1, 1) := by decide +kernel
theorem dX6_link_1 : decode cX6_link 1 = .ok (.invokestatic 139, 3) := by decide +kernel
theorem dX6_link_4 : decode cX6_link 4 = .ok (.ifCond .eq 14, 3) := by decide +kernel
theorem dX6_link_7 : decode cX6_link 7 = .ok (.iload_n 2, 1) := by decide +kernel
theorem dX6_link_8 : decode cX6_link 8 = .ok (.invokestatic 139, 3) := by decide +kernel
theorem dX6_link_11 : decode cX6_link 11 = .ok (.ifCond .eq 7, 3) := by decide +kernel
theorem dX6_link_14 : decode cX6_link 14 = .ok (.iconst 1, 1) := by decide +kernel
theorem dX6_link_15 : decode cX6_link 15 = .ok (.goto 4, 3) := by decide +kernel
theorem dX6_link_18 : decode cX6_link 18 = .ok (.iconst 0, 1) := by decide +kernel
theorem dX6_link_19 : decode cX6_link 19 = .ok (.istore_n 3, 1) := by decide +kernel
theorem dX6_link_20 : decode cX6_link 20 = .ok (.aload_n 0, 1) := by decide +kernel
theorem dX6_link_21 : decode cX6_link 21 = .ok (.iload_n 3, 1) := by decide +kernel
theorem dX6_link_22 : decode cX6_link 22 = .ok (.ifCond .ne 7, 3) := by decide +kernel
theorem dX6_link_25 : decode cX6_link 25 = .ok (.iconst 1, 1) := by decide +kernel
theorem dX6_link_26 : decode cX6_link 26 = .ok (.goto 20, 3) := by decide +kernel
theorem dX6_link_29 : decode cX6_link 29 = .ok (.aload_n 0, 1) := by decide +kernel
theorem dX6_link_30 : decode cX6_link 30 = .ok (.iload_n 1, 1) := by decide +kernel
theorem dX6_link_31 : decode cX6_link 31 = .ok (.invokevirtual 114, 3) := by decide +kernel
theorem dX6_link_34 : decode cX6_link 34 = .ok (.iload_n 2, 1) := by decide +kernel
theorem dX6_link_35 : decode cX6_link 35 = .ok (.invokestatic 100, 3) := by decide +kernel
theorem dX6_link_38 : decode cX6_link 38 = .ok (.ifCond .eq 7, 3) := by decide +kernel
theorem dX6_link_41 : decode cX6_link 41 = .ok (.iconst 2, 1) := by decide +kernel
theorem dX6_link_42 : decode cX6_link 42 = .ok (.goto 4, 3) := by decide +kernel
theorem dX6_link_45 : decode cX6_link 45 = .ok (.iconst 0, 1) := by decide +kernel
theorem dX6_link_46 : decode cX6_link 46 = .ok (.invokevirtual 143, 3) := by decide +kernel
theorem dX6_link_49 : decode cX6_link 49 = .ok (.ifCond .ne 5, 3) := by decide +kernel
theorem dX6_link_52 : decode cX6_link 52 = .ok (.iconst 0, 1) := by decide +kernel
theorem dX6_link_53 : decode cX6_link 53 = .ok (.ireturn, 1) := by decide +kernel
theorem dX6_link_54 : decode cX6_link 54 = .ok (.aload_n 0, 1) := by decide +kernel
theorem dX6_link_55 : decode cX6_link 55 = .ok (.getfield 97, 3) := by decide +kernel
theorem dX6_link_58 : decode cX6_link 58 = .ok (.istore 4, 2) := by decide +kernel
theorem dX6_link_60 : decode cX6_link 60 = .ok (.aload_n 0, 1) := by decide +kernel
theorem dX6_link_61 : decode cX6_link 61 = .ok (.getfield 19, 3) := by decide +kernel
theorem dX6_link_64 : decode cX6_link 64 = .ok (.iload_n 1, 1) := by decide +kernel
theorem dX6_link_65 : decode cX6_link 65 = .ok (.dup2, 1) := by decide +kernel
theorem dX6_link_66 : decode cX6_link 66 = .ok (.iaload, 1) := by decide +kernel
theorem dX6_link_67 : decode cX6_link 67 = .ok (.iconst 1, 1) := by decide +kernel
theorem dX6_link_68 : decode cX6_link 68 = .ok (.iload_n 2, 1) := by decide +kernel
theorem dX6_link_69 : decode cX6_link 69 = .ok (.ishl, 1) := by decide +kernel
theorem dX6_link_70 : decode cX6_link 70 = .ok (.ior, 1) := by decide +kernel
theorem dX6_link_71 : decode cX6_link 71 = .ok (.iastore, 1) := by decide +kernel
theorem dX6_link_72 : decode cX6_link 72 = .ok (.aload_n 0, 1) := by decide +kernel
theorem dX6_link_73 : decode cX6_link 73 = .ok (.getfield 19, 3) := by decide +kernel
theorem dX6_link_76 : decode cX6_link 76 = .ok (.iload_n 2, 1) := by decide +kernel
theorem dX6_link_77 : decode cX6_link 77 = .ok (.dup2, 1) := by decide +kernel
theorem dX6_link_78 : decode cX6_link 78 = .ok (.iaload, 1) := by decide +kernel
theorem dX6_link_79 : decode cX6_link 79 = .ok (.iconst 1, 1) := by decide +kernel
theorem dX6_link_80 : decode cX6_link 80 = .ok (.iload_n 1, 1) := by decide +kernel
theorem dX6_link_81 : decode cX6_link 81 = .ok (.ishl, 1) := by decide +kernel
theorem dX6_link_82 : decode cX6_link 82 = .ok (.ior, 1) := by decide +kernel
theorem dX6_link_83 : decode cX6_link 83 = .ok (.iastore, 1) := by decide +kernel
theorem dX6_link_84 : decode cX6_link 84 = .ok (.aload_n 0, 1) := by decide +kernel
theorem dX6_link_85 : decode cX6_link 85 = .ok (.iload_n 1, 1) := by decide +kernel
theorem dX6_link_86 : decode cX6_link 86 = .ok (.iload_n 2, 1) := by decide +kernel
theorem dX6_link_87 : decode cX6_link 87 = .ok (.invokevirtual 146, 3) := by decide +kernel
theorem dX6_link_90 : decode cX6_link 90 = .ok (.aload_n 0, 1) := by decide +kernel
theorem dX6_link_91 : decode cX6_link 91 = .ok (.iload_n 2, 1) := by decide +kernel
theorem dX6_link_92 : decode cX6_link 92 = .ok (.iload_n 1, 1) := by decide +kernel
theorem dX6_link_93 : decode cX6_link 93 = .ok (.invokevirtual 146, 3) := by decide +kernel
theorem dX6_link_96 : decode cX6_link 96 = .ok (.aload_n 0, 1) := by decide +kernel
theorem dX6_link_97 : decode cX6_link 97 = .ok (.dup, 1) := by decide +kernel
theorem dX6_link_98 : decode cX6_link 98 = .ok (.getfield 149, 3) := by decide +kernel
theorem dX6_link_101 : decode cX6_link 101 = .ok (.iconst 1, 1) := by decide +kernel
theorem dX6_link_102 : decode cX6_link 102 = .ok (.iadd, 1) := by decide +kernel
theorem dX6_link_103 : decode cX6_link 103 = .ok (.putfield 149, 3) := by decide +kernel
theorem dX6_link_106 : decode cX6_link 106 = .ok (.aload_n 0, 1) := by decide +kernel
theorem dX6_link_107 : decode cX6_link 107 = .ok (.getfield 97, 3) := by decide +kernel
theorem dX6_link_110 : decode cX6_link 110 = .ok (.iload 4, 2) := by decide +kernel
theorem dX6_link_112 : decode cX6_link 112 = .ok (.isub, 1) := by decide +kernel
theorem dX6_link_113 : decode cX6_link 113 = .ok (.ireturn, 1) := by decide +kernel
theorem dX6_forgets_0 : decode cX6_forgets 0 = .ok (.iconst 0, 1) := by decide +kernel
theorem dX6_forgets_1 : decode cX6_forgets 1 = .ok (.istore_n 1, 1) := by decide +kernel
theorem dX6_forgets_2 : decode cX6_forgets 2 = .ok (.iload_n 1, 1) := by decide +kernel
theorem dX6_forgets_3 : decode cX6_forgets 3 = .ok (.bipush 6, 2) := by decide +kernel
theorem dX6_forgets_5 : decode cX6_forgets 5 = .ok (.if_icmp .ge 63, 3) := by decide +kernel
theorem dX6_forgets_8 : decode cX6_forgets 8 = .ok (.aload_n 0, 1) := by decide +kernel
theorem dX6_forgets_9 : decode cX6_forgets 9 = .ok (.iload_n 1, 1) := by decide +kernel
theorem dX6_forgets_10 : decode cX6_forgets 10 = .ok (.invokevirtual 114, 3) := by decide +kernel
theorem dX6_forgets_13 : decode cX6_forgets 13 = .ok (.istore_n 2, 1) := by decide +kernel
theorem dX6_forgets_14 : decode cX6_forgets 14 = .ok (.iconst 0, 1) := by decide +kernel
theorem dX6_forgets_15 : decode cX6_forgets 15 = .ok (.istore_n 3, 1) := by decide +kernel
theorem dX6_forgets_16 : decode cX6_forgets 16 = .ok (.iload_n 3, 1) := by decide +kernel
theorem dX6_forgets_17 : decode cX6_forgets 17 = .ok (.aload_n 0, 1) := by decide +kernel
theorem dX6_forgets_18 : decode cX6_forgets 18 = .ok (.getfield 111, 3) := by decide +kernel
theorem dX6_forgets_21 : decode cX6_forgets 21 = .ok (.if_icmp .ge 41, 3) := by decide +kernel
theorem dX6_forgets_24 : decode cX6_forgets 24 = .ok (.aload_n 0, 1) := by decide +kernel
theorem dX6_forgets_25 : decode cX6_forgets 25 = .ok (.getfield 22, 3) := by decide +kernel
theorem dX6_forgets_28 : decode cX6_forgets 28 = .ok (.iload_n 1, 1) := by decide +kernel
theorem dX6_forgets_29 : decode cX6_forgets 29 = .ok (.iaload, 1) := by decide +kernel
theorem dX6_forgets_30 : decode cX6_forgets 30 = .ok (.iload_n 3, 1) := by decide +kernel
theorem dX6_forgets_31 : decode cX6_forgets 31 = .ok (.invokestatic 100, 3) := by decide +kernel
theorem dX6_forgets_34 : decode cX6_forgets 34 = .ok (.ifCond .eq 22, 3) := by decide +kernel
theorem dX6_forgets_37 : decode cX6_forgets 37 = .ok (.iload_n 2, 1) := by decide +kernel
theorem dX6_forgets_38 : decode cX6_forgets 38 = .ok (.aload_n 0, 1) := by decide +kernel
theorem dX6_forgets_39 : decode cX6_forgets 39 = .ok (.getfield 13, 3) := by decide +kernel
theorem dX6_forgets_42 : decode cX6_forgets 42 = .ok (.iload_n 3, 1) := by decide +kernel
theorem dX6_forgets_43 : decode cX6_forgets 43 = .ok (.iaload, 1) := by decide +kernel
theorem dX6_forgets_44 : decode cX6_forgets 44 = .ok (.invokestatic 100, 3) := by decide +kernel
theorem dX6_forgets_47 : decode cX6_forgets 47 = .ok (.ifCond .ne 9, 3) := by decide +kernel
theorem dX6_forgets_50 : decode cX6_forgets 50 = .ok (.aload_n 0, 1) := by decide +kernel
theorem dX6_forgets_51 : decode cX6_forgets 51 = .ok (.iload_n 1, 1) := by decide +kernel
theorem dX6_forgets_52 : decode cX6_forgets 52 = .ok (.iload_n 3, 1) := by decide +kernel
theorem dX6_forgets_53 : decode cX6_forgets 53 = .ok (.invokevirtual 122, 3) := by decide +kernel
theorem dX6_forgets_56 : decode cX6_forgets 56 = .ok (.iinc 3 1, 3) := by decide +kernel
theorem dX6_forgets_59 : decode cX6_forgets 59 = .ok (.goto (-43), 3) := by decide +kernel
theorem dX6_forgets_62 : decode cX6_forgets 62 = .ok (.iinc 1 1, 3) := by decide +kernel
theorem dX6_forgets_65 : decode cX6_forgets 65 = .ok (.goto (-63), 3) := by decide +kernel
theorem dX6_forgets_68 : decode cX6_forgets 68 = .ok (.return_, 1) := by decide +kernel
theorem dX6_split_0 : decode cX6_split 0 = .ok (.iload_n 1, 1) := by decide +kernel
theorem dX6_split_1 : decode cX6_split 1 = .ok (.invokestatic 139, 3) := by decide +kernel
theorem dX6_split_4 : decode cX6_split 4 = .ok (.ifCond .eq 14, 3) := by decide +kernel
theorem dX6_split_7 : decode cX6_split 7 = .ok (.iload_n 2, 1) := by decide +kernel
theorem dX6_split_8 : decode cX6_split 8 = .ok (.invokestatic 139, 3) := by decide +kernel
theorem dX6_split_11 : decode cX6_split 11 = .ok (.ifCond .eq 7, 3) := by decide +kernel
theorem dX6_split_14 : decode cX6_split 14 = .ok (.iconst 1, 1) := by decide +kernel
theorem dX6_split_15 : decode cX6_split 15 = .ok (.goto 4, 3) := by decide +kernel
theorem dX6_split_18 : decode cX6_split 18 = .ok (.iconst 0, 1) := by decide +kernel
theorem dX6_split_19 : decode cX6_split 19 = .ok (.istore_n 3, 1) := by decide +kernel
theorem dX6_split_20 : decode cX6_split 20 = .ok (.aload_n 0, 1) := by decide +kernel
theorem dX6_split_21 : decode cX6_split 21 = .ok (.iload_n 3, 1) := by decide +kernel
theorem dX6_split_22 : decode cX6_split 22 = .ok (.ifCond .ne 7, 3) := by decide +kernel
theorem dX6_split_25 : decode cX6_split 25 = .ok (.iconst 1, 1) := by decide +kernel
theorem dX6_split_26 : decode cX6_split 26 = .ok (.goto 21, 3) := by decide +kernel
theorem dX6_split_29 : decode cX6_split 29 = .ok (.aload_n 0, 1) := by decide +kernel
theorem dX6_split_30 : decode cX6_split 30 = .ok (.getfield 19, 3) := by decide +kernel
theorem dX6_split_33 : decode cX6_split 33 = .ok (.iload_n 1, 1) := by decide +kernel
theorem dX6_split_34 : decode cX6_split 34 = .ok (.iaload, 1) := by decide +kernel
theorem dX6_split_35 : decode cX6_split 35 = .ok (.iload_n 2, 1) := by decide +kernel
theorem dX6_split_36 : decode cX6_split 36 = .ok (.invokestatic 100, 3) := by decide +kernel
theorem dX6_split_39 : decode cX6_split 39 = .ok (.ifCond .eq 7, 3) := by decide +kernel
theorem dX6_split_42 : decode cX6_split 42 = .ok (.iconst 0, 1) := by decide +kernel
theorem dX6_split_43 : decode cX6_split 43 = .ok (.goto 4, 3) := by decide +kernel
theorem dX6_split_46 : decode cX6_split 46 = .ok (.iconst 2, 1) := by decide +kernel
theorem dX6_split_47 : decode cX6_split 47 = .ok (.invokevirtual 143, 3) := by decide +kernel
theorem dX6_split_50 : decode cX6_split 50 = .ok (.ifCond .ne 5, 3) := by decide +kernel
theorem dX6_split_53 : decode cX6_split 53 = .ok (.iconst 0, 1) := by decide +kernel
theorem dX6_split_54 : decode cX6_split 54 = .ok (.ireturn, 1) := by decide +kernel
theorem dX6_split_55 : decode cX6_split 55 = .ok (.aload_n 0, 1) := by decide +kernel
theorem dX6_split_56 : decode cX6_split 56 = .ok (.getfield 97, 3) := by decide +kernel
theorem dX6_split_59 : decode cX6_split 59 = .ok (.istore 4, 2) := by decide +kernel
theorem dX6_split_61 : decode cX6_split 61 = .ok (.aload_n 0, 1) := by decide +kernel
theorem dX6_split_62 : decode cX6_split 62 = .ok (.getfield 37, 3) := by decide +kernel
theorem dX6_split_65 : decode cX6_split 65 = .ok (.bipush 6, 2) := by decide +kernel
theorem dX6_split_67 : decode cX6_split 67 = .ok (.iload_n 1, 1) := by decide +kernel
theorem dX6_split_68 : decode cX6_split 68 = .ok (.imul, 1) := by decide +kernel
theorem dX6_split_69 : decode cX6_split 69 = .ok (.iload_n 2, 1) := by decide +kernel
theorem dX6_split_70 : decode cX6_split 70 = .ok (.iadd, 1) := by decide +kernel
theorem dX6_split_71 : decode cX6_split 71 = .ok (.iaload, 1) := by decide +kernel
theorem dX6_split_72 : decode cX6_split 72 = .ok (.iconst (-1), 1) := by decide +kernel
theorem dX6_split_73 : decode cX6_split 73 = .ok (.if_icmp .eq 16, 3) := by decide +kernel
theorem dX6_split_76 : decode cX6_split 76 = .ok (.aload_n 0, 1) := by decide +kernel
theorem dX6_split_77 : decode cX6_split 77 = .ok (.bipush 6, 2) := by decide +kernel
theorem dX6_split_79 : decode cX6_split 79 = .ok (.iload_n 1, 1) := by decide +kernel
theorem dX6_split_80 : decode cX6_split 80 = .ok (.imul, 1) := by decide +kernel
theorem dX6_split_81 : decode cX6_split 81 = .ok (.iload_n 2, 1) := by decide +kernel
theorem dX6_split_82 : decode cX6_split 82 = .ok (.iadd, 1) := by decide +kernel
theorem dX6_split_83 : decode cX6_split 83 = .ok (.invokevirtual 152, 3) := by decide +kernel
theorem dX6_split_86 : decode cX6_split 86 = .ok (.goto (-25), 3) := by decide +kernel
theorem dX6_split_89 : decode cX6_split 89 = .ok (.aload_n 0, 1) := by decide +kernel
theorem dX6_split_90 : decode cX6_split 90 = .ok (.getfield 37, 3) := by decide +kernel
theorem dX6_split_93 : decode cX6_split 93 = .ok (.bipush 6, 2) := by decide +kernel
theorem dX6_split_95 : decode cX6_split 95 = .ok (.iload_n 2, 1) := by decide +kernel
theorem dX6_split_96 : decode cX6_split 96 = .ok (.imul, 1) := by decide +kernel
theorem dX6_split_97 : decode cX6_split 97 = .ok (.iload_n 1, 1) := by decide +kernel
theorem dX6_split_98 : decode cX6_split 98 = .ok (.iadd, 1) := by decide +kernel
theorem dX6_split_99 : decode cX6_split 99 = .ok (.iaload, 1) := by decide +kernel
theorem dX6_split_100 : decode cX6_split 100 = .ok (.iconst (-1), 1) := by decide +kernel
theorem dX6_split_101 : decode cX6_split 101 = .ok (.if_icmp .eq 16, 3) := by decide +kernel
theorem dX6_split_104 : decode cX6_split 104 = .ok (.aload_n 0, 1) := by decide +kernel
theorem dX6_split_105 : decode cX6_split 105 = .ok (.bipush 6, 2) := by decide +kernel
theorem dX6_split_107 : decode cX6_split 107 = .ok (.iload_n 2, 1) := by decide +kernel
theorem dX6_split_108 : decode cX6_split 108 = .ok (.imul, 1) := by decide +kernel
theorem dX6_split_109 : decode cX6_split 109 = .ok (.iload_n 1, 1) := by decide +kernel
theorem dX6_split_110 : decode cX6_split 110 = .ok (.iadd, 1) := by decide +kernel
theorem dX6_split_111 : decode cX6_split 111 = .ok (.invokevirtual 152, 3) := by decide +kernel
theorem dX6_split_114 : decode cX6_split 114 = .ok (.goto (-25), 3) := by decide +kernel
theorem dX6_split_117 : decode cX6_split 117 = .ok (.aload_n 0, 1) := by decide +kernel
theorem dX6_split_118 : decode cX6_split 118 = .ok (.getfield 19, 3) := by decide +kernel
theorem dX6_split_121 : decode cX6_split 121 = .ok (.iload_n 1, 1) := by decide +kernel
theorem dX6_split_122 : decode cX6_split 122 = .ok (.dup2, 1) := by decide +kernel
theorem dX6_split_123 : decode cX6_split 123 = .ok (.iaload, 1) := by decide +kernel
theorem dX6_split_124 : decode cX6_split 124 = .ok (.iconst 1, 1) := by decide +kernel
theorem dX6_split_125 : decode cX6_split 125 = .ok (.iload_n 2, 1) := by decide +kernel
theorem dX6_split_126 : decode cX6_split 126 = .ok (.ishl, 1) := by decide +kernel
theorem dX6_split_127 : decode cX6_split 127 = .ok (.iconst (-1), 1) := by decide +kernel
theorem dX6_split_128 : decode cX6_split 128 = .ok (.ixor, 1) := by decide +kernel
theorem dX6_split_129 : decode cX6_split 129 = .ok (.iand, 1) := by decide +kernel
theorem dX6_split_130 : decode cX6_split 130 = .ok (.iastore, 1) := by decide +kernel
theorem dX6_split_131 : decode cX6_split 131 = .ok (.aload_n 0, 1) := by decide +kernel
theorem dX6_split_132 : decode cX6_split 132 = .ok (.getfield 19, 3) := by decide +kernel
theorem dX6_split_135 : decode cX6_split 135 = .ok (.iload_n 2, 1) := by decide +kernel
theorem dX6_split_136 : decode cX6_split 136 = .ok (.dup2, 1) := by decide +kernel
theorem dX6_split_137 : decode cX6_split 137 = .ok (.iaload, 1) := by decide +kernel
theorem dX6_split_138 : decode cX6_split 138 = .ok (.iconst 1, 1) := by decide +kernel
theorem dX6_split_139 : decode cX6_split 139 = .ok (.iload_n 1, 1) := by decide +kernel
theorem dX6_split_140 : decode cX6_split 140 = .ok (.ishl, 1) := by decide +kernel
theorem dX6_split_141 : decode cX6_split 141 = .ok (.iconst (-1), 1) := by decide +kernel
theorem dX6_split_142 : decode cX6_split 142 = .ok (.ixor, 1) := by decide +kernel
theorem dX6_split_143 : decode cX6_split 143 = .ok (.iand, 1) := by decide +kernel
theorem dX6_split_144 : decode cX6_split 144 = .ok (.iastore, 1) := by decide +kernel
theorem dX6_split_145 : decode cX6_split 145 = .ok (.aload_n 0, 1) := by decide +kernel
theorem dX6_split_146 : decode cX6_split 146 = .ok (.invokevirtual 155, 3) := by decide +kernel
theorem dX6_split_149 : decode cX6_split 149 = .ok (.aload_n 0, 1) := by decide +kernel
theorem dX6_split_150 : decode cX6_split 150 = .ok (.dup, 1) := by decide +kernel
theorem dX6_split_151 : decode cX6_split 151 = .ok (.getfield 149, 3) := by decide +kernel
theorem dX6_split_154 : decode cX6_split 154 = .ok (.iconst 1, 1) := by decide +kernel
theorem dX6_split_155 : decode cX6_split 155 = .ok (.iadd, 1) := by decide +kernel
theorem dX6_split_156 : decode cX6_split 156 = .ok (.putfield 149, 3) := by decide +kernel
theorem dX6_split_159 : decode cX6_split 159 = .ok (.iload 4, 2) := by decide +kernel
theorem dX6_split_161 : decode cX6_split 161 = .ok (.aload_n 0, 1) := by decide +kernel
theorem dX6_split_162 : decode cX6_split 162 = .ok (.getfield 97, 3) := by decide +kernel
theorem dX6_split_165 : decode cX6_split 165 = .ok (.isub, 1) := by decide +kernel
theorem dX6_split_166 : decode cX6_split 166 = .ok (.ireturn, 1) := by decide +kernel
theorem dX6_isLine_0 : decode cX6_isLine 0 = .ok (.aload_n 0, 1) := by decide +kernel
theorem dX6_isLine_1 : decode cX6_isLine 1 = .ok (.getfield 19, 3) := by decide +kernel
theorem dX6_isLine_4 : decode cX6_isLine 4 = .ok (.iload_n 1, 1) := by decide +kernel
theorem dX6_isLine_5 : decode cX6_isLine 5 = .ok (.iaload, 1) := by decide +kernel
theorem dX6_isLine_6 : decode cX6_isLine 6 = .ok (.iload_n 2, 1) := by decide +kernel
theorem dX6_isLine_7 : decode cX6_isLine 7 = .ok (.invokestatic 100, 3) := by decide +kernel
theorem dX6_isLine_10 : decode cX6_isLine 10 = .ok (.ifCond .eq 22, 3) := by decide +kernel
theorem dX6_isLine_13 : decode cX6_isLine 13 = .ok (.aload_n 0, 1) := by decide +kernel
theorem dX6_isLine_14 : decode cX6_isLine 14 = .ok (.getfield 37, 3) := by decide +kernel
theorem dX6_isLine_17 : decode cX6_isLine 17 = .ok (.bipush 6, 2) := by decide +kernel
theorem dX6_isLine_19 : decode cX6_isLine 19 = .ok (.iload_n 1, 1) := by decide +kernel
theorem dX6_isLine_20 : decode cX6_isLine 20 = .ok (.imul, 1) := by decide +kernel
theorem dX6_isLine_21 : decode cX6_isLine 21 = .ok (.iload_n 2, 1) := by decide +kernel
theorem dX6_isLine_22 : decode cX6_isLine 22 = .ok (.iadd, 1) := by decide +kernel
theorem dX6_isLine_23 : decode cX6_isLine 23 = .ok (.iaload, 1) := by decide +kernel
theorem dX6_isLine_24 : decode cX6_isLine 24 = .ok (.iconst (-1), 1) := by decide +kernel
theorem dX6_isLine_25 : decode cX6_isLine 25 = .ok (.if_icmp .eq 7, 3) := by decide +kernel
theorem dX6_isLine_28 : decode cX6_isLine 28 = .ok (.iconst 1, 1) := by decide +kernel
theorem dX6_isLine_29 : decode cX6_isLine 29 = .ok (.goto 4, 3) := by decide +kernel
theorem dX6_isLine_32 : decode cX6_isLine 32 = .ok (.iconst 0, 1) := by decide +kernel
theorem dX6_isLine_33 : decode cX6_isLine 33 = .ok (.ireturn, 1) := by decide +kernel
theorem dX6_delivers_0 : decode cX6_delivers 0 = .ok (.aload_n 0, 1) := by decide +kernel
theorem dX6_delivers_1 : decode cX6_delivers 1 = .ok (.bipush 6, 2) := by decide +kernel
theorem dX6_delivers_3 : decode cX6_delivers 3 = .ok (.iload_n 1, 1) := by decide +kernel
theorem dX6_delivers_4 : decode cX6_delivers 4 = .ok (.imul, 1) := by decide +kernel
theorem dX6_delivers_5 : decode cX6_delivers 5 = .ok (.iload_n 2, 1) := by decide +kernel
theorem dX6_delivers_6 : decode cX6_delivers 6 = .ok (.iadd, 1) := by decide +kernel
theorem dX6_delivers_7 : decode cX6_delivers 7 = .ok (.invokevirtual 152, 3) := by decide +kernel
theorem dX6_delivers_10 : decode cX6_delivers 10 = .ok (.aload_n 0, 1) := by decide +kernel
theorem dX6_delivers_11 : decode cX6_delivers 11 = .ok (.iload_n 2, 1) := by decide +kernel
theorem dX6_delivers_12 : decode cX6_delivers 12 = .ok (.iload_n 1, 1) := by decide +kernel
theorem dX6_delivers_13 : decode cX6_delivers 13 = .ok (.invokevirtual 158, 3) := by decide +kernel
theorem dX6_delivers_16 : decode cX6_delivers 16 = .ok (.return_, 1) := by decide +kernel
theorem dX6_deliver_0 : decode cX6_deliver 0 = .ok (.iload_n 1, 1) := by decide +kernel
theorem dX6_deliver_1 : decode cX6_deliver 1 = .ok (.invokestatic 139, 3) := by decide +kernel
theorem dX6_deliver_4 : decode cX6_deliver 4 = .ok (.ifCond .eq 14, 3) := by decide +kernel
theorem dX6_deliver_7 : decode cX6_deliver 7 = .ok (.iload_n 2, 1) := by decide +kernel
theorem dX6_deliver_8 : decode cX6_deliver 8 = .ok (.invokestatic 139, 3) := by decide +kernel
theorem dX6_deliver_11 : decode cX6_deliver 11 = .ok (.ifCond .eq 7, 3) := by decide +kernel
theorem dX6_deliver_14 : decode cX6_deliver 14 = .ok (.iconst 1, 1) := by decide +kernel
theorem dX6_deliver_15 : decode cX6_deliver 15 = .ok (.goto 4, 3) := by decide +kernel
theorem dX6_deliver_18 : decode cX6_deliver 18 = .ok (.iconst 0, 1) := by decide +kernel
theorem dX6_deliver_19 : decode cX6_deliver 19 = .ok (.istore_n 3, 1) := by decide +kernel
theorem dX6_deliver_20 : decode cX6_deliver 20 = .ok (.aload_n 0, 1) := by decide +kernel
theorem dX6_deliver_21 : decode cX6_deliver 21 = .ok (.iload_n 3, 1) := by decide +kernel
theorem dX6_deliver_22 : decode cX6_deliver 22 = .ok (.ifCond .ne 7, 3) := by decide +kernel
theorem dX6_deliver_25 : decode cX6_deliver 25 = .ok (.iconst 1, 1) := by decide +kernel
theorem dX6_deliver_26 : decode cX6_deliver 26 = .ok (.goto 17, 3) := by decide +kernel
theorem dX6_deliver_29 : decode cX6_deliver 29 = .ok (.aload_n 0, 1) := by decide +kernel
theorem dX6_deliver_30 : decode cX6_deliver 30 = .ok (.iload_n 1, 1) := by decide +kernel
theorem dX6_deliver_31 : decode cX6_deliver 31 = .ok (.iload_n 2, 1) := by decide +kernel
theorem dX6_deliver_32 : decode cX6_deliver 32 = .ok (.invokevirtual 161, 3) := by decide +kernel
theorem dX6_deliver_35 : decode cX6_deliver 35 = .ok (.ifCond .eq 7, 3) := by decide +kernel
theorem dX6_deliver_38 : decode cX6_deliver 38 = .ok (.iconst 0, 1) := by decide +kernel
theorem dX6_deliver_39 : decode cX6_deliver 39 = .ok (.goto 4, 3) := by decide +kernel
theorem dX6_deliver_42 : decode cX6_deliver 42 = .ok (.iconst 2, 1) := by decide +kernel
theorem dX6_deliver_43 : decode cX6_deliver 43 = .ok (.invokevirtual 143, 3) := by decide +kernel
theorem dX6_deliver_46 : decode cX6_deliver 46 = .ok (.ifCond .ne 5, 3) := by decide +kernel
theorem dX6_deliver_49 : decode cX6_deliver 49 = .ok (.iconst 0, 1) := by decide +kernel
theorem dX6_deliver_50 : decode cX6_deliver 50 = .ok (.ireturn, 1) := by decide +kernel
theorem dX6_deliver_51 : decode cX6_deliver 51 = .ok (.aload_n 0, 1) := by decide +kernel
theorem dX6_deliver_52 : decode cX6_deliver 52 = .ok (.iload_n 1, 1) := by decide +kernel
theorem dX6_deliver_53 : decode cX6_deliver 53 = .ok (.iload_n 2, 1) := by decide +kernel
theorem dX6_deliver_54 : decode cX6_deliver 54 = .ok (.invokevirtual 164, 3) := by decide +kernel
theorem dX6_deliver_57 : decode cX6_deliver 57 = .ok (.aload_n 0, 1) := by decide +kernel
theorem dX6_deliver_58 : decode cX6_deliver 58 = .ok (.dup, 1) := by decide +kernel
theorem dX6_deliver_59 : decode cX6_deliver 59 = .ok (.getfield 149, 3) := by decide +kernel
theorem dX6_deliver_62 : decode cX6_deliver 62 = .ok (.iconst 1, 1) := by decide +kernel
theorem dX6_deliver_63 : decode cX6_deliver 63 = .ok (.iadd, 1) := by decide +kernel
theorem dX6_deliver_64 : decode cX6_deliver 64 = .ok (.putfield 149, 3) := by decide +kernel
theorem dX6_deliver_67 : decode cX6_deliver 67 = .ok (.aload_n 0, 1) := by decide +kernel
theorem dX6_deliver_68 : decode cX6_deliver 68 = .ok (.getfield 97, 3) := by decide +kernel
theorem dX6_deliver_71 : decode cX6_deliver 71 = .ok (.ireturn, 1) := by decide +kernel
theorem dX6_deliverAll_0 : decode cX6_deliverAll 0 = .ok (.aload_n 0, 1) := by decide +kernel
theorem dX6_deliverAll_1 : decode cX6_deliverAll 1 = .ok (.iconst 0, 1) := by decide +kernel
theorem dX6_deliverAll_2 : decode cX6_deliverAll 2 = .ok (.putfield 64, 3) := by decide +kernel
theorem dX6_deliverAll_5 : decode cX6_deliverAll 5 = .ok (.iconst 0, 1) := by decide +kernel
theorem dX6_deliverAll_6 : decode cX6_deliverAll 6 = .ok (.istore_n 1, 1) := by decide +kernel
theorem dX6_deliverAll_7 : decode cX6_deliverAll 7 = .ok (.aload_n 0, 1) := by decide +kernel
theorem dX6_deliverAll_8 : decode cX6_deliverAll 8 = .ok (.getfield 97, 3) := by decide +kernel
theorem dX6_deliverAll_11 : decode cX6_deliverAll 11 = .ok (.ifCond .le 50, 3) := by decide +kernel
theorem dX6_deliverAll_14 : decode cX6_deliverAll 14 = .ok (.iconst 0, 1) := by decide +kernel
theorem dX6_deliverAll_15 : decode cX6_deliverAll 15 = .ok (.istore_n 2, 1) := by decide +kernel
theorem dX6_deliverAll_16 : decode cX6_deliverAll 16 = .ok (.iload_n 2, 1) := by decide +kernel
theorem dX6_deliverAll_17 : decode cX6_deliverAll 17 = .ok (.bipush 36, 2) := by decide +kernel
theorem dX6_deliverAll_19 : decode cX6_deliverAll 19 = .ok (.if_icmp .ge 39, 3) := by decide +kernel
theorem dX6_deliverAll_22 : decode cX6_deliverAll 22 = .ok (.aload_n 0, 1) := by decide +kernel
theorem dX6_deliverAll_23 : decode cX6_deliverAll 23 = .ok (.iload_n 2, 1) := by decide +kernel
theorem dX6_deliverAll_24 : decode cX6_deliverAll 24 = .ok (.bipush 6, 2) := by decide +kernel
theorem dX6_deliverAll_26 : decode cX6_deliverAll 26 = .ok (.idiv, 1) := by decide +kernel
theorem dX6_deliverAll_27 : decode cX6_deliverAll 27 = .ok (.iload_n 2, 1) := by decide +kernel
theorem dX6_deliverAll_28 : decode cX6_deliverAll 28 = .ok (.bipush 6, 2) := by decide +kernel
theorem dX6_deliverAll_30 : decode cX6_deliverAll 30 = .ok (.irem, 1) := by decide +kernel
theorem dX6_deliverAll_31 : decode cX6_deliverAll 31 = .ok (.invokevirtual 161, 3) := by decide +kernel
theorem dX6_deliverAll_34 : decode cX6_deliverAll 34 = .ok (.ifCond .eq 18, 3) := by decide +kernel
theorem dX6_deliverAll_37 : decode cX6_deliverAll 37 = .ok (.aload_n 0, 1) := by decide +kernel
theorem dX6_deliverAll_38 : decode cX6_deliverAll 38 = .ok (.iload_n 2, 1) := by decide +kernel
theorem dX6_deliverAll_39 : decode cX6_deliverAll 39 = .ok (.bipush 6, 2) := by decide +kernel
theorem dX6_deliverAll_41 : decode cX6_deliverAll 41 = .ok (.idiv, 1) := by decide +kernel
theorem dX6_deliverAll_42 : decode cX6_deliverAll 42 = .ok (.iload_n 2, 1) := by decide +kernel
theorem dX6_deliverAll_43 : decode cX6_deliverAll 43 = .ok (.bipush 6, 2) := by decide +kernel
theorem dX6_deliverAll_45 : decode cX6_deliverAll 45 = .ok (.irem, 1) := by decide +kernel
theorem dX6_deliverAll_46 : decode cX6_deliverAll 46 = .ok (.invokevirtual 164, 3) := by decide +kernel
theorem dX6_deliverAll_49 : decode cX6_deliverAll 49 = .ok (.iinc 1 1, 3) := by decide +kernel
theorem dX6_deliverAll_52 : decode cX6_deliverAll 52 = .ok (.iinc 2 1, 3) := by decide +kernel
theorem dX6_deliverAll_55 : decode cX6_deliverAll 55 = .ok (.goto (-39), 3) := by decide +kernel
theorem dX6_deliverAll_58 : decode cX6_deliverAll 58 = .ok (.goto (-51), 3) := by decide +kernel
theorem dX6_deliverAll_61 : decode cX6_deliverAll 61 = .ok (.aload_n 0, 1) := by decide +kernel
theorem dX6_deliverAll_62 : decode cX6_deliverAll 62 = .ok (.dup, 1) := by decide +kernel
theorem dX6_deliverAll_63 : decode cX6_deliverAll 63 = .ok (.getfield 149, 3) := by decide +kernel
theorem dX6_deliverAll_66 : decode cX6_deliverAll 66 = .ok (.iconst 1, 1) := by decide +kernel
theorem dX6_deliverAll_67 : decode cX6_deliverAll 67 = .ok (.iadd, 1) := by decide +kernel
theorem dX6_deliverAll_68 : decode cX6_deliverAll 68 = .ok (.putfield 149, 3) := by decide +kernel
theorem dX6_deliverAll_71 : decode cX6_deliverAll 71 = .ok (.iload_n 1, 1) := by decide +kernel
theorem dX6_deliverAll_72 : decode cX6_deliverAll 72 = .ok (.ireturn, 1) := by decide +kernel
theorem dX6_lines_0 : decode cX6_lines 0 = .ok (.aload_n 0, 1) := by decide +kernel
theorem dX6_lines_1 : decode cX6_lines 1 = .ok (.iconst 0, 1) := by decide +kernel
theorem dX6_lines_2 : decode cX6_lines 2 = .ok (.putfield 64, 3) := by decide +kernel
theorem dX6_lines_5 : decode cX6_lines 5 = .ok (.aload_n 0, 1) := by decide +kernel
theorem dX6_lines_6 : decode cX6_lines 6 = .ok (.getfield 97, 3) := by decide +kernel
theorem dX6_lines_9 : decode cX6_lines 9 = .ok (.ireturn, 1) := by decide +kernel
theorem dX6_tree_0 : decode cX6_tree 0 = .ok (.aload_n 0, 1) := by decide +kernel
theorem dX6_tree_1 : decode cX6_tree 1 = .ok (.iload_n 1, 1) := by decide +kernel
theorem dX6_tree_2 : decode cX6_tree 2 = .ok (.invokestatic 139, 3) := by decide +kernel
theorem dX6_tree_5 : decode cX6_tree 5 = .ok (.ifCond .eq 7, 3) := by decide +kernel
theorem dX6_tree_8 : decode cX6_tree 8 = .ok (.iconst 0, 1) := by decide +kernel
theorem dX6_tree_9 : decode cX6_tree 9 = .ok (.goto 4, 3) := by decide +kernel
theorem dX6_tree_12 : decode cX6_tree 12 = .ok (.iconst 1, 1) := by decide +kernel
theorem dX6_tree_13 : decode cX6_tree 13 = .ok (.invokevirtual 143, 3) := by decide +kernel
theorem dX6_tree_16 : decode cX6_tree 16 = .ok (.ifCond .eq 11, 3) := by decide +kernel
theorem dX6_tree_19 : decode cX6_tree 19 = .ok (.aload_n 0, 1) := by decide +kernel
theorem dX6_tree_20 : decode cX6_tree 20 = .ok (.iload_n 1, 1) := by decide +kernel
theorem dX6_tree_21 : decode cX6_tree 21 = .ok (.invokevirtual 114, 3) := by decide +kernel
theorem dX6_tree_24 : decode cX6_tree 24 = .ok (.goto 4, 3) := by decide +kernel
theorem dX6_tree_27 : decode cX6_tree 27 = .ok (.iconst 0, 1) := by decide +kernel
theorem dX6_tree_28 : decode cX6_tree 28 = .ok (.ireturn, 1) := by decide +kernel
theorem dX6_letter_0 : decode cX6_letter 0 = .ok (.iload_n 0, 1) := by decide +kernel
theorem dX6_letter_1 : decode cX6_letter 1 = .ok (.bipush 97, 2) := by decide +kernel
theorem dX6_letter_3 : decode cX6_letter 3 = .ok (.if_icmp .lt 16, 3) := by decide +kernel
theorem dX6_letter_6 : decode cX6_letter 6 = .ok (.iload_n 0, 1) := by decide +kernel
theorem dX6_letter_7 : decode cX6_letter 7 = .ok (.bipush 122, 2) := by decide +kernel
theorem dX6_letter_9 : decode cX6_letter 9 = .ok (.if_icmp .gt 10, 3) := by decide +kernel
theorem dX6_letter_12 : decode cX6_letter 12 = .ok (.iload_n 0, 1) := by decide +kernel
theorem dX6_letter_13 : decode cX6_letter 13 = .ok (.bipush 97, 2) := by decide +kernel
theorem dX6_letter_15 : decode cX6_letter 15 = .ok (.isub, 1) := by decide +kernel
theorem dX6_letter_16 : decode cX6_letter 16 = .ok (.goto 23, 3) := by decide +kernel
theorem dX6_letter_19 : decode cX6_letter 19 = .ok (.iload_n 0, 1) := by decide +kernel
theorem dX6_letter_20 : decode cX6_letter 20 = .ok (.bipush 65, 2) := by decide +kernel
theorem dX6_letter_22 : decode cX6_letter 22 = .ok (.if_icmp .lt 16, 3) := by decide +kernel
theorem dX6_letter_25 : decode cX6_letter 25 = .ok (.iload_n 0, 1) := by decide +kernel
theorem dX6_letter_26 : decode cX6_letter 26 = .ok (.bipush 90, 2) := by decide +kernel
theorem dX6_letter_28 : decode cX6_letter 28 = .ok (.if_icmp .gt 10, 3) := by decide +kernel
theorem dX6_letter_31 : decode cX6_letter 31 = .ok (.iload_n 0, 1) := by decide +kernel
theorem dX6_letter_32 : decode cX6_letter 32 = .ok (.bipush 65, 2) := by decide +kernel
theorem dX6_letter_34 : decode cX6_letter 34 = .ok (.isub, 1) := by decide +kernel
theorem dX6_letter_35 : decode cX6_letter 35 = .ok (.goto 4, 3) := by decide +kernel
theorem dX6_letter_38 : decode cX6_letter 38 = .ok (.iconst (-1), 1) := by decide +kernel
theorem dX6_letter_39 : decode cX6_letter 39 = .ok (.ireturn, 1) := by decide +kernel
theorem dX6_signOn_0 : decode cX6_signOn 0 = .ok (.iload_n 1, 1) := by decide +kernel
theorem dX6_signOn_1 : decode cX6_signOn 1 = .ok (.invokestatic 139, 3) := by decide +kernel
theorem dX6_signOn_4 : decode cX6_signOn 4 = .ok (.istore_n 3, 1) := by decide +kernel
theorem dX6_signOn_5 : decode cX6_signOn 5 = .ok (.iload_n 2, 1) := by decide +kernel
theorem dX6_signOn_6 : decode cX6_signOn 6 = .ok (.invokestatic 167, 3) := by decide +kernel
theorem dX6_signOn_9 : decode cX6_signOn 9 = .ok (.istore 4, 2) := by decide +kernel
theorem dX6_signOn_11 : decode cX6_signOn 11 = .ok (.aload_n 0, 1) := by decide +kernel
theorem dX6_signOn_12 : decode cX6_signOn 12 = .ok (.iload_n 3, 1) := by decide +kernel
theorem dX6_signOn_13 : decode cX6_signOn 13 = .ok (.ifCond .ne 7, 3) := by decide +kernel
theorem dX6_signOn_16 : decode cX6_signOn 16 = .ok (.iconst 1, 1) := by decide +kernel
theorem dX6_signOn_17 : decode cX6_signOn 17 = .ok (.goto 39, 3) := by decide +kernel
theorem dX6_signOn_20 : decode cX6_signOn 20 = .ok (.iload 4, 2) := by decide +kernel
theorem dX6_signOn_22 : decode cX6_signOn 22 = .ok (.iconst (-1), 1) := by decide +kernel
theorem dX6_signOn_23 : decode cX6_signOn 23 = .ok (.if_icmp .ne 7, 3) := by decide +kernel
theorem dX6_signOn_26 : decode cX6_signOn 26 = .ok (.iconst 2, 1) := by decide +kernel
theorem dX6_signOn_27 : decode cX6_signOn 27 = .ok (.goto 29, 3) := by decide +kernel
theorem dX6_signOn_30 : decode cX6_signOn 30 = .ok (.aload_n 0, 1) := by decide +kernel
theorem dX6_signOn_31 : decode cX6_signOn 31 = .ok (.getfield 111, 3) := by decide +kernel
theorem dX6_signOn_34 : decode cX6_signOn 34 = .ok (.bipush 20, 2) := by decide +kernel
theorem dX6_signOn_36 : decode cX6_signOn 36 = .ok (.if_icmp .eq 15, 3) := by decide +kernel
theorem dX6_signOn_39 : decode cX6_signOn 39 = .ok (.aload_n 0, 1) := by decide +kernel
theorem dX6_signOn_40 : decode cX6_signOn 40 = .ok (.iload_n 1, 1) := by decide +kernel
theorem dX6_signOn_41 : decode cX6_signOn 41 = .ok (.iload 4, 2) := by decide +kernel
theorem dX6_signOn_43 : decode cX6_signOn 43 = .ok (.iconst (-1), 1) := by decide +kernel
theorem dX6_signOn_44 : decode cX6_signOn 44 = .ok (.invokevirtual 118, 3) := by decide +kernel
theorem dX6_signOn_47 : decode cX6_signOn 47 = .ok (.iconst (-1), 1) := by decide +kernel
theorem dX6_signOn_48 : decode cX6_signOn 48 = .ok (.if_icmp .eq 7, 3) := by decide +kernel
theorem dX6_signOn_51 : decode cX6_signOn 51 = .ok (.iconst 3, 1) := by decide +kernel
theorem dX6_signOn_52 : decode cX6_signOn 52 = .ok (.goto 4, 3) := by decide +kernel
theorem dX6_signOn_55 : decode cX6_signOn 55 = .ok (.iconst 0, 1) := by decide +kernel
theorem dX6_signOn_56 : decode cX6_signOn 56 = .ok (.invokevirtual 143, 3) := by decide +kernel
theorem dX6_signOn_59 : decode cX6_signOn 59 = .ok (.ifCond .ne 5, 3) := by decide +kernel
theorem dX6_signOn_62 : decode cX6_signOn 62 = .ok (.iconst 0, 1) := by decide +kernel
theorem dX6_signOn_63 : decode cX6_signOn 63 = .ok (.ireturn, 1) := by decide +kernel
theorem dX6_signOn_64 : decode cX6_signOn 64 = .ok (.aload_n 0, 1) := by decide +kernel
theorem dX6_signOn_65 : decode cX6_signOn 65 = .ok (.getfield 111, 3) := by decide +kernel
theorem dX6_signOn_68 : decode cX6_signOn 68 = .ok (.istore 5, 2) := by decide +kernel
theorem dX6_signOn_70 : decode cX6_signOn 70 = .ok (.aload_n 0, 1) := by decide +kernel
theorem dX6_signOn_71 : decode cX6_signOn 71 = .ok (.dup, 1) := by decide +kernel
theorem dX6_signOn_72 : decode cX6_signOn 72 = .ok (.getfield 111, 3) := by decide +kernel
theorem dX6_signOn_75 : decode cX6_signOn 75 = .ok (.iconst 1, 1) := by decide +kernel
theorem dX6_signOn_76 : decode cX6_signOn 76 = .ok (.iadd, 1) := by decide +kernel
theorem dX6_signOn_77 : decode cX6_signOn 77 = .ok (.putfield 111, 3) := by decide +kernel
theorem dX6_signOn_80 : decode cX6_signOn 80 = .ok (.aload_n 0, 1) := by decide +kernel
theorem dX6_signOn_81 : decode cX6_signOn 81 = .ok (.getfield 7, 3) := by decide +kernel
theorem dX6_signOn_84 : decode cX6_signOn 84 = .ok (.iload 5, 2) := by decide +kernel
theorem dX6_signOn_86 : decode cX6_signOn 86 = .ok (.iload 4, 2) := by decide +kernel
theorem dX6_signOn_88 : decode cX6_signOn 88 = .ok (.iastore, 1) := by decide +kernel
theorem dX6_signOn_89 : decode cX6_signOn 89 = .ok (.aload_n 0, 1) := by decide +kernel
theorem dX6_signOn_90 : decode cX6_signOn 90 = .ok (.getfield 13, 3) := by decide +kernel
theorem dX6_signOn_93 : decode cX6_signOn 93 = .ok (.iload 5, 2) := by decide +kernel
theorem dX6_signOn_95 : decode cX6_signOn 95 = .ok (.iload_n 1, 1) := by decide +kernel
theorem dX6_signOn_96 : decode cX6_signOn 96 = .ok (.iastore, 1) := by decide +kernel
theorem dX6_signOn_97 : decode cX6_signOn 97 = .ok (.aload_n 0, 1) := by decide +kernel
theorem dX6_signOn_98 : decode cX6_signOn 98 = .ok (.getfield 16, 3) := by decide +kernel
theorem dX6_signOn_101 : decode cX6_signOn 101 = .ok (.iload 5, 2) := by decide +kernel
theorem dX6_signOn_103 : decode cX6_signOn 103 = .ok (.aload_n 0, 1) := by decide +kernel
theorem dX6_signOn_104 : decode cX6_signOn 104 = .ok (.getfield 149, 3) := by decide +kernel
theorem dX6_signOn_107 : decode cX6_signOn 107 = .ok (.iastore, 1) := by decide +kernel
theorem dX6_signOn_108 : decode cX6_signOn 108 = .ok (.aload_n 0, 1) := by decide +kernel
theorem dX6_signOn_109 : decode cX6_signOn 109 = .ok (.getfield 22, 3) := by decide +kernel
theorem dX6_signOn_112 : decode cX6_signOn 112 = .ok (.iload_n 1, 1) := by decide +kernel
theorem dX6_signOn_113 : decode cX6_signOn 113 = .ok (.dup2, 1) := by decide +kernel
theorem dX6_signOn_114 : decode cX6_signOn 114 = .ok (.iaload, 1) := by decide +kernel
theorem dX6_signOn_115 : decode cX6_signOn 115 = .ok (.iconst 1, 1) := by decide +kernel
theorem dX6_signOn_116 : decode cX6_signOn 116 = .ok (.iload 5, 2) := by decide +kernel
theorem dX6_signOn_118 : decode cX6_signOn 118 = .ok (.ishl, 1) := by decide +kernel
theorem dX6_signOn_119 : decode cX6_signOn 119 = .ok (.ior, 1) := by decide +kernel
theorem dX6_signOn_120 : decode cX6_signOn 120 = .ok (.iastore, 1) := by decide +kernel
theorem dX6_signOn_121 : decode cX6_signOn 121 = .ok (.aload_n 0, 1) := by decide +kernel
theorem dX6_signOn_122 : decode cX6_signOn 122 = .ok (.iconst 0, 1) := by decide +kernel
theorem dX6_signOn_123 : decode cX6_signOn 123 = .ok (.iload 5, 2) := by decide +kernel
theorem dX6_signOn_125 : decode cX6_signOn 125 = .ok (.iconst 0, 1) := by decide +kernel
theorem dX6_signOn_126 : decode cX6_signOn 126 = .ok (.invokevirtual 77, 3) := by decide +kernel
theorem dX6_signOn_129 : decode cX6_signOn 129 = .ok (.aload_n 0, 1) := by decide +kernel
theorem dX6_signOn_130 : decode cX6_signOn 130 = .ok (.iload_n 1, 1) := by decide +kernel
theorem dX6_signOn_131 : decode cX6_signOn 131 = .ok (.iconst (-1), 1) := by decide +kernel
theorem dX6_signOn_132 : decode cX6_signOn 132 = .ok (.invokevirtual 125, 3) := by decide +kernel
theorem dX6_signOn_135 : decode cX6_signOn 135 = .ok (.aload_n 0, 1) := by decide +kernel
theorem dX6_signOn_136 : decode cX6_signOn 136 = .ok (.dup, 1) := by decide +kernel
theorem dX6_signOn_137 : decode cX6_signOn 137 = .ok (.getfield 149, 3) := by decide +kernel
theorem dX6_signOn_140 : decode cX6_signOn 140 = .ok (.iconst 1, 1) := by decide +kernel
theorem dX6_signOn_141 : decode cX6_signOn 141 = .ok (.iadd, 1) := by decide +kernel
theorem dX6_signOn_142 : decode cX6_signOn 142 = .ok (.putfield 149, 3) := by decide +kernel
theorem dX6_signOn_145 : decode cX6_signOn 145 = .ok (.iload 5, 2) := by decide +kernel
theorem dX6_signOn_147 : decode cX6_signOn 147 = .ok (.ireturn, 1) := by decide +kernel
theorem dX6_isUser_0 : decode cX6_isUser 0 = .ok (.iload_n 1, 1) := by decide +kernel
theorem dX6_isUser_1 : decode cX6_isUser 1 = .ok (.ifCond .lt 15, 3) := by decide +kernel
theorem dX6_isUser_4 : decode cX6_isUser 4 = .ok (.iload_n 1, 1) := by decide +kernel
theorem dX6_isUser_5 : decode cX6_isUser 5 = .ok (.aload_n 0, 1) := by decide +kernel
theorem dX6_isUser_6 : decode cX6_isUser 6 = .ok (.getfield 111, 3) := by decide +kernel
theorem dX6_isUser_9 : decode cX6_isUser 9 = .ok (.if_icmp .ge 7, 3) := by decide +kernel
theorem dX6_isUser_12 : decode cX6_isUser 12 = .ok (.iconst 1, 1) := by decide +kernel
theorem dX6_isUser_13 : decode cX6_isUser 13 = .ok (.goto 4, 3) := by decide +kernel
theorem dX6_isUser_16 : decode cX6_isUser 16 = .ok (.iconst 0, 1) := by decide +kernel
theorem dX6_isUser_17 : decode cX6_isUser 17 = .ok (.ireturn, 1) := by decide +kernel
theorem dX6_isGone_0 : decode cX6_isGone 0 = .ok (.aload_n 0, 1) := by decide +kernel
theorem dX6_isGone_1 : decode cX6_isGone 1 = .ok (.getfield 22, 3) := by decide +kernel
theorem dX6_isGone_4 : decode cX6_isGone 4 = .ok (.aload_n 0, 1) := by decide +kernel
theorem dX6_isGone_5 : decode cX6_isGone 5 = .ok (.getfield 13, 3) := by decide +kernel
theorem dX6_isGone_8 : decode cX6_isGone 8 = .ok (.iload_n 1, 1) := by decide +kernel
theorem dX6_isGone_9 : decode cX6_isGone 9 = .ok (.iaload, 1) := by decide +kernel
theorem dX6_isGone_10 : decode cX6_isGone 10 = .ok (.iaload, 1) := by decide +kernel
theorem dX6_isGone_11 : decode cX6_isGone 11 = .ok (.iload_n 1, 1) := by decide +kernel
theorem dX6_isGone_12 : decode cX6_isGone 12 = .ok (.invokestatic 100, 3) := by decide +kernel
theorem dX6_isGone_15 : decode cX6_isGone 15 = .ok (.ifCond .ne 7, 3) := by decide +kernel
theorem dX6_isGone_18 : decode cX6_isGone 18 = .ok (.iconst 1, 1) := by decide +kernel
theorem dX6_isGone_19 : decode cX6_isGone 19 = .ok (.goto 4, 3) := by decide +kernel
theorem dX6_isGone_22 : decode cX6_isGone 22 = .ok (.iconst 0, 1) := by decide +kernel
theorem dX6_isGone_23 : decode cX6_isGone 23 = .ok (.ireturn, 1) := by decide +kernel
theorem dX6_isMember_0 : decode cX6_isMember 0 = .ok (.aload_n 0, 1) := by decide +kernel
theorem dX6_isMember_1 : decode cX6_isMember 1 = .ok (.getfield 13, 3) := by decide +kernel
theorem dX6_isMember_4 : decode cX6_isMember 4 = .ok (.iload_n 1, 1) := by decide +kernel
theorem dX6_isMember_5 : decode cX6_isMember 5 = .ok (.iaload, 1) := by decide +kernel
theorem dX6_isMember_6 : decode cX6_isMember 6 = .ok (.iload_n 2, 1) := by decide +kernel
theorem dX6_isMember_7 : decode cX6_isMember 7 = .ok (.invokestatic 81, 3) := by decide +kernel
theorem dX6_isMember_10 : decode cX6_isMember 10 = .ok (.istore_n 3, 1) := by decide +kernel
theorem dX6_isMember_11 : decode cX6_isMember 11 = .ok (.aload_n 0, 1) := by decide +kernel
theorem dX6_isMember_12 : decode cX6_isMember 12 = .ok (.getfield 25, 3) := by decide +kernel
theorem dX6_isMember_15 : decode cX6_isMember 15 = .ok (.iload_n 3, 1) := by decide +kernel
theorem dX6_isMember_16 : decode cX6_isMember 16 = .ok (.iaload, 1) := by decide +kernel
theorem dX6_isMember_17 : decode cX6_isMember 17 = .ok (.iconst (-1), 1) := by decide +kernel
theorem dX6_isMember_18 : decode cX6_isMember 18 = .ok (.if_icmp .eq 20, 3) := by decide +kernel
theorem dX6_isMember_21 : decode cX6_isMember 21 = .ok (.aload_n 0, 1) := by decide +kernel
theorem dX6_isMember_22 : decode cX6_isMember 22 = .ok (.getfield 34, 3) := by decide +kernel
theorem dX6_isMember_25 : decode cX6_isMember 25 = .ok (.iload_n 3, 1) := by decide +kernel
theorem dX6_isMember_26 : decode cX6_isMember 26 = .ok (.iaload, 1) := by decide +kernel
theorem dX6_isMember_27 : decode cX6_isMember 27 = .ok (.iload_n 1, 1) := by decide +kernel
theorem dX6_isMember_28 : decode cX6_isMember 28 = .ok (.invokestatic 100, 3) := by decide +kernel
theorem dX6_isMember_31 : decode cX6_isMember 31 = .ok (.ifCond .eq 7, 3) := by decide +kernel
theorem dX6_isMember_34 : decode cX6_isMember 34 = .ok (.iconst 1, 1) := by decide +kernel
theorem dX6_isMember_35 : decode cX6_isMember 35 = .ok (.goto 4, 3) := by decide +kernel
theorem dX6_isMember_38 : decode cX6_isMember 38 = .ok (.iconst 0, 1) := by decide +kernel
theorem dX6_isMember_39 : decode cX6_isMember 39 = .ok (.ireturn, 1) := by decide +kernel
theorem dX6_quit_0 : decode cX6_quit 0 = .ok (.aload_n 0, 1) := by decide +kernel
theorem dX6_quit_1 : decode cX6_quit 1 = .ok (.iload_n 1, 1) := by decide +kernel
theorem dX6_quit_2 : decode cX6_quit 2 = .ok (.invokevirtual 171, 3) := by decide +kernel
theorem dX6_quit_5 : decode cX6_quit 5 = .ok (.istore_n 2, 1) := by decide +kernel
theorem dX6_quit_6 : decode cX6_quit 6 = .ok (.aload_n 0, 1) := by decide +kernel
theorem dX6_quit_7 : decode cX6_quit 7 = .ok (.iload_n 2, 1) := by decide +kernel
theorem dX6_quit_8 : decode cX6_quit 8 = .ok (.ifCond .ne 7, 3) := by decide +kernel
theorem dX6_quit_11 : decode cX6_quit 11 = .ok (.iconst 1, 1) := by decide +kernel
theorem dX6_quit_12 : decode cX6_quit 12 = .ok (.goto 16, 3) := by decide +kernel
theorem dX6_quit_15 : decode cX6_quit 15 = .ok (.aload_n 0, 1) := by decide +kernel
theorem dX6_quit_16 : decode cX6_quit 16 = .ok (.iload_n 1, 1) := by decide +kernel
theorem dX6_quit_17 : decode cX6_quit 17 = .ok (.invokevirtual 174, 3) := by decide +kernel
theorem dX6_quit_20 : decode cX6_quit 20 = .ok (.ifCond .eq 7, 3) := by decide +kernel
theorem dX6_quit_23 : decode cX6_quit 23 = .ok (.iconst 2, 1) := by decide +kernel
theorem dX6_quit_24 : decode cX6_quit 24 = .ok (.goto 4, 3) := by decide +kernel
theorem dX6_quit_27 : decode cX6_quit 27 = .ok (.iconst 0, 1) := by decide +kernel
theorem dX6_quit_28 : decode cX6_quit 28 = .ok (.invokevirtual 143, 3) := by decide +kernel
theorem dX6_quit_31 : decode cX6_quit 31 = .ok (.ifCond .eq 42, 3) := by decide +kernel
theorem dX6_quit_34 : decode cX6_quit 34 = .ok (.aload_n 0, 1) := by decide +kernel
theorem dX6_quit_35 : decode cX6_quit 35 = .ok (.aload_n 0, 1) := by decide +kernel
theorem dX6_quit_36 : decode cX6_quit 36 = .ok (.getfield 13, 3) := by decide +kernel
theorem dX6_quit_39 : decode cX6_quit 39 = .ok (.iload_n 1, 1) := by decide +kernel
theorem dX6_quit_40 : decode cX6_quit 40 = .ok (.iaload, 1) := by decide +kernel
theorem dX6_quit_41 : decode cX6_quit 41 = .ok (.iload_n 1, 1) := by decide +kernel
theorem dX6_quit_42 : decode cX6_quit 42 = .ok (.invokevirtual 122, 3) := by decide +kernel
theorem dX6_quit_45 : decode cX6_quit 45 = .ok (.aload_n 0, 1) := by decide +kernel
theorem dX6_quit_46 : decode cX6_quit 46 = .ok (.iconst 1, 1) := by decide +kernel
theorem dX6_quit_47 : decode cX6_quit 47 = .ok (.iload_n 1, 1) := by decide +kernel
theorem dX6_quit_48 : decode cX6_quit 48 = .ok (.iconst 0, 1) := by decide +kernel
theorem dX6_quit_49 : decode cX6_quit 49 = .ok (.invokevirtual 77, 3) := by decide +kernel
theorem dX6_quit_52 : decode cX6_quit 52 = .ok (.aload_n 0, 1) := by decide +kernel
theorem dX6_quit_53 : decode cX6_quit 53 = .ok (.aload_n 0, 1) := by decide +kernel
theorem dX6_quit_54 : decode cX6_quit 54 = .ok (.getfield 13, 3) := by decide +kernel
theorem dX6_quit_57 : decode cX6_quit 57 = .ok (.iload_n 1, 1) := by decide +kernel
theorem dX6_quit_58 : decode cX6_quit 58 = .ok (.iaload, 1) := by decide +kernel
theorem dX6_quit_59 : decode cX6_quit 59 = .ok (.iconst (-1), 1) := by decide +kernel
theorem dX6_quit_60 : decode cX6_quit 60 = .ok (.invokevirtual 125, 3) := by decide +kernel
theorem dX6_quit_63 : decode cX6_quit 63 = .ok (.aload_n 0, 1) := by decide +kernel
theorem dX6_quit_64 : decode cX6_quit 64 = .ok (.dup, 1) := by decide +kernel
theorem dX6_quit_65 : decode cX6_quit 65 = .ok (.getfield 149, 3) := by decide +kernel
theorem dX6_quit_68 : decode cX6_quit 68 = .ok (.iconst 1, 1) := by decide +kernel
theorem dX6_quit_69 : decode cX6_quit 69 = .ok (.iadd, 1) := by decide +kernel
theorem dX6_quit_70 : decode cX6_quit 70 = .ok (.putfield 149, 3) := by decide +kernel
theorem dX6_quit_73 : decode cX6_quit 73 = .ok (.return_, 1) := by decide +kernel
theorem dX6_isBanned_0 : decode cX6_isBanned 0 = .ok (.aload_n 0, 1) := by decide +kernel
theorem dX6_isBanned_1 : decode cX6_isBanned 1 = .ok (.getfield 13, 3) := by decide +kernel
theorem dX6_isBanned_4 : decode cX6_isBanned 4 = .ok (.iload_n 1, 1) := by decide +kernel
theorem dX6_isBanned_5 : decode cX6_isBanned 5 = .ok (.iaload, 1) := by decide +kernel
theorem dX6_isBanned_6 : decode cX6_isBanned 6 = .ok (.iload_n 2, 1) := by decide +kernel
theorem dX6_isBanned_7 : decode cX6_isBanned 7 = .ok (.invokestatic 81, 3) := by decide +kernel
theorem dX6_isBanned_10 : decode cX6_isBanned 10 = .ok (.istore_n 3, 1) := by decide +kernel
theorem dX6_isBanned_11 : decode cX6_isBanned 11 = .ok (.aload_n 0, 1) := by decide +kernel
theorem dX6_isBanned_12 : decode cX6_isBanned 12 = .ok (.getfield 25, 3) := by decide +kernel
theorem dX6_isBanned_15 : decode cX6_isBanned 15 = .ok (.iload_n 3, 1) := by decide +kernel
theorem dX6_isBanned_16 : decode cX6_isBanned 16 = .ok (.iaload, 1) := by decide +kernel
theorem dX6_isBanned_17 : decode cX6_isBanned 17 = .ok (.iconst (-1), 1) := by decide +kernel
theorem dX6_isBanned_18 : decode cX6_isBanned 18 = .ok (.if_icmp .eq 25, 3) := by decide +kernel
theorem dX6_isBanned_21 : decode cX6_isBanned 21 = .ok (.aload_n 0, 1) := by decide +kernel
theorem dX6_isBanned_22 : decode cX6_isBanned 22 = .ok (.getfield 31, 3) := by decide +kernel
theorem dX6_isBanned_25 : decode cX6_isBanned 25 = .ok (.iload_n 3, 1) := by decide +kernel
theorem dX6_isBanned_26 : decode cX6_isBanned 26 = .ok (.iaload, 1) := by decide +kernel
theorem dX6_isBanned_27 : decode cX6_isBanned 27 = .ok (.aload_n 0, 1) := by decide +kernel
theorem dX6_isBanned_28 : decode cX6_isBanned 28 = .ok (.getfield 7, 3) := by decide +kernel
theorem dX6_isBanned_31 : decode cX6_isBanned 31 = .ok (.iload_n 1, 1) := by decide +kernel
theorem dX6_isBanned_32 : decode cX6_isBanned 32 = .ok (.iaload, 1) := by decide +kernel
theorem dX6_isBanned_33 : decode cX6_isBanned 33 = .ok (.invokestatic 100, 3) := by decide +kernel
theorem dX6_isBanned_36 : decode cX6_isBanned 36 = .ok (.ifCond .eq 7, 3) := by decide +kernel
theorem dX6_isBanned_39 : decode cX6_isBanned 39 = .ok (.iconst 1, 1) := by decide +kernel
theorem dX6_isBanned_40 : decode cX6_isBanned 40 = .ok (.goto 4, 3) := by decide +kernel
theorem dX6_isBanned_43 : decode cX6_isBanned 43 = .ok (.iconst 0, 1) := by decide +kernel
theorem dX6_isBanned_44 : decode cX6_isBanned 44 = .ok (.ireturn, 1) := by decide +kernel
theorem dX6_count_0 : decode cX6_count 0 = .ok (.iconst 0, 1) := by decide +kernel
theorem dX6_count_1 : decode cX6_count 1 = .ok (.istore_n 1, 1) := by decide +kernel
theorem dX6_count_2 : decode cX6_count 2 = .ok (.iconst 0, 1) := by decide +kernel
theorem dX6_count_3 : decode cX6_count 3 = .ok (.istore_n 2, 1) := by decide +kernel
theorem dX6_count_4 : decode cX6_count 4 = .ok (.iload_n 2, 1) := by decide +kernel
theorem dX6_count_5 : decode cX6_count 5 = .ok (.bipush 20, 2) := by decide +kernel
theorem dX6_count_7 : decode cX6_count 7 = .ok (.if_icmp .ge 17, 3) := by decide +kernel
theorem dX6_count_10 : decode cX6_count 10 = .ok (.iload_n 1, 1) := by decide +kernel
theorem dX6_count_11 : decode cX6_count 11 = .ok (.iload_n 0, 1) := by decide +kernel
theorem dX6_count_12 : decode cX6_count 12 = .ok (.iload_n 2, 1) := by decide +kernel
theorem dX6_count_13 : decode cX6_count 13 = .ok (.ishr, 1) := by decide +kernel
theorem dX6_count_14 : decode cX6_count 14 = .ok (.iconst 1, 1) := by decide +kernel
theorem dX6_count_15 : decode cX6_count 15 = .ok (.iand, 1) := by decide +kernel
theorem dX6_count_16 : decode cX6_count 16 = .ok (.iadd, 1) := by decide +kernel
theorem dX6_count_17 : decode cX6_count 17 = .ok (.istore_n 1, 1) := by decide +kernel
theorem dX6_count_18 : decode cX6_count 18 = .ok (.iinc 2 1, 3) := by decide +kernel
theorem dX6_count_21 : decode cX6_count 21 = .ok (.goto (-17), 3) := by decide +kernel
theorem dX6_count_24 : decode cX6_count 24 = .ok (.iload_n 1, 1) := by decide +kernel
theorem dX6_count_25 : decode cX6_count 25 = .ok (.ireturn, 1) := by decide +kernel
theorem dX6_join_0 : decode cX6_join 0 = .ok (.aload_n 0, 1) := by decide +kernel
theorem dX6_join_1 : decode cX6_join 1 = .ok (.iload_n 1, 1) := by decide +kernel
theorem dX6_join_2 : decode cX6_join 2 = .ok (.invokevirtual 171, 3) := by decide +kernel
theorem dX6_join_5 : decode cX6_join 5 = .ok (.ifCond .eq 14, 3) := by decide +kernel
theorem dX6_join_8 : decode cX6_join 8 = .ok (.iload_n 2, 1) := by decide +kernel
theorem dX6_join_9 : decode cX6_join 9 = .ok (.invokestatic 177, 3) := by decide +kernel
theorem dX6_join_12 : decode cX6_join 12 = .ok (.ifCond .eq 7, 3) := by decide +kernel
theorem dX6_join_15 : decode cX6_join 15 = .ok (.iconst 1, 1) := by decide +kernel
theorem dX6_join_16 : decode cX6_join 16 = .ok (.goto 4, 3) := by decide +kernel
theorem dX6_join_19 : decode cX6_join 19 = .ok (.iconst 0, 1) := by decide +kernel
theorem dX6_join_20 : decode cX6_join 20 = .ok (.istore_n 3, 1) := by decide +kernel
theorem dX6_join_21 : decode cX6_join 21 = .ok (.aload_n 0, 1) := by decide +kernel
theorem dX6_join_22 : decode cX6_join 22 = .ok (.iload_n 3, 1) := by decide +kernel
theorem dX6_join_23 : decode cX6_join 23 = .ok (.ifCond .ne 7, 3) := by decide +kernel
theorem dX6_join_26 : decode cX6_join 26 = .ok (.iconst 1, 1) := by decide +kernel
theorem dX6_join_27 : decode cX6_join 27 = .ok (.goto 34, 3) := by decide +kernel
theorem dX6_join_30 : decode cX6_join 30 = .ok (.aload_n 0, 1) := by decide +kernel
theorem dX6_join_31 : decode cX6_join 31 = .ok (.iload_n 1, 1) := by decide +kernel
theorem dX6_join_32 : decode cX6_join 32 = .ok (.invokevirtual 174, 3) := by decide +kernel
theorem dX6_join_35 : decode cX6_join 35 = .ok (.ifCond .ne 21, 3) := by decide +kernel
theorem dX6_join_38 : decode cX6_join 38 = .ok (.aload_n 0, 1) := by decide +kernel
theorem dX6_join_39 : decode cX6_join 39 = .ok (.iload_n 1, 1) := by decide +kernel
theorem dX6_join_40 : decode cX6_join 40 = .ok (.iload_n 2, 1) := by decide +kernel
theorem dX6_join_41 : decode cX6_join 41 = .ok (.invokevirtual 180, 3) := by decide +kernel
theorem dX6_join_44 : decode cX6_join 44 = .ok (.ifCond .ne 12, 3) := by decide +kernel
theorem dX6_join_47 : decode cX6_join 47 = .ok (.aload_n 0, 1) := by decide +kernel
theorem dX6_join_48 : decode cX6_join 48 = .ok (.iload_n 1, 1) := by decide +kernel
theorem dX6_join_49 : decode cX6_join 49 = .ok (.iload_n 2, 1) := by decide +kernel
theorem dX6_join_50 : decode cX6_join 50 = .ok (.invokevirtual 183, 3) := by decide +kernel
theorem dX6_join_53 : decode cX6_join 53 = .ok (.ifCond .eq 7, 3) := by decide +kernel
theorem dX6_join_56 : decode cX6_join 56 = .ok (.iconst 2, 1) := by decide +kernel
theorem dX6_join_57 : decode cX6_join 57 = .ok (.goto 4, 3) := by decide +kernel
theorem dX6_join_60 : decode cX6_join 60 = .ok (.iconst 0, 1) := by decide +kernel
theorem dX6_join_61 : decode cX6_join 61 = .ok (.invokevirtual 143, 3) := by decide +kernel
theorem dX6_join_64 : decode cX6_join 64 = .ok (.ifCond .ne 5, 3) := by decide +kernel
theorem dX6_join_67 : decode cX6_join 67 = .ok (.iconst 0, 1) := by decide +kernel
theorem dX6_join_68 : decode cX6_join 68 = .ok (.ireturn, 1) := by decide +kernel
theorem dX6_join_69 : decode cX6_join 69 = .ok (.aload_n 0, 1) := by decide +kernel
theorem dX6_join_70 : decode cX6_join 70 = .ok (.getfield 13, 3) := by decide +kernel
theorem dX6_join_73 : decode cX6_join 73 = .ok (.iload_n 1, 1) := by decide +kernel
theorem dX6_join_74 : decode cX6_join 74 = .ok (.iaload, 1) := by decide +kernel
theorem dX6_join_75 : decode cX6_join 75 = .ok (.iload_n 2, 1) := by decide +kernel
theorem dX6_join_76 : decode cX6_join 76 = .ok (.invokestatic 81, 3) := by decide +kernel
theorem dX6_join_79 : decode cX6_join 79 = .ok (.istore 4, 2) := by decide +kernel
theorem dX6_join_81 : decode cX6_join 81 = .ok (.aload_n 0, 1) := by decide +kernel
theorem dX6_join_82 : decode cX6_join 82 = .ok (.getfield 25, 3) := by decide +kernel
theorem dX6_join_85 : decode cX6_join 85 = .ok (.iload 4, 2) := by decide +kernel
theorem dX6_join_87 : decode cX6_join 87 = .ok (.iaload, 1) := by decide +kernel
theorem dX6_join_88 : decode cX6_join 88 = .ok (.iconst (-1), 1) := by decide +kernel
theorem dX6_join_89 : decode cX6_join 89 = .ok (.if_icmp .ne 38, 3) := by decide +kernel
theorem dX6_join_92 : decode cX6_join 92 = .ok (.aload_n 0, 1) := by decide +kernel
theorem dX6_join_93 : decode cX6_join 93 = .ok (.getfield 25, 3) := by decide +kernel
theorem dX6_join_96 : decode cX6_join 96 = .ok (.iload 4, 2) := by decide +kernel
theorem dX6_join_98 : decode cX6_join 98 = .ok (.aload_n 0, 1) := by decide +kernel
theorem dX6_join_99 : decode cX6_join 99 = .ok (.getfield 149, 3) := by decide +kernel
theorem dX6_join_102 : decode cX6_join 102 = .ok (.iastore, 1) := by decide +kernel
theorem dX6_join_103 : decode cX6_join 103 = .ok (.aload_n 0, 1) := by decide +kernel
theorem dX6_join_104 : decode cX6_join 104 = .ok (.getfield 28, 3) := by decide +kernel
theorem dX6_join_107 : decode cX6_join 107 = .ok (.iload 4, 2) := by decide +kernel
theorem dX6_join_109 : decode cX6_join 109 = .ok (.iconst 0, 1) := by decide +kernel
theorem dX6_join_110 : decode cX6_join 110 = .ok (.iastore, 1) := by decide +kernel
theorem dX6_join_111 : decode cX6_join 111 = .ok (.aload_n 0, 1) := by decide +kernel
theorem dX6_join_112 : decode cX6_join 112 = .ok (.getfield 31, 3) := by decide +kernel
theorem dX6_join_115 : decode cX6_join 115 = .ok (.iload 4, 2) := by decide +kernel
theorem dX6_join_117 : decode cX6_join 117 = .ok (.iconst 0, 1) := by decide +kernel
theorem dX6_join_118 : decode cX6_join 118 = .ok (.iastore, 1) := by decide +kernel
theorem dX6_join_119 : decode cX6_join 119 = .ok (.aload_n 0, 1) := by decide +kernel
theorem dX6_join_120 : decode cX6_join 120 = .ok (.getfield 34, 3) := by decide +kernel
theorem dX6_join_123 : decode cX6_join 123 = .ok (.iload 4, 2) := by decide +kernel
theorem dX6_join_125 : decode cX6_join 125 = .ok (.iconst 0, 1) := by decide +kernel
theorem dX6_join_126 : decode cX6_join 126 = .ok (.iastore, 1) := by decide +kernel
theorem dX6_join_127 : decode cX6_join 127 = .ok (.aload_n 0, 1) := by decide +kernel
theorem dX6_join_128 : decode cX6_join 128 = .ok (.getfield 34, 3) := by decide +kernel
theorem dX6_join_131 : decode cX6_join 131 = .ok (.iload 4, 2) := by decide +kernel
theorem dX6_join_133 : decode cX6_join 133 = .ok (.dup2, 1) := by decide +kernel
theorem dX6_join_134 : decode cX6_join 134 = .ok (.iaload, 1) := by decide +kernel
theorem dX6_join_135 : decode cX6_join 135 = .ok (.iconst 1, 1) := by decide +kernel
theorem dX6_join_136 : decode cX6_join 136 = .ok (.iload_n 1, 1) := by decide +kernel
theorem dX6_join_137 : decode cX6_join 137 = .ok (.ishl, 1) := by decide +kernel
theorem dX6_join_138 : decode cX6_join 138 = .ok (.ior, 1) := by decide +kernel
theorem dX6_join_139 : decode cX6_join 139 = .ok (.iastore, 1) := by decide +kernel
theorem dX6_join_140 : decode cX6_join 140 = .ok (.aload_n 0, 1) := by decide +kernel
theorem dX6_join_141 : decode cX6_join 141 = .ok (.iconst 2, 1) := by decide +kernel
theorem dX6_join_142 : decode cX6_join 142 = .ok (.aload_n 0, 1) := by decide +kernel
theorem dX6_join_143 : decode cX6_join 143 = .ok (.getfield 13, 3) := by decide +kernel
theorem dX6_join_146 : decode cX6_join 146 = .ok (.iload_n 1, 1) := by decide +kernel
theorem dX6_join_147 : decode cX6_join 147 = .ok (.iaload, 1) := by decide +kernel
theorem dX6_join_148 : decode cX6_join 148 = .ok (.iload_n 2, 1) := by decide +kernel
theorem dX6_join_149 : decode cX6_join 149 = .ok (.iconst 1, 1) := by decide +kernel
theorem dX6_join_150 : decode cX6_join 150 = .ok (.iload_n 1, 1) := by decide +kernel
theorem dX6_join_151 : decode cX6_join 151 = .ok (.ishl, 1) := by decide +kernel
theorem dX6_join_152 : decode cX6_join 152 = .ok (.invokevirtual 135, 3) := by decide +kernel
theorem dX6_join_155 : decode cX6_join 155 = .ok (.aload_n 0, 1) := by decide +kernel
theorem dX6_join_156 : decode cX6_join 156 = .ok (.aload_n 0, 1) := by decide +kernel
theorem dX6_join_157 : decode cX6_join 157 = .ok (.getfield 13, 3) := by decide +kernel
theorem dX6_join_160 : decode cX6_join 160 = .ok (.iload_n 1, 1) := by decide +kernel
theorem dX6_join_161 : decode cX6_join 161 = .ok (.iaload, 1) := by decide +kernel
theorem dX6_join_162 : decode cX6_join 162 = .ok (.iconst (-1), 1) := by decide +kernel
theorem dX6_join_163 : decode cX6_join 163 = .ok (.invokevirtual 125, 3) := by decide +kernel
theorem dX6_join_166 : decode cX6_join 166 = .ok (.aload_n 0, 1) := by decide +kernel
theorem dX6_join_167 : decode cX6_join 167 = .ok (.dup, 1) := by decide +kernel
theorem dX6_join_168 : decode cX6_join 168 = .ok (.getfield 149, 3) := by decide +kernel
theorem dX6_join_171 : decode cX6_join 171 = .ok (.iconst 1, 1) := by decide +kernel
theorem dX6_join_172 : decode cX6_join 172 = .ok (.iadd, 1) := by decide +kernel
theorem dX6_join_173 : decode cX6_join 173 = .ok (.putfield 149, 3) := by decide +kernel
theorem dX6_join_176 : decode cX6_join 176 = .ok (.aload_n 0, 1) := by decide +kernel
theorem dX6_join_177 : decode cX6_join 177 = .ok (.getfield 34, 3) := by decide +kernel
theorem dX6_join_180 : decode cX6_join 180 = .ok (.iload 4, 2) := by decide +kernel
theorem dX6_join_182 : decode cX6_join 182 = .ok (.iaload, 1) := by decide +kernel
theorem dX6_join_183 : decode cX6_join 183 = .ok (.invokestatic 186, 3) := by decide +kernel
theorem dX6_join_186 : decode cX6_join 186 = .ok (.ireturn, 1) := by decide +kernel
theorem dX6_leave_0 : decode cX6_leave 0 = .ok (.aload_n 0, 1) := by decide +kernel
theorem dX6_leave_1 : decode cX6_leave 1 = .ok (.iload_n 1, 1) := by decide +kernel
theorem dX6_leave_2 : decode cX6_leave 2 = .ok (.invokevirtual 171, 3) := by decide +kernel
theorem dX6_leave_5 : decode cX6_leave 5 = .ok (.ifCond .eq 14, 3) := by decide +kernel
theorem dX6_leave_8 : decode cX6_leave 8 = .ok (.iload_n 2, 1) := by decide +kernel
theorem dX6_leave_9 : decode cX6_leave 9 = .ok (.invokestatic 177, 3) := by decide +kernel
theorem dX6_leave_12 : decode cX6_leave 12 = .ok (.ifCond .eq 7, 3) := by decide +kernel
theorem dX6_leave_15 : decode cX6_leave 15 = .ok (.iconst 1, 1) := by decide +kernel
theorem dX6_leave_16 : decode cX6_leave 16 = .ok (.goto 4, 3) := by decide +kernel
theorem dX6_leave_19 : decode cX6_leave 19 = .ok (.iconst 0, 1) := by decide +kernel
theorem dX6_leave_20 : decode cX6_leave 20 = .ok (.istore_n 3, 1) := by decide +kernel
theorem dX6_leave_21 : decode cX6_leave 21 = .ok (.aload_n 0, 1) := by decide +kernel
theorem dX6_leave_22 : decode cX6_leave 22 = .ok (.iload_n 3, 1) := by decide +kernel
theorem dX6_leave_23 : decode cX6_leave 23 = .ok (.ifCond .ne 7, 3) := by decide +kernel
theorem dX6_leave_26 : decode cX6_leave 26 = .ok (.iconst 1, 1) := by decide +kernel
theorem dX6_leave_27 : decode cX6_leave 27 = .ok (.goto 25, 3) := by decide +kernel
theorem dX6_leave_30 : decode cX6_leave 30 = .ok (.aload_n 0, 1) := by decide +kernel
theorem dX6_leave_31 : decode cX6_leave 31 = .ok (.iload_n 1, 1) := by decide +kernel
theorem dX6_leave_32 : decode cX6_leave 32 = .ok (.invokevirtual 174, 3) := by decide +kernel
theorem dX6_leave_35 : decode cX6_leave 35 = .ok (.ifCond .ne 12, 3) := by decide +kernel
theorem dX6_leave_38 : decode cX6_leave 38 = .ok (.aload_n 0, 1) := by decide +kernel
theorem dX6_leave_39 : decode cX6_leave 39 = .ok (.iload_n 1, 1) := by decide +kernel
theorem dX6_leave_40 : decode cX6_leave 40 = .ok (.iload_n 2, 1) := by decide +kernel
theorem dX6_leave_41 : decode cX6_leave 41 = .ok (.invokevirtual 180, 3) := by decide +kernel
theorem dX6_leave_44 : decode cX6_leave 44 = .ok (.ifCond .ne 7, 3) := by decide +kernel
theorem dX6_leave_47 : decode cX6_leave 47 = .ok (.iconst 2, 1) := by decide +kernel
theorem dX6_leave_48 : decode cX6_leave 48 = .ok (.goto 4, 3) := by decide +kernel
theorem dX6_leave_51 : decode cX6_leave 51 = .ok (.iconst 0, 1) := by decide +kernel
theorem dX6_leave_52 : decode cX6_leave 52 = .ok (.invokevirtual 143, 3) := by decide +kernel
theorem dX6_leave_55 : decode cX6_leave 55 = .ok (.ifCond .eq 43, 3) := by decide +kernel
theorem dX6_leave_58 : decode cX6_leave 58 = .ok (.aload_n 0, 1) := by decide +kernel
theorem dX6_leave_59 : decode cX6_leave 59 = .ok (.aload_n 0, 1) := by decide +kernel
theorem dX6_leave_60 : decode cX6_leave 60 = .ok (.getfield 13, 3) := by decide +kernel
theorem dX6_leave_63 : decode cX6_leave 63 = .ok (.iload_n 1, 1) := by decide +kernel
theorem dX6_leave_64 : decode cX6_leave 64 = .ok (.iaload, 1) := by decide +kernel
theorem dX6_leave_65 : decode cX6_leave 65 = .ok (.iload_n 2, 1) := by decide +kernel
theorem dX6_leave_66 : decode cX6_leave 66 = .ok (.iload_n 1, 1) := by decide +kernel
theorem dX6_leave_67 : decode cX6_leave 67 = .ok (.invokevirtual 108, 3) := by decide +kernel
theorem dX6_leave_70 : decode cX6_leave 70 = .ok (.aload_n 0, 1) := by decide +kernel
theorem dX6_leave_71 : decode cX6_leave 71 = .ok (.iconst 3, 1) := by decide +kernel
theorem dX6_leave_72 : decode cX6_leave 72 = .ok (.iload_n 2, 1) := by decide +kernel
theorem dX6_leave_73 : decode cX6_leave 73 = .ok (.iload_n 1, 1) := by decide +kernel
theorem dX6_leave_74 : decode cX6_leave 74 = .ok (.invokevirtual 77, 3) := by decide +kernel
theorem dX6_leave_77 : decode cX6_leave 77 = .ok (.aload_n 0, 1) := by decide +kernel
theorem dX6_leave_78 : decode cX6_leave 78 = .ok (.aload_n 0, 1) := by decide +kernel
theorem dX6_leave_79 : decode cX6_leave 79 = .ok (.getfield 13, 3) := by decide +kernel
theorem dX6_leave_82 : decode cX6_leave 82 = .ok (.iload_n 1, 1) := by decide +kernel
theorem dX6_leave_83 : decode cX6_leave 83 = .ok (.iaload, 1) := by decide +kernel
theorem dX6_leave_84 : decode cX6_leave 84 = .ok (.iconst (-1), 1) := by decide +kernel
theorem dX6_leave_85 : decode cX6_leave 85 = .ok (.invokevirtual 125, 3) := by decide +kernel
theorem dX6_leave_88 : decode cX6_leave 88 = .ok (.aload_n 0, 1) := by decide +kernel
theorem dX6_leave_89 : decode cX6_leave 89 = .ok (.dup, 1) := by decide +kernel
theorem dX6_leave_90 : decode cX6_leave 90 = .ok (.getfield 149, 3) := by decide +kernel
theorem dX6_leave_93 : decode cX6_leave 93 = .ok (.iconst 1, 1) := by decide +kernel
theorem dX6_leave_94 : decode cX6_leave 94 = .ok (.iadd, 1) := by decide +kernel
theorem dX6_leave_95 : decode cX6_leave 95 = .ok (.putfield 149, 3) := by decide +kernel
theorem dX6_leave_98 : decode cX6_leave 98 = .ok (.return_, 1) := by decide +kernel
theorem dX6_setModes_0 : decode cX6_setModes 0 = .ok (.aload_n 0, 1) := by decide +kernel
theorem dX6_setModes_1 : decode cX6_setModes 1 = .ok (.iload_n 1, 1) := by decide +kernel
theorem dX6_setModes_2 : decode cX6_setModes 2 = .ok (.invokevirtual 171, 3) := by decide +kernel
theorem dX6_setModes_5 : decode cX6_setModes 5 = .ok (.ifCond .eq 14, 3) := by decide +kernel
theorem dX6_setModes_8 : decode cX6_setModes 8 = .ok (.iload_n 2, 1) := by decide +kernel
theorem dX6_setModes_9 : decode cX6_setModes 9 = .ok (.invokestatic 177, 3) := by decide +kernel
theorem dX6_setModes_12 : decode cX6_setModes 12 = .ok (.ifCond .eq 7, 3) := by decide +kernel
theorem dX6_setModes_15 : decode cX6_setModes 15 = .ok (.iconst 1, 1) := by decide +kernel
theorem dX6_setModes_16 : decode cX6_setModes 16 = .ok (.goto 4, 3) := by decide +kernel
theorem dX6_setModes_19 : decode cX6_setModes 19 = .ok (.iconst 0, 1) := by decide +kernel
theorem dX6_setModes_20 : decode cX6_setModes 20 = .ok (.istore 5, 2) := by decide +kernel
theorem dX6_setModes_22 : decode cX6_setModes 22 = .ok (.iload_n 3, 1) := by decide +kernel
theorem dX6_setModes_23 : decode cX6_setModes 23 = .ok (.ifCond .lt 25, 3) := by decide +kernel
theorem dX6_setModes_26 : decode cX6_setModes 26 = .ok (.iload_n 3, 1) := by decide +kernel
theorem dX6_setModes_27 : decode cX6_setModes 27 = .ok (.bipush 15, 2) := by decide +kernel
theorem dX6_setModes_29 : decode cX6_setModes 29 = .ok (.if_icmp .gt 19, 3) := by decide +kernel
theorem dX6_setModes_32 : decode cX6_setModes 32 = .ok (.iload 4, 2) := by decide +kernel
theorem dX6_setModes_34 : decode cX6_setModes 34 = .ok (.ifCond .lt 14, 3) := by decide +kernel
theorem dX6_setModes_37 : decode cX6_setModes 37 = .ok (.iload 4, 2) := by decide +kernel
theorem dX6_setModes_39 : decode cX6_setModes 39 = .ok (.ldc 189, 2) := by decide +kernel
theorem dX6_setModes_41 : decode cX6_setModes 41 = .ok (.if_icmp .gt 7, 3) := by decide +kernel
theorem dX6_setModes_44 : decode cX6_setModes 44 = .ok (.iconst 1, 1) := by decide +kernel
theorem dX6_setModes_45 : decode cX6_setModes 45 = .ok (.goto 4, 3) := by decide +kernel
theorem dX6_setModes_48 : decode cX6_setModes 48 = .ok (.iconst 0, 1) := by decide +kernel
theorem dX6_setModes_49 : decode cX6_setModes 49 = .ok (.istore 6, 2) := by decide +kernel
theorem dX6_setModes_51 : decode cX6_setModes 51 = .ok (.aload_n 0, 1) := by decide +kernel
theorem dX6_setModes_52 : decode cX6_setModes 52 = .ok (.iload 5, 2) := by decide +kernel
theorem dX6_setModes_54 : decode cX6_setModes 54 = .ok (.ifCond .ne 7, 3) := by decide +kernel
theorem dX6_setModes_57 : decode cX6_setModes 57 = .ok (.iconst 1, 1) := by decide +kernel
theorem dX6_setModes_58 : decode cX6_setModes 58 = .ok (.goto 34, 3) := by decide +kernel
theorem dX6_setModes_61 : decode cX6_setModes 61 = .ok (.iload 6, 2) := by decide +kernel
theorem dX6_setModes_63 : decode cX6_setModes 63 = .ok (.ifCond .ne 7, 3) := by decide +kernel
theorem dX6_setModes_66 : decode cX6_setModes 66 = .ok (.iconst 2, 1) := by decide +kernel
theorem dX6_setModes_67 : decode cX6_setModes 67 = .ok (.goto 25, 3) := by decide +kernel
theorem dX6_setModes_70 : decode cX6_setModes 70 = .ok (.aload_n 0, 1) := by decide +kernel
theorem dX6_setModes_71 : decode cX6_setModes 71 = .ok (.iload_n 1, 1) := by decide +kernel
theorem dX6_setModes_72 : decode cX6_setModes 72 = .ok (.invokevirtual 174, 3) := by decide +kernel
theorem dX6_setModes_75 : decode cX6_setModes 75 = .ok (.ifCond .ne 12, 3) := by decide +kernel
theorem dX6_setModes_78 : decode cX6_setModes 78 = .ok (.aload_n 0, 1) := by decide +kernel
theorem dX6_setModes_79 : decode cX6_setModes 79 = .ok (.iload_n 1, 1) := by decide +kernel
theorem dX6_setModes_80 : decode cX6_setModes 80 = .ok (.iload_n 2, 1) := by decide +kernel
theorem dX6_setModes_81 : decode cX6_setModes 81 = .ok (.invokevirtual 180, 3) := by decide +kernel
theorem dX6_setModes_84 : decode cX6_setModes 84 = .ok (.ifCond .ne 7, 3) := by decide +kernel
theorem dX6_setModes_87 : decode cX6_setModes 87 = .ok (.iconst 3, 1) := by decide +kernel
theorem dX6_setModes_88 : decode cX6_setModes 88 = .ok (.goto 4, 3) := by decide +kernel
theorem dX6_setModes_91 : decode cX6_setModes 91 = .ok (.iconst 0, 1) := by decide +kernel
theorem dX6_setModes_92 : decode cX6_setModes 92 = .ok (.invokevirtual 143, 3) := by decide +kernel
theorem dX6_setModes_95 : decode cX6_setModes 95 = .ok (.ifCond .ne 5, 3) := by decide +kernel
theorem dX6_setModes_98 : decode cX6_setModes 98 = .ok (.iconst 0, 1) := by decide +kernel
theorem dX6_setModes_99 : decode cX6_setModes 99 = .ok (.ireturn, 1) := by decide +kernel
theorem dX6_setModes_100 : decode cX6_setModes 100 = .ok (.aload_n 0, 1) := by decide +kernel
theorem dX6_setModes_101 : decode cX6_setModes 101 = .ok (.getfield 13, 3) := by decide +kernel
theorem dX6_setModes_104 : decode cX6_setModes 104 = .ok (.iload_n 1, 1) := by decide +kernel
theorem dX6_setModes_105 : decode cX6_setModes 105 = .ok (.iaload, 1) := by decide +kernel
theorem dX6_setModes_106 : decode cX6_setModes 106 = .ok (.iload_n 2, 1) := by decide +kernel
theorem dX6_setModes_107 : decode cX6_setModes 107 = .ok (.invokestatic 81, 3) := by decide +kernel
theorem dX6_setModes_110 : decode cX6_setModes 110 = .ok (.istore 7, 2) := by decide +kernel
theorem dX6_setModes_112 : decode cX6_setModes 112 = .ok (.aload_n 0, 1) := by decide +kernel
theorem dX6_setModes_113 : decode cX6_setModes 113 = .ok (.getfield 28, 3) := by decide +kernel
theorem dX6_setModes_116 : decode cX6_setModes 116 = .ok (.iload 7, 2) := by decide +kernel
theorem dX6_setModes_118 : decode cX6_setModes 118 = .ok (.iaload, 1) := by decide +kernel
theorem dX6_setModes_119 : decode cX6_setModes 119 = .ok (.istore 8, 2) := by decide +kernel
theorem dX6_setModes_121 : decode cX6_setModes 121 = .ok (.aload_n 0, 1) := by decide +kernel
theorem dX6_setModes_122 : decode cX6_setModes 122 = .ok (.getfield 28, 3) := by decide +kernel
theorem dX6_setModes_125 : decode cX6_setModes 125 = .ok (.iload 7, 2) := by decide +kernel
theorem dX6_setModes_127 : decode cX6_setModes 127 = .ok (.iload_n 3, 1) := by decide +kernel
theorem dX6_setModes_128 : decode cX6_setModes 128 = .ok (.iastore, 1) := by decide +kernel
theorem dX6_setModes_129 : decode cX6_setModes 129 = .ok (.aload_n 0, 1) := by decide +kernel
theorem dX6_setModes_130 : decode cX6_setModes 130 = .ok (.getfield 31, 3) := by decide +kernel
theorem dX6_setModes_133 : decode cX6_setModes 133 = .ok (.iload 7, 2) := by decide +kernel
theorem dX6_setModes_135 : decode cX6_setModes 135 = .ok (.iload 4, 2) := by decide +kernel
theorem dX6_setModes_137 : decode cX6_setModes 137 = .ok (.iastore, 1) := by decide +kernel
theorem dX6_setModes_138 : decode cX6_setModes 138 = .ok (.aload_n 0, 1) := by decide +kernel
theorem dX6_setModes_139 : decode cX6_setModes 139 = .ok (.iconst 4, 1) := by decide +kernel
theorem dX6_setModes_140 : decode cX6_setModes 140 = .ok (.aload_n 0, 1) := by decide +kernel
theorem dX6_setModes_141 : decode cX6_setModes 141 = .ok (.getfield 13, 3) := by decide +kernel
theorem dX6_setModes_144 : decode cX6_setModes 144 = .ok (.iload_n 1, 1) := by decide +kernel
theorem dX6_setModes_145 : decode cX6_setModes 145 = .ok (.iaload, 1) := by decide +kernel
theorem dX6_setModes_146 : decode cX6_setModes 146 = .ok (.iload_n 2, 1) := by decide +kernel
theorem dX6_setModes_147 : decode cX6_setModes 147 = .ok (.iconst 0, 1) := by decide +kernel
theorem dX6_setModes_148 : decode cX6_setModes 148 = .ok (.invokevirtual 135, 3) := by decide +kernel
theorem dX6_setModes_151 : decode cX6_setModes 151 = .ok (.aload_n 0, 1) := by decide +kernel
theorem dX6_setModes_152 : decode cX6_setModes 152 = .ok (.aload_n 0, 1) := by decide +kernel
theorem dX6_setModes_153 : decode cX6_setModes 153 = .ok (.getfield 13, 3) := by decide +kernel
theorem dX6_setModes_156 : decode cX6_setModes 156 = .ok (.iload_n 1, 1) := by decide +kernel
theorem dX6_setModes_157 : decode cX6_setModes 157 = .ok (.iaload, 1) := by decide +kernel
theorem dX6_setModes_158 : decode cX6_setModes 158 = .ok (.iconst (-1), 1) := by decide +kernel
theorem dX6_setModes_159 : decode cX6_setModes 159 = .ok (.invokevirtual 125, 3) := by decide +kernel
theorem dX6_setModes_162 : decode cX6_setModes 162 = .ok (.aload_n 0, 1) := by decide +kernel
theorem dX6_setModes_163 : decode cX6_setModes 163 = .ok (.dup, 1) := by decide +kernel
theorem dX6_setModes_164 : decode cX6_setModes 164 = .ok (.getfield 149, 3) := by decide +kernel
theorem dX6_setModes_167 : decode cX6_setModes 167 = .ok (.iconst 1, 1) := by decide +kernel
theorem dX6_setModes_168 : decode cX6_setModes 168 = .ok (.iadd, 1) := by decide +kernel
theorem dX6_setModes_169 : decode cX6_setModes 169 = .ok (.putfield 149, 3) := by decide +kernel
theorem dX6_setModes_172 : decode cX6_setModes 172 = .ok (.iload 8, 2) := by decide +kernel
theorem dX6_setModes_174 : decode cX6_setModes 174 = .ok (.ireturn, 1) := by decide +kernel
theorem dX6_isEldest_0 : decode cX6_isEldest 0 = .ok (.iconst 1, 1) := by decide +kernel
theorem dX6_isEldest_1 : decode cX6_isEldest 1 = .ok (.istore_n 3, 1) := by decide +kernel
theorem dX6_isEldest_2 : decode cX6_isEldest 2 = .ok (.iconst 0, 1) := by decide +kernel
theorem dX6_isEldest_3 : decode cX6_isEldest 3 = .ok (.istore 4, 2) := by decide +kernel
theorem dX6_isEldest_5 : decode cX6_isEldest 5 = .ok (.iload 4, 2) := by decide +kernel
theorem dX6_isEldest_7 : decode cX6_isEldest 7 = .ok (.aload_n 0, 1) := by decide +kernel
theorem dX6_isEldest_8 : decode cX6_isEldest 8 = .ok (.getfield 111, 3) := by decide +kernel
theorem dX6_isEldest_11 : decode cX6_isEldest 11 = .ok (.if_icmp .ge 66, 3) := by decide +kernel
theorem dX6_isEldest_14 : decode cX6_isEldest 14 = .ok (.iload_n 3, 1) := by decide +kernel
theorem dX6_isEldest_15 : decode cX6_isEldest 15 = .ok (.ifCond .eq 54, 3) := by decide +kernel
theorem dX6_isEldest_18 : decode cX6_isEldest 18 = .ok (.iload_n 2, 1) := by decide +kernel
theorem dX6_isEldest_19 : decode cX6_isEldest 19 = .ok (.iload 4, 2) := by decide +kernel
theorem dX6_isEldest_21 : decode cX6_isEldest 21 = .ok (.invokestatic 100, 3) := by decide +kernel
theorem dX6_isEldest_24 : decode cX6_isEldest 24 = .ok (.ifCond .eq 41, 3) := by decide +kernel
theorem dX6_isEldest_27 : decode cX6_isEldest 27 = .ok (.aload_n 0, 1) := by decide +kernel
theorem dX6_isEldest_28 : decode cX6_isEldest 28 = .ok (.getfield 16, 3) := by decide +kernel
theorem dX6_isEldest_31 : decode cX6_isEldest 31 = .ok (.iload 4, 2) := by decide +kernel
theorem dX6_isEldest_33 : decode cX6_isEldest 33 = .ok (.iaload, 1) := by decide +kernel
theorem dX6_isEldest_34 : decode cX6_isEldest 34 = .ok (.aload_n 0, 1) := by decide +kernel
theorem dX6_isEldest_35 : decode cX6_isEldest 35 = .ok (.getfield 16, 3) := by decide +kernel
theorem dX6_isEldest_38 : decode cX6_isEldest 38 = .ok (.iload_n 1, 1) := by decide +kernel
theorem dX6_isEldest_39 : decode cX6_isEldest 39 = .ok (.iaload, 1) := by decide +kernel
theorem dX6_isEldest_40 : decode cX6_isEldest 40 = .ok (.if_icmp .lt 29, 3) := by decide +kernel
theorem dX6_isEldest_43 : decode cX6_isEldest 43 = .ok (.aload_n 0, 1) := by decide +kernel
theorem dX6_isEldest_44 : decode cX6_isEldest 44 = .ok (.getfield 16, 3) := by decide +kernel
theorem dX6_isEldest_47 : decode cX6_isEldest 47 = .ok (.iload 4, 2) := by decide +kernel
theorem dX6_isEldest_49 : decode cX6_isEldest 49 = .ok (.iaload, 1) := by decide +kernel
theorem dX6_isEldest_50 : decode cX6_isEldest 50 = .ok (.aload_n 0, 1) := by decide +kernel
theorem dX6_isEldest_51 : decode cX6_isEldest 51 = .ok (.getfield 16, 3) := by decide +kernel
theorem dX6_isEldest_54 : decode cX6_isEldest 54 = .ok (.iload_n 1, 1) := by decide +kernel
theorem dX6_isEldest_55 : decode cX6_isEldest 55 = .ok (.iaload, 1) := by decide +kernel
theorem dX6_isEldest_56 : decode cX6_isEldest 56 = .ok (.if_icmp .ne 9, 3) := by decide +kernel
theorem dX6_isEldest_59 : decode cX6_isEldest 59 = .ok (.iload 4, 2) := by decide +kernel
theorem dX6_isEldest_61 : decode cX6_isEldest 61 = .ok (.iload_n 1, 1) := by decide +kernel
theorem dX6_isEldest_62 : decode cX6_isEldest 62 = .ok (.if_icmp .lt 7, 3) := by decide +kernel
theorem dX6_isEldest_65 : decode cX6_isEldest 65 = .ok (.iconst 1, 1) := by decide +kernel
theorem dX6_isEldest_66 : decode cX6_isEldest 66 = .ok (.goto 4, 3) := by decide +kernel
theorem dX6_isEldest_69 : decode cX6_isEldest 69 = .ok (.iconst 0, 1) := by decide +kernel
theorem dX6_isEldest_70 : decode cX6_isEldest 70 = .ok (.istore_n 3, 1) := by decide +kernel
theorem dX6_isEldest_71 : decode cX6_isEldest 71 = .ok (.iinc 4 1, 3) := by decide +kernel
theorem dX6_isEldest_74 : decode cX6_isEldest 74 = .ok (.goto (-69), 3) := by decide +kernel
theorem dX6_isEldest_77 : decode cX6_isEldest 77 = .ok (.iload_n 3, 1) := by decide +kernel
theorem dX6_isEldest_78 : decode cX6_isEldest 78 = .ok (.ireturn, 1) := by decide +kernel
theorem dX6_behind_0 : decode cX6_behind 0 = .ok (.iconst 1, 1) := by decide +kernel
theorem dX6_behind_1 : decode cX6_behind 1 = .ok (.iload_n 1, 1) := by decide +kernel
theorem dX6_behind_2 : decode cX6_behind 2 = .ok (.ishl, 1) := by decide +kernel
theorem dX6_behind_3 : decode cX6_behind 3 = .ok (.istore_n 3, 1) := by decide +kernel
theorem dX6_behind_4 : decode cX6_behind 4 = .ok (.iconst 0, 1) := by decide +kernel
theorem dX6_behind_5 : decode cX6_behind 5 = .ok (.istore 4, 2) := by decide +kernel
theorem dX6_behind_7 : decode cX6_behind 7 = .ok (.iload_n 3, 1) := by decide +kernel
theorem dX6_behind_8 : decode cX6_behind 8 = .ok (.iload 4, 2) := by decide +kernel
theorem dX6_behind_10 : decode cX6_behind 10 = .ok (.if_icmp .eq 54, 3) := by decide +kernel
theorem dX6_behind_13 : decode cX6_behind 13 = .ok (.iload_n 3, 1) := by decide +kernel
theorem dX6_behind_14 : decode cX6_behind 14 = .ok (.istore 4, 2) := by decide +kernel
theorem dX6_behind_16 : decode cX6_behind 16 = .ok (.iconst 0, 1) := by decide +kernel
theorem dX6_behind_17 : decode cX6_behind 17 = .ok (.istore 5, 2) := by decide +kernel
theorem dX6_behind_19 : decode cX6_behind 19 = .ok (.iload 5, 2) := by decide +kernel
theorem dX6_behind_21 : decode cX6_behind 21 = .ok (.bipush 6, 2) := by decide +kernel
theorem dX6_behind_23 : decode cX6_behind 23 = .ok (.if_icmp .ge 38, 3) := by decide +kernel
theorem dX6_behind_26 : decode cX6_behind 26 = .ok (.iload_n 3, 1) := by decide +kernel
theorem dX6_behind_27 : decode cX6_behind 27 = .ok (.iload_n 3, 1) := by decide +kernel
theorem dX6_behind_28 : decode cX6_behind 28 = .ok (.iload 5, 2) := by decide +kernel
theorem dX6_behind_30 : decode cX6_behind 30 = .ok (.invokestatic 100, 3) := by decide +kernel
theorem dX6_behind_33 : decode cX6_behind 33 = .ok (.ifCond .eq 19, 3) := by decide +kernel
theorem dX6_behind_36 : decode cX6_behind 36 = .ok (.aload_n 0, 1) := by decide +kernel
theorem dX6_behind_37 : decode cX6_behind 37 = .ok (.getfield 19, 3) := by decide +kernel
theorem dX6_behind_40 : decode cX6_behind 40 = .ok (.iload 5, 2) := by decide +kernel
theorem dX6_behind_42 : decode cX6_behind 42 = .ok (.iaload, 1) := by decide +kernel
theorem dX6_behind_43 : decode cX6_behind 43 = .ok (.iconst 1, 1) := by decide +kernel
theorem dX6_behind_44 : decode cX6_behind 44 = .ok (.iload_n 2, 1) := by decide +kernel
theorem dX6_behind_45 : decode cX6_behind 45 = .ok (.ishl, 1) := by decide +kernel
theorem dX6_behind_46 : decode cX6_behind 46 = .ok (.iconst (-1), 1) := by decide +kernel
theorem dX6_behind_47 : decode cX6_behind 47 = .ok (.ixor, 1) := by decide +kernel
theorem dX6_behind_48 : decode cX6_behind 48 = .ok (.iand, 1) := by decide +kernel
theorem dX6_behind_49 : decode cX6_behind 49 = .ok (.goto 4, 3) := by decide +kernel
theorem dX6_behind_52 : decode cX6_behind 52 = .ok (.iconst 0, 1) := by decide +kernel
theorem dX6_behind_53 : decode cX6_behind 53 = .ok (.ior, 1) := by decide +kernel
theorem dX6_behind_54 : decode cX6_behind 54 = .ok (.istore_n 3, 1) := by decide +kernel
theorem dX6_behind_55 : decode cX6_behind 55 = .ok (.iinc 5 1, 3) := by decide +kernel
theorem dX6_behind_58 : decode cX6_behind 58 = .ok (.goto (-39), 3) := by decide +kernel
theorem dX6_behind_61 : decode cX6_behind 61 = .ok (.goto (-54), 3) := by decide +kernel
theorem dX6_behind_64 : decode cX6_behind 64 = .ok (.iload_n 3, 1) := by decide +kernel
theorem dX6_behind_65 : decode cX6_behind 65 = .ok (.ireturn, 1) := by decide +kernel
theorem dX6_homesOf_0 : decode cX6_homesOf 0 = .ok (.iconst 0, 1) := by decide +kernel
theorem dX6_homesOf_1 : decode cX6_homesOf 1 = .ok (.istore_n 2, 1) := by decide +kernel
theorem dX6_homesOf_2 : decode cX6_homesOf 2 = .ok (.iconst 0, 1) := by decide +kernel
theorem dX6_homesOf_3 : decode cX6_homesOf 3 = .ok (.istore_n 3, 1) := by decide +kernel
theorem dX6_homesOf_4 : decode cX6_homesOf 4 = .ok (.iload_n 3, 1) := by decide +kernel
theorem dX6_homesOf_5 : decode cX6_homesOf 5 = .ok (.aload_n 0, 1) := by decide +kernel
theorem dX6_homesOf_6 : decode cX6_homesOf 6 = .ok (.getfield 111, 3) := by decide +kernel
theorem dX6_homesOf_9 : decode cX6_homesOf 9 = .ok (.if_icmp .ge 32, 3) := by decide +kernel
theorem dX6_homesOf_12 : decode cX6_homesOf 12 = .ok (.iload_n 2, 1) := by decide +kernel
theorem dX6_homesOf_13 : decode cX6_homesOf 13 = .ok (.iload_n 1, 1) := by decide +kernel
theorem dX6_homesOf_14 : decode cX6_homesOf 14 = .ok (.iload_n 3, 1) := by decide +kernel
theorem dX6_homesOf_15 : decode cX6_homesOf 15 = .ok (.invokestatic 100, 3) := by decide +kernel
theorem dX6_homesOf_18 : decode cX6_homesOf 18 = .ok (.ifCond .eq 14, 3) := by decide +kernel
theorem dX6_homesOf_21 : decode cX6_homesOf 21 = .ok (.iconst 1, 1) := by decide +kernel
theorem dX6_homesOf_22 : decode cX6_homesOf 22 = .ok (.aload_n 0, 1) := by decide +kernel
theorem dX6_homesOf_23 : decode cX6_homesOf 23 = .ok (.getfield 13, 3) := by decide +kernel
theorem dX6_homesOf_26 : decode cX6_homesOf 26 = .ok (.iload_n 3, 1) := by decide +kernel
theorem dX6_homesOf_27 : decode cX6_homesOf 27 = .ok (.iaload, 1) := by decide +kernel
theorem dX6_homesOf_28 : decode cX6_homesOf 28 = .ok (.ishl, 1) := by decide +kernel
theorem dX6_homesOf_29 : decode cX6_homesOf 29 = .ok (.goto 4, 3) := by decide +kernel
theorem dX6_homesOf_32 : decode cX6_homesOf 32 = .ok (.iconst 0, 1) := by decide +kernel
theorem dX6_homesOf_33 : decode cX6_homesOf 33 = .ok (.ior, 1) := by decide +kernel
theorem dX6_homesOf_34 : decode cX6_homesOf 34 = .ok (.istore_n 2, 1) := by decide +kernel
theorem dX6_homesOf_35 : decode cX6_homesOf 35 = .ok (.iinc 3 1, 3) := by decide +kernel
theorem dX6_homesOf_38 : decode cX6_homesOf 38 = .ok (.goto (-34), 3) := by decide +kernel
theorem dX6_homesOf_41 : decode cX6_homesOf 41 = .ok (.iload_n 2, 1) := by decide +kernel
theorem dX6_homesOf_42 : decode cX6_homesOf 42 = .ok (.ireturn, 1) := by decide +kernel
theorem dX6_say_0 : decode cX6_say 0 = .ok (.aload_n 0, 1) := by decide +kernel
theorem dX6_say_1 : decode cX6_say 1 = .ok (.aload_n 0, 1) := by decide +kernel
theorem dX6_say_2 : decode cX6_say 2 = .ok (.iload_n 1, 1) := by decide +kernel
theorem dX6_say_3 : decode cX6_say 3 = .ok (.invokevirtual 171, 3) := by decide +kernel
theorem dX6_say_6 : decode cX6_say 6 = .ok (.ifCond .eq 14, 3) := by decide +kernel
theorem dX6_say_9 : decode cX6_say 9 = .ok (.iload_n 2, 1) := by decide +kernel
theorem dX6_say_10 : decode cX6_say 10 = .ok (.invokestatic 177, 3) := by decide +kernel
theorem dX6_say_13 : decode cX6_say 13 = .ok (.ifCond .eq 7, 3) := by decide +kernel
theorem dX6_say_16 : decode cX6_say 16 = .ok (.iconst 0, 1) := by decide +kernel
theorem dX6_say_17 : decode cX6_say 17 = .ok (.goto 4, 3) := by decide +kernel
theorem dX6_say_20 : decode cX6_say 20 = .ok (.iconst 1, 1) := by decide +kernel
theorem dX6_say_21 : decode cX6_say 21 = .ok (.invokevirtual 143, 3) := by decide +kernel
theorem dX6_say_24 : decode cX6_say 24 = .ok (.ifCond .ne 5, 3) := by decide +kernel
theorem dX6_say_27 : decode cX6_say 27 = .ok (.iconst 0, 1) := by decide +kernel
theorem dX6_say_28 : decode cX6_say 28 = .ok (.ireturn, 1) := by decide +kernel
theorem dX6_say_29 : decode cX6_say 29 = .ok (.aload_n 0, 1) := by decide +kernel
theorem dX6_say_30 : decode cX6_say 30 = .ok (.iload_n 1, 1) := by decide +kernel
theorem dX6_say_31 : decode cX6_say 31 = .ok (.invokevirtual 174, 3) := by decide +kernel
theorem dX6_say_34 : decode cX6_say 34 = .ok (.ifCond .eq 6, 3) := by decide +kernel
theorem dX6_say_37 : decode cX6_say 37 = .ok (.bipush (-2), 2) := by decide +kernel
theorem dX6_say_39 : decode cX6_say 39 = .ok (.ireturn, 1) := by decide +kernel
theorem dX6_say_40 : decode cX6_say 40 = .ok (.aload_n 0, 1) := by decide +kernel
theorem dX6_say_41 : decode cX6_say 41 = .ok (.iload_n 1, 1) := by decide +kernel
theorem dX6_say_42 : decode cX6_say 42 = .ok (.iload_n 2, 1) := by decide +kernel
theorem dX6_say_43 : decode cX6_say 43 = .ok (.invokevirtual 180, 3) := by decide +kernel
theorem dX6_say_46 : decode cX6_say 46 = .ok (.ifCond .ne 6, 3) := by decide +kernel
theorem dX6_say_49 : decode cX6_say 49 = .ok (.bipush (-3), 2) := by decide +kernel
theorem dX6_say_51 : decode cX6_say 51 = .ok (.ireturn, 1) := by decide +kernel
theorem dX6_say_52 : decode cX6_say 52 = .ok (.aload_n 0, 1) := by decide +kernel
theorem dX6_say_53 : decode cX6_say 53 = .ok (.getfield 13, 3) := by decide +kernel
theorem dX6_say_56 : decode cX6_say 56 = .ok (.iload_n 1, 1) := by decide +kernel
theorem dX6_say_57 : decode cX6_say 57 = .ok (.iaload, 1) := by decide +kernel
theorem dX6_say_58 : decode cX6_say 58 = .ok (.istore_n 3, 1) := by decide +kernel
theorem dX6_say_59 : decode cX6_say 59 = .ok (.iload_n 3, 1) := by decide +kernel
theorem dX6_say_60 : decode cX6_say 60 = .ok (.iload_n 2, 1) := by decide +kernel
theorem dX6_say_61 : decode cX6_say 61 = .ok (.invokestatic 81, 3) := by decide +kernel
theorem dX6_say_64 : decode cX6_say 64 = .ok (.istore 4, 2) := by decide +kernel
theorem dX6_say_66 : decode cX6_say 66 = .ok (.aload_n 0, 1) := by decide +kernel
theorem dX6_say_67 : decode cX6_say 67 = .ok (.getfield 31, 3) := by decide +kernel
theorem dX6_say_70 : decode cX6_say 70 = .ok (.iload 4, 2) := by decide +kernel
theorem dX6_say_72 : decode cX6_say 72 = .ok (.iaload, 1) := by decide +kernel
theorem dX6_say_73 : decode cX6_say 73 = .ok (.aload_n 0, 1) := by decide +kernel
theorem dX6_say_74 : decode cX6_say 74 = .ok (.getfield 7, 3) := by decide +kernel
theorem dX6_say_77 : decode cX6_say 77 = .ok (.iload_n 1, 1) := by decide +kernel
theorem dX6_say_78 : decode cX6_say 78 = .ok (.iaload, 1) := by decide +kernel
theorem dX6_say_79 : decode cX6_say 79 = .ok (.invokestatic 100, 3) := by decide +kernel
theorem dX6_say_82 : decode cX6_say 82 = .ok (.ifCond .eq 6, 3) := by decide +kernel
theorem dX6_say_85 : decode cX6_say 85 = .ok (.bipush (-4), 2) := by decide +kernel
theorem dX6_say_87 : decode cX6_say 87 = .ok (.ireturn, 1) := by decide +kernel
theorem dX6_say_88 : decode cX6_say 88 = .ok (.aload_n 0, 1) := by decide +kernel
theorem dX6_say_89 : decode cX6_say 89 = .ok (.getfield 28, 3) := by decide +kernel
theorem dX6_say_92 : decode cX6_say 92 = .ok (.iload 4, 2) := by decide +kernel
theorem dX6_say_94 : decode cX6_say 94 = .ok (.iaload, 1) := by decide +kernel
theorem dX6_say_95 : decode cX6_say 95 = .ok (.iconst 0, 1) := by decide +kernel
theorem dX6_say_96 : decode cX6_say 96 = .ok (.invokestatic 100, 3) := by decide +kernel
theorem dX6_say_99 : decode cX6_say 99 = .ok (.ifCond .eq 21, 3) := by decide +kernel
theorem dX6_say_102 : decode cX6_say 102 = .ok (.aload_n 0, 1) := by decide +kernel
theorem dX6_say_103 : decode cX6_say 103 = .ok (.iload_n 1, 1) := by decide +kernel
theorem dX6_say_104 : decode cX6_say 104 = .ok (.aload_n 0, 1) := by decide +kernel
theorem dX6_say_105 : decode cX6_say 105 = .ok (.getfield 34, 3) := by decide +kernel
theorem dX6_say_108 : decode cX6_say 108 = .ok (.iload 4, 2) := by decide +kernel
theorem dX6_say_110 : decode cX6_say 110 = .ok (.iaload, 1) := by decide +kernel
theorem dX6_say_111 : decode cX6_say 111 = .ok (.invokevirtual 190, 3) := by decide +kernel
theorem dX6_say_114 : decode cX6_say 114 = .ok (.ifCond .ne 6, 3) := by decide +kernel
theorem dX6_say_117 : decode cX6_say 117 = .ok (.bipush (-5), 2) := by decide +kernel
theorem dX6_say_119 : decode cX6_say 119 = .ok (.ireturn, 1) := by decide +kernel
theorem dX6_say_120 : decode cX6_say 120 = .ok (.aload_n 0, 1) := by decide +kernel
theorem dX6_say_121 : decode cX6_say 121 = .ok (.aload_n 0, 1) := by decide +kernel
theorem dX6_say_122 : decode cX6_say 122 = .ok (.getfield 34, 3) := by decide +kernel
theorem dX6_say_125 : decode cX6_say 125 = .ok (.iload 4, 2) := by decide +kernel
theorem dX6_say_127 : decode cX6_say 127 = .ok (.iaload, 1) := by decide +kernel
theorem dX6_say_128 : decode cX6_say 128 = .ok (.iconst 1, 1) := by decide +kernel
theorem dX6_say_129 : decode cX6_say 129 = .ok (.iload_n 1, 1) := by decide +kernel
theorem dX6_say_130 : decode cX6_say 130 = .ok (.ishl, 1) := by decide +kernel
theorem dX6_say_131 : decode cX6_say 131 = .ok (.iconst (-1), 1) := by decide +kernel
theorem dX6_say_132 : decode cX6_say 132 = .ok (.ixor, 1) := by decide +kernel
theorem dX6_say_133 : decode cX6_say 133 = .ok (.iand, 1) := by decide +kernel
theorem dX6_say_134 : decode cX6_say 134 = .ok (.invokevirtual 193, 3) := by decide +kernel
theorem dX6_say_137 : decode cX6_say 137 = .ok (.aload_n 0, 1) := by decide +kernel
theorem dX6_say_138 : decode cX6_say 138 = .ok (.iload_n 3, 1) := by decide +kernel
theorem dX6_say_139 : decode cX6_say 139 = .ok (.invokevirtual 114, 3) := by decide +kernel
theorem dX6_say_142 : decode cX6_say 142 = .ok (.iand, 1) := by decide +kernel
theorem dX6_say_143 : decode cX6_say 143 = .ok (.istore 5, 2) := by decide +kernel
theorem dX6_say_145 : decode cX6_say 145 = .ok (.iconst 0, 1) := by decide +kernel
theorem dX6_say_146 : decode cX6_say 146 = .ok (.istore 6, 2) := by decide +kernel
theorem dX6_say_148 : decode cX6_say 148 = .ok (.iconst 0, 1) := by decide +kernel
theorem dX6_say_149 : decode cX6_say 149 = .ok (.istore 7, 2) := by decide +kernel
theorem dX6_say_151 : decode cX6_say 151 = .ok (.iload 7, 2) := by decide +kernel
theorem dX6_say_153 : decode cX6_say 153 = .ok (.bipush 6, 2) := by decide +kernel
theorem dX6_say_155 : decode cX6_say 155 = .ok (.if_icmp .ge 104, 3) := by decide +kernel
theorem dX6_say_158 : decode cX6_say 158 = .ok (.iconst 0, 1) := by decide +kernel
theorem dX6_say_159 : decode cX6_say 159 = .ok (.istore 8, 2) := by decide +kernel
theorem dX6_say_161 : decode cX6_say 161 = .ok (.iload 8, 2) := by decide +kernel
theorem dX6_say_163 : decode cX6_say 163 = .ok (.bipush 6, 2) := by decide +kernel
theorem dX6_say_165 : decode cX6_say 165 = .ok (.if_icmp .ge 88, 3) := by decide +kernel
theorem dX6_say_168 : decode cX6_say 168 = .ok (.aload_n 0, 1) := by decide +kernel
theorem dX6_say_169 : decode cX6_say 169 = .ok (.getfield 19, 3) := by decide +kernel
theorem dX6_say_172 : decode cX6_say 172 = .ok (.iload 7, 2) := by decide +kernel
theorem dX6_say_174 : decode cX6_say 174 = .ok (.iaload, 1) := by decide +kernel
theorem dX6_say_175 : decode cX6_say 175 = .ok (.iload 8, 2) := by decide +kernel
theorem dX6_say_177 : decode cX6_say 177 = .ok (.invokestatic 100, 3) := by decide +kernel
theorem dX6_say_180 : decode cX6_say 180 = .ok (.ifCond .eq 35, 3) := by decide +kernel
theorem dX6_say_183 : decode cX6_say 183 = .ok (.aload_n 0, 1) := by decide +kernel
theorem dX6_say_184 : decode cX6_say 184 = .ok (.iload 8, 2) := by decide +kernel
theorem dX6_say_186 : decode cX6_say 186 = .ok (.iload 7, 2) := by decide +kernel
theorem dX6_say_188 : decode cX6_say 188 = .ok (.invokevirtual 196, 3) := by decide +kernel
theorem dX6_say_191 : decode cX6_say 191 = .ok (.iload_n 3, 1) := by decide +kernel
theorem dX6_say_192 : decode cX6_say 192 = .ok (.invokestatic 100, 3) := by decide +kernel
theorem dX6_say_195 : decode cX6_say 195 = .ok (.ifCond .ne 20, 3) := by decide +kernel
theorem dX6_say_198 : decode cX6_say 198 = .ok (.aload_n 0, 1) := by decide +kernel
theorem dX6_say_199 : decode cX6_say 199 = .ok (.iload_n 3, 1) := by decide +kernel
theorem dX6_say_200 : decode cX6_say 200 = .ok (.invokevirtual 114, 3) := by decide +kernel
theorem dX6_say_203 : decode cX6_say 203 = .ok (.iload 7, 2) := by decide +kernel
theorem dX6_say_205 : decode cX6_say 205 = .ok (.invokestatic 100, 3) := by decide +kernel
theorem dX6_say_208 : decode cX6_say 208 = .ok (.ifCond .eq 7, 3) := by decide +kernel
theorem dX6_say_211 : decode cX6_say 211 = .ok (.iconst 1, 1) := by decide +kernel
theorem dX6_say_212 : decode cX6_say 212 = .ok (.goto 4, 3) := by decide +kernel
theorem dX6_say_215 : decode cX6_say 215 = .ok (.iconst 0, 1) := by decide +kernel
theorem dX6_say_216 : decode cX6_say 216 = .ok (.istore 9, 2) := by decide +kernel
theorem dX6_say_218 : decode cX6_say 218 = .ok (.iload 6, 2) := by decide +kernel
theorem dX6_say_220 : decode cX6_say 220 = .ok (.iload 9, 2) := by decide +kernel
theorem dX6_say_222 : decode cX6_say 222 = .ok (.ifCond .eq 21, 3) := by decide +kernel
theorem dX6_say_225 : decode cX6_say 225 = .ok (.aload_n 0, 1) := by decide +kernel
theorem dX6_say_226 : decode cX6_say 226 = .ok (.iload 8, 2) := by decide +kernel
theorem dX6_say_228 : decode cX6_say 228 = .ok (.iload 7, 2) := by decide +kernel
theorem dX6_say_230 : decode cX6_say 230 = .ok (.invokevirtual 196, 3) := by decide +kernel
theorem dX6_say_233 : decode cX6_say 233 = .ok (.iload 5, 2) := by decide +kernel
theorem dX6_say_235 : decode cX6_say 235 = .ok (.iand, 1) := by decide +kernel
theorem dX6_say_236 : decode cX6_say 236 = .ok (.ifCond .eq 7, 3) := by decide +kernel
theorem dX6_say_239 : decode cX6_say 239 = .ok (.iconst 1, 1) := by decide +kernel
theorem dX6_say_240 : decode cX6_say 240 = .ok (.goto 4, 3) := by decide +kernel
theorem dX6_say_243 : decode cX6_say 243 = .ok (.iconst 0, 1) := by decide +kernel
theorem dX6_say_244 : decode cX6_say 244 = .ok (.iadd, 1) := by decide +kernel
theorem dX6_say_245 : decode cX6_say 245 = .ok (.istore 6, 2) := by decide +kernel
theorem dX6_say_247 : decode cX6_say 247 = .ok (.iinc 8 1, 3) := by decide +kernel
theorem dX6_say_250 : decode cX6_say 250 = .ok (.goto (-89), 3) := by decide +kernel
theorem dX6_say_253 : decode cX6_say 253 = .ok (.iinc 7 1, 3) := by decide +kernel
theorem dX6_say_256 : decode cX6_say 256 = .ok (.goto (-105), 3) := by decide +kernel
theorem dX6_say_259 : decode cX6_say 259 = .ok (.iload 6, 2) := by decide +kernel
theorem dX6_say_261 : decode cX6_say 261 = .ok (.ireturn, 1) := by decide +kernel
theorem dX6_users_0 : decode cX6_users 0 = .ok (.aload_n 0, 1) := by decide +kernel
theorem dX6_users_1 : decode cX6_users 1 = .ok (.iconst 0, 1) := by decide +kernel
theorem dX6_users_2 : decode cX6_users 2 = .ok (.putfield 64, 3) := by decide +kernel
theorem dX6_users_5 : decode cX6_users 5 = .ok (.aload_n 0, 1) := by decide +kernel
theorem dX6_users_6 : decode cX6_users 6 = .ok (.getfield 111, 3) := by decide +kernel
theorem dX6_users_9 : decode cX6_users 9 = .ok (.ireturn, 1) := by decide +kernel
theorem dX6_clock_0 : decode cX6_clock 0 = .ok (.aload_n 0, 1) := by decide +kernel
theorem dX6_clock_1 : decode cX6_clock 1 = .ok (.iconst 0, 1) := by decide +kernel
theorem dX6_clock_2 : decode cX6_clock 2 = .ok (.putfield 64, 3) := by decide +kernel
theorem dX6_clock_5 : decode cX6_clock 5 = .ok (.aload_n 0, 1) := by decide +kernel
theorem dX6_clock_6 : decode cX6_clock 6 = .ok (.getfield 149, 3) := by decide +kernel
theorem dX6_clock_9 : decode cX6_clock 9 = .ok (.ireturn, 1) := by decide +kernel
theorem dX6_known_0 : decode cX6_known 0 = .ok (.aload_n 0, 1) := by decide +kernel
theorem dX6_known_1 : decode cX6_known 1 = .ok (.iload_n 1, 1) := by decide +kernel
theorem dX6_known_2 : decode cX6_known 2 = .ok (.invokestatic 139, 3) := by decide +kernel
theorem dX6_known_5 : decode cX6_known 5 = .ok (.ifCond .eq 7, 3) := by decide +kernel
theorem dX6_known_8 : decode cX6_known 8 = .ok (.iconst 0, 1) := by decide +kernel
theorem dX6_known_9 : decode cX6_known 9 = .ok (.goto 4, 3) := by decide +kernel
theorem dX6_known_12 : decode cX6_known 12 = .ok (.iconst 1, 1) := by decide +kernel
theorem dX6_known_13 : decode cX6_known 13 = .ok (.invokevirtual 143, 3) := by decide +kernel
theorem dX6_known_16 : decode cX6_known 16 = .ok (.ifCond .eq 12, 3) := by decide +kernel
theorem dX6_known_19 : decode cX6_known 19 = .ok (.aload_n 0, 1) := by decide +kernel
theorem dX6_known_20 : decode cX6_known 20 = .ok (.getfield 22, 3) := by decide +kernel
theorem dX6_known_23 : decode cX6_known 23 = .ok (.iload_n 1, 1) := by decide +kernel
theorem dX6_known_24 : decode cX6_known 24 = .ok (.iaload, 1) := by decide +kernel
theorem dX6_known_25 : decode cX6_known 25 = .ok (.goto 4, 3) := by decide +kernel
theorem dX6_known_28 : decode cX6_known 28 = .ok (.iconst 0, 1) := by decide +kernel
theorem dX6_known_29 : decode cX6_known 29 = .ok (.ireturn, 1) := by decide +kernel
theorem dX6_isView_0 : decode cX6_isView 0 = .ok (.aload_n 0, 1) := by decide +kernel
theorem dX6_isView_1 : decode cX6_isView 1 = .ok (.iload_n 1, 1) := by decide +kernel
theorem dX6_isView_2 : decode cX6_isView 2 = .ok (.invokestatic 139, 3) := by decide +kernel
theorem dX6_isView_5 : decode cX6_isView 5 = .ok (.ifCond .eq 14, 3) := by decide +kernel
theorem dX6_isView_8 : decode cX6_isView 8 = .ok (.iload_n 2, 1) := by decide +kernel
theorem dX6_isView_9 : decode cX6_isView 9 = .ok (.invokestatic 177, 3) := by decide +kernel
theorem dX6_isView_12 : decode cX6_isView 12 = .ok (.ifCond .eq 7, 3) := by decide +kernel
theorem dX6_isView_15 : decode cX6_isView 15 = .ok (.iconst 0, 1) := by decide +kernel
theorem dX6_isView_16 : decode cX6_isView 16 = .ok (.goto 4, 3) := by decide +kernel
theorem dX6_isView_19 : decode cX6_isView 19 = .ok (.iconst 1, 1) := by decide +kernel
theorem dX6_isView_20 : decode cX6_isView 20 = .ok (.invokevirtual 143, 3) := by decide +kernel
theorem dX6_isView_23 : decode cX6_isView 23 = .ok (.ireturn, 1) := by decide +kernel
theorem dX6_members_0 : decode cX6_members 0 = .ok (.aload_n 0, 1) := by decide +kernel
theorem dX6_members_1 : decode cX6_members 1 = .ok (.iload_n 1, 1) := by decide +kernel
theorem dX6_members_2 : decode cX6_members 2 = .ok (.iload_n 2, 1) := by decide +kernel
theorem dX6_members_3 : decode cX6_members 3 = .ok (.invokevirtual 199, 3) := by decide +kernel
theorem dX6_members_6 : decode cX6_members 6 = .ok (.ifCond .eq 30, 3) := by decide +kernel
theorem dX6_members_9 : decode cX6_members 9 = .ok (.aload_n 0, 1) := by decide +kernel
theorem dX6_members_10 : decode cX6_members 10 = .ok (.getfield 25, 3) := by decide +kernel
theorem dX6_members_13 : decode cX6_members 13 = .ok (.iload_n 1, 1) := by decide +kernel
theorem dX6_members_14 : decode cX6_members 14 = .ok (.iload_n 2, 1) := by decide +kernel
theorem dX6_members_15 : decode cX6_members 15 = .ok (.invokestatic 81, 3) := by decide +kernel
theorem dX6_members_18 : decode cX6_members 18 = .ok (.iaload, 1) := by decide +kernel
theorem dX6_members_19 : decode cX6_members 19 = .ok (.iconst (-1), 1) := by decide +kernel
theorem dX6_members_20 : decode cX6_members 20 = .ok (.if_icmp .eq 16, 3) := by decide +kernel
theorem dX6_members_23 : decode cX6_members 23 = .ok (.aload_n 0, 1) := by decide +kernel
theorem dX6_members_24 : decode cX6_members 24 = .ok (.getfield 34, 3) := by decide +kernel
theorem dX6_members_27 : decode cX6_members 27 = .ok (.iload_n 1, 1) := by decide +kernel
theorem dX6_members_28 : decode cX6_members 28 = .ok (.iload_n 2, 1) := by decide +kernel
theorem dX6_members_29 : decode cX6_members 29 = .ok (.invokestatic 81, 3) := by decide +kernel
theorem dX6_members_32 : decode cX6_members 32 = .ok (.iaload, 1) := by decide +kernel
theorem dX6_members_33 : decode cX6_members 33 = .ok (.goto 4, 3) := by decide +kernel
theorem dX6_members_36 : decode cX6_members 36 = .ok (.iconst 0, 1) := by decide +kernel
theorem dX6_members_37 : decode cX6_members 37 = .ok (.ireturn, 1) := by decide +kernel
theorem dX6_age_0 : decode cX6_age 0 = .ok (.aload_n 0, 1) := by decide +kernel
theorem dX6_age_1 : decode cX6_age 1 = .ok (.iload_n 1, 1) := by decide +kernel
theorem dX6_age_2 : decode cX6_age 2 = .ok (.iload_n 2, 1) := by decide +kernel
theorem dX6_age_3 : decode cX6_age 3 = .ok (.invokevirtual 199, 3) := by decide +kernel
theorem dX6_age_6 : decode cX6_age 6 = .ok (.ifCond .eq 16, 3) := by decide +kernel
theorem dX6_age_9 : decode cX6_age 9 = .ok (.aload_n 0, 1) := by decide +kernel
theorem dX6_age_10 : decode cX6_age 10 = .ok (.getfield 25, 3) := by decide +kernel
theorem dX6_age_13 : decode cX6_age 13 = .ok (.iload_n 1, 1) := by decide +kernel
theorem dX6_age_14 : decode cX6_age 14 = .ok (.iload_n 2, 1) := by decide +kernel
theorem dX6_age_15 : decode cX6_age 15 = .ok (.invokestatic 81, 3) := by decide +kernel
theorem dX6_age_18 : decode cX6_age 18 = .ok (.iaload, 1) := by decide +kernel
theorem dX6_age_19 : decode cX6_age 19 = .ok (.goto 4, 3) := by decide +kernel
theorem dX6_age_22 : decode cX6_age 22 = .ok (.iconst 0, 1) := by decide +kernel
theorem dX6_age_23 : decode cX6_age 23 = .ok (.ireturn, 1) := by decide +kernel
theorem dX6_modes_0 : decode cX6_modes 0 = .ok (.aload_n 0, 1) := by decide +kernel
theorem dX6_modes_1 : decode cX6_modes 1 = .ok (.iload_n 1, 1) := by decide +kernel
theorem dX6_modes_2 : decode cX6_modes 2 = .ok (.iload_n 2, 1) := by decide +kernel
theorem dX6_modes_3 : decode cX6_modes 3 = .ok (.invokevirtual 199, 3) := by decide +kernel
theorem dX6_modes_6 : decode cX6_modes 6 = .ok (.ifCond .ne 5, 3) := by decide +kernel
theorem dX6_modes_9 : decode cX6_modes 9 = .ok (.iconst 0, 1) := by decide +kernel
theorem dX6_modes_10 : decode cX6_modes 10 = .ok (.ireturn, 1) := by decide +kernel
theorem dX6_modes_11 : decode cX6_modes 11 = .ok (.aload_n 0, 1) := by decide +kernel
theorem dX6_modes_12 : decode cX6_modes 12 = .ok (.getfield 25, 3) := by decide +kernel
theorem dX6_modes_15 : decode cX6_modes 15 = .ok (.iload_n 1, 1) := by decide +kernel
theorem dX6_modes_16 : decode cX6_modes 16 = .ok (.iload_n 2, 1) := by decide +kernel
theorem dX6_modes_17 : decode cX6_modes 17 = .ok (.invokestatic 81, 3) := by decide +kernel
theorem dX6_modes_20 : decode cX6_modes 20 = .ok (.iaload, 1) := by decide +kernel
theorem dX6_modes_21 : decode cX6_modes 21 = .ok (.iconst (-1), 1) := by decide +kernel
theorem dX6_modes_22 : decode cX6_modes 22 = .ok (.if_icmp .ne 7, 3) := by decide +kernel
theorem dX6_modes_25 : decode cX6_modes 25 = .ok (.iconst (-1), 1) := by decide +kernel
theorem dX6_modes_26 : decode cX6_modes 26 = .ok (.goto 13, 3) := by decide +kernel
theorem dX6_modes_29 : decode cX6_modes 29 = .ok (.aload_n 0, 1) := by decide +kernel
theorem dX6_modes_30 : decode cX6_modes 30 = .ok (.getfield 28, 3) := by decide +kernel
theorem dX6_modes_33 : decode cX6_modes 33 = .ok (.iload_n 1, 1) := by decide +kernel
theorem dX6_modes_34 : decode cX6_modes 34 = .ok (.iload_n 2, 1) := by decide +kernel
theorem dX6_modes_35 : decode cX6_modes 35 = .ok (.invokestatic 81, 3) := by decide +kernel
theorem dX6_modes_38 : decode cX6_modes 38 = .ok (.iaload, 1) := by decide +kernel
theorem dX6_modes_39 : decode cX6_modes 39 = .ok (.ireturn, 1) := by decide +kernel
theorem dX6_bans_0 : decode cX6_bans 0 = .ok (.aload_n 0, 1) := by decide +kernel
theorem dX6_bans_1 : decode cX6_bans 1 = .ok (.iload_n 1, 1) := by decide +kernel
theorem dX6_bans_2 : decode cX6_bans 2 = .ok (.iload_n 2, 1) := by decide +kernel
theorem dX6_bans_3 : decode cX6_bans 3 = .ok (.invokevirtual 199, 3) := by decide +kernel
theorem dX6_bans_6 : decode cX6_bans 6 = .ok (.ifCond .ne 5, 3) := by decide +kernel
theorem dX6_bans_9 : decode cX6_bans 9 = .ok (.iconst 0, 1) := by decide +kernel
theorem dX6_bans_10 : decode cX6_bans 10 = .ok (.ireturn, 1) := by decide +kernel
theorem dX6_bans_11 : decode cX6_bans 11 = .ok (.aload_n 0, 1) := by decide +kernel
theorem dX6_bans_12 : decode cX6_bans 12 = .ok (.getfield 25, 3) := by decide +kernel
theorem dX6_bans_15 : decode cX6_bans 15 = .ok (.iload_n 1, 1) := by decide +kernel
theorem dX6_bans_16 : decode cX6_bans 16 = .ok (.iload_n 2, 1) := by decide +kernel
theorem dX6_bans_17 : decode cX6_bans 17 = .ok (.invokestatic 81, 3) := by decide +kernel
theorem dX6_bans_20 : decode cX6_bans 20 = .ok (.iaload, 1) := by decide +kernel
theorem dX6_bans_21 : decode cX6_bans 21 = .ok (.iconst (-1), 1) := by decide +kernel
theorem dX6_bans_22 : decode cX6_bans 22 = .ok (.if_icmp .ne 7, 3) := by decide +kernel
theorem dX6_bans_25 : decode cX6_bans 25 = .ok (.iconst (-1), 1) := by decide +kernel
theorem dX6_bans_26 : decode cX6_bans 26 = .ok (.goto 13, 3) := by decide +kernel
theorem dX6_bans_29 : decode cX6_bans 29 = .ok (.aload_n 0, 1) := by decide +kernel
theorem dX6_bans_30 : decode cX6_bans 30 = .ok (.getfield 31, 3) := by decide +kernel
theorem dX6_bans_33 : decode cX6_bans 33 = .ok (.iload_n 1, 1) := by decide +kernel
theorem dX6_bans_34 : decode cX6_bans 34 = .ok (.iload_n 2, 1) := by decide +kernel
theorem dX6_bans_35 : decode cX6_bans 35 = .ok (.invokestatic 81, 3) := by decide +kernel
theorem dX6_bans_38 : decode cX6_bans 38 = .ok (.iaload, 1) := by decide +kernel
theorem dX6_bans_39 : decode cX6_bans 39 = .ok (.ireturn, 1) := by decide +kernel
theorem dX6_areSame_0 : decode cX6_areSame 0 = .ok (.aload_n 0, 1) := by decide +kernel
theorem dX6_areSame_1 : decode cX6_areSame 1 = .ok (.iload_n 1, 1) := by decide +kernel
theorem dX6_areSame_2 : decode cX6_areSame 2 = .ok (.invokestatic 139, 3) := by decide +kernel
theorem dX6_areSame_5 : decode cX6_areSame 5 = .ok (.ifCond .eq 14, 3) := by decide +kernel
theorem dX6_areSame_8 : decode cX6_areSame 8 = .ok (.iload_n 2, 1) := by decide +kernel
theorem dX6_areSame_9 : decode cX6_areSame 9 = .ok (.invokestatic 139, 3) := by decide +kernel
theorem dX6_areSame_12 : decode cX6_areSame 12 = .ok (.ifCond .eq 7, 3) := by decide +kernel
theorem dX6_areSame_15 : decode cX6_areSame 15 = .ok (.iconst 0, 1) := by decide +kernel
theorem dX6_areSame_16 : decode cX6_areSame 16 = .ok (.goto 4, 3) := by decide +kernel
theorem dX6_areSame_19 : decode cX6_areSame 19 = .ok (.iconst 1, 1) := by decide +kernel
theorem dX6_areSame_20 : decode cX6_areSame 20 = .ok (.invokevirtual 143, 3) := by decide +kernel
theorem dX6_areSame_23 : decode cX6_areSame 23 = .ok (.ifCond .ne 5, 3) := by decide +kernel
theorem dX6_areSame_26 : decode cX6_areSame 26 = .ok (.iconst 0, 1) := by decide +kernel
theorem dX6_areSame_27 : decode cX6_areSame 27 = .ok (.ireturn, 1) := by decide +kernel
theorem dX6_areSame_28 : decode cX6_areSame 28 = .ok (.aload_n 0, 1) := by decide +kernel
theorem dX6_areSame_29 : decode cX6_areSame 29 = .ok (.getfield 22, 3) := by decide +kernel
theorem dX6_areSame_32 : decode cX6_areSame 32 = .ok (.iload_n 1, 1) := by decide +kernel
theorem dX6_areSame_33 : decode cX6_areSame 33 = .ok (.iaload, 1) := by decide +kernel
theorem dX6_areSame_34 : decode cX6_areSame 34 = .ok (.aload_n 0, 1) := by decide +kernel
theorem dX6_areSame_35 : decode cX6_areSame 35 = .ok (.getfield 22, 3) := by decide +kernel
theorem dX6_areSame_38 : decode cX6_areSame 38 = .ok (.iload_n 2, 1) := by decide +kernel
theorem dX6_areSame_39 : decode cX6_areSame 39 = .ok (.iaload, 1) := by decide +kernel
theorem dX6_areSame_40 : decode cX6_areSame 40 = .ok (.if_icmp .ne 7, 3) := by decide +kernel
theorem dX6_areSame_43 : decode cX6_areSame 43 = .ok (.iconst 1, 1) := by decide +kernel
theorem dX6_areSame_44 : decode cX6_areSame 44 = .ok (.goto 4, 3) := by decide +kernel
theorem dX6_areSame_47 : decode cX6_areSame 47 = .ok (.iconst 0, 1) := by decide +kernel
theorem dX6_areSame_48 : decode cX6_areSame 48 = .ok (.istore_n 3, 1) := by decide +kernel
theorem dX6_areSame_49 : decode cX6_areSame 49 = .ok (.iconst 0, 1) := by decide +kernel
theorem dX6_areSame_50 : decode cX6_areSame 50 = .ok (.istore 4, 2) := by decide +kernel
theorem dX6_areSame_52 : decode cX6_areSame 52 = .ok (.iload 4, 2) := by decide +kernel
theorem dX6_areSame_54 : decode cX6_areSame 54 = .ok (.iconst 4, 1) := by decide +kernel
theorem dX6_areSame_55 : decode cX6_areSame 55 = .ok (.if_icmp .ge 126, 3) := by decide +kernel
theorem dX6_areSame_58 : decode cX6_areSame 58 = .ok (.iload_n 1, 1) := by decide +kernel
theorem dX6_areSame_59 : decode cX6_areSame 59 = .ok (.iload 4, 2) := by decide +kernel
theorem dX6_areSame_61 : decode cX6_areSame 61 = .ok (.invokestatic 81, 3) := by decide +kernel
theorem dX6_areSame_64 : decode cX6_areSame 64 = .ok (.istore 5, 2) := by decide +kernel
theorem dX6_areSame_66 : decode cX6_areSame 66 = .ok (.iload_n 2, 1) := by decide +kernel
theorem dX6_areSame_67 : decode cX6_areSame 67 = .ok (.iload 4, 2) := by decide +kernel
theorem dX6_areSame_69 : decode cX6_areSame 69 = .ok (.invokestatic 81, 3) := by decide +kernel
theorem dX6_areSame_72 : decode cX6_areSame 72 = .ok (.istore 6, 2) := by decide +kernel
theorem dX6_areSame_74 : decode cX6_areSame 74 = .ok (.aload_n 0, 1) := by decide +kernel
theorem dX6_areSame_75 : decode cX6_areSame 75 = .ok (.getfield 28, 3) := by decide +kernel
theorem dX6_areSame_78 : decode cX6_areSame 78 = .ok (.iload 5, 2) := by decide +kernel
theorem dX6_areSame_80 : decode cX6_areSame 80 = .ok (.iaload, 1) := by decide +kernel
theorem dX6_areSame_81 : decode cX6_areSame 81 = .ok (.aload_n 0, 1) := by decide +kernel
theorem dX6_areSame_82 : decode cX6_areSame 82 = .ok (.getfield 28, 3) := by decide +kernel
theorem dX6_areSame_85 : decode cX6_areSame 85 = .ok (.iload 6, 2) := by decide +kernel
theorem dX6_areSame_87 : decode cX6_areSame 87 = .ok (.iaload, 1) := by decide +kernel
theorem dX6_areSame_88 : decode cX6_areSame 88 = .ok (.if_icmp .ne 41, 3) := by decide +kernel
theorem dX6_areSame_91 : decode cX6_areSame 91 = .ok (.aload_n 0, 1) := by decide +kernel
theorem dX6_areSame_92 : decode cX6_areSame 92 = .ok (.getfield 31, 3) := by decide +kernel
theorem dX6_areSame_95 : decode cX6_areSame 95 = .ok (.iload 5, 2) := by decide +kernel
theorem dX6_areSame_97 : decode cX6_areSame 97 = .ok (.iaload, 1) := by decide +kernel
theorem dX6_areSame_98 : decode cX6_areSame 98 = .ok (.aload_n 0, 1) := by decide +kernel
theorem dX6_areSame_99 : decode cX6_areSame 99 = .ok (.getfield 31, 3) := by decide +kernel
theorem dX6_areSame_102 : decode cX6_areSame 102 = .ok (.iload 6, 2) := by decide +kernel
theorem dX6_areSame_104 : decode cX6_areSame 104 = .ok (.iaload, 1) := by decide +kernel
theorem dX6_areSame_105 : decode cX6_areSame 105 = .ok (.if_icmp .ne 24, 3) := by decide +kernel
theorem dX6_areSame_108 : decode cX6_areSame 108 = .ok (.aload_n 0, 1) := by decide +kernel
theorem dX6_areSame_109 : decode cX6_areSame 109 = .ok (.getfield 34, 3) := by decide +kernel
theorem dX6_areSame_112 : decode cX6_areSame 112 = .ok (.iload 5, 2) := by decide +kernel
theorem dX6_areSame_114 : decode cX6_areSame 114 = .ok (.iaload, 1) := by decide +kernel
theorem dX6_areSame_115 : decode cX6_areSame 115 = .ok (.aload_n 0, 1) := by decide +kernel
theorem dX6_areSame_116 : decode cX6_areSame 116 = .ok (.getfield 34, 3) := by decide +kernel
theorem dX6_areSame_119 : decode cX6_areSame 119 = .ok (.iload 6, 2) := by decide +kernel
theorem dX6_areSame_121 : decode cX6_areSame 121 = .ok (.iaload, 1) := by decide +kernel
theorem dX6_areSame_122 : decode cX6_areSame 122 = .ok (.if_icmp .ne 7, 3) := by decide +kernel
theorem dX6_areSame_125 : decode cX6_areSame 125 = .ok (.iconst 1, 1) := by decide +kernel
theorem dX6_areSame_126 : decode cX6_areSame 126 = .ok (.goto 4, 3) := by decide +kernel
theorem dX6_areSame_129 : decode cX6_areSame 129 = .ok (.iconst 0, 1) := by decide +kernel
theorem dX6_areSame_130 : decode cX6_areSame 130 = .ok (.istore 7, 2) := by decide +kernel
theorem dX6_areSame_132 : decode cX6_areSame 132 = .ok (.iload_n 3, 1) := by decide +kernel
theorem dX6_areSame_133 : decode cX6_areSame 133 = .ok (.ifCond .eq 40, 3) := by decide +kernel
theorem dX6_areSame_136 : decode cX6_areSame 136 = .ok (.aload_n 0, 1) := by decide +kernel
theorem dX6_areSame_137 : decode cX6_areSame 137 = .ok (.getfield 25, 3) := by decide +kernel
theorem dX6_areSame_140 : decode cX6_areSame 140 = .ok (.iload 5, 2) := by decide +kernel
theorem dX6_areSame_142 : decode cX6_areSame 142 = .ok (.iaload, 1) := by decide +kernel
theorem dX6_areSame_143 : decode cX6_areSame 143 = .ok (.aload_n 0, 1) := by decide +kernel
theorem dX6_areSame_144 : decode cX6_areSame 144 = .ok (.getfield 25, 3) := by decide +kernel
theorem dX6_areSame_147 : decode cX6_areSame 147 = .ok (.iload 6, 2) := by decide +kernel
theorem dX6_areSame_149 : decode cX6_areSame 149 = .ok (.iaload, 1) := by decide +kernel
theorem dX6_areSame_150 : decode cX6_areSame 150 = .ok (.if_icmp .ne 23, 3) := by decide +kernel
theorem dX6_areSame_153 : decode cX6_areSame 153 = .ok (.aload_n 0, 1) := by decide +kernel
theorem dX6_areSame_154 : decode cX6_areSame 154 = .ok (.getfield 25, 3) := by decide +kernel
theorem dX6_areSame_157 : decode cX6_areSame 157 = .ok (.iload 5, 2) := by decide +kernel
theorem dX6_areSame_159 : decode cX6_areSame 159 = .ok (.iaload, 1) := by decide +kernel
theorem dX6_areSame_160 : decode cX6_areSame 160 = .ok (.iconst (-1), 1) := by decide +kernel
theorem dX6_areSame_161 : decode cX6_areSame 161 = .ok (.if_icmp .eq 8, 3) := by decide +kernel
theorem dX6_areSame_164 : decode cX6_areSame 164 = .ok (.iload 7, 2) := by decide +kernel
theorem dX6_areSame_166 : decode cX6_areSame 166 = .ok (.ifCond .eq 7, 3) := by decide +kernel
theorem dX6_areSame_169 : decode cX6_areSame 169 = .ok (.iconst 1, 1) := by decide +kernel
theorem dX6_areSame_170 : decode cX6_areSame 170 = .ok (.goto 4, 3) := by decide +kernel
theorem dX6_areSame_173 : decode cX6_areSame 173 = .ok (.iconst 0, 1) := by decide +kernel
theorem dX6_areSame_174 : decode cX6_areSame 174 = .ok (.istore_n 3, 1) := by decide +kernel
theorem dX6_areSame_175 : decode cX6_areSame 175 = .ok (.iinc 4 1, 3) := by decide +kernel
theorem dX6_areSame_178 : decode cX6_areSame 178 = .ok (.goto (-126), 3) := by decide +kernel
theorem dX6_areSame_181 : decode cX6_areSame 181 = .ok (.iload_n 3, 1) := by decide +kernel
theorem dX6_areSame_182 : decode cX6_areSame 182 = .ok (.ireturn, 1) := by decide +kernel
theorem dX6_joinedModes_0 : decode cX6_joinedModes 0 = .ok (.aload_n 0, 1) := by decide +kernel
theorem dX6_joinedModes_1 : decode cX6_joinedModes 1 = .ok (.iload_n 1, 1) := by decide +kernel
theorem dX6_joinedModes_2 : decode cX6_joinedModes 2 = .ok (.invokestatic 139, 3) := by decide +kernel
theorem dX6_joinedModes_5 : decode cX6_joinedModes 5 = .ok (.ifCond .eq 21, 3) := by decide +kernel
theorem dX6_joinedModes_8 : decode cX6_joinedModes 8 = .ok (.iload_n 2, 1) := by decide +kernel
theorem dX6_joinedModes_9 : decode cX6_joinedModes 9 = .ok (.invokestatic 139, 3) := by decide +kernel
theorem dX6_joinedModes_12 : decode cX6_joinedModes 12 = .ok (.ifCond .eq 14, 3) := by decide +kernel
theorem dX6_joinedModes_15 : decode cX6_joinedModes 15 = .ok (.iload_n 3, 1) := by decide +kernel
theorem dX6_joinedModes_16 : decode cX6_joinedModes 16 = .ok (.invokestatic 177, 3) := by decide +kernel
theorem dX6_joinedModes_19 : decode cX6_joinedModes 19 = .ok (.ifCond .eq 7, 3) := by decide +kernel
theorem dX6_joinedModes_22 : decode cX6_joinedModes 22 = .ok (.iconst 0, 1) := by decide +kernel
theorem dX6_joinedModes_23 : decode cX6_joinedModes 23 = .ok (.goto 4, 3) := by decide +kernel
theorem dX6_joinedModes_26 : decode cX6_joinedModes 26 = .ok (.iconst 1, 1) := by decide +kernel
theorem dX6_joinedModes_27 : decode cX6_joinedModes 27 = .ok (.invokevirtual 143, 3) := by decide +kernel
theorem dX6_joinedModes_30 : decode cX6_joinedModes 30 = .ok (.ifCond .ne 5, 3) := by decide +kernel
theorem dX6_joinedModes_33 : decode cX6_joinedModes 33 = .ok (.iconst 0, 1) := by decide +kernel
theorem dX6_joinedModes_34 : decode cX6_joinedModes 34 = .ok (.ireturn, 1) := by decide +kernel
theorem dX6_joinedModes_35 : decode cX6_joinedModes 35 = .ok (.iload_n 1, 1) := by decide +kernel
theorem dX6_joinedModes_36 : decode cX6_joinedModes 36 = .ok (.iload_n 3, 1) := by decide +kernel
theorem dX6_joinedModes_37 : decode cX6_joinedModes 37 = .ok (.invokestatic 81, 3) := by decide +kernel
theorem dX6_joinedModes_40 : decode cX6_joinedModes 40 = .ok (.istore 4, 2) := by decide +kernel
theorem dX6_joinedModes_42 : decode cX6_joinedModes 42 = .ok (.iload_n 2, 1) := by decide +kernel
theorem dX6_joinedModes_43 : decode cX6_joinedModes 43 = .ok (.iload_n 3, 1) := by decide +kernel
theorem dX6_joinedModes_44 : decode cX6_joinedModes 44 = .ok (.invokestatic 81, 3) := by decide +kernel
theorem dX6_joinedModes_47 : decode cX6_joinedModes 47 = .ok (.istore 5, 2) := by decide +kernel
theorem dX6_joinedModes_49 : decode cX6_joinedModes 49 = .ok (.aload_n 0, 1) := by decide +kernel
theorem dX6_joinedModes_50 : decode cX6_joinedModes 50 = .ok (.getfield 25, 3) := by decide +kernel
theorem dX6_joinedModes_53 : decode cX6_joinedModes 53 = .ok (.iload 4, 2) := by decide +kernel
theorem dX6_joinedModes_55 : decode cX6_joinedModes 55 = .ok (.iaload, 1) := by decide +kernel
theorem dX6_joinedModes_56 : decode cX6_joinedModes 56 = .ok (.iconst (-1), 1) := by decide +kernel
theorem dX6_joinedModes_57 : decode cX6_joinedModes 57 = .ok (.if_icmp .eq 14, 3) := by decide +kernel
theorem dX6_joinedModes_60 : decode cX6_joinedModes 60 = .ok (.aload_n 0, 1) := by decide +kernel
theorem dX6_joinedModes_61 : decode cX6_joinedModes 61 = .ok (.getfield 25, 3) := by decide +kernel
theorem dX6_joinedModes_64 : decode cX6_joinedModes 64 = .ok (.iload 5, 2) := by decide +kernel
theorem dX6_joinedModes_66 : decode cX6_joinedModes 66 = .ok (.iaload, 1) := by decide +kernel
theorem dX6_joinedModes_67 : decode cX6_joinedModes 67 = .ok (.iconst (-1), 1) := by decide +kernel
theorem dX6_joinedModes_68 : decode cX6_joinedModes 68 = .ok (.if_icmp .ne 47, 3) := by decide +kernel
theorem dX6_joinedModes_71 : decode cX6_joinedModes 71 = .ok (.aload_n 0, 1) := by decide +kernel
theorem dX6_joinedModes_72 : decode cX6_joinedModes 72 = .ok (.getfield 25, 3) := by decide +kernel
theorem dX6_joinedModes_75 : decode cX6_joinedModes 75 = .ok (.iload 4, 2) := by decide +kernel
theorem dX6_joinedModes_77 : decode cX6_joinedModes 77 = .ok (.iaload, 1) := by decide +kernel
theorem dX6_joinedModes_78 : decode cX6_joinedModes 78 = .ok (.iconst (-1), 1) := by decide +kernel
theorem dX6_joinedModes_79 : decode cX6_joinedModes 79 = .ok (.if_icmp .eq 13, 3) := by decide +kernel
theorem dX6_joinedModes_82 : decode cX6_joinedModes 82 = .ok (.aload_n 0, 1) := by decide +kernel
theorem dX6_joinedModes_83 : decode cX6_joinedModes 83 = .ok (.getfield 28, 3) := by decide +kernel
theorem dX6_joinedModes_86 : decode cX6_joinedModes 86 = .ok (.iload 4, 2) := by decide +kernel
theorem dX6_joinedModes_88 : decode cX6_joinedModes 88 = .ok (.iaload, 1) := by decide +kernel
theorem dX6_joinedModes_89 : decode cX6_joinedModes 89 = .ok (.goto 25, 3) := by decide +kernel
theorem dX6_joinedModes_92 : decode cX6_joinedModes 92 = .ok (.aload_n 0, 1) := by decide +kernel
theorem dX6_joinedModes_93 : decode cX6_joinedModes 93 = .ok (.getfield 25, 3) := by decide +kernel
theorem dX6_joinedModes_96 : decode cX6_joinedModes 96 = .ok (.iload 5, 2) := by decide +kernel
theorem dX6_joinedModes_98 : decode cX6_joinedModes 98 = .ok (.iaload, 1) := by decide +kernel
theorem dX6_joinedModes_99 : decode cX6_joinedModes 99 = .ok (.iconst (-1), 1) := by decide +kernel
theorem dX6_joinedModes_100 : decode cX6_joinedModes 100 = .ok (.if_icmp .eq 13, 3) := by decide +kernel
theorem dX6_joinedModes_103 : decode cX6_joinedModes 103 = .ok (.aload_n 0, 1) := by decide +kernel
theorem dX6_joinedModes_104 : decode cX6_joinedModes 104 = .ok (.getfield 28, 3) := by decide +kernel
theorem dX6_joinedModes_107 : decode cX6_joinedModes 107 = .ok (.iload 5, 2) := by decide +kernel
theorem dX6_joinedModes_109 : decode cX6_joinedModes 109 = .ok (.iaload, 1) := by decide +kernel
theorem dX6_joinedModes_110 : decode cX6_joinedModes 110 = .ok (.goto 4, 3) := by decide +kernel
theorem dX6_joinedModes_113 : decode cX6_joinedModes 113 = .ok (.iconst (-1), 1) := by decide +kernel
theorem dX6_joinedModes_114 : decode cX6_joinedModes 114 = .ok (.ireturn, 1) := by decide +kernel
theorem dX6_joinedModes_115 : decode cX6_joinedModes 115 = .ok (.aload_n 0, 1) := by decide +kernel
theorem dX6_joinedModes_116 : decode cX6_joinedModes 116 = .ok (.getfield 25, 3) := by decide +kernel
theorem dX6_joinedModes_119 : decode cX6_joinedModes 119 = .ok (.iload 4, 2) := by decide +kernel
theorem dX6_joinedModes_121 : decode cX6_joinedModes 121 = .ok (.iaload, 1) := by decide +kernel
theorem dX6_joinedModes_122 : decode cX6_joinedModes 122 = .ok (.aload_n 0, 1) := by decide +kernel
theorem dX6_joinedModes_123 : decode cX6_joinedModes 123 = .ok (.getfield 25, 3) := by decide +kernel
theorem dX6_joinedModes_126 : decode cX6_joinedModes 126 = .ok (.iload 5, 2) := by decide +kernel
theorem dX6_joinedModes_128 : decode cX6_joinedModes 128 = .ok (.iaload, 1) := by decide +kernel
theorem dX6_joinedModes_129 : decode cX6_joinedModes 129 = .ok (.if_icmp .ge 13, 3) := by decide +kernel
theorem dX6_joinedModes_132 : decode cX6_joinedModes 132 = .ok (.aload_n 0, 1) := by decide +kernel
theorem dX6_joinedModes_133 : decode cX6_joinedModes 133 = .ok (.getfield 28, 3) := by decide +kernel
theorem dX6_joinedModes_136 : decode cX6_joinedModes 136 = .ok (.iload 4, 2) := by decide +kernel
theorem dX6_joinedModes_138 : decode cX6_joinedModes 138 = .ok (.iaload, 1) := by decide +kernel
theorem dX6_joinedModes_139 : decode cX6_joinedModes 139 = .ok (.goto 45, 3) := by decide +kernel
theorem dX6_joinedModes_142 : decode cX6_joinedModes 142 = .ok (.aload_n 0, 1) := by decide +kernel
theorem dX6_joinedModes_143 : decode cX6_joinedModes 143 = .ok (.getfield 25, 3) := by decide +kernel
theorem dX6_joinedModes_146 : decode cX6_joinedModes 146 = .ok (.iload 5, 2) := by decide +kernel
theorem dX6_joinedModes_148 : decode cX6_joinedModes 148 = .ok (.iaload, 1) := by decide +kernel
theorem dX6_joinedModes_149 : decode cX6_joinedModes 149 = .ok (.aload_n 0, 1) := by decide +kernel
theorem dX6_joinedModes_150 : decode cX6_joinedModes 150 = .ok (.getfield 25, 3) := by decide +kernel
theorem dX6_joinedModes_153 : decode cX6_joinedModes 153 = .ok (.iload 4, 2) := by decide +kernel
theorem dX6_joinedModes_155 : decode cX6_joinedModes 155 = .ok (.iaload, 1) := by decide +kernel
theorem dX6_joinedModes_156 : decode cX6_joinedModes 156 = .ok (.if_icmp .ge 13, 3) := by decide +kernel
theorem dX6_joinedModes_159 : decode cX6_joinedModes 159 = .ok (.aload_n 0, 1) := by decide +kernel
theorem dX6_joinedModes_160 : decode cX6_joinedModes 160 = .ok (.getfield 28, 3) := by decide +kernel
theorem dX6_joinedModes_163 : decode cX6_joinedModes 163 = .ok (.iload 5, 2) := by decide +kernel
theorem dX6_joinedModes_165 : decode cX6_joinedModes 165 = .ok (.iaload, 1) := by decide +kernel
theorem dX6_joinedModes_166 : decode cX6_joinedModes 166 = .ok (.goto 18, 3) := by decide +kernel
theorem dX6_joinedModes_169 : decode cX6_joinedModes 169 = .ok (.aload_n 0, 1) := by decide +kernel
theorem dX6_joinedModes_170 : decode cX6_joinedModes 170 = .ok (.getfield 28, 3) := by decide +kernel
theorem dX6_joinedModes_173 : decode cX6_joinedModes 173 = .ok (.iload 4, 2) := by decide +kernel
theorem dX6_joinedModes_175 : decode cX6_joinedModes 175 = .ok (.iaload, 1) := by decide +kernel
theorem dX6_joinedModes_176 : decode cX6_joinedModes 176 = .ok (.aload_n 0, 1) := by decide +kernel
theorem dX6_joinedModes_177 : decode cX6_joinedModes 177 = .ok (.getfield 28, 3) := by decide +kernel
theorem dX6_joinedModes_180 : decode cX6_joinedModes 180 = .ok (.iload 5, 2) := by decide +kernel
theorem dX6_joinedModes_182 : decode cX6_joinedModes 182 = .ok (.iaload, 1) := by decide +kernel
theorem dX6_joinedModes_183 : decode cX6_joinedModes 183 = .ok (.ior, 1) := by decide +kernel
theorem dX6_joinedModes_184 : decode cX6_joinedModes 184 = .ok (.ireturn, 1) := by decide +kernel
end
section
theorem dL_link_0 : decode cL_link 0 = .ok (.aload_n 3, 1) := by decide +kernel
theorem dL_link_1 : decode cL_link 1 = .ok (.iconst 0, 1) := by decide +kernel
theorem dL_link_2 : decode cL_link 2 = .ok (.aload_n 0, 1) := by decide +kernel
theorem dL_link_3 : decode cL_link 3 = .ok (.iload_n 1, 1) := by decide +kernel
theorem dL_link_4 : decode cL_link 4 = .ok (.iload_n 2, 1) := by decide +kernel
theorem dL_link_5 : decode cL_link 5 = .ok (.invokevirtual 7, 3) := by decide +kernel
theorem dL_link_8 : decode cL_link 8 = .ok (.i2l, 1) := by decide +kernel
theorem dL_link_9 : decode cL_link 9 = .ok (.lastore, 1) := by decide +kernel
theorem dL_link_10 : decode cL_link 10 = .ok (.goto 11, 3) := by decide +kernel
theorem dL_link_13 : decode cL_link 13 = .ok (.astore 4, 2) := by decide +kernel
theorem dL_link_15 : decode cL_link 15 = .ok (.iconst 1, 1) := by decide +kernel
theorem dL_link_16 : decode cL_link 16 = .ok (.ireturn, 1) := by decide +kernel
theorem dL_link_17 : decode cL_link 17 = .ok (.astore 4, 2) := by decide +kernel
theorem dL_link_19 : decode cL_link 19 = .ok (.iconst 2, 1) := by decide +kernel
theorem dL_link_20 : decode cL_link 20 = .ok (.ireturn, 1) := by decide +kernel
theorem dL_link_21 : decode cL_link 21 = .ok (.iconst 0, 1) := by decide +kernel
theorem dL_link_22 : decode cL_link 22 = .ok (.ireturn, 1) := by decide +kernel
theorem dL_split_0 : decode cL_split 0 = .ok (.aload_n 3, 1) := by decide +kernel
theorem dL_split_1 : decode cL_split 1 = .ok (.iconst 0, 1) := by decide +kernel
theorem dL_split_2 : decode cL_split 2 = .ok (.aload_n 0, 1) := by decide +kernel
theorem dL_split_3 : decode cL_split 3 = .ok (.iload_n 1, 1) := by decide +kernel
theorem dL_split_4 : decode cL_split 4 = .ok (.iload_n 2, 1) := by decide +kernel
theorem dL_split_5 : decode cL_split 5 = .ok (.invokevirtual 17, 3) := by decide +kernel
theorem dL_split_8 : decode cL_split 8 = .ok (.i2l, 1) := by decide +kernel
theorem dL_split_9 : decode cL_split 9 = .ok (.lastore, 1) := by decide +kernel
theorem dL_split_10 : decode cL_split 10 = .ok (.goto 11, 3) := by decide +kernel
theorem dL_split_13 : decode cL_split 13 = .ok (.astore 4, 2) := by decide +kernel
theorem dL_split_15 : decode cL_split 15 = .ok (.iconst 1, 1) := by decide +kernel
theorem dL_split_16 : decode cL_split 16 = .ok (.ireturn, 1) := by decide +kernel
theorem dL_split_17 : decode cL_split 17 = .ok (.astore 4, 2) := by decide +kernel
theorem dL_split_19 : decode cL_split 19 = .ok (.iconst 2, 1) := by decide +kernel
theorem dL_split_20 : decode cL_split 20 = .ok (.ireturn, 1) := by decide +kernel
theorem dL_split_21 : decode cL_split 21 = .ok (.iconst 0, 1) := by decide +kernel
theorem dL_split_22 : decode cL_split 22 = .ok (.ireturn, 1) := by decide +kernel
theorem dL_deliver_0 : decode cL_deliver 0 = .ok (.aload_n 3, 1) := by decide +kernel
theorem dL_deliver_1 : decode cL_deliver 1 = .ok (.iconst 0, 1) := by decide +kernel
theorem dL_deliver_2 : decode cL_deliver 2 = .ok (.aload_n 0, 1) := by decide +kernel
theorem dL_deliver_3 : decode cL_deliver 3 = .ok (.iload_n 1, 1) := by decide +kernel
theorem dL_deliver_4 : decode cL_deliver 4 = .ok (.iload_n 2, 1) := by decide +kernel
theorem dL_deliver_5 : decode cL_deliver 5 = .ok (.invokevirtual 20, 3) := by decide +kernel
theorem dL_deliver_8 : decode cL_deliver 8 = .ok (.i2l, 1) := by decide +kernel
theorem dL_deliver_9 : decode cL_deliver 9 = .ok (.lastore, 1) := by decide +kernel
theorem dL_deliver_10 : decode cL_deliver 10 = .ok (.goto 11, 3) := by decide +kernel
theorem dL_deliver_13 : decode cL_deliver 13 = .ok (.astore 4, 2) := by decide +kernel
theorem dL_deliver_15 : decode cL_deliver 15 = .ok (.iconst 1, 1) := by decide +kernel
theorem dL_deliver_16 : decode cL_deliver 16 = .ok (.ireturn, 1) := by decide +kernel
theorem dL_deliver_17 : decode cL_deliver 17 = .ok (.astore 4, 2) := by decide +kernel
theorem dL_deliver_19 : decode cL_deliver 19 = .ok (.iconst 2, 1) := by decide +kernel
theorem dL_deliver_20 : decode cL_deliver 20 = .ok (.ireturn, 1) := by decide +kernel
theorem dL_deliver_21 : decode cL_deliver 21 = .ok (.iconst 0, 1) := by decide +kernel
theorem dL_deliver_22 : decode cL_deliver 22 = .ok (.ireturn, 1) := by decide +kernel
theorem dL_tree_0 : decode cL_tree 0 = .ok (.aload_n 2, 1) := by decide +kernel
theorem dL_tree_1 : decode cL_tree 1 = .ok (.iconst 0, 1) := by decide +kernel
theorem dL_tree_2 : decode cL_tree 2 = .ok (.aload_n 0, 1) := by decide +kernel
theorem dL_tree_3 : decode cL_tree 3 = .ok (.iload_n 1, 1) := by decide +kernel
theorem dL_tree_4 : decode cL_tree 4 = .ok (.invokevirtual 23, 3) := by decide +kernel
theorem dL_tree_7 : decode cL_tree 7 = .ok (.i2l, 1) := by decide +kernel
theorem dL_tree_8 : decode cL_tree 8 = .ok (.lastore, 1) := by decide +kernel
theorem dL_tree_9 : decode cL_tree 9 = .ok (.goto 6, 3) := by decide +kernel
theorem dL_tree_12 : decode cL_tree 12 = .ok (.astore_n 3, 1) := by decide +kernel
theorem dL_tree_13 : decode cL_tree 13 = .ok (.iconst 1, 1) := by decide +kernel
theorem dL_tree_14 : decode cL_tree 14 = .ok (.ireturn, 1) := by decide +kernel
theorem dL_tree_15 : decode cL_tree 15 = .ok (.iconst 0, 1) := by decide +kernel
theorem dL_tree_16 : decode cL_tree 16 = .ok (.ireturn, 1) := by decide +kernel
theorem dL_signOn_0 : decode cL_signOn 0 = .ok (.aload_n 3, 1) := by decide +kernel
theorem dL_signOn_1 : decode cL_signOn 1 = .ok (.iconst 0, 1) := by decide +kernel
theorem dL_signOn_2 : decode cL_signOn 2 = .ok (.aload_n 0, 1) := by decide +kernel
theorem dL_signOn_3 : decode cL_signOn 3 = .ok (.iload_n 1, 1) := by decide +kernel
theorem dL_signOn_4 : decode cL_signOn 4 = .ok (.iload_n 2, 1) := by decide +kernel
theorem dL_signOn_5 : decode cL_signOn 5 = .ok (.invokevirtual 27, 3) := by decide +kernel
theorem dL_signOn_8 : decode cL_signOn 8 = .ok (.i2l, 1) := by decide +kernel
theorem dL_signOn_9 : decode cL_signOn 9 = .ok (.lastore, 1) := by decide +kernel
theorem dL_signOn_10 : decode cL_signOn 10 = .ok (.goto 15, 3) := by decide +kernel
theorem dL_signOn_13 : decode cL_signOn 13 = .ok (.astore 4, 2) := by decide +kernel
theorem dL_signOn_15 : decode cL_signOn 15 = .ok (.iconst 1, 1) := by decide +kernel
theorem dL_signOn_16 : decode cL_signOn 16 = .ok (.ireturn, 1) := by decide +kernel
theorem dL_signOn_17 : decode cL_signOn 17 = .ok (.astore 4, 2) := by decide +kernel
theorem dL_signOn_19 : decode cL_signOn 19 = .ok (.iconst 2, 1) := by decide +kernel
theorem dL_signOn_20 : decode cL_signOn 20 = .ok (.ireturn, 1) := by decide +kernel
theorem dL_signOn_21 : decode cL_signOn 21 = .ok (.astore 4, 2) := by decide +kernel
theorem dL_signOn_23 : decode cL_signOn 23 = .ok (.iconst 3, 1) := by decide +kernel
theorem dL_signOn_24 : decode cL_signOn 24 = .ok (.ireturn, 1) := by decide +kernel
theorem dL_signOn_25 : decode cL_signOn 25 = .ok (.iconst 0, 1) := by decide +kernel
theorem dL_signOn_26 : decode cL_signOn 26 = .ok (.ireturn, 1) := by decide +kernel
theorem dL_quit_0 : decode cL_quit 0 = .ok (.aload_n 0, 1) := by decide +kernel
theorem dL_quit_1 : decode cL_quit 1 = .ok (.iload_n 1, 1) := by decide +kernel
theorem dL_quit_2 : decode cL_quit 2 = .ok (.invokevirtual 33, 3) := by decide +kernel
theorem dL_quit_5 : decode cL_quit 5 = .ok (.goto 9, 3) := by decide +kernel
theorem dL_quit_8 : decode cL_quit 8 = .ok (.astore_n 2, 1) := by decide +kernel
theorem dL_quit_9 : decode cL_quit 9 = .ok (.iconst 1, 1) := by decide +kernel
theorem dL_quit_10 : decode cL_quit 10 = .ok (.ireturn, 1) := by decide +kernel
theorem dL_quit_11 : decode cL_quit 11 = .ok (.astore_n 2, 1) := by decide +kernel
theorem dL_quit_12 : decode cL_quit 12 = .ok (.iconst 2, 1) := by decide +kernel
theorem dL_quit_13 : decode cL_quit 13 = .ok (.ireturn, 1) := by decide +kernel
theorem dL_quit_14 : decode cL_quit 14 = .ok (.iconst 0, 1) := by decide +kernel
theorem dL_quit_15 : decode cL_quit 15 = .ok (.ireturn, 1) := by decide +kernel
theorem dL_join_0 : decode cL_join 0 = .ok (.aload_n 3, 1) := by decide +kernel
theorem dL_join_1 : decode cL_join 1 = .ok (.iconst 0, 1) := by decide +kernel
theorem dL_join_2 : decode cL_join 2 = .ok (.aload_n 0, 1) := by decide +kernel
theorem dL_join_3 : decode cL_join 3 = .ok (.iload_n 1, 1) := by decide +kernel
theorem dL_join_4 : decode cL_join 4 = .ok (.iload_n 2, 1) := by decide +kernel
theorem dL_join_5 : decode cL_join 5 = .ok (.invokevirtual 37, 3) := by decide +kernel
theorem dL_join_8 : decode cL_join 8 = .ok (.i2l, 1) := by decide +kernel
theorem dL_join_9 : decode cL_join 9 = .ok (.lastore, 1) := by decide +kernel
theorem dL_join_10 : decode cL_join 10 = .ok (.goto 11, 3) := by decide +kernel
theorem dL_join_13 : decode cL_join 13 = .ok (.astore 4, 2) := by decide +kernel
theorem dL_join_15 : decode cL_join 15 = .ok (.iconst 1, 1) := by decide +kernel
theorem dL_join_16 : decode cL_join 16 = .ok (.ireturn, 1) := by decide +kernel
theorem dL_join_17 : decode cL_join 17 = .ok (.astore 4, 2) := by decide +kernel
theorem dL_join_19 : decode cL_join 19 = .ok (.iconst 2, 1) := by decide +kernel
theorem dL_join_20 : decode cL_join 20 = .ok (.ireturn, 1) := by decide +kernel
theorem dL_join_21 : decode cL_join 21 = .ok (.iconst 0, 1) := by decide +kernel
theorem dL_join_22 : decode cL_join 22 = .ok (.ireturn, 1) := by decide +kernel
theorem dL_leave_0 : decode cL_leave 0 = .ok (.aload_n 0, 1) := by decide +kernel
theorem dL_leave_1 : decode cL_leave 1 = .ok (.iload_n 1, 1) := by decide +kernel
theorem dL_leave_2 : decode cL_leave 2 = .ok (.iload_n 2, 1) := by decide +kernel
theorem dL_leave_3 : decode cL_leave 3 = .ok (.invokevirtual 40, 3) := by decide +kernel
theorem dL_leave_6 : decode cL_leave 6 = .ok (.goto 9, 3) := by decide +kernel
theorem dL_leave_9 : decode cL_leave 9 = .ok (.astore_n 3, 1) := by decide +kernel
theorem dL_leave_10 : decode cL_leave 10 = .ok (.iconst 1, 1) := by decide +kernel
theorem dL_leave_11 : decode cL_leave 11 = .ok (.ireturn, 1) := by decide +kernel
theorem dL_leave_12 : decode cL_leave 12 = .ok (.astore_n 3, 1) := by decide +kernel
theorem dL_leave_13 : decode cL_leave 13 = .ok (.iconst 2, 1) := by decide +kernel
theorem dL_leave_14 : decode cL_leave 14 = .ok (.ireturn, 1) := by decide +kernel
theorem dL_leave_15 : decode cL_leave 15 = .ok (.iconst 0, 1) := by decide +kernel
theorem dL_leave_16 : decode cL_leave 16 = .ok (.ireturn, 1) := by decide +kernel
theorem dL_setModes_0 : decode cL_setModes 0 = .ok (.aload 5, 2) := by decide +kernel
theorem dL_setModes_2 : decode cL_setModes 2 = .ok (.iconst 0, 1) := by decide +kernel
theorem dL_setModes_3 : decode cL_setModes 3 = .ok (.aload_n 0, 1) := by decide +kernel
theorem dL_setModes_4 : decode cL_setModes 4 = .ok (.iload_n 1, 1) := by decide +kernel
theorem dL_setModes_5 : decode cL_setModes 5 = .ok (.iload_n 2, 1) := by decide +kernel
theorem dL_setModes_6 : decode cL_setModes 6 = .ok (.iload_n 3, 1) := by decide +kernel
theorem dL_setModes_7 : decode cL_setModes 7 = .ok (.iload 4, 2) := by decide +kernel
theorem dL_setModes_9 : decode cL_setModes 9 = .ok (.invokevirtual 44, 3) := by decide +kernel
theorem dL_setModes_12 : decode cL_setModes 12 = .ok (.i2l, 1) := by decide +kernel
theorem dL_setModes_13 : decode cL_setModes 13 = .ok (.lastore, 1) := by decide +kernel
theorem dL_setModes_14 : decode cL_setModes 14 = .ok (.goto 15, 3) := by decide +kernel
theorem dL_setModes_17 : decode cL_setModes 17 = .ok (.astore 6, 2) := by decide +kernel
theorem dL_setModes_19 : decode cL_setModes 19 = .ok (.iconst 1, 1) := by decide +kernel
theorem dL_setModes_20 : decode cL_setModes 20 = .ok (.ireturn, 1) := by decide +kernel
theorem dL_setModes_21 : decode cL_setModes 21 = .ok (.astore 6, 2) := by decide +kernel
theorem dL_setModes_23 : decode cL_setModes 23 = .ok (.iconst 2, 1) := by decide +kernel
theorem dL_setModes_24 : decode cL_setModes 24 = .ok (.ireturn, 1) := by decide +kernel
theorem dL_setModes_25 : decode cL_setModes 25 = .ok (.astore 6, 2) := by decide +kernel
theorem dL_setModes_27 : decode cL_setModes 27 = .ok (.iconst 3, 1) := by decide +kernel
theorem dL_setModes_28 : decode cL_setModes 28 = .ok (.ireturn, 1) := by decide +kernel
theorem dL_setModes_29 : decode cL_setModes 29 = .ok (.iconst 0, 1) := by decide +kernel
theorem dL_setModes_30 : decode cL_setModes 30 = .ok (.ireturn, 1) := by decide +kernel
theorem dL_say_0 : decode cL_say 0 = .ok (.aload_n 3, 1) := by decide +kernel
theorem dL_say_1 : decode cL_say 1 = .ok (.iconst 0, 1) := by decide +kernel
theorem dL_say_2 : decode cL_say 2 = .ok (.aload_n 0, 1) := by decide +kernel
theorem dL_say_3 : decode cL_say 3 = .ok (.iload_n 1, 1) := by decide +kernel
theorem dL_say_4 : decode cL_say 4 = .ok (.iload_n 2, 1) := by decide +kernel
theorem dL_say_5 : decode cL_say 5 = .ok (.invokevirtual 48, 3) := by decide +kernel
theorem dL_say_8 : decode cL_say 8 = .ok (.i2l, 1) := by decide +kernel
theorem dL_say_9 : decode cL_say 9 = .ok (.lastore, 1) := by decide +kernel
theorem dL_say_10 : decode cL_say 10 = .ok (.goto 7, 3) := by decide +kernel
theorem dL_say_13 : decode cL_say 13 = .ok (.astore 4, 2) := by decide +kernel
theorem dL_say_15 : decode cL_say 15 = .ok (.iconst 1, 1) := by decide +kernel
theorem dL_say_16 : decode cL_say 16 = .ok (.ireturn, 1) := by decide +kernel
theorem dL_say_17 : decode cL_say 17 = .ok (.iconst 0, 1) := by decide +kernel
theorem dL_say_18 : decode cL_say 18 = .ok (.ireturn, 1) := by decide +kernel
theorem dL_known_0 : decode cL_known 0 = .ok (.aload_n 2, 1) := by decide +kernel
theorem dL_known_1 : decode cL_known 1 = .ok (.iconst 0, 1) := by decide +kernel
theorem dL_known_2 : decode cL_known 2 = .ok (.aload_n 0, 1) := by decide +kernel
theorem dL_known_3 : decode cL_known 3 = .ok (.iload_n 1, 1) := by decide +kernel
theorem dL_known_4 : decode cL_known 4 = .ok (.invokevirtual 51, 3) := by decide +kernel
theorem dL_known_7 : decode cL_known 7 = .ok (.i2l, 1) := by decide +kernel
theorem dL_known_8 : decode cL_known 8 = .ok (.lastore, 1) := by decide +kernel
theorem dL_known_9 : decode cL_known 9 = .ok (.goto 6, 3) := by decide +kernel
theorem dL_known_12 : decode cL_known 12 = .ok (.astore_n 3, 1) := by decide +kernel
theorem dL_known_13 : decode cL_known 13 = .ok (.iconst 1, 1) := by decide +kernel
theorem dL_known_14 : decode cL_known 14 = .ok (.ireturn, 1) := by decide +kernel
theorem dL_known_15 : decode cL_known 15 = .ok (.iconst 0, 1) := by decide +kernel
theorem dL_known_16 : decode cL_known 16 = .ok (.ireturn, 1) := by decide +kernel
theorem dL_members_0 : decode cL_members 0 = .ok (.aload_n 3, 1) := by decide +kernel
theorem dL_members_1 : decode cL_members 1 = .ok (.iconst 0, 1) := by decide +kernel
theorem dL_members_2 : decode cL_members 2 = .ok (.aload_n 0, 1) := by decide +kernel
theorem dL_members_3 : decode cL_members 3 = .ok (.iload_n 1, 1) := by decide +kernel
theorem dL_members_4 : decode cL_members 4 = .ok (.iload_n 2, 1) := by decide +kernel
theorem dL_members_5 : decode cL_members 5 = .ok (.invokevirtual 54, 3) := by decide +kernel
theorem dL_members_8 : decode cL_members 8 = .ok (.i2l, 1) := by decide +kernel
theorem dL_members_9 : decode cL_members 9 = .ok (.lastore, 1) := by decide +kernel
theorem dL_members_10 : decode cL_members 10 = .ok (.goto 7, 3) := by decide +kernel
theorem dL_members_13 : decode cL_members 13 = .ok (.astore 4, 2) := by decide +kernel
theorem dL_members_15 : decode cL_members 15 = .ok (.iconst 1, 1) := by decide +kernel
theorem dL_members_16 : decode cL_members 16 = .ok (.ireturn, 1) := by decide +kernel
theorem dL_members_17 : decode cL_members 17 = .ok (.iconst 0, 1) := by decide +kernel
theorem dL_members_18 : decode cL_members 18 = .ok (.ireturn, 1) := by decide +kernel
theorem dL_age_0 : decode cL_age 0 = .ok (.aload_n 3, 1) := by decide +kernel
theorem dL_age_1 : decode cL_age 1 = .ok (.iconst 0, 1) := by decide +kernel
theorem dL_age_2 : decode cL_age 2 = .ok (.aload_n 0, 1) := by decide +kernel
theorem dL_age_3 : decode cL_age 3 = .ok (.iload_n 1, 1) := by decide +kernel
theorem dL_age_4 : decode cL_age 4 = .ok (.iload_n 2, 1) := by decide +kernel
theorem dL_age_5 : decode cL_age 5 = .ok (.invokevirtual 57, 3) := by decide +kernel
theorem dL_age_8 : decode cL_age 8 = .ok (.i2l, 1) := by decide +kernel
theorem dL_age_9 : decode cL_age 9 = .ok (.lastore, 1) := by decide +kernel
theorem dL_age_10 : decode cL_age 10 = .ok (.goto 7, 3) := by decide +kernel
theorem dL_age_13 : decode cL_age 13 = .ok (.astore 4, 2) := by decide +kernel
theorem dL_age_15 : decode cL_age 15 = .ok (.iconst 1, 1) := by decide +kernel
theorem dL_age_16 : decode cL_age 16 = .ok (.ireturn, 1) := by decide +kernel
theorem dL_age_17 : decode cL_age 17 = .ok (.iconst 0, 1) := by decide +kernel
theorem dL_age_18 : decode cL_age 18 = .ok (.ireturn, 1) := by decide +kernel
theorem dL_modes_0 : decode cL_modes 0 = .ok (.aload_n 3, 1) := by decide +kernel
theorem dL_modes_1 : decode cL_modes 1 = .ok (.iconst 0, 1) := by decide +kernel
theorem dL_modes_2 : decode cL_modes 2 = .ok (.aload_n 0, 1) := by decide +kernel
theorem dL_modes_3 : decode cL_modes 3 = .ok (.iload_n 1, 1) := by decide +kernel
theorem dL_modes_4 : decode cL_modes 4 = .ok (.iload_n 2, 1) := by decide +kernel
theorem dL_modes_5 : decode cL_modes 5 = .ok (.invokevirtual 60, 3) := by decide +kernel
theorem dL_modes_8 : decode cL_modes 8 = .ok (.i2l, 1) := by decide +kernel
theorem dL_modes_9 : decode cL_modes 9 = .ok (.lastore, 1) := by decide +kernel
theorem dL_modes_10 : decode cL_modes 10 = .ok (.goto 7, 3) := by decide +kernel
theorem dL_modes_13 : decode cL_modes 13 = .ok (.astore 4, 2) := by decide +kernel
theorem dL_modes_15 : decode cL_modes 15 = .ok (.iconst 1, 1) := by decide +kernel
theorem dL_modes_16 : decode cL_modes 16 = .ok (.ireturn, 1) := by decide +kernel
theorem dL_modes_17 : decode cL_modes 17 = .ok (.iconst 0, 1) := by decide +kernel
theorem dL_modes_18 : decode cL_modes 18 = .ok (.ireturn, 1) := by decide +kernel
theorem dL_bans_0 : decode cL_bans 0 = .ok (.aload_n 3, 1) := by decide +kernel
theorem dL_bans_1 : decode cL_bans 1 = .ok (.iconst 0, 1) := by decide +kernel
theorem dL_bans_2 : decode cL_bans 2 = .ok (.aload_n 0, 1) := by decide +kernel
theorem dL_bans_3 : decode cL_bans 3 = .ok (.iload_n 1, 1) := by decide +kernel
theorem dL_bans_4 : decode cL_bans 4 = .ok (.iload_n 2, 1) := by decide +kernel
theorem dL_bans_5 : decode cL_bans 5 = .ok (.invokevirtual 63, 3) := by decide +kernel
theorem dL_bans_8 : decode cL_bans 8 = .ok (.i2l, 1) := by decide +kernel
theorem dL_bans_9 : decode cL_bans 9 = .ok (.lastore, 1) := by decide +kernel
theorem dL_bans_10 : decode cL_bans 10 = .ok (.goto 7, 3) := by decide +kernel
theorem dL_bans_13 : decode cL_bans 13 = .ok (.astore 4, 2) := by decide +kernel
theorem dL_bans_15 : decode cL_bans 15 = .ok (.iconst 1, 1) := by decide +kernel
theorem dL_bans_16 : decode cL_bans 16 = .ok (.ireturn, 1) := by decide +kernel
theorem dL_bans_17 : decode cL_bans 17 = .ok (.iconst 0, 1) := by decide +kernel
theorem dL_bans_18 : decode cL_bans 18 = .ok (.ireturn, 1) := by decide +kernel
theorem dL_areSame_0 : decode cL_areSame 0 = .ok (.aload_n 3, 1) := by decide +kernel
theorem dL_areSame_1 : decode cL_areSame 1 = .ok (.iconst 0, 1) := by decide +kernel
theorem dL_areSame_2 : decode cL_areSame 2 = .ok (.aload_n 0, 1) := by decide +kernel
theorem dL_areSame_3 : decode cL_areSame 3 = .ok (.iload_n 1, 1) := by decide +kernel
theorem dL_areSame_4 : decode cL_areSame 4 = .ok (.iload_n 2, 1) := by decide +kernel
theorem dL_areSame_5 : decode cL_areSame 5 = .ok (.invokevirtual 66, 3) := by decide +kernel
theorem dL_areSame_8 : decode cL_areSame 8 = .ok (.ifCond .eq 7, 3) := by decide +kernel
theorem dL_areSame_11 : decode cL_areSame 11 = .ok (.lconst 1, 1) := by decide +kernel
theorem dL_areSame_12 : decode cL_areSame 12 = .ok (.goto 4, 3) := by decide +kernel
theorem dL_areSame_15 : decode cL_areSame 15 = .ok (.lconst 0, 1) := by decide +kernel
theorem dL_areSame_16 : decode cL_areSame 16 = .ok (.lastore, 1) := by decide +kernel
theorem dL_areSame_17 : decode cL_areSame 17 = .ok (.goto 7, 3) := by decide +kernel
theorem dL_areSame_20 : decode cL_areSame 20 = .ok (.astore 4, 2) := by decide +kernel
theorem dL_areSame_22 : decode cL_areSame 22 = .ok (.iconst 1, 1) := by decide +kernel
theorem dL_areSame_23 : decode cL_areSame 23 = .ok (.ireturn, 1) := by decide +kernel
theorem dL_areSame_24 : decode cL_areSame 24 = .ok (.iconst 0, 1) := by decide +kernel
theorem dL_areSame_25 : decode cL_areSame 25 = .ok (.ireturn, 1) := by decide +kernel
theorem dL_joinedModes_0 : decode cL_joinedModes 0 = .ok (.aload 4, 2) := by decide +kernel
theorem dL_joinedModes_2 : decode cL_joinedModes 2 = .ok (.iconst 0, 1) := by decide +kernel
theorem dL_joinedModes_3 : decode cL_joinedModes 3 = .ok (.aload_n 0, 1) := by decide +kernel
theorem dL_joinedModes_4 : decode cL_joinedModes 4 = .ok (.iload_n 1, 1) := by decide +kernel
theorem dL_joinedModes_5 : decode cL_joinedModes 5 = .ok (.iload_n 2, 1) := by decide +kernel
theorem dL_joinedModes_6 : decode cL_joinedModes 6 = .ok (.iload_n 3, 1) := by decide +kernel
theorem dL_joinedModes_7 : decode cL_joinedModes 7 = .ok (.invokevirtual 70, 3) := by decide +kernel
theorem dL_joinedModes_10 : decode cL_joinedModes 10 = .ok (.i2l, 1) := by decide +kernel
theorem dL_joinedModes_11 : decode cL_joinedModes 11 = .ok (.lastore, 1) := by decide +kernel
theorem dL_joinedModes_12 : decode cL_joinedModes 12 = .ok (.goto 7, 3) := by decide +kernel
theorem dL_joinedModes_15 : decode cL_joinedModes 15 = .ok (.astore 5, 2) := by decide +kernel
theorem dL_joinedModes_17 : decode cL_joinedModes 17 = .ok (.iconst 1, 1) := by decide +kernel
theorem dL_joinedModes_18 : decode cL_joinedModes 18 = .ok (.ireturn, 1) := by decide +kernel
theorem dL_joinedModes_19 : decode cL_joinedModes 19 = .ok (.iconst 0, 1) := by decide +kernel
theorem dL_joinedModes_20 : decode cL_joinedModes 20 = .ok (.ireturn, 1) := by decide +kernel
theorem dL_law_0 : decode cL_law 0 = .ok (.new 8, 3) := by decide +kernel
theorem dL_law_3 : decode cL_law 3 = .ok (.dup, 1) := by decide +kernel
theorem dL_law_4 : decode cL_law 4 = .ok (.invokespecial 74, 3) := by decide +kernel
theorem dL_law_7 : decode cL_law 7 = .ok (.astore_n 1, 1) := by decide +kernel
theorem dL_law_8 : decode cL_law 8 = .ok (.new 75, 3) := by decide +kernel
theorem dL_law_11 : decode cL_law 11 = .ok (.dup, 1) := by decide +kernel
theorem dL_law_12 : decode cL_law 12 = .ok (.invokespecial 77, 3) := by decide +kernel
theorem dL_law_15 : decode cL_law 15 = .ok (.astore_n 2, 1) := by decide +kernel
theorem dL_law_16 : decode cL_law 16 = .ok (.iconst 1, 1) := by decide +kernel
theorem dL_law_17 : decode cL_law 17 = .ok (.newarray .long, 2) := by decide +kernel
theorem dL_law_19 : decode cL_law 19 = .ok (.astore_n 3, 1) := by decide +kernel
theorem dL_law_20 : decode cL_law 20 = .ok (.iconst 0, 1) := by decide +kernel
theorem dL_law_21 : decode cL_law 21 = .ok (.istore 4, 2) := by decide +kernel
theorem dL_law_23 : decode cL_law 23 = .ok (.iload 4, 2) := by decide +kernel
theorem dL_law_25 : decode cL_law 25 = .ok (.aload_n 0, 1) := by decide +kernel
theorem dL_law_26 : decode cL_law 26 = .ok (.arraylength, 1) := by decide +kernel
theorem dL_law_27 : decode cL_law 27 = .ok (.iconst 5, 1) := by decide +kernel
theorem dL_law_28 : decode cL_law 28 = .ok (.isub, 1) := by decide +kernel
theorem dL_law_29 : decode cL_law 29 = .ok (.if_icmp .gt 1290, 3) := by decide +kernel
theorem dL_law_32 : decode cL_law 32 = .ok (.aload_n 0, 1) := by decide +kernel
theorem dL_law_33 : decode cL_law 33 = .ok (.iload 4, 2) := by decide +kernel
theorem dL_law_35 : decode cL_law 35 = .ok (.iaload, 1) := by decide +kernel
theorem dL_law_36 : decode cL_law 36 = .ok (.bipush 31, 2) := by decide +kernel
theorem dL_law_38 : decode cL_law 38 = .ok (.iand, 1) := by decide +kernel
theorem dL_law_39 : decode cL_law 39 = .ok (.tableswitch 1274 0 20 #[97, 165, 233, 301, 314, 327, 383, 453, 489, 557, 605, 697, 765, 778, 791, 847, 915, 983, 1051, 1119, 1194], 97) := by decide +kernel
theorem dL_law_136 : decode cL_law 136 = .ok (.aload_n 1, 1) := by decide +kernel
theorem dL_law_137 : decode cL_law 137 = .ok (.aload_n 0, 1) := by decide +kernel
theorem dL_law_138 : decode cL_law 138 = .ok (.iload 4, 2) := by decide +kernel
theorem dL_law_140 : decode cL_law 140 = .ok (.iconst 1, 1) := by decide +kernel
theorem dL_law_141 : decode cL_law 141 = .ok (.iadd, 1) := by decide +kernel
theorem dL_law_142 : decode cL_law 142 = .ok (.iaload, 1) := by decide +kernel
theorem dL_law_143 : decode cL_law 143 = .ok (.aload_n 0, 1) := by decide +kernel
theorem dL_law_144 : decode cL_law 144 = .ok (.iload 4, 2) := by decide +kernel
theorem dL_law_146 : decode cL_law 146 = .ok (.iconst 2, 1) := by decide +kernel
theorem dL_law_147 : decode cL_law 147 = .ok (.iadd, 1) := by decide +kernel
theorem dL_law_148 : decode cL_law 148 = .ok (.iaload, 1) := by decide +kernel
theorem dL_law_149 : decode cL_law 149 = .ok (.aload_n 3, 1) := by decide +kernel
theorem dL_law_150 : decode cL_law 150 = .ok (.invokestatic 78, 3) := by decide +kernel
theorem dL_law_153 : decode cL_law 153 = .ok (.istore 5, 2) := by decide +kernel
theorem dL_law_155 : decode cL_law 155 = .ok (.aload_n 2, 1) := by decide +kernel
theorem dL_law_156 : decode cL_law 156 = .ok (.aload_n 0, 1) := by decide +kernel
theorem dL_law_157 : decode cL_law 157 = .ok (.iload 4, 2) := by decide +kernel
theorem dL_law_159 : decode cL_law 159 = .ok (.iconst 1, 1) := by decide +kernel
theorem dL_law_160 : decode cL_law 160 = .ok (.iadd, 1) := by decide +kernel
theorem dL_law_161 : decode cL_law 161 = .ok (.iaload, 1) := by decide +kernel
theorem dL_law_162 : decode cL_law 162 = .ok (.aload_n 0, 1) := by decide +kernel
theorem dL_law_163 : decode cL_law 163 = .ok (.iload 4, 2) := by decide +kernel
theorem dL_law_165 : decode cL_law 165 = .ok (.iconst 2, 1) := by decide +kernel
theorem dL_law_166 : decode cL_law 166 = .ok (.iadd, 1) := by decide +kernel
theorem dL_law_167 : decode cL_law 167 = .ok (.iaload, 1) := by decide +kernel
theorem dL_law_168 : decode cL_law 168 = .ok (.invokevirtual 83, 3) := by decide +kernel
theorem dL_law_171 : decode cL_law 171 = .ok (.istore 6, 2) := by decide +kernel
theorem dL_law_173 : decode cL_law 173 = .ok (.aload_n 2, 1) := by decide +kernel
theorem dL_law_174 : decode cL_law 174 = .ok (.invokevirtual 84, 3) := by decide +kernel
theorem dL_law_177 : decode cL_law 177 = .ok (.iload 5, 2) := by decide +kernel
theorem dL_law_179 : decode cL_law 179 = .ok (.if_icmp .eq 5, 3) := by decide +kernel
theorem dL_law_182 : decode cL_law 182 = .ok (.iconst 0, 1) := by decide +kernel
theorem dL_law_183 : decode cL_law 183 = .ok (.ireturn, 1) := by decide +kernel
theorem dL_law_184 : decode cL_law 184 = .ok (.iload 5, 2) := by decide +kernel
theorem dL_law_186 : decode cL_law 186 = .ok (.ifCond .ne 15, 3) := by decide +kernel
theorem dL_law_189 : decode cL_law 189 = .ok (.aload_n 3, 1) := by decide +kernel
theorem dL_law_190 : decode cL_law 190 = .ok (.iconst 0, 1) := by decide +kernel
theorem dL_law_191 : decode cL_law 191 = .ok (.laload, 1) := by decide +kernel
theorem dL_law_192 : decode cL_law 192 = .ok (.iload 6, 2) := by decide +kernel
theorem dL_law_194 : decode cL_law 194 = .ok (.i2l, 1) := by decide +kernel
theorem dL_law_195 : decode cL_law 195 = .ok (.lcmp, 1) := by decide +kernel
theorem dL_law_196 : decode cL_law 196 = .ok (.ifCond .eq 5, 3) := by decide +kernel
theorem dL_law_199 : decode cL_law 199 = .ok (.iconst 0, 1) := by decide +kernel
theorem dL_law_200 : decode cL_law 200 = .ok (.ireturn, 1) := by decide +kernel
theorem dL_law_201 : decode cL_law 201 = .ok (.goto 1112, 3) := by decide +kernel
theorem dL_law_204 : decode cL_law 204 = .ok (.aload_n 1, 1) := by decide +kernel
theorem dL_law_205 : decode cL_law 205 = .ok (.aload_n 0, 1) := by decide +kernel
theorem dL_law_206 : decode cL_law 206 = .ok (.iload 4, 2) := by decide +kernel
theorem dL_law_208 : decode cL_law 208 = .ok (.iconst 1, 1) := by decide +kernel
theorem dL_law_209 : decode cL_law 209 = .ok (.iadd, 1) := by decide +kernel
theorem dL_law_210 : decode cL_law 210 = .ok (.iaload, 1) := by decide +kernel
theorem dL_law_211 : decode cL_law 211 = .ok (.aload_n 0, 1) := by decide +kernel
theorem dL_law_212 : decode cL_law 212 = .ok (.iload 4, 2) := by decide +kernel
theorem dL_law_214 : decode cL_law 214 = .ok (.iconst 2, 1) := by decide +kernel
theorem dL_law_215 : decode cL_law 215 = .ok (.iadd, 1) := by decide +kernel
theorem dL_law_216 : decode cL_law 216 = .ok (.iaload, 1) := by decide +kernel
theorem dL_law_217 : decode cL_law 217 = .ok (.aload_n 3, 1) := by decide +kernel
theorem dL_law_218 : decode cL_law 218 = .ok (.invokestatic 88, 3) := by decide +kernel
theorem dL_law_221 : decode cL_law 221 = .ok (.istore 5, 2) := by decide +kernel
theorem dL_law_223 : decode cL_law 223 = .ok (.aload_n 2, 1) := by decide +kernel
theorem dL_law_224 : decode cL_law 224 = .ok (.aload_n 0, 1) := by decide +kernel
theorem dL_law_225 : decode cL_law 225 = .ok (.iload 4, 2) := by decide +kernel
theorem dL_law_227 : decode cL_law 227 = .ok (.iconst 1, 1) := by decide +kernel
theorem dL_law_228 : decode cL_law 228 = .ok (.iadd, 1) := by decide +kernel
theorem dL_law_229 : decode cL_law 229 = .ok (.iaload, 1) := by decide +kernel
theorem dL_law_230 : decode cL_law 230 = .ok (.aload_n 0, 1) := by decide +kernel
theorem dL_law_231 : decode cL_law 231 = .ok (.iload 4, 2) := by decide +kernel
theorem dL_law_233 : decode cL_law 233 = .ok (.iconst 2, 1) := by decide +kernel
theorem dL_law_234 : decode cL_law 234 = .ok (.iadd, 1) := by decide +kernel
theorem dL_law_235 : decode cL_law 235 = .ok (.iaload, 1) := by decide +kernel
theorem dL_law_236 : decode cL_law 236 = .ok (.invokevirtual 90, 3) := by decide +kernel
theorem dL_law_239 : decode cL_law 239 = .ok (.istore 6, 2) := by decide +kernel
theorem dL_law_241 : decode cL_law 241 = .ok (.aload_n 2, 1) := by decide +kernel
theorem dL_law_242 : decode cL_law 242 = .ok (.invokevirtual 84, 3) := by decide +kernel
theorem dL_law_245 : decode cL_law 245 = .ok (.iload 5, 2) := by decide +kernel
theorem dL_law_247 : decode cL_law 247 = .ok (.if_icmp .eq 5, 3) := by decide +kernel
theorem dL_law_250 : decode cL_law 250 = .ok (.iconst 0, 1) := by decide +kernel
theorem dL_law_251 : decode cL_law 251 = .ok (.ireturn, 1) := by decide +kernel
theorem dL_law_252 : decode cL_law 252 = .ok (.iload 5, 2) := by decide +kernel
theorem dL_law_254 : decode cL_law 254 = .ok (.ifCond .ne 15, 3) := by decide +kernel
theorem dL_law_257 : decode cL_law 257 = .ok (.aload_n 3, 1) := by decide +kernel
theorem dL_law_258 : decode cL_law 258 = .ok (.iconst 0, 1) := by decide +kernel
theorem dL_law_259 : decode cL_law 259 = .ok (.laload, 1) := by decide +kernel
theorem dL_law_260 : decode cL_law 260 = .ok (.iload 6, 2) := by decide +kernel
theorem dL_law_262 : decode cL_law 262 = .ok (.i2l, 1) := by decide +kernel
theorem dL_law_263 : decode cL_law 263 = .ok (.lcmp, 1) := by decide +kernel
theorem dL_law_264 : decode cL_law 264 = .ok (.ifCond .eq 5, 3) := by decide +kernel
theorem dL_law_267 : decode cL_law 267 = .ok (.iconst 0, 1) := by decide +kernel
theorem dL_law_268 : decode cL_law 268 = .ok (.ireturn, 1) := by decide +kernel
theorem dL_law_269 : decode cL_law 269 = .ok (.goto 1044, 3) := by decide +kernel
theorem dL_law_272 : decode cL_law 272 = .ok (.aload_n 1, 1) := by decide +kernel
theorem dL_law_273 : decode cL_law 273 = .ok (.aload_n 0, 1) := by decide +kernel
theorem dL_law_274 : decode cL_law 274 = .ok (.iload 4, 2) := by decide +kernel
theorem dL_law_276 : decode cL_law 276 = .ok (.iconst 1, 1) := by decide +kernel
theorem dL_law_277 : decode cL_law 277 = .ok (.iadd, 1) := by decide +kernel
theorem dL_law_278 : decode cL_law 278 = .ok (.iaload, 1) := by decide +kernel
theorem dL_law_279 : decode cL_law 279 = .ok (.aload_n 0, 1) := by decide +kernel
theorem dL_law_280 : decode cL_law 280 = .ok (.iload 4, 2) := by decide +kernel
theorem dL_law_282 : decode cL_law 282 = .ok (.iconst 2, 1) := by decide +kernel
theorem dL_law_283 : decode cL_law 283 = .ok (.iadd, 1) := by decide +kernel
theorem dL_law_284 : decode cL_law 284 = .ok (.iaload, 1) := by decide +kernel
theorem dL_law_285 : decode cL_law 285 = .ok (.aload_n 3, 1) := by decide +kernel
theorem dL_law_286 : decode cL_law 286 = .ok (.invokestatic 91, 3) := by decide +kernel
theorem dL_law_289 : decode cL_law 289 = .ok (.istore 5, 2) := by decide +kernel
theorem dL_law_291 : decode cL_law 291 = .ok (.aload_n 2, 1) := by decide +kernel
theorem dL_law_292 : decode cL_law 292 = .ok (.aload_n 0, 1) := by decide +kernel
theorem dL_law_293 : decode cL_law 293 = .ok (.iload 4, 2) := by decide +kernel
theorem dL_law_295 : decode cL_law 295 = .ok (.iconst 1, 1) := by decide +kernel
theorem dL_law_296 : decode cL_law 296 = .ok (.iadd, 1) := by decide +kernel
theorem dL_law_297 : decode cL_law 297 = .ok (.iaload, 1) := by decide +kernel
theorem dL_law_298 : decode cL_law 298 = .ok (.aload_n 0, 1) := by decide +kernel
theorem dL_law_299 : decode cL_law 299 = .ok (.iload 4, 2) := by decide +kernel
theorem dL_law_301 : decode cL_law 301 = .ok (.iconst 2, 1) := by decide +kernel
theorem dL_law_302 : decode cL_law 302 = .ok (.iadd, 1) := by decide +kernel
theorem dL_law_303 : decode cL_law 303 = .ok (.iaload, 1) := by decide +kernel
theorem dL_law_304 : decode cL_law 304 = .ok (.invokevirtual 93, 3) := by decide +kernel
theorem dL_law_307 : decode cL_law 307 = .ok (.istore 6, 2) := by decide +kernel
theorem dL_law_309 : decode cL_law 309 = .ok (.aload_n 2, 1) := by decide +kernel
theorem dL_law_310 : decode cL_law 310 = .ok (.invokevirtual 84, 3) := by decide +kernel
theorem dL_law_313 : decode cL_law 313 = .ok (.iload 5, 2) := by decide +kernel
theorem dL_law_315 : decode cL_law 315 = .ok (.if_icmp .eq 5, 3) := by decide +kernel
theorem dL_law_318 : decode cL_law 318 = .ok (.iconst 0, 1) := by decide +kernel
theorem dL_law_319 : decode cL_law 319 = .ok (.ireturn, 1) := by decide +kernel
theorem dL_law_320 : decode cL_law 320 = .ok (.iload 5, 2) := by decide +kernel
theorem dL_law_322 : decode cL_law 322 = .ok (.ifCond .ne 15, 3) := by decide +kernel
theorem dL_law_325 : decode cL_law 325 = .ok (.aload_n 3, 1) := by decide +kernel
theorem dL_law_326 : decode cL_law 326 = .ok (.iconst 0, 1) := by decide +kernel
theorem dL_law_327 : decode cL_law 327 = .ok (.laload, 1) := by decide +kernel
theorem dL_law_328 : decode cL_law 328 = .ok (.iload 6, 2) := by decide +kernel
theorem dL_law_330 : decode cL_law 330 = .ok (.i2l, 1) := by decide +kernel
theorem dL_law_331 : decode cL_law 331 = .ok (.lcmp, 1) := by decide +kernel
theorem dL_law_332 : decode cL_law 332 = .ok (.ifCond .eq 5, 3) := by decide +kernel
theorem dL_law_335 : decode cL_law 335 = .ok (.iconst 0, 1) := by decide +kernel
theorem dL_law_336 : decode cL_law 336 = .ok (.ireturn, 1) := by decide +kernel
theorem dL_law_337 : decode cL_law 337 = .ok (.goto 976, 3) := by decide +kernel
theorem dL_law_340 : decode cL_law 340 = .ok (.aload_n 1, 1) := by decide +kernel
theorem dL_law_341 : decode cL_law 341 = .ok (.invokevirtual 94, 3) := by decide +kernel
theorem dL_law_344 : decode cL_law 344 = .ok (.aload_n 2, 1) := by decide +kernel
theorem dL_law_345 : decode cL_law 345 = .ok (.invokevirtual 97, 3) := by decide +kernel
theorem dL_law_348 : decode cL_law 348 = .ok (.if_icmp .eq 965, 3) := by decide +kernel
theorem dL_law_351 : decode cL_law 351 = .ok (.iconst 0, 1) := by decide +kernel
theorem dL_law_352 : decode cL_law 352 = .ok (.ireturn, 1) := by decide +kernel
theorem dL_law_353 : decode cL_law 353 = .ok (.aload_n 1, 1) := by decide +kernel
theorem dL_law_354 : decode cL_law 354 = .ok (.invokevirtual 98, 3) := by decide +kernel
theorem dL_law_357 : decode cL_law 357 = .ok (.aload_n 2, 1) := by decide +kernel
theorem dL_law_358 : decode cL_law 358 = .ok (.invokevirtual 101, 3) := by decide +kernel
theorem dL_law_361 : decode cL_law 361 = .ok (.if_icmp .eq 952, 3) := by decide +kernel
theorem dL_law_364 : decode cL_law 364 = .ok (.iconst 0, 1) := by decide +kernel
theorem dL_law_365 : decode cL_law 365 = .ok (.ireturn, 1) := by decide +kernel
theorem dL_law_366 : decode cL_law 366 = .ok (.aload_n 1, 1) := by decide +kernel
theorem dL_law_367 : decode cL_law 367 = .ok (.aload_n 0, 1) := by decide +kernel
theorem dL_law_368 : decode cL_law 368 = .ok (.iload 4, 2) := by decide +kernel
theorem dL_law_370 : decode cL_law 370 = .ok (.iconst 1, 1) := by decide +kernel
theorem dL_law_371 : decode cL_law 371 = .ok (.iadd, 1) := by decide +kernel
theorem dL_law_372 : decode cL_law 372 = .ok (.iaload, 1) := by decide +kernel
theorem dL_law_373 : decode cL_law 373 = .ok (.aload_n 3, 1) := by decide +kernel
theorem dL_law_374 : decode cL_law 374 = .ok (.invokestatic 102, 3) := by decide +kernel
theorem dL_law_377 : decode cL_law 377 = .ok (.istore 5, 2) := by decide +kernel
theorem dL_law_379 : decode cL_law 379 = .ok (.aload_n 2, 1) := by decide +kernel
theorem dL_law_380 : decode cL_law 380 = .ok (.aload_n 0, 1) := by decide +kernel
theorem dL_law_381 : decode cL_law 381 = .ok (.iload 4, 2) := by decide +kernel
theorem dL_law_383 : decode cL_law 383 = .ok (.iconst 1, 1) := by decide +kernel
theorem dL_law_384 : decode cL_law 384 = .ok (.iadd, 1) := by decide +kernel
theorem dL_law_385 : decode cL_law 385 = .ok (.iaload, 1) := by decide +kernel
theorem dL_law_386 : decode cL_law 386 = .ok (.invokevirtual 105, 3) := by decide +kernel
theorem dL_law_389 : decode cL_law 389 = .ok (.istore 6, 2) := by decide +kernel
theorem dL_law_391 : decode cL_law 391 = .ok (.aload_n 2, 1) := by decide +kernel
theorem dL_law_392 : decode cL_law 392 = .ok (.invokevirtual 84, 3) := by decide +kernel
theorem dL_law_395 : decode cL_law 395 = .ok (.iload 5, 2) := by decide +kernel
theorem dL_law_397 : decode cL_law 397 = .ok (.if_icmp .eq 5, 3) := by decide +kernel
theorem dL_law_400 : decode cL_law 400 = .ok (.iconst 0, 1) := by decide +kernel
theorem dL_law_401 : decode cL_law 401 = .ok (.ireturn, 1) := by decide +kernel
theorem dL_law_402 : decode cL_law 402 = .ok (.iload 5, 2) := by decide +kernel
theorem dL_law_404 : decode cL_law 404 = .ok (.ifCond .ne 15, 3) := by decide +kernel
theorem dL_law_407 : decode cL_law 407 = .ok (.aload_n 3, 1) := by decide +kernel
theorem dL_law_408 : decode cL_law 408 = .ok (.iconst 0, 1) := by decide +kernel
theorem dL_law_409 : decode cL_law 409 = .ok (.laload, 1) := by decide +kernel
theorem dL_law_410 : decode cL_law 410 = .ok (.iload 6, 2) := by decide +kernel
theorem dL_law_412 : decode cL_law 412 = .ok (.i2l, 1) := by decide +kernel
theorem dL_law_413 : decode cL_law 413 = .ok (.lcmp, 1) := by decide +kernel
theorem dL_law_414 : decode cL_law 414 = .ok (.ifCond .eq 5, 3) := by decide +kernel
theorem dL_law_417 : decode cL_law 417 = .ok (.iconst 0, 1) := by decide +kernel
theorem dL_law_418 : decode cL_law 418 = .ok (.ireturn, 1) := by decide +kernel
theorem dL_law_419 : decode cL_law 419 = .ok (.goto 894, 3) := by decide +kernel
theorem dL_law_422 : decode cL_law 422 = .ok (.aload_n 1, 1) := by decide +kernel
theorem dL_law_423 : decode cL_law 423 = .ok (.aload_n 0, 1) := by decide +kernel
theorem dL_law_424 : decode cL_law 424 = .ok (.iload 4, 2) := by decide +kernel
theorem dL_law_426 : decode cL_law 426 = .ok (.iconst 1, 1) := by decide +kernel
theorem dL_law_427 : decode cL_law 427 = .ok (.iadd, 1) := by decide +kernel
theorem dL_law_428 : decode cL_law 428 = .ok (.iaload, 1) := by decide +kernel
theorem dL_law_429 : decode cL_law 429 = .ok (.aload_n 0, 1) := by decide +kernel
theorem dL_law_430 : decode cL_law 430 = .ok (.iload 4, 2) := by decide +kernel
theorem dL_law_432 : decode cL_law 432 = .ok (.iconst 2, 1) := by decide +kernel
theorem dL_law_433 : decode cL_law 433 = .ok (.iadd, 1) := by decide +kernel
theorem dL_law_434 : decode cL_law 434 = .ok (.iaload, 1) := by decide +kernel
theorem dL_law_435 : decode cL_law 435 = .ok (.i2c, 1) := by decide +kernel
theorem dL_law_436 : decode cL_law 436 = .ok (.aload_n 3, 1) := by decide +kernel
theorem dL_law_437 : decode cL_law 437 = .ok (.invokestatic 106, 3) := by decide +kernel
theorem dL_law_440 : decode cL_law 440 = .ok (.istore 5, 2) := by decide +kernel
theorem dL_law_442 : decode cL_law 442 = .ok (.aload_n 2, 1) := by decide +kernel
theorem dL_law_443 : decode cL_law 443 = .ok (.aload_n 0, 1) := by decide +kernel
theorem dL_law_444 : decode cL_law 444 = .ok (.iload 4, 2) := by decide +kernel
theorem dL_law_446 : decode cL_law 446 = .ok (.iconst 1, 1) := by decide +kernel
theorem dL_law_447 : decode cL_law 447 = .ok (.iadd, 1) := by decide +kernel
theorem dL_law_448 : decode cL_law 448 = .ok (.iaload, 1) := by decide +kernel
theorem dL_law_449 : decode cL_law 449 = .ok (.aload_n 0, 1) := by decide +kernel
theorem dL_law_450 : decode cL_law 450 = .ok (.iload 4, 2) := by decide +kernel
theorem dL_law_452 : decode cL_law 452 = .ok (.iconst 2, 1) := by decide +kernel
theorem dL_law_453 : decode cL_law 453 = .ok (.iadd, 1) := by decide +kernel
theorem dL_law_454 : decode cL_law 454 = .ok (.iaload, 1) := by decide +kernel
theorem dL_law_455 : decode cL_law 455 = .ok (.i2c, 1) := by decide +kernel
theorem dL_law_456 : decode cL_law 456 = .ok (.invokevirtual 109, 3) := by decide +kernel
theorem dL_law_459 : decode cL_law 459 = .ok (.istore 6, 2) := by decide +kernel
theorem dL_law_461 : decode cL_law 461 = .ok (.aload_n 2, 1) := by decide +kernel
theorem dL_law_462 : decode cL_law 462 = .ok (.invokevirtual 84, 3) := by decide +kernel
theorem dL_law_465 : decode cL_law 465 = .ok (.iload 5, 2) := by decide +kernel
theorem dL_law_467 : decode cL_law 467 = .ok (.if_icmp .eq 5, 3) := by decide +kernel
theorem dL_law_470 : decode cL_law 470 = .ok (.iconst 0, 1) := by decide +kernel
theorem dL_law_471 : decode cL_law 471 = .ok (.ireturn, 1) := by decide +kernel
theorem dL_law_472 : decode cL_law 472 = .ok (.iload 5, 2) := by decide +kernel
theorem dL_law_474 : decode cL_law 474 = .ok (.ifCond .ne 15, 3) := by decide +kernel
theorem dL_law_477 : decode cL_law 477 = .ok (.aload_n 3, 1) := by decide +kernel
theorem dL_law_478 : decode cL_law 478 = .ok (.iconst 0, 1) := by decide +kernel
theorem dL_law_479 : decode cL_law 479 = .ok (.laload, 1) := by decide +kernel
theorem dL_law_480 : decode cL_law 480 = .ok (.iload 6, 2) := by decide +kernel
theorem dL_law_482 : decode cL_law 482 = .ok (.i2l, 1) := by decide +kernel
theorem dL_law_483 : decode cL_law 483 = .ok (.lcmp, 1) := by decide +kernel
theorem dL_law_484 : decode cL_law 484 = .ok (.ifCond .eq 5, 3) := by decide +kernel
theorem dL_law_487 : decode cL_law 487 = .ok (.iconst 0, 1) := by decide +kernel
theorem dL_law_488 : decode cL_law 488 = .ok (.ireturn, 1) := by decide +kernel
theorem dL_law_489 : decode cL_law 489 = .ok (.goto 824, 3) := by decide +kernel
theorem dL_law_492 : decode cL_law 492 = .ok (.aload_n 1, 1) := by decide +kernel
theorem dL_law_493 : decode cL_law 493 = .ok (.aload_n 0, 1) := by decide +kernel
theorem dL_law_494 : decode cL_law 494 = .ok (.iload 4, 2) := by decide +kernel
theorem dL_law_496 : decode cL_law 496 = .ok (.iconst 1, 1) := by decide +kernel
theorem dL_law_497 : decode cL_law 497 = .ok (.iadd, 1) := by decide +kernel
theorem dL_law_498 : decode cL_law 498 = .ok (.iaload, 1) := by decide +kernel
theorem dL_law_499 : decode cL_law 499 = .ok (.invokestatic 110, 3) := by decide +kernel
theorem dL_law_502 : decode cL_law 502 = .ok (.istore 5, 2) := by decide +kernel
theorem dL_law_504 : decode cL_law 504 = .ok (.aload_n 2, 1) := by decide +kernel
theorem dL_law_505 : decode cL_law 505 = .ok (.aload_n 0, 1) := by decide +kernel
theorem dL_law_506 : decode cL_law 506 = .ok (.iload 4, 2) := by decide +kernel
theorem dL_law_508 : decode cL_law 508 = .ok (.iconst 1, 1) := by decide +kernel
theorem dL_law_509 : decode cL_law 509 = .ok (.iadd, 1) := by decide +kernel
theorem dL_law_510 : decode cL_law 510 = .ok (.iaload, 1) := by decide +kernel
theorem dL_law_511 : decode cL_law 511 = .ok (.invokevirtual 113, 3) := by decide +kernel
theorem dL_law_514 : decode cL_law 514 = .ok (.aload_n 2, 1) := by decide +kernel
theorem dL_law_515 : decode cL_law 515 = .ok (.invokevirtual 84, 3) := by decide +kernel
theorem dL_law_518 : decode cL_law 518 = .ok (.iload 5, 2) := by decide +kernel
theorem dL_law_520 : decode cL_law 520 = .ok (.if_icmp .eq 5, 3) := by decide +kernel
theorem dL_law_523 : decode cL_law 523 = .ok (.iconst 0, 1) := by decide +kernel
theorem dL_law_524 : decode cL_law 524 = .ok (.ireturn, 1) := by decide +kernel
theorem dL_law_525 : decode cL_law 525 = .ok (.goto 788, 3) := by decide +kernel
theorem dL_law_528 : decode cL_law 528 = .ok (.aload_n 1, 1) := by decide +kernel
theorem dL_law_529 : decode cL_law 529 = .ok (.aload_n 0, 1) := by decide +kernel
theorem dL_law_530 : decode cL_law 530 = .ok (.iload 4, 2) := by decide +kernel
theorem dL_law_532 : decode cL_law 532 = .ok (.iconst 1, 1) := by decide +kernel
theorem dL_law_533 : decode cL_law 533 = .ok (.iadd, 1) := by decide +kernel
theorem dL_law_534 : decode cL_law 534 = .ok (.iaload, 1) := by decide +kernel
theorem dL_law_535 : decode cL_law 535 = .ok (.aload_n 0, 1) := by decide +kernel
theorem dL_law_536 : decode cL_law 536 = .ok (.iload 4, 2) := by decide +kernel
theorem dL_law_538 : decode cL_law 538 = .ok (.iconst 2, 1) := by decide +kernel
theorem dL_law_539 : decode cL_law 539 = .ok (.iadd, 1) := by decide +kernel
theorem dL_law_540 : decode cL_law 540 = .ok (.iaload, 1) := by decide +kernel
theorem dL_law_541 : decode cL_law 541 = .ok (.aload_n 3, 1) := by decide +kernel
theorem dL_law_542 : decode cL_law 542 = .ok (.invokestatic 114, 3) := by decide +kernel
theorem dL_law_545 : decode cL_law 545 = .ok (.istore 5, 2) := by decide +kernel
theorem dL_law_547 : decode cL_law 547 = .ok (.aload_n 2, 1) := by decide +kernel
theorem dL_law_548 : decode cL_law 548 = .ok (.aload_n 0, 1) := by decide +kernel
theorem dL_law_549 : decode cL_law 549 = .ok (.iload 4, 2) := by decide +kernel
theorem dL_law_551 : decode cL_law 551 = .ok (.iconst 1, 1) := by decide +kernel
theorem dL_law_552 : decode cL_law 552 = .ok (.iadd, 1) := by decide +kernel
theorem dL_law_553 : decode cL_law 553 = .ok (.iaload, 1) := by decide +kernel
theorem dL_law_554 : decode cL_law 554 = .ok (.aload_n 0, 1) := by decide +kernel
theorem dL_law_555 : decode cL_law 555 = .ok (.iload 4, 2) := by decide +kernel
theorem dL_law_557 : decode cL_law 557 = .ok (.iconst 2, 1) := by decide +kernel
theorem dL_law_558 : decode cL_law 558 = .ok (.iadd, 1) := by decide +kernel
theorem dL_law_559 : decode cL_law 559 = .ok (.iaload, 1) := by decide +kernel
theorem dL_law_560 : decode cL_law 560 = .ok (.invokevirtual 116, 3) := by decide +kernel
theorem dL_law_563 : decode cL_law 563 = .ok (.istore 6, 2) := by decide +kernel
theorem dL_law_565 : decode cL_law 565 = .ok (.aload_n 2, 1) := by decide +kernel
theorem dL_law_566 : decode cL_law 566 = .ok (.invokevirtual 84, 3) := by decide +kernel
theorem dL_law_569 : decode cL_law 569 = .ok (.iload 5, 2) := by decide +kernel
theorem dL_law_571 : decode cL_law 571 = .ok (.if_icmp .eq 5, 3) := by decide +kernel
theorem dL_law_574 : decode cL_law 574 = .ok (.iconst 0, 1) := by decide +kernel
theorem dL_law_575 : decode cL_law 575 = .ok (.ireturn, 1) := by decide +kernel
theorem dL_law_576 : decode cL_law 576 = .ok (.iload 5, 2) := by decide +kernel
theorem dL_law_578 : decode cL_law 578 = .ok (.ifCond .ne 15, 3) := by decide +kernel
theorem dL_law_581 : decode cL_law 581 = .ok (.aload_n 3, 1) := by decide +kernel
theorem dL_law_582 : decode cL_law 582 = .ok (.iconst 0, 1) := by decide +kernel
theorem dL_law_583 : decode cL_law 583 = .ok (.laload, 1) := by decide +kernel
theorem dL_law_584 : decode cL_law 584 = .ok (.iload 6, 2) := by decide +kernel
theorem dL_law_586 : decode cL_law 586 = .ok (.i2l, 1) := by decide +kernel
theorem dL_law_587 : decode cL_law 587 = .ok (.lcmp, 1) := by decide +kernel
theorem dL_law_588 : decode cL_law 588 = .ok (.ifCond .eq 5, 3) := by decide +kernel
theorem dL_law_591 : decode cL_law 591 = .ok (.iconst 0, 1) := by decide +kernel
theorem dL_law_592 : decode cL_law 592 = .ok (.ireturn, 1) := by decide +kernel
theorem dL_law_593 : decode cL_law 593 = .ok (.goto 720, 3) := by decide +kernel
theorem dL_law_596 : decode cL_law 596 = .ok (.aload_n 1, 1) := by decide +kernel
theorem dL_law_597 : decode cL_law 597 = .ok (.aload_n 0, 1) := by decide +kernel
theorem dL_law_598 : decode cL_law 598 = .ok (.iload 4, 2) := by decide +kernel
theorem dL_law_600 : decode cL_law 600 = .ok (.iconst 1, 1) := by decide +kernel
theorem dL_law_601 : decode cL_law 601 = .ok (.iadd, 1) := by decide +kernel
theorem dL_law_602 : decode cL_law 602 = .ok (.iaload, 1) := by decide +kernel
theorem dL_law_603 : decode cL_law 603 = .ok (.aload_n 0, 1) := by decide +kernel
theorem dL_law_604 : decode cL_law 604 = .ok (.iload 4, 2) := by decide +kernel
theorem dL_law_606 : decode cL_law 606 = .ok (.iconst 2, 1) := by decide +kernel
theorem dL_law_607 : decode cL_law 607 = .ok (.iadd, 1) := by decide +kernel
theorem dL_law_608 : decode cL_law 608 = .ok (.iaload, 1) := by decide +kernel
theorem dL_law_609 : decode cL_law 609 = .ok (.invokestatic 117, 3) := by decide +kernel
theorem dL_law_612 : decode cL_law 612 = .ok (.istore 5, 2) := by decide +kernel
theorem dL_law_614 : decode cL_law 614 = .ok (.aload_n 2, 1) := by decide +kernel
theorem dL_law_615 : decode cL_law 615 = .ok (.aload_n 0, 1) := by decide +kernel
theorem dL_law_616 : decode cL_law 616 = .ok (.iload 4, 2) := by decide +kernel
theorem dL_law_618 : decode cL_law 618 = .ok (.iconst 1, 1) := by decide +kernel
theorem dL_law_619 : decode cL_law 619 = .ok (.iadd, 1) := by decide +kernel
theorem dL_law_620 : decode cL_law 620 = .ok (.iaload, 1) := by decide +kernel
theorem dL_law_621 : decode cL_law 621 = .ok (.aload_n 0, 1) := by decide +kernel
theorem dL_law_622 : decode cL_law 622 = .ok (.iload 4, 2) := by decide +kernel
theorem dL_law_624 : decode cL_law 624 = .ok (.iconst 2, 1) := by decide +kernel
theorem dL_law_625 : decode cL_law 625 = .ok (.iadd, 1) := by decide +kernel
theorem dL_law_626 : decode cL_law 626 = .ok (.iaload, 1) := by decide +kernel
theorem dL_law_627 : decode cL_law 627 = .ok (.invokevirtual 120, 3) := by decide +kernel
theorem dL_law_630 : decode cL_law 630 = .ok (.aload_n 2, 1) := by decide +kernel
theorem dL_law_631 : decode cL_law 631 = .ok (.invokevirtual 84, 3) := by decide +kernel
theorem dL_law_634 : decode cL_law 634 = .ok (.iload 5, 2) := by decide +kernel
theorem dL_law_636 : decode cL_law 636 = .ok (.if_icmp .eq 5, 3) := by decide +kernel
theorem dL_law_639 : decode cL_law 639 = .ok (.iconst 0, 1) := by decide +kernel
theorem dL_law_640 : decode cL_law 640 = .ok (.ireturn, 1) := by decide +kernel
theorem dL_law_641 : decode cL_law 641 = .ok (.goto 672, 3) := by decide +kernel
theorem dL_law_644 : decode cL_law 644 = .ok (.aload_n 1, 1) := by decide +kernel
theorem dL_law_645 : decode cL_law 645 = .ok (.aload_n 0, 1) := by decide +kernel
theorem dL_law_646 : decode cL_law 646 = .ok (.iload 4, 2) := by decide +kernel
theorem dL_law_648 : decode cL_law 648 = .ok (.iconst 1, 1) := by decide +kernel
theorem dL_law_649 : decode cL_law 649 = .ok (.iadd, 1) := by decide +kernel
theorem dL_law_650 : decode cL_law 650 = .ok (.iaload, 1) := by decide +kernel
theorem dL_law_651 : decode cL_law 651 = .ok (.aload_n 0, 1) := by decide +kernel
theorem dL_law_652 : decode cL_law 652 = .ok (.iload 4, 2) := by decide +kernel
theorem dL_law_654 : decode cL_law 654 = .ok (.iconst 2, 1) := by decide +kernel
theorem dL_law_655 : decode cL_law 655 = .ok (.iadd, 1) := by decide +kernel
theorem dL_law_656 : decode cL_law 656 = .ok (.iaload, 1) := by decide +kernel
theorem dL_law_657 : decode cL_law 657 = .ok (.aload_n 0, 1) := by decide +kernel
theorem dL_law_658 : decode cL_law 658 = .ok (.iload 4, 2) := by decide +kernel
theorem dL_law_660 : decode cL_law 660 = .ok (.iconst 3, 1) := by decide +kernel
theorem dL_law_661 : decode cL_law 661 = .ok (.iadd, 1) := by decide +kernel
theorem dL_law_662 : decode cL_law 662 = .ok (.iaload, 1) := by decide +kernel
theorem dL_law_663 : decode cL_law 663 = .ok (.aload_n 0, 1) := by decide +kernel
theorem dL_law_664 : decode cL_law 664 = .ok (.iload 4, 2) := by decide +kernel
theorem dL_law_666 : decode cL_law 666 = .ok (.iconst 4, 1) := by decide +kernel
theorem dL_law_667 : decode cL_law 667 = .ok (.iadd, 1) := by decide +kernel
theorem dL_law_668 : decode cL_law 668 = .ok (.iaload, 1) := by decide +kernel
theorem dL_law_669 : decode cL_law 669 = .ok (.aload_n 3, 1) := by decide +kernel
theorem dL_law_670 : decode cL_law 670 = .ok (.invokestatic 121, 3) := by decide +kernel
theorem dL_law_673 : decode cL_law 673 = .ok (.istore 5, 2) := by decide +kernel
theorem dL_law_675 : decode cL_law 675 = .ok (.aload_n 2, 1) := by decide +kernel
theorem dL_law_676 : decode cL_law 676 = .ok (.aload_n 0, 1) := by decide +kernel
theorem dL_law_677 : decode cL_law 677 = .ok (.iload 4, 2) := by decide +kernel
theorem dL_law_679 : decode cL_law 679 = .ok (.iconst 1, 1) := by decide +kernel
theorem dL_law_680 : decode cL_law 680 = .ok (.iadd, 1) := by decide +kernel
theorem dL_law_681 : decode cL_law 681 = .ok (.iaload, 1) := by decide +kernel
theorem dL_law_682 : decode cL_law 682 = .ok (.aload_n 0, 1) := by decide +kernel
theorem dL_law_683 : decode cL_law 683 = .ok (.iload 4, 2) := by decide +kernel
theorem dL_law_685 : decode cL_law 685 = .ok (.iconst 2, 1) := by decide +kernel
theorem dL_law_686 : decode cL_law 686 = .ok (.iadd, 1) := by decide +kernel
theorem dL_law_687 : decode cL_law 687 = .ok (.iaload, 1) := by decide +kernel
theorem dL_law_688 : decode cL_law 688 = .ok (.aload_n 0, 1) := by decide +kernel
theorem dL_law_689 : decode cL_law 689 = .ok (.iload 4, 2) := by decide +kernel
theorem dL_law_691 : decode cL_law 691 = .ok (.iconst 3, 1) := by decide +kernel
theorem dL_law_692 : decode cL_law 692 = .ok (.iadd, 1) := by decide +kernel
theorem dL_law_693 : decode cL_law 693 = .ok (.iaload, 1) := by decide +kernel
theorem dL_law_694 : decode cL_law 694 = .ok (.aload_n 0, 1) := by decide +kernel
theorem dL_law_695 : decode cL_law 695 = .ok (.iload 4, 2) := by decide +kernel
theorem dL_law_697 : decode cL_law 697 = .ok (.iconst 4, 1) := by decide +kernel
theorem dL_law_698 : decode cL_law 698 = .ok (.iadd, 1) := by decide +kernel
theorem dL_law_699 : decode cL_law 699 = .ok (.iaload, 1) := by decide +kernel
theorem dL_law_700 : decode cL_law 700 = .ok (.invokevirtual 124, 3) := by decide +kernel
theorem dL_law_703 : decode cL_law 703 = .ok (.istore 6, 2) := by decide +kernel
theorem dL_law_705 : decode cL_law 705 = .ok (.aload_n 2, 1) := by decide +kernel
theorem dL_law_706 : decode cL_law 706 = .ok (.invokevirtual 84, 3) := by decide +kernel
theorem dL_law_709 : decode cL_law 709 = .ok (.iload 5, 2) := by decide +kernel
theorem dL_law_711 : decode cL_law 711 = .ok (.if_icmp .eq 5, 3) := by decide +kernel
theorem dL_law_714 : decode cL_law 714 = .ok (.iconst 0, 1) := by decide +kernel
theorem dL_law_715 : decode cL_law 715 = .ok (.ireturn, 1) := by decide +kernel
theorem dL_law_716 : decode cL_law 716 = .ok (.iload 5, 2) := by decide +kernel
theorem dL_law_718 : decode cL_law 718 = .ok (.ifCond .ne 15, 3) := by decide +kernel
theorem dL_law_721 : decode cL_law 721 = .ok (.aload_n 3, 1) := by decide +kernel
theorem dL_law_722 : decode cL_law 722 = .ok (.iconst 0, 1) := by decide +kernel
theorem dL_law_723 : decode cL_law 723 = .ok (.laload, 1) := by decide +kernel
theorem dL_law_724 : decode cL_law 724 = .ok (.iload 6, 2) := by decide +kernel
theorem dL_law_726 : decode cL_law 726 = .ok (.i2l, 1) := by decide +kernel
theorem dL_law_727 : decode cL_law 727 = .ok (.lcmp, 1) := by decide +kernel
theorem dL_law_728 : decode cL_law 728 = .ok (.ifCond .eq 5, 3) := by decide +kernel
theorem dL_law_731 : decode cL_law 731 = .ok (.iconst 0, 1) := by decide +kernel
theorem dL_law_732 : decode cL_law 732 = .ok (.ireturn, 1) := by decide +kernel
theorem dL_law_733 : decode cL_law 733 = .ok (.goto 580, 3) := by decide +kernel
theorem dL_law_736 : decode cL_law 736 = .ok (.aload_n 1, 1) := by decide +kernel
theorem dL_law_737 : decode cL_law 737 = .ok (.aload_n 0, 1) := by decide +kernel
theorem dL_law_738 : decode cL_law 738 = .ok (.iload 4, 2) := by decide +kernel
theorem dL_law_740 : decode cL_law 740 = .ok (.iconst 1, 1) := by decide +kernel
theorem dL_law_741 : decode cL_law 741 = .ok (.iadd, 1) := by decide +kernel
theorem dL_law_742 : decode cL_law 742 = .ok (.iaload, 1) := by decide +kernel
theorem dL_law_743 : decode cL_law 743 = .ok (.aload_n 0, 1) := by decide +kernel
theorem dL_law_744 : decode cL_law 744 = .ok (.iload 4, 2) := by decide +kernel
theorem dL_law_746 : decode cL_law 746 = .ok (.iconst 2, 1) := by decide +kernel
theorem dL_law_747 : decode cL_law 747 = .ok (.iadd, 1) := by decide +kernel
theorem dL_law_748 : decode cL_law 748 = .ok (.iaload, 1) := by decide +kernel
theorem dL_law_749 : decode cL_law 749 = .ok (.aload_n 3, 1) := by decide +kernel
theorem dL_law_750 : decode cL_law 750 = .ok (.invokestatic 125, 3) := by decide +kernel
theorem dL_law_753 : decode cL_law 753 = .ok (.istore 5, 2) := by decide +kernel
theorem dL_law_755 : decode cL_law 755 = .ok (.aload_n 2, 1) := by decide +kernel
theorem dL_law_756 : decode cL_law 756 = .ok (.aload_n 0, 1) := by decide +kernel
theorem dL_law_757 : decode cL_law 757 = .ok (.iload 4, 2) := by decide +kernel
theorem dL_law_759 : decode cL_law 759 = .ok (.iconst 1, 1) := by decide +kernel
theorem dL_law_760 : decode cL_law 760 = .ok (.iadd, 1) := by decide +kernel
theorem dL_law_761 : decode cL_law 761 = .ok (.iaload, 1) := by decide +kernel
theorem dL_law_762 : decode cL_law 762 = .ok (.aload_n 0, 1) := by decide +kernel
theorem dL_law_763 : decode cL_law 763 = .ok (.iload 4, 2) := by decide +kernel
theorem dL_law_765 : decode cL_law 765 = .ok (.iconst 2, 1) := by decide +kernel
theorem dL_law_766 : decode cL_law 766 = .ok (.iadd, 1) := by decide +kernel
theorem dL_law_767 : decode cL_law 767 = .ok (.iaload, 1) := by decide +kernel
theorem dL_law_768 : decode cL_law 768 = .ok (.invokevirtual 127, 3) := by decide +kernel
theorem dL_law_771 : decode cL_law 771 = .ok (.istore 6, 2) := by decide +kernel
theorem dL_law_773 : decode cL_law 773 = .ok (.aload_n 2, 1) := by decide +kernel
theorem dL_law_774 : decode cL_law 774 = .ok (.invokevirtual 84, 3) := by decide +kernel
theorem dL_law_777 : decode cL_law 777 = .ok (.iload 5, 2) := by decide +kernel
theorem dL_law_779 : decode cL_law 779 = .ok (.if_icmp .eq 5, 3) := by decide +kernel
theorem dL_law_782 : decode cL_law 782 = .ok (.iconst 0, 1) := by decide +kernel
theorem dL_law_783 : decode cL_law 783 = .ok (.ireturn, 1) := by decide +kernel
theorem dL_law_784 : decode cL_law 784 = .ok (.iload 5, 2) := by decide +kernel
theorem dL_law_786 : decode cL_law 786 = .ok (.ifCond .ne 15, 3) := by decide +kernel
theorem dL_law_789 : decode cL_law 789 = .ok (.aload_n 3, 1) := by decide +kernel
theorem dL_law_790 : decode cL_law 790 = .ok (.iconst 0, 1) := by decide +kernel
theorem dL_law_791 : decode cL_law 791 = .ok (.laload, 1) := by decide +kernel
theorem dL_law_792 : decode cL_law 792 = .ok (.iload 6, 2) := by decide +kernel
theorem dL_law_794 : decode cL_law 794 = .ok (.i2l, 1) := by decide +kernel
theorem dL_law_795 : decode cL_law 795 = .ok (.lcmp, 1) := by decide +kernel
theorem dL_law_796 : decode cL_law 796 = .ok (.ifCond .eq 5, 3) := by decide +kernel
theorem dL_law_799 : decode cL_law 799 = .ok (.iconst 0, 1) := by decide +kernel
theorem dL_law_800 : decode cL_law 800 = .ok (.ireturn, 1) := by decide +kernel
theorem dL_law_801 : decode cL_law 801 = .ok (.goto 512, 3) := by decide +kernel
theorem dL_law_804 : decode cL_law 804 = .ok (.aload_n 1, 1) := by decide +kernel
theorem dL_law_805 : decode cL_law 805 = .ok (.invokevirtual 128, 3) := by decide +kernel
theorem dL_law_808 : decode cL_law 808 = .ok (.aload_n 2, 1) := by decide +kernel
theorem dL_law_809 : decode cL_law 809 = .ok (.invokevirtual 131, 3) := by decide +kernel
theorem dL_law_812 : decode cL_law 812 = .ok (.if_icmp .eq 501, 3) := by decide +kernel
theorem dL_law_815 : decode cL_law 815 = .ok (.iconst 0, 1) := by decide +kernel
theorem dL_law_816 : decode cL_law 816 = .ok (.ireturn, 1) := by decide +kernel
theorem dL_law_817 : decode cL_law 817 = .ok (.aload_n 1, 1) := by decide +kernel
theorem dL_law_818 : decode cL_law 818 = .ok (.invokevirtual 132, 3) := by decide +kernel
theorem dL_law_821 : decode cL_law 821 = .ok (.aload_n 2, 1) := by decide +kernel
theorem dL_law_822 : decode cL_law 822 = .ok (.invokevirtual 135, 3) := by decide +kernel
theorem dL_law_825 : decode cL_law 825 = .ok (.if_icmp .eq 488, 3) := by decide +kernel
theorem dL_law_828 : decode cL_law 828 = .ok (.iconst 0, 1) := by decide +kernel
theorem dL_law_829 : decode cL_law 829 = .ok (.ireturn, 1) := by decide +kernel
theorem dL_law_830 : decode cL_law 830 = .ok (.aload_n 1, 1) := by decide +kernel
theorem dL_law_831 : decode cL_law 831 = .ok (.aload_n 0, 1) := by decide +kernel
theorem dL_law_832 : decode cL_law 832 = .ok (.iload 4, 2) := by decide +kernel
theorem dL_law_834 : decode cL_law 834 = .ok (.iconst 1, 1) := by decide +kernel
theorem dL_law_835 : decode cL_law 835 = .ok (.iadd, 1) := by decide +kernel
theorem dL_law_836 : decode cL_law 836 = .ok (.iaload, 1) := by decide +kernel
theorem dL_law_837 : decode cL_law 837 = .ok (.aload_n 3, 1) := by decide +kernel
theorem dL_law_838 : decode cL_law 838 = .ok (.invokestatic 136, 3) := by decide +kernel
theorem dL_law_841 : decode cL_law 841 = .ok (.istore 5, 2) := by decide +kernel
theorem dL_law_843 : decode cL_law 843 = .ok (.aload_n 2, 1) := by decide +kernel
theorem dL_law_844 : decode cL_law 844 = .ok (.aload_n 0, 1) := by decide +kernel
theorem dL_law_845 : decode cL_law 845 = .ok (.iload 4, 2) := by decide +kernel
theorem dL_law_847 : decode cL_law 847 = .ok (.iconst 1, 1) := by decide +kernel
theorem dL_law_848 : decode cL_law 848 = .ok (.iadd, 1) := by decide +kernel
theorem dL_law_849 : decode cL_law 849 = .ok (.iaload, 1) := by decide +kernel
theorem dL_law_850 : decode cL_law 850 = .ok (.invokevirtual 138, 3) := by decide +kernel
theorem dL_law_853 : decode cL_law 853 = .ok (.istore 6, 2) := by decide +kernel
theorem dL_law_855 : decode cL_law 855 = .ok (.aload_n 2, 1) := by decide +kernel
theorem dL_law_856 : decode cL_law 856 = .ok (.invokevirtual 84, 3) := by decide +kernel
theorem dL_law_859 : decode cL_law 859 = .ok (.iload 5, 2) := by decide +kernel
theorem dL_law_861 : decode cL_law 861 = .ok (.if_icmp .eq 5, 3) := by decide +kernel
theorem dL_law_864 : decode cL_law 864 = .ok (.iconst 0, 1) := by decide +kernel
theorem dL_law_865 : decode cL_law 865 = .ok (.ireturn, 1) := by decide +kernel
theorem dL_law_866 : decode cL_law 866 = .ok (.iload 5, 2) := by decide +kernel
theorem dL_law_868 : decode cL_law 868 = .ok (.ifCond .ne 15, 3) := by decide +kernel
theorem dL_law_871 : decode cL_law 871 = .ok (.aload_n 3, 1) := by decide +kernel
theorem dL_law_872 : decode cL_law 872 = .ok (.iconst 0, 1) := by decide +kernel
theorem dL_law_873 : decode cL_law 873 = .ok (.laload, 1) := by decide +kernel
theorem dL_law_874 : decode cL_law 874 = .ok (.iload 6, 2) := by decide +kernel
theorem dL_law_876 : decode cL_law 876 = .ok (.i2l, 1) := by decide +kernel
theorem dL_law_877 : decode cL_law 877 = .ok (.lcmp, 1) := by decide +kernel
theorem dL_law_878 : decode cL_law 878 = .ok (.ifCond .eq 5, 3) := by decide +kernel
theorem dL_law_881 : decode cL_law 881 = .ok (.iconst 0, 1) := by decide +kernel
theorem dL_law_882 : decode cL_law 882 = .ok (.ireturn, 1) := by decide +kernel
theorem dL_law_883 : decode cL_law 883 = .ok (.goto 430, 3) := by decide +kernel
theorem dL_law_886 : decode cL_law 886 = .ok (.aload_n 1, 1) := by decide +kernel
theorem dL_law_887 : decode cL_law 887 = .ok (.aload_n 0, 1) := by decide +kernel
theorem dL_law_888 : decode cL_law 888 = .ok (.iload 4, 2) := by decide +kernel
theorem dL_law_890 : decode cL_law 890 = .ok (.iconst 1, 1) := by decide +kernel
theorem dL_law_891 : decode cL_law 891 = .ok (.iadd, 1) := by decide +kernel
theorem dL_law_892 : decode cL_law 892 = .ok (.iaload, 1) := by decide +kernel
theorem dL_law_893 : decode cL_law 893 = .ok (.aload_n 0, 1) := by decide +kernel
theorem dL_law_894 : decode cL_law 894 = .ok (.iload 4, 2) := by decide +kernel
theorem dL_law_896 : decode cL_law 896 = .ok (.iconst 2, 1) := by decide +kernel
theorem dL_law_897 : decode cL_law 897 = .ok (.iadd, 1) := by decide +kernel
theorem dL_law_898 : decode cL_law 898 = .ok (.iaload, 1) := by decide +kernel
theorem dL_law_899 : decode cL_law 899 = .ok (.aload_n 3, 1) := by decide +kernel
theorem dL_law_900 : decode cL_law 900 = .ok (.invokestatic 139, 3) := by decide +kernel
theorem dL_law_903 : decode cL_law 903 = .ok (.istore 5, 2) := by decide +kernel
theorem dL_law_905 : decode cL_law 905 = .ok (.aload_n 2, 1) := by decide +kernel
theorem dL_law_906 : decode cL_law 906 = .ok (.aload_n 0, 1) := by decide +kernel
theorem dL_law_907 : decode cL_law 907 = .ok (.iload 4, 2) := by decide +kernel
theorem dL_law_909 : decode cL_law 909 = .ok (.iconst 1, 1) := by decide +kernel
theorem dL_law_910 : decode cL_law 910 = .ok (.iadd, 1) := by decide +kernel
theorem dL_law_911 : decode cL_law 911 = .ok (.iaload, 1) := by decide +kernel
theorem dL_law_912 : decode cL_law 912 = .ok (.aload_n 0, 1) := by decide +kernel
theorem dL_law_913 : decode cL_law 913 = .ok (.iload 4, 2) := by decide +kernel
theorem dL_law_915 : decode cL_law 915 = .ok (.iconst 2, 1) := by decide +kernel
theorem dL_law_916 : decode cL_law 916 = .ok (.iadd, 1) := by decide +kernel
theorem dL_law_917 : decode cL_law 917 = .ok (.iaload, 1) := by decide +kernel
theorem dL_law_918 : decode cL_law 918 = .ok (.invokevirtual 141, 3) := by decide +kernel
theorem dL_law_921 : decode cL_law 921 = .ok (.istore 6, 2) := by decide +kernel
theorem dL_law_923 : decode cL_law 923 = .ok (.aload_n 2, 1) := by decide +kernel
theorem dL_law_924 : decode cL_law 924 = .ok (.invokevirtual 84, 3) := by decide +kernel
theorem dL_law_927 : decode cL_law 927 = .ok (.iload 5, 2) := by decide +kernel
theorem dL_law_929 : decode cL_law 929 = .ok (.if_icmp .eq 5, 3) := by decide +kernel
theorem dL_law_932 : decode cL_law 932 = .ok (.iconst 0, 1) := by decide +kernel
theorem dL_law_933 : decode cL_law 933 = .ok (.ireturn, 1) := by decide +kernel
theorem dL_law_934 : decode cL_law 934 = .ok (.iload 5, 2) := by decide +kernel
theorem dL_law_936 : decode cL_law 936 = .ok (.ifCond .ne 15, 3) := by decide +kernel
theorem dL_law_939 : decode cL_law 939 = .ok (.aload_n 3, 1) := by decide +kernel
theorem dL_law_940 : decode cL_law 940 = .ok (.iconst 0, 1) := by decide +kernel
theorem dL_law_941 : decode cL_law 941 = .ok (.laload, 1) := by decide +kernel
theorem dL_law_942 : decode cL_law 942 = .ok (.iload 6, 2) := by decide +kernel
theorem dL_law_944 : decode cL_law 944 = .ok (.i2l, 1) := by decide +kernel
theorem dL_law_945 : decode cL_law 945 = .ok (.lcmp, 1) := by decide +kernel
theorem dL_law_946 : decode cL_law 946 = .ok (.ifCond .eq 5, 3) := by decide +kernel
theorem dL_law_949 : decode cL_law 949 = .ok (.iconst 0, 1) := by decide +kernel
theorem dL_law_950 : decode cL_law 950 = .ok (.ireturn, 1) := by decide +kernel
theorem dL_law_951 : decode cL_law 951 = .ok (.goto 362, 3) := by decide +kernel
theorem dL_law_954 : decode cL_law 954 = .ok (.aload_n 1, 1) := by decide +kernel
theorem dL_law_955 : decode cL_law 955 = .ok (.aload_n 0, 1) := by decide +kernel
theorem dL_law_956 : decode cL_law 956 = .ok (.iload 4, 2) := by decide +kernel
theorem dL_law_958 : decode cL_law 958 = .ok (.iconst 1, 1) := by decide +kernel
theorem dL_law_959 : decode cL_law 959 = .ok (.iadd, 1) := by decide +kernel
theorem dL_law_960 : decode cL_law 960 = .ok (.iaload, 1) := by decide +kernel
theorem dL_law_961 : decode cL_law 961 = .ok (.aload_n 0, 1) := by decide +kernel
theorem dL_law_962 : decode cL_law 962 = .ok (.iload 4, 2) := by decide +kernel
theorem dL_law_964 : decode cL_law 964 = .ok (.iconst 2, 1) := by decide +kernel
theorem dL_law_965 : decode cL_law 965 = .ok (.iadd, 1) := by decide +kernel
theorem dL_law_966 : decode cL_law 966 = .ok (.iaload, 1) := by decide +kernel
theorem dL_law_967 : decode cL_law 967 = .ok (.aload_n 3, 1) := by decide +kernel
theorem dL_law_968 : decode cL_law 968 = .ok (.invokestatic 142, 3) := by decide +kernel
theorem dL_law_971 : decode cL_law 971 = .ok (.istore 5, 2) := by decide +kernel
theorem dL_law_973 : decode cL_law 973 = .ok (.aload_n 2, 1) := by decide +kernel
theorem dL_law_974 : decode cL_law 974 = .ok (.aload_n 0, 1) := by decide +kernel
theorem dL_law_975 : decode cL_law 975 = .ok (.iload 4, 2) := by decide +kernel
theorem dL_law_977 : decode cL_law 977 = .ok (.iconst 1, 1) := by decide +kernel
theorem dL_law_978 : decode cL_law 978 = .ok (.iadd, 1) := by decide +kernel
theorem dL_law_979 : decode cL_law 979 = .ok (.iaload, 1) := by decide +kernel
theorem dL_law_980 : decode cL_law 980 = .ok (.aload_n 0, 1) := by decide +kernel
theorem dL_law_981 : decode cL_law 981 = .ok (.iload 4, 2) := by decide +kernel
theorem dL_law_983 : decode cL_law 983 = .ok (.iconst 2, 1) := by decide +kernel
theorem dL_law_984 : decode cL_law 984 = .ok (.iadd, 1) := by decide +kernel
theorem dL_law_985 : decode cL_law 985 = .ok (.iaload, 1) := by decide +kernel
theorem dL_law_986 : decode cL_law 986 = .ok (.invokevirtual 144, 3) := by decide +kernel
theorem dL_law_989 : decode cL_law 989 = .ok (.istore 6, 2) := by decide +kernel
theorem dL_law_991 : decode cL_law 991 = .ok (.aload_n 2, 1) := by decide +kernel
theorem dL_law_992 : decode cL_law 992 = .ok (.invokevirtual 84, 3) := by decide +kernel
theorem dL_law_995 : decode cL_law 995 = .ok (.iload 5, 2) := by decide +kernel
theorem dL_law_997 : decode cL_law 997 = .ok (.if_icmp .eq 5, 3) := by decide +kernel
theorem dL_law_1000 : decode cL_law 1000 = .ok (.iconst 0, 1) := by decide +kernel
theorem dL_law_1001 : decode cL_law 1001 = .ok (.ireturn, 1) := by decide +kernel
theorem dL_law_1002 : decode cL_law 1002 = .ok (.iload 5, 2) := by decide +kernel
theorem dL_law_1004 : decode cL_law 1004 = .ok (.ifCond .ne 15, 3) := by decide +kernel
theorem dL_law_1007 : decode cL_law 1007 = .ok (.aload_n 3, 1) := by decide +kernel
theorem dL_law_1008 : decode cL_law 1008 = .ok (.iconst 0, 1) := by decide +kernel
theorem dL_law_1009 : decode cL_law 1009 = .ok (.laload, 1) := by decide +kernel
theorem dL_law_1010 : decode cL_law 1010 = .ok (.iload 6, 2) := by decide +kernel
theorem dL_law_1012 : decode cL_law 1012 = .ok (.i2l, 1) := by decide +kernel
theorem dL_law_1013 : decode cL_law 1013 = .ok (.lcmp, 1) := by decide +kernel
theorem dL_law_1014 : decode cL_law 1014 = .ok (.ifCond .eq 5, 3) := by decide +kernel
theorem dL_law_1017 : decode cL_law 1017 = .ok (.iconst 0, 1) := by decide +kernel
theorem dL_law_1018 : decode cL_law 1018 = .ok (.ireturn, 1) := by decide +kernel
theorem dL_law_1019 : decode cL_law 1019 = .ok (.goto 294, 3) := by decide +kernel
theorem dL_law_1022 : decode cL_law 1022 = .ok (.aload_n 1, 1) := by decide +kernel
theorem dL_law_1023 : decode cL_law 1023 = .ok (.aload_n 0, 1) := by decide +kernel
theorem dL_law_1024 : decode cL_law 1024 = .ok (.iload 4, 2) := by decide +kernel
theorem dL_law_1026 : decode cL_law 1026 = .ok (.iconst 1, 1) := by decide +kernel
theorem dL_law_1027 : decode cL_law 1027 = .ok (.iadd, 1) := by decide +kernel
theorem dL_law_1028 : decode cL_law 1028 = .ok (.iaload, 1) := by decide +kernel
theorem dL_law_1029 : decode cL_law 1029 = .ok (.aload_n 0, 1) := by decide +kernel
theorem dL_law_1030 : decode cL_law 1030 = .ok (.iload 4, 2) := by decide +kernel
theorem dL_law_1032 : decode cL_law 1032 = .ok (.iconst 2, 1) := by decide +kernel
theorem dL_law_1033 : decode cL_law 1033 = .ok (.iadd, 1) := by decide +kernel
theorem dL_law_1034 : decode cL_law 1034 = .ok (.iaload, 1) := by decide +kernel
theorem dL_law_1035 : decode cL_law 1035 = .ok (.aload_n 3, 1) := by decide +kernel
theorem dL_law_1036 : decode cL_law 1036 = .ok (.invokestatic 145, 3) := by decide +kernel
theorem dL_law_1039 : decode cL_law 1039 = .ok (.istore 5, 2) := by decide +kernel
theorem dL_law_1041 : decode cL_law 1041 = .ok (.aload_n 2, 1) := by decide +kernel
theorem dL_law_1042 : decode cL_law 1042 = .ok (.aload_n 0, 1) := by decide +kernel
theorem dL_law_1043 : decode cL_law 1043 = .ok (.iload 4, 2) := by decide +kernel
theorem dL_law_1045 : decode cL_law 1045 = .ok (.iconst 1, 1) := by decide +kernel
theorem dL_law_1046 : decode cL_law 1046 = .ok (.iadd, 1) := by decide +kernel
theorem dL_law_1047 : decode cL_law 1047 = .ok (.iaload, 1) := by decide +kernel
theorem dL_law_1048 : decode cL_law 1048 = .ok (.aload_n 0, 1) := by decide +kernel
theorem dL_law_1049 : decode cL_law 1049 = .ok (.iload 4, 2) := by decide +kernel
theorem dL_law_1051 : decode cL_law 1051 = .ok (.iconst 2, 1) := by decide +kernel
theorem dL_law_1052 : decode cL_law 1052 = .ok (.iadd, 1) := by decide +kernel
theorem dL_law_1053 : decode cL_law 1053 = .ok (.iaload, 1) := by decide +kernel
theorem dL_law_1054 : decode cL_law 1054 = .ok (.invokevirtual 147, 3) := by decide +kernel
theorem dL_law_1057 : decode cL_law 1057 = .ok (.istore 6, 2) := by decide +kernel
theorem dL_law_1059 : decode cL_law 1059 = .ok (.aload_n 2, 1) := by decide +kernel
theorem dL_law_1060 : decode cL_law 1060 = .ok (.invokevirtual 84, 3) := by decide +kernel
theorem dL_law_1063 : decode cL_law 1063 = .ok (.iload 5, 2) := by decide +kernel
theorem dL_law_1065 : decode cL_law 1065 = .ok (.if_icmp .eq 5, 3) := by decide +kernel
theorem dL_law_1068 : decode cL_law 1068 = .ok (.iconst 0, 1) := by decide +kernel
theorem dL_law_1069 : decode cL_law 1069 = .ok (.ireturn, 1) := by decide +kernel
theorem dL_law_1070 : decode cL_law 1070 = .ok (.iload 5, 2) := by decide +kernel
theorem dL_law_1072 : decode cL_law 1072 = .ok (.ifCond .ne 15, 3) := by decide +kernel
theorem dL_law_1075 : decode cL_law 1075 = .ok (.aload_n 3, 1) := by decide +kernel
theorem dL_law_1076 : decode cL_law 1076 = .ok (.iconst 0, 1) := by decide +kernel
theorem dL_law_1077 : decode cL_law 1077 = .ok (.laload, 1) := by decide +kernel
theorem dL_law_1078 : decode cL_law 1078 = .ok (.iload 6, 2) := by decide +kernel
theorem dL_law_1080 : decode cL_law 1080 = .ok (.i2l, 1) := by decide +kernel
theorem dL_law_1081 : decode cL_law 1081 = .ok (.lcmp, 1) := by decide +kernel
theorem dL_law_1082 : decode cL_law 1082 = .ok (.ifCond .eq 5, 3) := by decide +kernel
theorem dL_law_1085 : decode cL_law 1085 = .ok (.iconst 0, 1) := by decide +kernel
theorem dL_law_1086 : decode cL_law 1086 = .ok (.ireturn, 1) := by decide +kernel
theorem dL_law_1087 : decode cL_law 1087 = .ok (.goto 226, 3) := by decide +kernel
theorem dL_law_1090 : decode cL_law 1090 = .ok (.aload_n 1, 1) := by decide +kernel
theorem dL_law_1091 : decode cL_law 1091 = .ok (.aload_n 0, 1) := by decide +kernel
theorem dL_law_1092 : decode cL_law 1092 = .ok (.iload 4, 2) := by decide +kernel
theorem dL_law_1094 : decode cL_law 1094 = .ok (.iconst 1, 1) := by decide +kernel
theorem dL_law_1095 : decode cL_law 1095 = .ok (.iadd, 1) := by decide +kernel
theorem dL_law_1096 : decode cL_law 1096 = .ok (.iaload, 1) := by decide +kernel
theorem dL_law_1097 : decode cL_law 1097 = .ok (.aload_n 0, 1) := by decide +kernel
theorem dL_law_1098 : decode cL_law 1098 = .ok (.iload 4, 2) := by decide +kernel
theorem dL_law_1100 : decode cL_law 1100 = .ok (.iconst 2, 1) := by decide +kernel
theorem dL_law_1101 : decode cL_law 1101 = .ok (.iadd, 1) := by decide +kernel
theorem dL_law_1102 : decode cL_law 1102 = .ok (.iaload, 1) := by decide +kernel
theorem dL_law_1103 : decode cL_law 1103 = .ok (.aload_n 3, 1) := by decide +kernel
theorem dL_law_1104 : decode cL_law 1104 = .ok (.invokestatic 148, 3) := by decide +kernel
theorem dL_law_1107 : decode cL_law 1107 = .ok (.istore 5, 2) := by decide +kernel
theorem dL_law_1109 : decode cL_law 1109 = .ok (.aload_n 2, 1) := by decide +kernel
theorem dL_law_1110 : decode cL_law 1110 = .ok (.aload_n 0, 1) := by decide +kernel
theorem dL_law_1111 : decode cL_law 1111 = .ok (.iload 4, 2) := by decide +kernel
theorem dL_law_1113 : decode cL_law 1113 = .ok (.iconst 1, 1) := by decide +kernel
theorem dL_law_1114 : decode cL_law 1114 = .ok (.iadd, 1) := by decide +kernel
theorem dL_law_1115 : decode cL_law 1115 = .ok (.iaload, 1) := by decide +kernel
theorem dL_law_1116 : decode cL_law 1116 = .ok (.aload_n 0, 1) := by decide +kernel
theorem dL_law_1117 : decode cL_law 1117 = .ok (.iload 4, 2) := by decide +kernel
theorem dL_law_1119 : decode cL_law 1119 = .ok (.iconst 2, 1) := by decide +kernel
theorem dL_law_1120 : decode cL_law 1120 = .ok (.iadd, 1) := by decide +kernel
theorem dL_law_1121 : decode cL_law 1121 = .ok (.iaload, 1) := by decide +kernel
theorem dL_law_1122 : decode cL_law 1122 = .ok (.invokevirtual 150, 3) := by decide +kernel
theorem dL_law_1125 : decode cL_law 1125 = .ok (.istore 6, 2) := by decide +kernel
theorem dL_law_1127 : decode cL_law 1127 = .ok (.aload_n 2, 1) := by decide +kernel
theorem dL_law_1128 : decode cL_law 1128 = .ok (.invokevirtual 84, 3) := by decide +kernel
theorem dL_law_1131 : decode cL_law 1131 = .ok (.iload 5, 2) := by decide +kernel
theorem dL_law_1133 : decode cL_law 1133 = .ok (.if_icmp .eq 5, 3) := by decide +kernel
theorem dL_law_1136 : decode cL_law 1136 = .ok (.iconst 0, 1) := by decide +kernel
theorem dL_law_1137 : decode cL_law 1137 = .ok (.ireturn, 1) := by decide +kernel
theorem dL_law_1138 : decode cL_law 1138 = .ok (.iload 5, 2) := by decide +kernel
theorem dL_law_1140 : decode cL_law 1140 = .ok (.ifCond .ne 15, 3) := by decide +kernel
theorem dL_law_1143 : decode cL_law 1143 = .ok (.aload_n 3, 1) := by decide +kernel
theorem dL_law_1144 : decode cL_law 1144 = .ok (.iconst 0, 1) := by decide +kernel
theorem dL_law_1145 : decode cL_law 1145 = .ok (.laload, 1) := by decide +kernel
theorem dL_law_1146 : decode cL_law 1146 = .ok (.iload 6, 2) := by decide +kernel
theorem dL_law_1148 : decode cL_law 1148 = .ok (.i2l, 1) := by decide +kernel
theorem dL_law_1149 : decode cL_law 1149 = .ok (.lcmp, 1) := by decide +kernel
theorem dL_law_1150 : decode cL_law 1150 = .ok (.ifCond .eq 5, 3) := by decide +kernel
theorem dL_law_1153 : decode cL_law 1153 = .ok (.iconst 0, 1) := by decide +kernel
theorem dL_law_1154 : decode cL_law 1154 = .ok (.ireturn, 1) := by decide +kernel
theorem dL_law_1155 : decode cL_law 1155 = .ok (.goto 158, 3) := by decide +kernel
theorem dL_law_1158 : decode cL_law 1158 = .ok (.aload_n 1, 1) := by decide +kernel
theorem dL_law_1159 : decode cL_law 1159 = .ok (.aload_n 0, 1) := by decide +kernel
theorem dL_law_1160 : decode cL_law 1160 = .ok (.iload 4, 2) := by decide +kernel
theorem dL_law_1162 : decode cL_law 1162 = .ok (.iconst 1, 1) := by decide +kernel
theorem dL_law_1163 : decode cL_law 1163 = .ok (.iadd, 1) := by decide +kernel
theorem dL_law_1164 : decode cL_law 1164 = .ok (.iaload, 1) := by decide +kernel
theorem dL_law_1165 : decode cL_law 1165 = .ok (.aload_n 0, 1) := by decide +kernel
theorem dL_law_1166 : decode cL_law 1166 = .ok (.iload 4, 2) := by decide +kernel
theorem dL_law_1168 : decode cL_law 1168 = .ok (.iconst 2, 1) := by decide +kernel
theorem dL_law_1169 : decode cL_law 1169 = .ok (.iadd, 1) := by decide +kernel
theorem dL_law_1170 : decode cL_law 1170 = .ok (.iaload, 1) := by decide +kernel
theorem dL_law_1171 : decode cL_law 1171 = .ok (.aload_n 3, 1) := by decide +kernel
theorem dL_law_1172 : decode cL_law 1172 = .ok (.invokestatic 151, 3) := by decide +kernel
theorem dL_law_1175 : decode cL_law 1175 = .ok (.istore 5, 2) := by decide +kernel
theorem dL_law_1177 : decode cL_law 1177 = .ok (.aload_n 2, 1) := by decide +kernel
theorem dL_law_1178 : decode cL_law 1178 = .ok (.aload_n 0, 1) := by decide +kernel
theorem dL_law_1179 : decode cL_law 1179 = .ok (.iload 4, 2) := by decide +kernel
theorem dL_law_1181 : decode cL_law 1181 = .ok (.iconst 1, 1) := by decide +kernel
theorem dL_law_1182 : decode cL_law 1182 = .ok (.iadd, 1) := by decide +kernel
theorem dL_law_1183 : decode cL_law 1183 = .ok (.iaload, 1) := by decide +kernel
theorem dL_law_1184 : decode cL_law 1184 = .ok (.aload_n 0, 1) := by decide +kernel
theorem dL_law_1185 : decode cL_law 1185 = .ok (.iload 4, 2) := by decide +kernel
theorem dL_law_1187 : decode cL_law 1187 = .ok (.iconst 2, 1) := by decide +kernel
theorem dL_law_1188 : decode cL_law 1188 = .ok (.iadd, 1) := by decide +kernel
theorem dL_law_1189 : decode cL_law 1189 = .ok (.iaload, 1) := by decide +kernel
theorem dL_law_1190 : decode cL_law 1190 = .ok (.invokevirtual 153, 3) := by decide +kernel
theorem dL_law_1193 : decode cL_law 1193 = .ok (.istore 6, 2) := by decide +kernel
theorem dL_law_1195 : decode cL_law 1195 = .ok (.aload_n 2, 1) := by decide +kernel
theorem dL_law_1196 : decode cL_law 1196 = .ok (.invokevirtual 84, 3) := by decide +kernel
theorem dL_law_1199 : decode cL_law 1199 = .ok (.iload 5, 2) := by decide +kernel
theorem dL_law_1201 : decode cL_law 1201 = .ok (.if_icmp .eq 5, 3) := by decide +kernel
theorem dL_law_1204 : decode cL_law 1204 = .ok (.iconst 0, 1) := by decide +kernel
theorem dL_law_1205 : decode cL_law 1205 = .ok (.ireturn, 1) := by decide +kernel
theorem dL_law_1206 : decode cL_law 1206 = .ok (.iload 5, 2) := by decide +kernel
theorem dL_law_1208 : decode cL_law 1208 = .ok (.ifCond .ne 22, 3) := by decide +kernel
theorem dL_law_1211 : decode cL_law 1211 = .ok (.aload_n 3, 1) := by decide +kernel
theorem dL_law_1212 : decode cL_law 1212 = .ok (.iconst 0, 1) := by decide +kernel
theorem dL_law_1213 : decode cL_law 1213 = .ok (.laload, 1) := by decide +kernel
theorem dL_law_1214 : decode cL_law 1214 = .ok (.iload 6, 2) := by decide +kernel
theorem dL_law_1216 : decode cL_law 1216 = .ok (.ifCond .eq 7, 3) := by decide +kernel
theorem dL_law_1219 : decode cL_law 1219 = .ok (.lconst 1, 1) := by decide +kernel
theorem dL_law_1220 : decode cL_law 1220 = .ok (.goto 4, 3) := by decide +kernel
theorem dL_law_1223 : decode cL_law 1223 = .ok (.lconst 0, 1) := by decide +kernel
theorem dL_law_1224 : decode cL_law 1224 = .ok (.lcmp, 1) := by decide +kernel
theorem dL_law_1225 : decode cL_law 1225 = .ok (.ifCond .eq 5, 3) := by decide +kernel
theorem dL_law_1228 : decode cL_law 1228 = .ok (.iconst 0, 1) := by decide +kernel
theorem dL_law_1229 : decode cL_law 1229 = .ok (.ireturn, 1) := by decide +kernel
theorem dL_law_1230 : decode cL_law 1230 = .ok (.goto 83, 3) := by decide +kernel
theorem dL_law_1233 : decode cL_law 1233 = .ok (.aload_n 1, 1) := by decide +kernel
theorem dL_law_1234 : decode cL_law 1234 = .ok (.aload_n 0, 1) := by decide +kernel
theorem dL_law_1235 : decode cL_law 1235 = .ok (.iload 4, 2) := by decide +kernel
theorem dL_law_1237 : decode cL_law 1237 = .ok (.iconst 1, 1) := by decide +kernel
theorem dL_law_1238 : decode cL_law 1238 = .ok (.iadd, 1) := by decide +kernel
theorem dL_law_1239 : decode cL_law 1239 = .ok (.iaload, 1) := by decide +kernel
theorem dL_law_1240 : decode cL_law 1240 = .ok (.aload_n 0, 1) := by decide +kernel
theorem dL_law_1241 : decode cL_law 1241 = .ok (.iload 4, 2) := by decide +kernel
theorem dL_law_1243 : decode cL_law 1243 = .ok (.iconst 2, 1) := by decide +kernel
theorem dL_law_1244 : decode cL_law 1244 = .ok (.iadd, 1) := by decide +kernel
theorem dL_law_1245 : decode cL_law 1245 = .ok (.iaload, 1) := by decide +kernel
theorem dL_law_1246 : decode cL_law 1246 = .ok (.aload_n 0, 1) := by decide +kernel
theorem dL_law_1247 : decode cL_law 1247 = .ok (.iload 4, 2) := by decide +kernel
theorem dL_law_1249 : decode cL_law 1249 = .ok (.iconst 3, 1) := by decide +kernel
theorem dL_law_1250 : decode cL_law 1250 = .ok (.iadd, 1) := by decide +kernel
theorem dL_law_1251 : decode cL_law 1251 = .ok (.iaload, 1) := by decide +kernel
theorem dL_law_1252 : decode cL_law 1252 = .ok (.aload_n 3, 1) := by decide +kernel
theorem dL_law_1253 : decode cL_law 1253 = .ok (.invokestatic 154, 3) := by decide +kernel
theorem dL_law_1256 : decode cL_law 1256 = .ok (.istore 5, 2) := by decide +kernel
theorem dL_law_1258 : decode cL_law 1258 = .ok (.aload_n 2, 1) := by decide +kernel
theorem dL_law_1259 : decode cL_law 1259 = .ok (.aload_n 0, 1) := by decide +kernel
theorem dL_law_1260 : decode cL_law 1260 = .ok (.iload 4, 2) := by decide +kernel
theorem dL_law_1262 : decode cL_law 1262 = .ok (.iconst 1, 1) := by decide +kernel
theorem dL_law_1263 : decode cL_law 1263 = .ok (.iadd, 1) := by decide +kernel
theorem dL_law_1264 : decode cL_law 1264 = .ok (.iaload, 1) := by decide +kernel
theorem dL_law_1265 : decode cL_law 1265 = .ok (.aload_n 0, 1) := by decide +kernel
theorem dL_law_1266 : decode cL_law 1266 = .ok (.iload 4, 2) := by decide +kernel
theorem dL_law_1268 : decode cL_law 1268 = .ok (.iconst 2, 1) := by decide +kernel
theorem dL_law_1269 : decode cL_law 1269 = .ok (.iadd, 1) := by decide +kernel
theorem dL_law_1270 : decode cL_law 1270 = .ok (.iaload, 1) := by decide +kernel
theorem dL_law_1271 : decode cL_law 1271 = .ok (.aload_n 0, 1) := by decide +kernel
theorem dL_law_1272 : decode cL_law 1272 = .ok (.iload 4, 2) := by decide +kernel
theorem dL_law_1274 : decode cL_law 1274 = .ok (.iconst 3, 1) := by decide +kernel
theorem dL_law_1275 : decode cL_law 1275 = .ok (.iadd, 1) := by decide +kernel
theorem dL_law_1276 : decode cL_law 1276 = .ok (.iaload, 1) := by decide +kernel
theorem dL_law_1277 : decode cL_law 1277 = .ok (.invokevirtual 157, 3) := by decide +kernel
theorem dL_law_1280 : decode cL_law 1280 = .ok (.istore 6, 2) := by decide +kernel
theorem dL_law_1282 : decode cL_law 1282 = .ok (.aload_n 2, 1) := by decide +kernel
theorem dL_law_1283 : decode cL_law 1283 = .ok (.invokevirtual 84, 3) := by decide +kernel
theorem dL_law_1286 : decode cL_law 1286 = .ok (.iload 5, 2) := by decide +kernel
theorem dL_law_1288 : decode cL_law 1288 = .ok (.if_icmp .eq 5, 3) := by decide +kernel
theorem dL_law_1291 : decode cL_law 1291 = .ok (.iconst 0, 1) := by decide +kernel
theorem dL_law_1292 : decode cL_law 1292 = .ok (.ireturn, 1) := by decide +kernel
theorem dL_law_1293 : decode cL_law 1293 = .ok (.iload 5, 2) := by decide +kernel
theorem dL_law_1295 : decode cL_law 1295 = .ok (.ifCond .ne 15, 3) := by decide +kernel
theorem dL_law_1298 : decode cL_law 1298 = .ok (.aload_n 3, 1) := by decide +kernel
theorem dL_law_1299 : decode cL_law 1299 = .ok (.iconst 0, 1) := by decide +kernel
theorem dL_law_1300 : decode cL_law 1300 = .ok (.laload, 1) := by decide +kernel
theorem dL_law_1301 : decode cL_law 1301 = .ok (.iload 6, 2) := by decide +kernel
theorem dL_law_1303 : decode cL_law 1303 = .ok (.i2l, 1) := by decide +kernel
theorem dL_law_1304 : decode cL_law 1304 = .ok (.lcmp, 1) := by decide +kernel
theorem dL_law_1305 : decode cL_law 1305 = .ok (.ifCond .eq 5, 3) := by decide +kernel
theorem dL_law_1308 : decode cL_law 1308 = .ok (.iconst 0, 1) := by decide +kernel
theorem dL_law_1309 : decode cL_law 1309 = .ok (.ireturn, 1) := by decide +kernel
theorem dL_law_1310 : decode cL_law 1310 = .ok (.goto 3, 3) := by decide +kernel
theorem dL_law_1313 : decode cL_law 1313 = .ok (.iinc 4 5, 3) := by decide +kernel
theorem dL_law_1316 : decode cL_law 1316 = .ok (.goto (-1293), 3) := by decide +kernel
theorem dL_law_1319 : decode cL_law 1319 = .ok (.iconst 1, 1) := by decide +kernel
theorem dL_law_1320 : decode cL_law 1320 = .ok (.ireturn, 1) := by decide +kernel
end
section
/-! the words that last, and where each lies in the tables -/
def lwg : List Cond := lw_tbl.filter goodWord
theorem wt0 {w : Cond} (i : Nat) (h : (k2_sels lw_privs)[i]? = some w) (g : goodWord w = true) : w ∈ lwg := List.mem_filter.mpr ⟨List.mem_append_left _ (List.mem_of_getElem? h), g⟩
theorem wt1 {w : Cond} (i : Nat) (h : tables_1_1[i]? = some w) (g : goodWord w = true) : w ∈ lwg := List.mem_filter.mpr ⟨List.mem_append_right _ (List.mem_append_left _ (List.mem_of_getElem? h)), g⟩
theorem wt2 {w : Cond} (i : Nat) (h : tables_1_2[i]? = some w) (g : goodWord w = true) : w ∈ lwg := List.mem_filter.mpr ⟨List.mem_append_right _ (List.mem_append_right _ (List.mem_append_left _ (List.mem_of_getElem? h))), g⟩
theorem wt3 {w : Cond} (i : Nat) (h : tables_1_3[i]? = some w) (g : goodWord w = true) : w ∈ lwg := List.mem_filter.mpr ⟨List.mem_append_right _ (List.mem_append_right _ (List.mem_append_right _ (List.mem_append_left _ (List.mem_of_getElem? h)))), g⟩
theorem wt4 {w : Cond} (i : Nat) (h : tables_1_4[i]? = some w) (g : goodWord w = true) : w ∈ lwg := List.mem_filter.mpr ⟨List.mem_append_right _ (List.mem_append_right _ (List.mem_append_right _ (List.mem_append_right _ (List.mem_of_getElem? h)))), g⟩
theorem wt_good : ∀ w ∈ lwg, (w.onTables && w.keeps) = true ∨ ∃ ty, w = .arrayClass ty := fun w h => good_of_word (List.mem_filter.mp h).2
theorem wt_in (y y' : MethodName) (cc cc' : ByteArray) (n n' : Nat) (r r' : Option FieldType) (h : Cond.code y' cc' n' r' ∈ lwg) : GoodIn (Cond.code y cc n r :: lwg) (Cond.code y' cc' n' r' :: lwg) := by
  intro w hw
  rcases List.mem_cons.mp hw with e | e
  · rw [e]; exact ⟨List.mem_cons_of_mem _ h, wt_good _ h⟩
  · exact ⟨List.mem_cons_of_mem _ e, wt_good _ e⟩
theorem wt_inL (y' : MethodName) (cc' : ByteArray) (n' : Nat) (r' : Option FieldType) (h : Cond.code y' cc' n' r' ∈ lwg) : GoodIn lwg (Cond.code y' cc' n' r' :: lwg) := by
  intro w hw
  rcases List.mem_cons.mp hw with e | e
  · rw [e]; exact ⟨h, wt_good _ h⟩
  · exact ⟨e, wt_good _ e⟩
theorem wm_1_0 : Cond.initialized "ChatRelayLaw" ∈ lwg := wt1 0 rfl (by decide +kernel)
theorem wm_1_1 : Cond.initialized "ChatRelay" ∈ lwg := wt1 1 rfl (by decide +kernel)
theorem wm_1_2 : Cond.initialized "ChatRelay$Wires" ∈ lwg := wt1 2 rfl (by decide +kernel)
theorem wm_1_3 : Cond.initialized "ChatRelay$LineQueue" ∈ lwg := wt1 3 rfl (by decide +kernel)
theorem wm_1_4 : Cond.initialized "ChatRelay$Line" ∈ lwg := wt1 4 rfl (by decide +kernel)
theorem wm_1_5 : Cond.initialized "ChatRelay$View" ∈ lwg := wt1 5 rfl (by decide +kernel)
theorem wm_1_6 : Cond.initialized "ChatRelay$Channel" ∈ lwg := wt1 6 rfl (by decide +kernel)
theorem wm_1_7 : Cond.initialized "ChatRelayModel" ∈ lwg := wt1 7 rfl (by decide +kernel)
theorem wm_1_8 : Cond.initialized "java/lang/Throwable" ∈ lwg := wt1 8 rfl (by decide +kernel)
theorem wm_1_9 : Cond.initialized "java/lang/Exception" ∈ lwg := wt1 9 rfl (by decide +kernel)
theorem wm_1_10 : Cond.initialized "java/lang/RuntimeException" ∈ lwg := wt1 10 rfl (by decide +kernel)
theorem wm_1_11 : Cond.initialized "java/lang/IndexOutOfBoundsException" ∈ lwg := wt1 11 rfl (by decide +kernel)
theorem wm_1_12 : Cond.initialized "java/lang/IllegalStateException" ∈ lwg := wt1 12 rfl (by decide +kernel)
theorem wm_1_13 : Cond.initialized "java/lang/Math" ∈ lwg := wt1 13 rfl (by decide +kernel)
theorem wm_1_14 : Cond.initialized "java/lang/IllegalArgumentException" ∈ lwg := wt1 14 rfl (by decide +kernel)
theorem wm_1_15 : Cond.initialized "java/lang/Integer" ∈ lwg := wt1 15 rfl (by decide +kernel)
theorem wm_1_16 : Cond.classLink "ChatRelayLaw" (8 : Nat) "ChatRelay" ∈ lwg := wt1 16 rfl (by decide +kernel)
theorem wm_1_17 : Cond.instantiable "ChatRelay" (8 : Nat) ∈ lwg := wt1 17 rfl (by decide +kernel)
theorem wm_1_18 : Cond.methodLink "ChatRelayLaw" (74 : Nat) ({ cls := "ChatRelay", name := "<init>", desc := "()V" } : MethodName) ∈ lwg := wt1 18 rfl (by decide +kernel)
theorem wm_1_19 : Cond.instanceMethod ({ cls := "ChatRelay", name := "<init>", desc := "()V" } : MethodName) ∈ lwg := wt1 19 rfl (by decide +kernel)
theorem wm_1_20 : Cond.code ({ cls := "ChatRelay", name := "<init>", desc := "()V" } : MethodName) prog_1_method_1_code (2 : Nat) (Option.none : Option FieldType) ∈ lwg := wt1 20 rfl (by decide +kernel)
theorem wm_1_21 : Cond.methodLink "ChatRelay" (1 : Nat) ({ cls := "java/lang/Object", name := "<init>", desc := "()V" } : MethodName) ∈ lwg := wt1 21 rfl (by decide +kernel)
theorem wm_1_22 : Cond.instanceMethod ({ cls := "java/lang/Object", name := "<init>", desc := "()V" } : MethodName) ∈ lwg := wt1 22 rfl (by decide +kernel)
theorem wm_1_23 : Cond.code ({ cls := "java/lang/Object", name := "<init>", desc := "()V" } : MethodName) object_method_1_code (1 : Nat) (Option.none : Option FieldType) ∈ lwg := wt1 23 rfl (by decide +kernel)
theorem wm_1_24 : Cond.classLink "ChatRelay" (9 : Nat) "ChatRelay$View" ∈ lwg := wt1 24 rfl (by decide +kernel)
theorem wm_1_26 : Cond.classLink "ChatRelay" (15 : Nat) "ChatRelay$Wires" ∈ lwg := wt1 26 rfl (by decide +kernel)
theorem wm_1_27 : Cond.instantiable "ChatRelay$Wires" (5 : Nat) ∈ lwg := wt1 27 rfl (by decide +kernel)
theorem wm_1_28 : Cond.methodLink "ChatRelay" (17 : Nat) ({ cls := "ChatRelay$Wires", name := "<init>", desc := "()V" } : MethodName) ∈ lwg := wt1 28 rfl (by decide +kernel)
theorem wm_1_29 : Cond.instanceMethod ({ cls := "ChatRelay$Wires", name := "<init>", desc := "()V" } : MethodName) ∈ lwg := wt1 29 rfl (by decide +kernel)
theorem wm_1_30 : Cond.code ({ cls := "ChatRelay$Wires", name := "<init>", desc := "()V" } : MethodName) prog_6_method_1_code (2 : Nat) (Option.none : Option FieldType) ∈ lwg := wt1 30 rfl (by decide +kernel)
theorem wm_1_31 : Cond.methodLink "ChatRelay$Wires" (3 : Nat) ({ cls := "java/lang/Object", name := "<init>", desc := "()V" } : MethodName) ∈ lwg := wt1 31 rfl (by decide +kernel)
theorem wm_1_32 : Cond.classLink "ChatRelay$Wires" (15 : Nat) "ChatRelay$LineQueue" ∈ lwg := wt1 32 rfl (by decide +kernel)
theorem wm_1_34 : Cond.instantiable "ChatRelay$LineQueue" (2 : Nat) ∈ lwg := wt1 34 rfl (by decide +kernel)
theorem wm_1_36 : Cond.instanceMethod ({ cls := "ChatRelay$LineQueue", name := "<init>", desc := "()V" } : MethodName) ∈ lwg := wt1 36 rfl (by decide +kernel)
theorem wm_1_37 : Cond.code ({ cls := "ChatRelay$LineQueue", name := "<init>", desc := "()V" } : MethodName) prog_4_method_1_code (1 : Nat) (Option.none : Option FieldType) ∈ lwg := wt1 37 rfl (by decide +kernel)
theorem wm_1_38 : Cond.methodLink "ChatRelay$LineQueue" (1 : Nat) ({ cls := "java/lang/Object", name := "<init>", desc := "()V" } : MethodName) ∈ lwg := wt1 38 rfl (by decide +kernel)
theorem wm_1_39 : Cond.fieldLink "ChatRelay$LineQueue" (7 : Nat) "ChatRelay$LineQueue" "first" "LChatRelay$Line;" ∈ lwg := wt1 39 rfl (by decide +kernel)
theorem wm_1_40 : Cond.fieldLink "ChatRelay$LineQueue" (13 : Nat) "ChatRelay$LineQueue" "last" "LChatRelay$Line;" ∈ lwg := wt1 40 rfl (by decide +kernel)
theorem wm_1_41 : Cond.lays "ChatRelay$LineQueue" "ChatRelay$LineQueue" "first" "LChatRelay$Line;" ∈ lwg := wt1 41 rfl (by decide +kernel)
theorem wm_1_43 : Cond.lays "ChatRelay$LineQueue" "ChatRelay$LineQueue" "last" "LChatRelay$Line;" ∈ lwg := wt1 43 rfl (by decide +kernel)
theorem wm_1_46 : Cond.arrayClass FieldType.int ∈ lwg := wt1 46 rfl (by decide +kernel)
theorem wm_1_47 : Cond.fieldLink "ChatRelay$Wires" (9 : Nat) "ChatRelay$Wires" "linked" "[I" ∈ lwg := wt1 47 rfl (by decide +kernel)
theorem wm_1_48 : Cond.fieldLink "ChatRelay$Wires" (17 : Nat) "ChatRelay$Wires" "queues" "[LChatRelay$LineQueue;" ∈ lwg := wt1 48 rfl (by decide +kernel)
theorem wm_1_49 : Cond.fieldLink "ChatRelay$Wires" (21 : Nat) "ChatRelay$Wires" "waiting" "I" ∈ lwg := wt1 49 rfl (by decide +kernel)
theorem wm_1_50 : Cond.fieldLink "ChatRelay" (66 : Nat) "ChatRelay$Wires" "waiting" "I" ∈ lwg := wt1 50 rfl (by decide +kernel)
theorem wm_1_51 : Cond.fieldLink "ChatRelay$Wires" (25 : Nat) "ChatRelay$Wires" "spares" "LChatRelay$Line;" ∈ lwg := wt1 51 rfl (by decide +kernel)
theorem wm_1_52 : Cond.fieldLink "ChatRelay$Wires" (29 : Nat) "ChatRelay$Wires" "made" "I" ∈ lwg := wt1 52 rfl (by decide +kernel)
theorem wm_1_53 : Cond.laysFinal "ChatRelay$Wires" "ChatRelay$Wires" "linked" "[I" ∈ lwg := wt1 53 rfl (by decide +kernel)
theorem wm_1_55 : Cond.laysFinal "ChatRelay$Wires" "ChatRelay$Wires" "queues" "[LChatRelay$LineQueue;" ∈ lwg := wt1 55 rfl (by decide +kernel)
theorem wm_1_57 : Cond.lays "ChatRelay$Wires" "ChatRelay$Wires" "waiting" "I" ∈ lwg := wt1 57 rfl (by decide +kernel)
theorem wm_1_59 : Cond.lays "ChatRelay$Wires" "ChatRelay$Wires" "spares" "LChatRelay$Line;" ∈ lwg := wt1 59 rfl (by decide +kernel)
theorem wm_1_61 : Cond.lays "ChatRelay$Wires" "ChatRelay$Wires" "made" "I" ∈ lwg := wt1 61 rfl (by decide +kernel)
theorem wm_1_64 : Cond.classLink "ChatRelay" (32 : Nat) "ChatRelay$Line" ∈ lwg := wt1 64 rfl (by decide +kernel)
theorem wm_1_65 : Cond.instantiable "ChatRelay$Line" (8 : Nat) ∈ lwg := wt1 65 rfl (by decide +kernel)
theorem wm_1_67 : Cond.instanceMethod ({ cls := "ChatRelay$Line", name := "<init>", desc := "()V" } : MethodName) ∈ lwg := wt1 67 rfl (by decide +kernel)
theorem wm_1_68 : Cond.code ({ cls := "ChatRelay$Line", name := "<init>", desc := "()V" } : MethodName) prog_3_method_1_code (1 : Nat) (Option.none : Option FieldType) ∈ lwg := wt1 68 rfl (by decide +kernel)
theorem wm_1_69 : Cond.methodLink "ChatRelay$Line" (3 : Nat) ({ cls := "java/lang/Object", name := "<init>", desc := "()V" } : MethodName) ∈ lwg := wt1 69 rfl (by decide +kernel)
theorem wm_1_70 : Cond.fieldLink "ChatRelay$Line" (9 : Nat) "ChatRelay$Line" "kind" "I" ∈ lwg := wt1 70 rfl (by decide +kernel)
theorem wm_1_71 : Cond.fieldLink "ChatRelay" (232 : Nat) "ChatRelay$Line" "kind" "I" ∈ lwg := wt1 71 rfl (by decide +kernel)
theorem wm_1_72 : Cond.fieldLink "ChatRelay$Line" (15 : Nat) "ChatRelay$Line" "user" "I" ∈ lwg := wt1 72 rfl (by decide +kernel)
theorem wm_1_73 : Cond.fieldLink "ChatRelay" (248 : Nat) "ChatRelay$Line" "user" "I" ∈ lwg := wt1 73 rfl (by decide +kernel)
theorem wm_1_74 : Cond.fieldLink "ChatRelay$Line" (18 : Nat) "ChatRelay$Line" "channel" "I" ∈ lwg := wt1 74 rfl (by decide +kernel)
theorem wm_1_75 : Cond.fieldLink "ChatRelay" (245 : Nat) "ChatRelay$Line" "channel" "I" ∈ lwg := wt1 75 rfl (by decide +kernel)
theorem wm_1_76 : Cond.fieldLink "ChatRelay$Line" (21 : Nat) "ChatRelay$Line" "age" "I" ∈ lwg := wt1 76 rfl (by decide +kernel)
theorem wm_1_77 : Cond.fieldLink "ChatRelay$Channel" (24 : Nat) "ChatRelay$Line" "age" "I" ∈ lwg := wt1 77 rfl (by decide +kernel)
theorem wm_1_78 : Cond.fieldLink "ChatRelay" (263 : Nat) "ChatRelay$Line" "age" "I" ∈ lwg := wt1 78 rfl (by decide +kernel)
theorem wm_1_79 : Cond.fieldLink "ChatRelay$Line" (24 : Nat) "ChatRelay$Line" "modes" "I" ∈ lwg := wt1 79 rfl (by decide +kernel)
theorem wm_1_80 : Cond.fieldLink "ChatRelay$Channel" (27 : Nat) "ChatRelay$Line" "modes" "I" ∈ lwg := wt1 80 rfl (by decide +kernel)
theorem wm_1_81 : Cond.fieldLink "ChatRelay" (264 : Nat) "ChatRelay$Line" "modes" "I" ∈ lwg := wt1 81 rfl (by decide +kernel)
theorem wm_1_82 : Cond.fieldLink "ChatRelay$Line" (27 : Nat) "ChatRelay$Line" "bans" "I" ∈ lwg := wt1 82 rfl (by decide +kernel)
theorem wm_1_83 : Cond.fieldLink "ChatRelay$Channel" (32 : Nat) "ChatRelay$Line" "bans" "I" ∈ lwg := wt1 83 rfl (by decide +kernel)
theorem wm_1_84 : Cond.fieldLink "ChatRelay" (265 : Nat) "ChatRelay$Line" "bans" "I" ∈ lwg := wt1 84 rfl (by decide +kernel)
theorem wm_1_85 : Cond.fieldLink "ChatRelay$Line" (30 : Nat) "ChatRelay$Line" "members" "I" ∈ lwg := wt1 85 rfl (by decide +kernel)
theorem wm_1_86 : Cond.fieldLink "ChatRelay" (258 : Nat) "ChatRelay$Line" "members" "I" ∈ lwg := wt1 86 rfl (by decide +kernel)
theorem wm_1_87 : Cond.fieldLink "ChatRelay$Line" (33 : Nat) "ChatRelay$Line" "next" "LChatRelay$Line;" ∈ lwg := wt1 87 rfl (by decide +kernel)
theorem wm_1_88 : Cond.fieldLink "ChatRelay$LineQueue" (16 : Nat) "ChatRelay$Line" "next" "LChatRelay$Line;" ∈ lwg := wt1 88 rfl (by decide +kernel)
theorem wm_1_89 : Cond.fieldLink "ChatRelay$Wires" (66 : Nat) "ChatRelay$Line" "next" "LChatRelay$Line;" ∈ lwg := wt1 89 rfl (by decide +kernel)
theorem wm_1_90 : Cond.lays "ChatRelay$Line" "ChatRelay$Line" "kind" "I" ∈ lwg := wt1 90 rfl (by decide +kernel)
theorem wm_1_92 : Cond.lays "ChatRelay$Line" "ChatRelay$Line" "user" "I" ∈ lwg := wt1 92 rfl (by decide +kernel)
theorem wm_1_94 : Cond.lays "ChatRelay$Line" "ChatRelay$Line" "channel" "I" ∈ lwg := wt1 94 rfl (by decide +kernel)
theorem wm_1_96 : Cond.lays "ChatRelay$Line" "ChatRelay$Line" "age" "I" ∈ lwg := wt1 96 rfl (by decide +kernel)
theorem wm_1_98 : Cond.lays "ChatRelay$Line" "ChatRelay$Line" "modes" "I" ∈ lwg := wt1 98 rfl (by decide +kernel)
theorem wm_1_100 : Cond.lays "ChatRelay$Line" "ChatRelay$Line" "bans" "I" ∈ lwg := wt1 100 rfl (by decide +kernel)
theorem wm_1_102 : Cond.lays "ChatRelay$Line" "ChatRelay$Line" "members" "I" ∈ lwg := wt1 102 rfl (by decide +kernel)
theorem wm_1_104 : Cond.lays "ChatRelay$Line" "ChatRelay$Line" "next" "LChatRelay$Line;" ∈ lwg := wt1 104 rfl (by decide +kernel)
theorem wm_1_107 : Cond.instantiable "ChatRelay$View" (2 : Nat) ∈ lwg := wt1 107 rfl (by decide +kernel)
theorem wm_1_108 : Cond.methodLink "ChatRelay" (46 : Nat) ({ cls := "ChatRelay$View", name := "<init>", desc := "()V" } : MethodName) ∈ lwg := wt1 108 rfl (by decide +kernel)
theorem wm_1_109 : Cond.instanceMethod ({ cls := "ChatRelay$View", name := "<init>", desc := "()V" } : MethodName) ∈ lwg := wt1 109 rfl (by decide +kernel)
theorem wm_1_110 : Cond.code ({ cls := "ChatRelay$View", name := "<init>", desc := "()V" } : MethodName) prog_5_method_1_code (2 : Nat) (Option.none : Option FieldType) ∈ lwg := wt1 110 rfl (by decide +kernel)
theorem wm_1_111 : Cond.methodLink "ChatRelay$View" (3 : Nat) ({ cls := "java/lang/Object", name := "<init>", desc := "()V" } : MethodName) ∈ lwg := wt1 111 rfl (by decide +kernel)
theorem wm_1_112 : Cond.classLink "ChatRelay$View" (15 : Nat) "ChatRelay$Channel" ∈ lwg := wt1 112 rfl (by decide +kernel)
theorem wm_1_114 : Cond.instantiable "ChatRelay$Channel" (4 : Nat) ∈ lwg := wt1 114 rfl (by decide +kernel)
theorem wm_1_116 : Cond.instanceMethod ({ cls := "ChatRelay$Channel", name := "<init>", desc := "()V" } : MethodName) ∈ lwg := wt1 116 rfl (by decide +kernel)
theorem wm_1_117 : Cond.code ({ cls := "ChatRelay$Channel", name := "<init>", desc := "()V" } : MethodName) prog_2_method_1_code (1 : Nat) (Option.none : Option FieldType) ∈ lwg := wt1 117 rfl (by decide +kernel)
theorem wm_1_118 : Cond.methodLink "ChatRelay$Channel" (3 : Nat) ({ cls := "java/lang/Object", name := "<init>", desc := "()V" } : MethodName) ∈ lwg := wt1 118 rfl (by decide +kernel)
theorem wm_1_119 : Cond.fieldLink "ChatRelay$Channel" (9 : Nat) "ChatRelay$Channel" "age" "I" ∈ lwg := wt1 119 rfl (by decide +kernel)
theorem wm_1_120 : Cond.fieldLink "ChatRelay$Line" (37 : Nat) "ChatRelay$Channel" "age" "I" ∈ lwg := wt1 120 rfl (by decide +kernel)
theorem wm_1_121 : Cond.fieldLink "ChatRelay" (199 : Nat) "ChatRelay$Channel" "age" "I" ∈ lwg := wt1 121 rfl (by decide +kernel)
theorem wm_1_122 : Cond.fieldLink "ChatRelay$Channel" (15 : Nat) "ChatRelay$Channel" "modes" "I" ∈ lwg := wt1 122 rfl (by decide +kernel)
theorem wm_1_123 : Cond.fieldLink "ChatRelay$Line" (40 : Nat) "ChatRelay$Channel" "modes" "I" ∈ lwg := wt1 123 rfl (by decide +kernel)
theorem wm_1_124 : Cond.fieldLink "ChatRelay" (179 : Nat) "ChatRelay$Channel" "modes" "I" ∈ lwg := wt1 124 rfl (by decide +kernel)
theorem wm_1_125 : Cond.fieldLink "ChatRelay$Channel" (18 : Nat) "ChatRelay$Channel" "bans" "I" ∈ lwg := wt1 125 rfl (by decide +kernel)
theorem wm_1_126 : Cond.fieldLink "ChatRelay$Line" (41 : Nat) "ChatRelay$Channel" "bans" "I" ∈ lwg := wt1 126 rfl (by decide +kernel)
theorem wm_1_127 : Cond.fieldLink "ChatRelay" (150 : Nat) "ChatRelay$Channel" "bans" "I" ∈ lwg := wt1 127 rfl (by decide +kernel)
theorem wm_1_128 : Cond.fieldLink "ChatRelay$Channel" (21 : Nat) "ChatRelay$Channel" "members" "I" ∈ lwg := wt1 128 rfl (by decide +kernel)
theorem wm_1_129 : Cond.fieldLink "ChatRelay" (139 : Nat) "ChatRelay$Channel" "members" "I" ∈ lwg := wt1 129 rfl (by decide +kernel)
theorem wm_1_130 : Cond.lays "ChatRelay$Channel" "ChatRelay$Channel" "age" "I" ∈ lwg := wt1 130 rfl (by decide +kernel)
theorem wm_1_132 : Cond.lays "ChatRelay$Channel" "ChatRelay$Channel" "modes" "I" ∈ lwg := wt1 132 rfl (by decide +kernel)
theorem wm_1_134 : Cond.lays "ChatRelay$Channel" "ChatRelay$Channel" "bans" "I" ∈ lwg := wt1 134 rfl (by decide +kernel)
theorem wm_1_136 : Cond.lays "ChatRelay$Channel" "ChatRelay$Channel" "members" "I" ∈ lwg := wt1 136 rfl (by decide +kernel)
theorem wm_1_139 : Cond.fieldLink "ChatRelay$View" (9 : Nat) "ChatRelay$View" "knownUsers" "I" ∈ lwg := wt1 139 rfl (by decide +kernel)
theorem wm_1_140 : Cond.fieldLink "ChatRelay" (196 : Nat) "ChatRelay$View" "knownUsers" "I" ∈ lwg := wt1 140 rfl (by decide +kernel)
theorem wm_1_141 : Cond.fieldLink "ChatRelay$View" (17 : Nat) "ChatRelay$View" "channels" "[LChatRelay$Channel;" ∈ lwg := wt1 141 rfl (by decide +kernel)
theorem wm_1_142 : Cond.fieldLink "ChatRelay" (135 : Nat) "ChatRelay$View" "channels" "[LChatRelay$Channel;" ∈ lwg := wt1 142 rfl (by decide +kernel)
theorem wm_1_143 : Cond.lays "ChatRelay$View" "ChatRelay$View" "knownUsers" "I" ∈ lwg := wt1 143 rfl (by decide +kernel)
theorem wm_1_145 : Cond.laysFinal "ChatRelay$View" "ChatRelay$View" "channels" "[LChatRelay$Channel;" ∈ lwg := wt1 145 rfl (by decide +kernel)
theorem wm_1_148 : Cond.fieldLink "ChatRelay" (11 : Nat) "ChatRelay" "views" "[LChatRelay$View;" ∈ lwg := wt1 148 rfl (by decide +kernel)
theorem wm_1_149 : Cond.fieldLink "ChatRelay" (18 : Nat) "ChatRelay" "wires" "LChatRelay$Wires;" ∈ lwg := wt1 149 rfl (by decide +kernel)
theorem wm_1_150 : Cond.fieldLink "ChatRelay" (22 : Nat) "ChatRelay" "homeOf" "[I" ∈ lwg := wt1 150 rfl (by decide +kernel)
theorem wm_1_151 : Cond.fieldLink "ChatRelay" (26 : Nat) "ChatRelay" "letterOf" "[I" ∈ lwg := wt1 151 rfl (by decide +kernel)
theorem wm_1_152 : Cond.fieldLink "ChatRelay" (29 : Nat) "ChatRelay" "ageOf" "[I" ∈ lwg := wt1 152 rfl (by decide +kernel)
theorem wm_1_153 : Cond.fieldLink "ChatRelay" (35 : Nat) "ChatRelay" "draft" "LChatRelay$Line;" ∈ lwg := wt1 153 rfl (by decide +kernel)
theorem wm_1_154 : Cond.fieldLink "ChatRelay" (39 : Nat) "ChatRelay" "signedOn" "I" ∈ lwg := wt1 154 rfl (by decide +kernel)
theorem wm_1_155 : Cond.fieldLink "ChatRelay" (43 : Nat) "ChatRelay" "now" "I" ∈ lwg := wt1 155 rfl (by decide +kernel)
theorem wm_1_156 : Cond.laysFinal "ChatRelay" "ChatRelay" "views" "[LChatRelay$View;" ∈ lwg := wt1 156 rfl (by decide +kernel)
theorem wm_1_158 : Cond.laysFinal "ChatRelay" "ChatRelay" "wires" "LChatRelay$Wires;" ∈ lwg := wt1 158 rfl (by decide +kernel)
theorem wm_1_160 : Cond.laysFinal "ChatRelay" "ChatRelay" "homeOf" "[I" ∈ lwg := wt1 160 rfl (by decide +kernel)
theorem wm_1_162 : Cond.laysFinal "ChatRelay" "ChatRelay" "letterOf" "[I" ∈ lwg := wt1 162 rfl (by decide +kernel)
theorem wm_1_164 : Cond.laysFinal "ChatRelay" "ChatRelay" "ageOf" "[I" ∈ lwg := wt1 164 rfl (by decide +kernel)
theorem wm_1_166 : Cond.laysFinal "ChatRelay" "ChatRelay" "draft" "LChatRelay$Line;" ∈ lwg := wt1 166 rfl (by decide +kernel)
theorem wm_1_168 : Cond.lays "ChatRelay" "ChatRelay" "signedOn" "I" ∈ lwg := wt1 168 rfl (by decide +kernel)
theorem wm_1_170 : Cond.lays "ChatRelay" "ChatRelay" "now" "I" ∈ lwg := wt1 170 rfl (by decide +kernel)
theorem wm_1_173 : Cond.methodLink "ChatRelayLaw" (94 : Nat) ({ cls := "ChatRelay", name := "deliverAll", desc := "()I" } : MethodName) ∈ lwg := wt1 173 rfl (by decide +kernel)
theorem wm_1_174 : Cond.instanceMethod ({ cls := "ChatRelay", name := "deliverAll", desc := "()I" } : MethodName) ∈ lwg := wt1 174 rfl (by decide +kernel)
theorem wm_1_175 : Cond.selects "ChatRelay" ({ cls := "ChatRelay", name := "deliverAll", desc := "()I" } : MethodName) ({ cls := "ChatRelay", name := "deliverAll", desc := "()I" } : MethodName) ∈ lwg := wt1 175 rfl (by decide +kernel)
theorem wm_1_176 : Cond.code ({ cls := "ChatRelay", name := "deliverAll", desc := "()I" } : MethodName) prog_1_method_5_code (3 : Nat) (Option.some FieldType.int) ∈ lwg := wt1 176 rfl (by decide +kernel)
theorem wm_1_177 : Cond.constant "ChatRelay" (92 : Nat) (1000000 : Int32) ∈ lwg := wt1 177 rfl (by decide +kernel)
theorem wm_1_178 : Cond.methodLink "ChatRelay" (93 : Nat) ({ cls := "ChatRelay", name := "deliverRound", desc := "()I" } : MethodName) ∈ lwg := wt1 178 rfl (by decide +kernel)
theorem wm_1_180 : Cond.instanceMethod ({ cls := "ChatRelay", name := "deliverRound", desc := "()I" } : MethodName) ∈ lwg := wt1 180 rfl (by decide +kernel)
theorem wm_1_181 : Cond.code ({ cls := "ChatRelay", name := "deliverRound", desc := "()I" } : MethodName) prog_1_method_30_code (4 : Nat) (Option.some FieldType.int) ∈ lwg := wt1 181 rfl (by decide +kernel)
theorem wm_1_182 : Cond.methodLink "ChatRelay" (87 : Nat) ({ cls := "ChatRelay", name := "deliverFirst", desc := "(II)Z" } : MethodName) ∈ lwg := wt1 182 rfl (by decide +kernel)
theorem wm_1_184 : Cond.instanceMethod ({ cls := "ChatRelay", name := "deliverFirst", desc := "(II)Z" } : MethodName) ∈ lwg := wt1 184 rfl (by decide +kernel)
theorem wm_1_185 : Cond.code ({ cls := "ChatRelay", name := "deliverFirst", desc := "(II)Z" } : MethodName) prog_1_method_31_code (4 : Nat) (Option.some FieldType.boolean) ∈ lwg := wt1 185 rfl (by decide +kernel)
theorem wm_1_186 : Cond.methodLink "ChatRelay" (229 : Nat) ({ cls := "ChatRelay$Wires", name := "take", desc := "(II)LChatRelay$Line;" } : MethodName) ∈ lwg := wt1 186 rfl (by decide +kernel)
theorem wm_1_187 : Cond.instanceMethod ({ cls := "ChatRelay$Wires", name := "take", desc := "(II)LChatRelay$Line;" } : MethodName) ∈ lwg := wt1 187 rfl (by decide +kernel)
theorem wm_1_188 : Cond.selects "ChatRelay$Wires" ({ cls := "ChatRelay$Wires", name := "take", desc := "(II)LChatRelay$Line;" } : MethodName) ({ cls := "ChatRelay$Wires", name := "take", desc := "(II)LChatRelay$Line;" } : MethodName) ∈ lwg := wt1 188 rfl (by decide +kernel)
theorem wm_1_189 : Cond.code ({ cls := "ChatRelay$Wires", name := "take", desc := "(II)LChatRelay$Line;" } : MethodName) prog_6_method_10_code (4 : Nat) (Option.some (FieldType.object "ChatRelay$Line")) ∈ lwg := wt1 189 rfl (by decide +kernel)
theorem wm_1_190 : Cond.methodLink "ChatRelay$Wires" (78 : Nat) ({ cls := "ChatRelay$LineQueue", name := "takeFirst", desc := "()LChatRelay$Line;" } : MethodName) ∈ lwg := wt1 190 rfl (by decide +kernel)
theorem wm_1_191 : Cond.instanceMethod ({ cls := "ChatRelay$LineQueue", name := "takeFirst", desc := "()LChatRelay$Line;" } : MethodName) ∈ lwg := wt1 191 rfl (by decide +kernel)
theorem wm_1_192 : Cond.selects "ChatRelay$LineQueue" ({ cls := "ChatRelay$LineQueue", name := "takeFirst", desc := "()LChatRelay$Line;" } : MethodName) ({ cls := "ChatRelay$LineQueue", name := "takeFirst", desc := "()LChatRelay$Line;" } : MethodName) ∈ lwg := wt1 192 rfl (by decide +kernel)
theorem wm_1_193 : Cond.code ({ cls := "ChatRelay$LineQueue", name := "takeFirst", desc := "()LChatRelay$Line;" } : MethodName) prog_4_method_3_code (2 : Nat) (Option.some (FieldType.object "ChatRelay$Line")) ∈ lwg := wt1 193 rfl (by decide +kernel)
theorem wm_1_194 : Cond.methodLink "ChatRelay" (235 : Nat) ({ cls := "ChatRelay", name := "receiveUser", desc := "(LChatRelay$Line;II)V" } : MethodName) ∈ lwg := wt1 194 rfl (by decide +kernel)
theorem wm_1_196 : Cond.instanceMethod ({ cls := "ChatRelay", name := "receiveUser", desc := "(LChatRelay$Line;II)V" } : MethodName) ∈ lwg := wt1 196 rfl (by decide +kernel)
theorem wm_1_197 : Cond.code ({ cls := "ChatRelay", name := "receiveUser", desc := "(LChatRelay$Line;II)V" } : MethodName) prog_1_method_32_code (7 : Nat) (Option.none : Option FieldType) ∈ lwg := wt1 197 rfl (by decide +kernel)
theorem wm_1_198 : Cond.methodLink "ChatRelay" (51 : Nat) ({ cls := "ChatRelay$Wires", name := "treeOf", desc := "(I)I" } : MethodName) ∈ lwg := wt1 198 rfl (by decide +kernel)
theorem wm_1_199 : Cond.instanceMethod ({ cls := "ChatRelay$Wires", name := "treeOf", desc := "(I)I" } : MethodName) ∈ lwg := wt1 199 rfl (by decide +kernel)
theorem wm_1_200 : Cond.selects "ChatRelay$Wires" ({ cls := "ChatRelay$Wires", name := "treeOf", desc := "(I)I" } : MethodName) ({ cls := "ChatRelay$Wires", name := "treeOf", desc := "(I)I" } : MethodName) ∈ lwg := wt1 200 rfl (by decide +kernel)
theorem wm_1_201 : Cond.code ({ cls := "ChatRelay$Wires", name := "treeOf", desc := "(I)I" } : MethodName) prog_6_method_3_code (5 : Nat) (Option.some FieldType.int) ∈ lwg := wt1 201 rfl (by decide +kernel)
theorem wm_1_203 : Cond.static ({ cls := "ChatRelay", name := "has", desc := "(II)Z" } : MethodName) ∈ lwg := wt1 203 rfl (by decide +kernel)
theorem wm_1_204 : Cond.code ({ cls := "ChatRelay", name := "has", desc := "(II)Z" } : MethodName) prog_1_method_40_code (2 : Nat) (Option.some FieldType.boolean) ∈ lwg := wt1 204 rfl (by decide +kernel)
theorem wm_1_205 : Cond.methodLink "ChatRelay" (55 : Nat) ({ cls := "ChatRelay", name := "has", desc := "(II)Z" } : MethodName) ∈ lwg := wt1 205 rfl (by decide +kernel)
theorem wm_1_206 : Cond.methodLink "ChatRelay" (106 : Nat) ({ cls := "ChatRelay", name := "namesake", desc := "(LChatRelay$View;II)I" } : MethodName) ∈ lwg := wt1 206 rfl (by decide +kernel)
theorem wm_1_208 : Cond.instanceMethod ({ cls := "ChatRelay", name := "namesake", desc := "(LChatRelay$View;II)I" } : MethodName) ∈ lwg := wt1 208 rfl (by decide +kernel)
theorem wm_1_209 : Cond.code ({ cls := "ChatRelay", name := "namesake", desc := "(LChatRelay$View;II)I" } : MethodName) prog_1_method_37_code (5 : Nat) (Option.some FieldType.int) ∈ lwg := wt1 209 rfl (by decide +kernel)
theorem wm_1_210 : Cond.methodLink "ChatRelay" (223 : Nat) ({ cls := "ChatRelay$View", name := "knows", desc := "(I)Z" } : MethodName) ∈ lwg := wt1 210 rfl (by decide +kernel)
theorem wm_1_211 : Cond.instanceMethod ({ cls := "ChatRelay$View", name := "knows", desc := "(I)Z" } : MethodName) ∈ lwg := wt1 211 rfl (by decide +kernel)
theorem wm_1_212 : Cond.selects "ChatRelay$View" ({ cls := "ChatRelay$View", name := "knows", desc := "(I)Z" } : MethodName) ({ cls := "ChatRelay$View", name := "knows", desc := "(I)Z" } : MethodName) ∈ lwg := wt1 212 rfl (by decide +kernel)
theorem wm_1_213 : Cond.code ({ cls := "ChatRelay$View", name := "knows", desc := "(I)Z" } : MethodName) prog_5_method_2_code (2 : Nat) (Option.some FieldType.boolean) ∈ lwg := wt1 213 rfl (by decide +kernel)
theorem wm_1_215 : Cond.methodLink "ChatRelay" (115 : Nat) ({ cls := "ChatRelay$Line", name := "ofUser", desc := "(II)LChatRelay$Line;" } : MethodName) ∈ lwg := wt1 215 rfl (by decide +kernel)
theorem wm_1_216 : Cond.instanceMethod ({ cls := "ChatRelay$Line", name := "ofUser", desc := "(II)LChatRelay$Line;" } : MethodName) ∈ lwg := wt1 216 rfl (by decide +kernel)
theorem wm_1_217 : Cond.selects "ChatRelay$Line" ({ cls := "ChatRelay$Line", name := "ofUser", desc := "(II)LChatRelay$Line;" } : MethodName) ({ cls := "ChatRelay$Line", name := "ofUser", desc := "(II)LChatRelay$Line;" } : MethodName) ∈ lwg := wt1 217 rfl (by decide +kernel)
theorem wm_1_218 : Cond.code ({ cls := "ChatRelay$Line", name := "ofUser", desc := "(II)LChatRelay$Line;" } : MethodName) prog_3_method_2_code (3 : Nat) (Option.some (FieldType.object "ChatRelay$Line")) ∈ lwg := wt1 218 rfl (by decide +kernel)
theorem wm_1_219 : Cond.methodLink "ChatRelay" (226 : Nat) ({ cls := "ChatRelay$Wires", name := "put", desc := "(IILChatRelay$Line;)V" } : MethodName) ∈ lwg := wt1 219 rfl (by decide +kernel)
theorem wm_1_220 : Cond.instanceMethod ({ cls := "ChatRelay$Wires", name := "put", desc := "(IILChatRelay$Line;)V" } : MethodName) ∈ lwg := wt1 220 rfl (by decide +kernel)
theorem wm_1_221 : Cond.selects "ChatRelay$Wires" ({ cls := "ChatRelay$Wires", name := "put", desc := "(IILChatRelay$Line;)V" } : MethodName) ({ cls := "ChatRelay$Wires", name := "put", desc := "(IILChatRelay$Line;)V" } : MethodName) ∈ lwg := wt1 221 rfl (by decide +kernel)
theorem wm_1_222 : Cond.code ({ cls := "ChatRelay$Wires", name := "put", desc := "(IILChatRelay$Line;)V" } : MethodName) prog_6_method_9_code (5 : Nat) (Option.none : Option FieldType) ∈ lwg := wt1 222 rfl (by decide +kernel)
theorem wm_1_223 : Cond.constant "ChatRelay$Wires" (54 : Nat) (150000 : Int32) ∈ lwg := wt1 223 rfl (by decide +kernel)
theorem wm_1_224 : Cond.classLink "ChatRelay$Wires" (67 : Nat) "ChatRelay$Line" ∈ lwg := wt1 224 rfl (by decide +kernel)
theorem wm_1_226 : Cond.methodLink "ChatRelay$Wires" (72 : Nat) ({ cls := "ChatRelay$Line", name := "copyFrom", desc := "(LChatRelay$Line;)V" } : MethodName) ∈ lwg := wt1 226 rfl (by decide +kernel)
theorem wm_1_227 : Cond.instanceMethod ({ cls := "ChatRelay$Line", name := "copyFrom", desc := "(LChatRelay$Line;)V" } : MethodName) ∈ lwg := wt1 227 rfl (by decide +kernel)
theorem wm_1_228 : Cond.selects "ChatRelay$Line" ({ cls := "ChatRelay$Line", name := "copyFrom", desc := "(LChatRelay$Line;)V" } : MethodName) ({ cls := "ChatRelay$Line", name := "copyFrom", desc := "(LChatRelay$Line;)V" } : MethodName) ∈ lwg := wt1 228 rfl (by decide +kernel)
theorem wm_1_229 : Cond.code ({ cls := "ChatRelay$Line", name := "copyFrom", desc := "(LChatRelay$Line;)V" } : MethodName) prog_3_method_5_code (2 : Nat) (Option.none : Option FieldType) ∈ lwg := wt1 229 rfl (by decide +kernel)
theorem wm_1_230 : Cond.methodLink "ChatRelay$Wires" (75 : Nat) ({ cls := "ChatRelay$LineQueue", name := "append", desc := "(LChatRelay$Line;)V" } : MethodName) ∈ lwg := wt1 230 rfl (by decide +kernel)
theorem wm_1_231 : Cond.instanceMethod ({ cls := "ChatRelay$LineQueue", name := "append", desc := "(LChatRelay$Line;)V" } : MethodName) ∈ lwg := wt1 231 rfl (by decide +kernel)
theorem wm_1_232 : Cond.selects "ChatRelay$LineQueue" ({ cls := "ChatRelay$LineQueue", name := "append", desc := "(LChatRelay$Line;)V" } : MethodName) ({ cls := "ChatRelay$LineQueue", name := "append", desc := "(LChatRelay$Line;)V" } : MethodName) ∈ lwg := wt1 232 rfl (by decide +kernel)
theorem wm_1_233 : Cond.code ({ cls := "ChatRelay$LineQueue", name := "append", desc := "(LChatRelay$Line;)V" } : MethodName) prog_4_method_2_code (2 : Nat) (Option.none : Option FieldType) ∈ lwg := wt1 233 rfl (by decide +kernel)
theorem wm_1_234 : Cond.methodLink "ChatRelay" (129 : Nat) ({ cls := "ChatRelay$View", name := "forget", desc := "(I)V" } : MethodName) ∈ lwg := wt1 234 rfl (by decide +kernel)
theorem wm_1_235 : Cond.instanceMethod ({ cls := "ChatRelay$View", name := "forget", desc := "(I)V" } : MethodName) ∈ lwg := wt1 235 rfl (by decide +kernel)
theorem wm_1_236 : Cond.selects "ChatRelay$View" ({ cls := "ChatRelay$View", name := "forget", desc := "(I)V" } : MethodName) ({ cls := "ChatRelay$View", name := "forget", desc := "(I)V" } : MethodName) ∈ lwg := wt1 236 rfl (by decide +kernel)
theorem wm_1_237 : Cond.code ({ cls := "ChatRelay$View", name := "forget", desc := "(I)V" } : MethodName) prog_5_method_4_code (3 : Nat) (Option.none : Option FieldType) ∈ lwg := wt1 237 rfl (by decide +kernel)
theorem wm_1_238 : Cond.methodLink "ChatRelay$View" (26 : Nat) ({ cls := "ChatRelay$Channel", name := "drop", desc := "(I)V" } : MethodName) ∈ lwg := wt1 238 rfl (by decide +kernel)
theorem wm_1_239 : Cond.instanceMethod ({ cls := "ChatRelay$Channel", name := "drop", desc := "(I)V" } : MethodName) ∈ lwg := wt1 239 rfl (by decide +kernel)
theorem wm_2_0 : Cond.selects "ChatRelay$Channel" ({ cls := "ChatRelay$Channel", name := "drop", desc := "(I)V" } : MethodName) ({ cls := "ChatRelay$Channel", name := "drop", desc := "(I)V" } : MethodName) ∈ lwg := wt2 0 rfl (by decide +kernel)
theorem wm_2_1 : Cond.code ({ cls := "ChatRelay$Channel", name := "drop", desc := "(I)V" } : MethodName) prog_2_method_4_code (2 : Nat) (Option.none : Option FieldType) ∈ lwg := wt2 1 rfl (by decide +kernel)
theorem wm_2_2 : Cond.methodLink "ChatRelay" (119 : Nat) ({ cls := "ChatRelay$Wires", name := "spread", desc := "(IILChatRelay$Line;)V" } : MethodName) ∈ lwg := wt2 2 rfl (by decide +kernel)
theorem wm_2_3 : Cond.instanceMethod ({ cls := "ChatRelay$Wires", name := "spread", desc := "(IILChatRelay$Line;)V" } : MethodName) ∈ lwg := wt2 3 rfl (by decide +kernel)
theorem wm_2_4 : Cond.selects "ChatRelay$Wires" ({ cls := "ChatRelay$Wires", name := "spread", desc := "(IILChatRelay$Line;)V" } : MethodName) ({ cls := "ChatRelay$Wires", name := "spread", desc := "(IILChatRelay$Line;)V" } : MethodName) ∈ lwg := wt2 4 rfl (by decide +kernel)
theorem wm_2_5 : Cond.code ({ cls := "ChatRelay$Wires", name := "spread", desc := "(IILChatRelay$Line;)V" } : MethodName) prog_6_method_8_code (5 : Nat) (Option.none : Option FieldType) ∈ lwg := wt2 5 rfl (by decide +kernel)
theorem wm_2_6 : Cond.methodLink "ChatRelay$Wires" (59 : Nat) ({ cls := "ChatRelay$Wires", name := "haveLink", desc := "(II)Z" } : MethodName) ∈ lwg := wt2 6 rfl (by decide +kernel)
theorem wm_2_7 : Cond.instanceMethod ({ cls := "ChatRelay$Wires", name := "haveLink", desc := "(II)Z" } : MethodName) ∈ lwg := wt2 7 rfl (by decide +kernel)
theorem wm_2_8 : Cond.selects "ChatRelay$Wires" ({ cls := "ChatRelay$Wires", name := "haveLink", desc := "(II)Z" } : MethodName) ({ cls := "ChatRelay$Wires", name := "haveLink", desc := "(II)Z" } : MethodName) ∈ lwg := wt2 8 rfl (by decide +kernel)
theorem wm_2_9 : Cond.code ({ cls := "ChatRelay$Wires", name := "haveLink", desc := "(II)Z" } : MethodName) prog_6_method_2_code (3 : Nat) (Option.some FieldType.boolean) ∈ lwg := wt2 9 rfl (by decide +kernel)
theorem wm_2_10 : Cond.methodLink "ChatRelay$Wires" (62 : Nat) ({ cls := "ChatRelay$Wires", name := "put", desc := "(IILChatRelay$Line;)V" } : MethodName) ∈ lwg := wt2 10 rfl (by decide +kernel)
theorem wm_2_11 : Cond.methodLink "ChatRelay" (112 : Nat) ({ cls := "ChatRelay$View", name := "learn", desc := "(I)V" } : MethodName) ∈ lwg := wt2 11 rfl (by decide +kernel)
theorem wm_2_12 : Cond.instanceMethod ({ cls := "ChatRelay$View", name := "learn", desc := "(I)V" } : MethodName) ∈ lwg := wt2 12 rfl (by decide +kernel)
theorem wm_2_13 : Cond.selects "ChatRelay$View" ({ cls := "ChatRelay$View", name := "learn", desc := "(I)V" } : MethodName) ({ cls := "ChatRelay$View", name := "learn", desc := "(I)V" } : MethodName) ∈ lwg := wt2 13 rfl (by decide +kernel)
theorem wm_2_14 : Cond.code ({ cls := "ChatRelay$View", name := "learn", desc := "(I)V" } : MethodName) prog_5_method_3_code (2 : Nat) (Option.none : Option FieldType) ∈ lwg := wt2 14 rfl (by decide +kernel)
theorem wm_2_15 : Cond.methodLink "ChatRelay" (239 : Nat) ({ cls := "ChatRelay", name := "receiveQuit", desc := "(LChatRelay$Line;II)V" } : MethodName) ∈ lwg := wt2 15 rfl (by decide +kernel)
theorem wm_2_17 : Cond.instanceMethod ({ cls := "ChatRelay", name := "receiveQuit", desc := "(LChatRelay$Line;II)V" } : MethodName) ∈ lwg := wt2 17 rfl (by decide +kernel)
theorem wm_2_18 : Cond.code ({ cls := "ChatRelay", name := "receiveQuit", desc := "(LChatRelay$Line;II)V" } : MethodName) prog_1_method_33_code (5 : Nat) (Option.none : Option FieldType) ∈ lwg := wt2 18 rfl (by decide +kernel)
theorem wm_2_19 : Cond.methodLink "ChatRelay" (242 : Nat) ({ cls := "ChatRelay", name := "receiveChannel", desc := "(LChatRelay$Line;II)V" } : MethodName) ∈ lwg := wt2 19 rfl (by decide +kernel)
theorem wm_2_21 : Cond.instanceMethod ({ cls := "ChatRelay", name := "receiveChannel", desc := "(LChatRelay$Line;II)V" } : MethodName) ∈ lwg := wt2 21 rfl (by decide +kernel)
theorem wm_2_22 : Cond.code ({ cls := "ChatRelay", name := "receiveChannel", desc := "(LChatRelay$Line;II)V" } : MethodName) prog_1_method_34_code (6 : Nat) (Option.none : Option FieldType) ∈ lwg := wt2 22 rfl (by decide +kernel)
theorem wm_2_23 : Cond.methodLink "ChatRelay" (259 : Nat) ({ cls := "ChatRelay$Channel", name := "takeIn", desc := "(LChatRelay$Line;I)V" } : MethodName) ∈ lwg := wt2 23 rfl (by decide +kernel)
theorem wm_2_24 : Cond.instanceMethod ({ cls := "ChatRelay$Channel", name := "takeIn", desc := "(LChatRelay$Line;I)V" } : MethodName) ∈ lwg := wt2 24 rfl (by decide +kernel)
theorem wm_2_25 : Cond.selects "ChatRelay$Channel" ({ cls := "ChatRelay$Channel", name := "takeIn", desc := "(LChatRelay$Line;I)V" } : MethodName) ({ cls := "ChatRelay$Channel", name := "takeIn", desc := "(LChatRelay$Line;I)V" } : MethodName) ∈ lwg := wt2 25 rfl (by decide +kernel)
theorem wm_2_26 : Cond.code ({ cls := "ChatRelay$Channel", name := "takeIn", desc := "(LChatRelay$Line;I)V" } : MethodName) prog_2_method_5_code (3 : Nat) (Option.none : Option FieldType) ∈ lwg := wt2 26 rfl (by decide +kernel)
theorem wm_2_28 : Cond.static ({ cls := "ChatRelay", name := "settledSet", desc := "(IIII)I" } : MethodName) ∈ lwg := wt2 28 rfl (by decide +kernel)
theorem wm_2_29 : Cond.code ({ cls := "ChatRelay", name := "settledSet", desc := "(IIII)I" } : MethodName) prog_1_method_42_code (4 : Nat) (Option.some FieldType.int) ∈ lwg := wt2 29 rfl (by decide +kernel)
theorem wm_2_30 : Cond.methodLink "ChatRelay$Channel" (33 : Nat) ({ cls := "java/lang/Math", name := "min", desc := "(II)I" } : MethodName) ∈ lwg := wt2 30 rfl (by decide +kernel)
theorem wm_2_31 : Cond.static ({ cls := "java/lang/Math", name := "min", desc := "(II)I" } : MethodName) ∈ lwg := wt2 31 rfl (by decide +kernel)
theorem wm_2_32 : Cond.code ({ cls := "java/lang/Math", name := "min", desc := "(II)I" } : MethodName) prog_14_method_69_code (2 : Nat) (Option.some FieldType.int) ∈ lwg := wt2 32 rfl (by decide +kernel)
theorem wm_2_33 : Cond.methodLink "ChatRelay" (170 : Nat) ({ cls := "ChatRelay$Channel", name := "drop", desc := "(I)V" } : MethodName) ∈ lwg := wt2 33 rfl (by decide +kernel)
theorem wm_2_34 : Cond.methodLink "ChatRelay" (251 : Nat) ({ cls := "ChatRelay", name := "receiveModes", desc := "(LChatRelay$Line;II)V" } : MethodName) ∈ lwg := wt2 34 rfl (by decide +kernel)
theorem wm_2_36 : Cond.instanceMethod ({ cls := "ChatRelay", name := "receiveModes", desc := "(LChatRelay$Line;II)V" } : MethodName) ∈ lwg := wt2 36 rfl (by decide +kernel)
theorem wm_2_37 : Cond.code ({ cls := "ChatRelay", name := "receiveModes", desc := "(LChatRelay$Line;II)V" } : MethodName) prog_1_method_35_code (5 : Nat) (Option.none : Option FieldType) ∈ lwg := wt2 37 rfl (by decide +kernel)
theorem wm_2_38 : Cond.methodLink "ChatRelay" (146 : Nat) ({ cls := "ChatRelay$Channel", name := "isThere", desc := "()Z" } : MethodName) ∈ lwg := wt2 38 rfl (by decide +kernel)
theorem wm_2_39 : Cond.instanceMethod ({ cls := "ChatRelay$Channel", name := "isThere", desc := "()Z" } : MethodName) ∈ lwg := wt2 39 rfl (by decide +kernel)
theorem wm_2_40 : Cond.selects "ChatRelay$Channel" ({ cls := "ChatRelay$Channel", name := "isThere", desc := "()Z" } : MethodName) ({ cls := "ChatRelay$Channel", name := "isThere", desc := "()Z" } : MethodName) ∈ lwg := wt2 40 rfl (by decide +kernel)
theorem wm_2_41 : Cond.code ({ cls := "ChatRelay$Channel", name := "isThere", desc := "()Z" } : MethodName) prog_2_method_2_code (1 : Nat) (Option.some FieldType.boolean) ∈ lwg := wt2 41 rfl (by decide +kernel)
theorem wm_2_42 : Cond.methodLink "ChatRelay" (254 : Nat) ({ cls := "ChatRelay$Wires", name := "keepSpare", desc := "(LChatRelay$Line;)V" } : MethodName) ∈ lwg := wt2 42 rfl (by decide +kernel)
theorem wm_2_43 : Cond.instanceMethod ({ cls := "ChatRelay$Wires", name := "keepSpare", desc := "(LChatRelay$Line;)V" } : MethodName) ∈ lwg := wt2 43 rfl (by decide +kernel)
theorem wm_2_44 : Cond.selects "ChatRelay$Wires" ({ cls := "ChatRelay$Wires", name := "keepSpare", desc := "(LChatRelay$Line;)V" } : MethodName) ({ cls := "ChatRelay$Wires", name := "keepSpare", desc := "(LChatRelay$Line;)V" } : MethodName) ∈ lwg := wt2 44 rfl (by decide +kernel)
theorem wm_2_45 : Cond.code ({ cls := "ChatRelay$Wires", name := "keepSpare", desc := "(LChatRelay$Line;)V" } : MethodName) prog_6_method_11_code (2 : Nat) (Option.none : Option FieldType) ∈ lwg := wt2 45 rfl (by decide +kernel)
theorem wm_2_46 : Cond.methodLink "ChatRelayLaw" (98 : Nat) ({ cls := "ChatRelay", name := "lines", desc := "()I" } : MethodName) ∈ lwg := wt2 46 rfl (by decide +kernel)
theorem wm_2_47 : Cond.instanceMethod ({ cls := "ChatRelay", name := "lines", desc := "()I" } : MethodName) ∈ lwg := wt2 47 rfl (by decide +kernel)
theorem wm_2_48 : Cond.selects "ChatRelay" ({ cls := "ChatRelay", name := "lines", desc := "()I" } : MethodName) ({ cls := "ChatRelay", name := "lines", desc := "()I" } : MethodName) ∈ lwg := wt2 48 rfl (by decide +kernel)
theorem wm_2_49 : Cond.code ({ cls := "ChatRelay", name := "lines", desc := "()I" } : MethodName) prog_1_method_6_code (1 : Nat) (Option.some FieldType.int) ∈ lwg := wt2 49 rfl (by decide +kernel)
theorem wm_2_50 : Cond.methodLink "ChatRelayLaw" (128 : Nat) ({ cls := "ChatRelay", name := "users", desc := "()I" } : MethodName) ∈ lwg := wt2 50 rfl (by decide +kernel)
theorem wm_2_51 : Cond.instanceMethod ({ cls := "ChatRelay", name := "users", desc := "()I" } : MethodName) ∈ lwg := wt2 51 rfl (by decide +kernel)
theorem wm_2_52 : Cond.selects "ChatRelay" ({ cls := "ChatRelay", name := "users", desc := "()I" } : MethodName) ({ cls := "ChatRelay", name := "users", desc := "()I" } : MethodName) ∈ lwg := wt2 52 rfl (by decide +kernel)
theorem wm_2_53 : Cond.code ({ cls := "ChatRelay", name := "users", desc := "()I" } : MethodName) prog_1_method_14_code (1 : Nat) (Option.some FieldType.int) ∈ lwg := wt2 53 rfl (by decide +kernel)
theorem wm_2_54 : Cond.methodLink "ChatRelayLaw" (132 : Nat) ({ cls := "ChatRelay", name := "clock", desc := "()I" } : MethodName) ∈ lwg := wt2 54 rfl (by decide +kernel)
theorem wm_2_55 : Cond.instanceMethod ({ cls := "ChatRelay", name := "clock", desc := "()I" } : MethodName) ∈ lwg := wt2 55 rfl (by decide +kernel)
theorem wm_2_56 : Cond.selects "ChatRelay" ({ cls := "ChatRelay", name := "clock", desc := "()I" } : MethodName) ({ cls := "ChatRelay", name := "clock", desc := "()I" } : MethodName) ∈ lwg := wt2 56 rfl (by decide +kernel)
theorem wm_2_57 : Cond.code ({ cls := "ChatRelay", name := "clock", desc := "()I" } : MethodName) prog_1_method_15_code (1 : Nat) (Option.some FieldType.int) ∈ lwg := wt2 57 rfl (by decide +kernel)
theorem wm_2_58 : Cond.methodLink "ChatRelayLaw" (78 : Nat) ({ cls := "ChatRelayLaw", name := "link", desc := "(LChatRelay;II[J)I" } : MethodName) ∈ lwg := wt2 58 rfl (by decide +kernel)
theorem wm_2_59 : Cond.static ({ cls := "ChatRelayLaw", name := "link", desc := "(LChatRelay;II[J)I" } : MethodName) ∈ lwg := wt2 59 rfl (by decide +kernel)
theorem wm_2_60 : Cond.codeWith ({ cls := "ChatRelayLaw", name := "link", desc := "(LChatRelay;II[J)I" } : MethodName) method_3_code (5 : Nat) (Option.some FieldType.int) [((0 : Nat), (10 : Nat), (13 : Nat), (13 : Nat)), ((0 : Nat), (10 : Nat), (17 : Nat), (15 : Nat))] ∈ lwg := wt2 60 rfl (by decide +kernel)
theorem wm_2_61 : Cond.classLink "ChatRelayLaw" (13 : Nat) "java/lang/IndexOutOfBoundsException" ∈ lwg := wt2 61 rfl (by decide +kernel)
theorem wm_2_62 : Cond.classLink "ChatRelayLaw" (15 : Nat) "java/lang/IllegalStateException" ∈ lwg := wt2 62 rfl (by decide +kernel)
theorem wm_2_63 : Cond.methodLink "ChatRelayLaw" (7 : Nat) ({ cls := "ChatRelay", name := "link", desc := "(II)I" } : MethodName) ∈ lwg := wt2 63 rfl (by decide +kernel)
theorem wm_2_64 : Cond.instanceMethod ({ cls := "ChatRelay", name := "link", desc := "(II)I" } : MethodName) ∈ lwg := wt2 64 rfl (by decide +kernel)
theorem wm_2_65 : Cond.selects "ChatRelay" ({ cls := "ChatRelay", name := "link", desc := "(II)I" } : MethodName) ({ cls := "ChatRelay", name := "link", desc := "(II)I" } : MethodName) ∈ lwg := wt2 65 rfl (by decide +kernel)
theorem wm_2_66 : Cond.code ({ cls := "ChatRelay", name := "link", desc := "(II)I" } : MethodName) prog_1_method_2_code (4 : Nat) (Option.some FieldType.int) ∈ lwg := wt2 66 rfl (by decide +kernel)
theorem wm_2_67 : Cond.methodLink "ChatRelay" (47 : Nat) ({ cls := "ChatRelay", name := "checkServer", desc := "(I)V" } : MethodName) ∈ lwg := wt2 67 rfl (by decide +kernel)
theorem wm_2_68 : Cond.static ({ cls := "ChatRelay", name := "checkServer", desc := "(I)V" } : MethodName) ∈ lwg := wt2 68 rfl (by decide +kernel)
theorem wm_2_69 : Cond.code ({ cls := "ChatRelay", name := "checkServer", desc := "(I)V" } : MethodName) prog_1_method_23_code (1 : Nat) (Option.none : Option FieldType) ∈ lwg := wt2 69 rfl (by decide +kernel)
theorem wm_2_70 : Cond.classLink "ChatRelay" (210 : Nat) "java/lang/IndexOutOfBoundsException" ∈ lwg := wt2 70 rfl (by decide +kernel)
theorem wm_2_71 : Cond.instantiable "java/lang/IndexOutOfBoundsException" (6 : Nat) ∈ lwg := wt2 71 rfl (by decide +kernel)
theorem wm_2_79 : Cond.selects "java/lang/IndexOutOfBoundsException" ({ cls := "java/lang/Throwable", name := "fillInStackTrace", desc := "(I)Ljava/lang/Throwable;" } : MethodName) ({ cls := "java/lang/Throwable", name := "fillInStackTrace", desc := "(I)Ljava/lang/Throwable;" } : MethodName) ∈ lwg := wt2 79 rfl (by decide +kernel)
theorem wm_2_80 : Cond.selects "java/lang/IndexOutOfBoundsException" ({ cls := "java/lang/Throwable", name := "fillInStackTrace", desc := "()Ljava/lang/Throwable;" } : MethodName) ({ cls := "java/lang/Throwable", name := "fillInStackTrace", desc := "()Ljava/lang/Throwable;" } : MethodName) ∈ lwg := wt2 80 rfl (by decide +kernel)
theorem wm_2_81 : Cond.lays "java/lang/IndexOutOfBoundsException" "java/lang/Throwable" "cause" "Ljava/lang/Throwable;" ∈ lwg := wt2 81 rfl (by decide +kernel)
theorem wm_2_82 : Cond.lays "java/lang/Throwable" "java/lang/Throwable" "cause" "Ljava/lang/Throwable;" ∈ lwg := wt2 82 rfl (by decide +kernel)
theorem wm_2_83 : Cond.lays "java/lang/IndexOutOfBoundsException" "java/lang/Throwable" "stackTrace" "[Ljava/lang/StackTraceElement;" ∈ lwg := wt2 83 rfl (by decide +kernel)
theorem wm_2_84 : Cond.lays "java/lang/Throwable" "java/lang/Throwable" "stackTrace" "[Ljava/lang/StackTraceElement;" ∈ lwg := wt2 84 rfl (by decide +kernel)
theorem wm_2_85 : Cond.lays "java/lang/IndexOutOfBoundsException" "java/lang/Throwable" "suppressedExceptions" "Ljava/util/List;" ∈ lwg := wt2 85 rfl (by decide +kernel)
theorem wm_2_86 : Cond.lays "java/lang/Throwable" "java/lang/Throwable" "suppressedExceptions" "Ljava/util/List;" ∈ lwg := wt2 86 rfl (by decide +kernel)
theorem wm_2_87 : Cond.lays "java/lang/IndexOutOfBoundsException" "java/lang/Throwable" "detailMessage" "Ljava/lang/String;" ∈ lwg := wt2 87 rfl (by decide +kernel)
theorem wm_2_88 : Cond.lays "java/lang/Throwable" "java/lang/Throwable" "detailMessage" "Ljava/lang/String;" ∈ lwg := wt2 88 rfl (by decide +kernel)
theorem wm_2_89 : Cond.lays "java/lang/IndexOutOfBoundsException" "java/lang/Throwable" "backtrace" "Ljava/lang/Object;" ∈ lwg := wt2 89 rfl (by decide +kernel)
theorem wm_2_90 : Cond.lays "java/lang/Throwable" "java/lang/Throwable" "backtrace" "Ljava/lang/Object;" ∈ lwg := wt2 90 rfl (by decide +kernel)
theorem wm_2_91 : Cond.fieldLink "java/lang/Throwable" (198 : Nat) "java/lang/Throwable" "backtrace" "Ljava/lang/Object;" ∈ lwg := wt2 91 rfl (by decide +kernel)
theorem wm_2_93 : Cond.instanceMethod ({ cls := "java/lang/Throwable", name := "<init>", desc := "()V" } : MethodName) ∈ lwg := wt2 93 rfl (by decide +kernel)
theorem wm_2_94 : Cond.code ({ cls := "java/lang/Throwable", name := "<init>", desc := "()V" } : MethodName) prog_17_method_1_code (1 : Nat) (Option.none : Option FieldType) ∈ lwg := wt2 94 rfl (by decide +kernel)
theorem wm_2_95 : Cond.methodLink "java/lang/Throwable" (1 : Nat) ({ cls := "java/lang/Object", name := "<init>", desc := "()V" } : MethodName) ∈ lwg := wt2 95 rfl (by decide +kernel)
theorem wm_2_96 : Cond.fieldLink "java/lang/Throwable" (13 : Nat) "java/lang/Throwable" "UNASSIGNED_STACK" "[Ljava/lang/StackTraceElement;" ∈ lwg := wt2 96 rfl (by decide +kernel)
theorem wm_2_98 : Cond.fieldLink "java/lang/Throwable" (20 : Nat) "java/lang/Throwable" "SUPPRESSED_SENTINEL" "Ljava/util/List;" ∈ lwg := wt2 98 rfl (by decide +kernel)
theorem wm_2_100 : Cond.methodLink "java/lang/Throwable" (27 : Nat) ({ cls := "java/lang/Throwable", name := "fillInStackTrace", desc := "()Ljava/lang/Throwable;" } : MethodName) ∈ lwg := wt2 100 rfl (by decide +kernel)
theorem wm_2_101 : Cond.instanceMethod ({ cls := "java/lang/Throwable", name := "fillInStackTrace", desc := "()Ljava/lang/Throwable;" } : MethodName) ∈ lwg := wt2 101 rfl (by decide +kernel)
theorem wm_2_103 : Cond.selects "java/lang/IllegalArgumentException" ({ cls := "java/lang/Throwable", name := "fillInStackTrace", desc := "()Ljava/lang/Throwable;" } : MethodName) ({ cls := "java/lang/Throwable", name := "fillInStackTrace", desc := "()Ljava/lang/Throwable;" } : MethodName) ∈ lwg := wt2 103 rfl (by decide +kernel)
theorem wm_2_104 : Cond.selects "java/lang/IllegalStateException" ({ cls := "java/lang/Throwable", name := "fillInStackTrace", desc := "()Ljava/lang/Throwable;" } : MethodName) ({ cls := "java/lang/Throwable", name := "fillInStackTrace", desc := "()Ljava/lang/Throwable;" } : MethodName) ∈ lwg := wt2 104 rfl (by decide +kernel)
theorem wm_2_106 : Cond.methodLink "java/lang/Throwable" (202 : Nat) ({ cls := "java/lang/Throwable", name := "fillInStackTrace", desc := "(I)Ljava/lang/Throwable;" } : MethodName) ∈ lwg := wt2 106 rfl (by decide +kernel)
theorem wm_2_108 : Cond.instanceMethod ({ cls := "java/lang/Throwable", name := "fillInStackTrace", desc := "(I)Ljava/lang/Throwable;" } : MethodName) ∈ lwg := wt2 108 rfl (by decide +kernel)
theorem wm_2_109 : Cond.instantiable "java/lang/Throwable" (6 : Nat) ∈ lwg := wt2 109 rfl (by decide +kernel)
theorem wm_2_112 : Cond.methodLink "ChatRelay" (214 : Nat) ({ cls := "java/lang/IndexOutOfBoundsException", name := "<init>", desc := "(Ljava/lang/String;)V" } : MethodName) ∈ lwg := wt2 112 rfl (by decide +kernel)
theorem wm_2_113 : Cond.instanceMethod ({ cls := "java/lang/IndexOutOfBoundsException", name := "<init>", desc := "(Ljava/lang/String;)V" } : MethodName) ∈ lwg := wt2 113 rfl (by decide +kernel)
theorem wm_2_114 : Cond.code ({ cls := "java/lang/IndexOutOfBoundsException", name := "<init>", desc := "(Ljava/lang/String;)V" } : MethodName) prog_12_method_2_code (2 : Nat) (Option.none : Option FieldType) ∈ lwg := wt2 114 rfl (by decide +kernel)
theorem wm_2_115 : Cond.methodLink "java/lang/IndexOutOfBoundsException" (7 : Nat) ({ cls := "java/lang/RuntimeException", name := "<init>", desc := "(Ljava/lang/String;)V" } : MethodName) ∈ lwg := wt2 115 rfl (by decide +kernel)
theorem wm_2_116 : Cond.instanceMethod ({ cls := "java/lang/RuntimeException", name := "<init>", desc := "(Ljava/lang/String;)V" } : MethodName) ∈ lwg := wt2 116 rfl (by decide +kernel)
theorem wm_2_117 : Cond.code ({ cls := "java/lang/RuntimeException", name := "<init>", desc := "(Ljava/lang/String;)V" } : MethodName) prog_15_method_2_code (2 : Nat) (Option.none : Option FieldType) ∈ lwg := wt2 117 rfl (by decide +kernel)
theorem wm_2_118 : Cond.methodLink "java/lang/RuntimeException" (7 : Nat) ({ cls := "java/lang/Exception", name := "<init>", desc := "(Ljava/lang/String;)V" } : MethodName) ∈ lwg := wt2 118 rfl (by decide +kernel)
theorem wm_2_119 : Cond.instanceMethod ({ cls := "java/lang/Exception", name := "<init>", desc := "(Ljava/lang/String;)V" } : MethodName) ∈ lwg := wt2 119 rfl (by decide +kernel)
theorem wm_2_120 : Cond.code ({ cls := "java/lang/Exception", name := "<init>", desc := "(Ljava/lang/String;)V" } : MethodName) prog_9_method_2_code (2 : Nat) (Option.none : Option FieldType) ∈ lwg := wt2 120 rfl (by decide +kernel)
theorem wm_2_121 : Cond.methodLink "java/lang/Exception" (7 : Nat) ({ cls := "java/lang/Throwable", name := "<init>", desc := "(Ljava/lang/String;)V" } : MethodName) ∈ lwg := wt2 121 rfl (by decide +kernel)
theorem wm_2_122 : Cond.instanceMethod ({ cls := "java/lang/Throwable", name := "<init>", desc := "(Ljava/lang/String;)V" } : MethodName) ∈ lwg := wt2 122 rfl (by decide +kernel)
theorem wm_2_123 : Cond.code ({ cls := "java/lang/Throwable", name := "<init>", desc := "(Ljava/lang/String;)V" } : MethodName) prog_17_method_2_code (2 : Nat) (Option.none : Option FieldType) ∈ lwg := wt2 123 rfl (by decide +kernel)
theorem wm_2_124 : Cond.fieldLink "java/lang/Throwable" (198 : Nat) "java/lang/Throwable" "backtrace" "Ljava/lang/Object;" ∈ lwg := wt2 124 rfl (by decide +kernel)
theorem wm_2_125 : Cond.fieldLink "java/lang/Throwable" (31 : Nat) "java/lang/Throwable" "detailMessage" "Ljava/lang/String;" ∈ lwg := wt2 125 rfl (by decide +kernel)
theorem wm_2_126 : Cond.fieldLink "java/lang/Throwable" (7 : Nat) "java/lang/Throwable" "cause" "Ljava/lang/Throwable;" ∈ lwg := wt2 126 rfl (by decide +kernel)
theorem wm_2_127 : Cond.fieldLink "java/lang/Throwable" (17 : Nat) "java/lang/Throwable" "stackTrace" "[Ljava/lang/StackTraceElement;" ∈ lwg := wt2 127 rfl (by decide +kernel)
theorem wm_2_128 : Cond.fieldLink "java/lang/Throwable" (24 : Nat) "java/lang/Throwable" "suppressedExceptions" "Ljava/util/List;" ∈ lwg := wt2 128 rfl (by decide +kernel)
theorem wm_2_133 : Cond.lays "java/lang/IndexOutOfBoundsException" "java/lang/Throwable" "depth" "I" ∈ lwg := wt2 133 rfl (by decide +kernel)
theorem wm_2_137 : Cond.arrayClass FieldType.byte ∈ lwg := wt2 137 rfl (by decide +kernel)
theorem wm_2_138 : Cond.classLink "ChatRelay" (59 : Nat) "java/lang/IllegalStateException" ∈ lwg := wt2 138 rfl (by decide +kernel)
theorem wm_2_139 : Cond.instantiable "java/lang/IllegalStateException" (6 : Nat) ∈ lwg := wt2 139 rfl (by decide +kernel)
theorem wm_2_141 : Cond.selects "java/lang/IllegalStateException" ({ cls := "java/lang/Throwable", name := "fillInStackTrace", desc := "(I)Ljava/lang/Throwable;" } : MethodName) ({ cls := "java/lang/Throwable", name := "fillInStackTrace", desc := "(I)Ljava/lang/Throwable;" } : MethodName) ∈ lwg := wt2 141 rfl (by decide +kernel)
theorem wm_2_142 : Cond.lays "java/lang/IllegalStateException" "java/lang/Throwable" "cause" "Ljava/lang/Throwable;" ∈ lwg := wt2 142 rfl (by decide +kernel)
theorem wm_2_143 : Cond.lays "java/lang/IllegalStateException" "java/lang/Throwable" "stackTrace" "[Ljava/lang/StackTraceElement;" ∈ lwg := wt2 143 rfl (by decide +kernel)
theorem wm_2_144 : Cond.lays "java/lang/IllegalStateException" "java/lang/Throwable" "suppressedExceptions" "Ljava/util/List;" ∈ lwg := wt2 144 rfl (by decide +kernel)
theorem wm_2_145 : Cond.lays "java/lang/IllegalStateException" "java/lang/Throwable" "detailMessage" "Ljava/lang/String;" ∈ lwg := wt2 145 rfl (by decide +kernel)
theorem wm_2_146 : Cond.lays "java/lang/IllegalStateException" "java/lang/Throwable" "backtrace" "Ljava/lang/Object;" ∈ lwg := wt2 146 rfl (by decide +kernel)
theorem wm_2_148 : Cond.methodLink "ChatRelay" (63 : Nat) ({ cls := "java/lang/IllegalStateException", name := "<init>", desc := "(Ljava/lang/String;)V" } : MethodName) ∈ lwg := wt2 148 rfl (by decide +kernel)
theorem wm_2_149 : Cond.instanceMethod ({ cls := "java/lang/IllegalStateException", name := "<init>", desc := "(Ljava/lang/String;)V" } : MethodName) ∈ lwg := wt2 149 rfl (by decide +kernel)
theorem wm_2_150 : Cond.code ({ cls := "java/lang/IllegalStateException", name := "<init>", desc := "(Ljava/lang/String;)V" } : MethodName) prog_11_method_2_code (2 : Nat) (Option.none : Option FieldType) ∈ lwg := wt2 150 rfl (by decide +kernel)
theorem wm_2_151 : Cond.methodLink "java/lang/IllegalStateException" (7 : Nat) ({ cls := "java/lang/RuntimeException", name := "<init>", desc := "(Ljava/lang/String;)V" } : MethodName) ∈ lwg := wt2 151 rfl (by decide +kernel)
theorem wm_2_152 : Cond.lays "java/lang/IllegalStateException" "java/lang/Throwable" "depth" "I" ∈ lwg := wt2 152 rfl (by decide +kernel)
theorem wm_2_154 : Cond.methodLink "ChatRelay" (69 : Nat) ({ cls := "ChatRelay$Wires", name := "connect", desc := "(II)V" } : MethodName) ∈ lwg := wt2 154 rfl (by decide +kernel)
theorem wm_2_155 : Cond.instanceMethod ({ cls := "ChatRelay$Wires", name := "connect", desc := "(II)V" } : MethodName) ∈ lwg := wt2 155 rfl (by decide +kernel)
theorem wm_2_156 : Cond.selects "ChatRelay$Wires" ({ cls := "ChatRelay$Wires", name := "connect", desc := "(II)V" } : MethodName) ({ cls := "ChatRelay$Wires", name := "connect", desc := "(II)V" } : MethodName) ∈ lwg := wt2 156 rfl (by decide +kernel)
theorem wm_2_157 : Cond.code ({ cls := "ChatRelay$Wires", name := "connect", desc := "(II)V" } : MethodName) prog_6_method_5_code (3 : Nat) (Option.none : Option FieldType) ∈ lwg := wt2 157 rfl (by decide +kernel)
theorem wm_2_158 : Cond.methodLink "ChatRelay" (73 : Nat) ({ cls := "ChatRelay", name := "burst", desc := "(II)V" } : MethodName) ∈ lwg := wt2 158 rfl (by decide +kernel)
theorem wm_2_160 : Cond.instanceMethod ({ cls := "ChatRelay", name := "burst", desc := "(II)V" } : MethodName) ∈ lwg := wt2 160 rfl (by decide +kernel)
theorem wm_2_161 : Cond.code ({ cls := "ChatRelay", name := "burst", desc := "(II)V" } : MethodName) prog_1_method_28_code (6 : Nat) (Option.none : Option FieldType) ∈ lwg := wt2 161 rfl (by decide +kernel)
theorem wm_2_162 : Cond.methodLink "ChatRelay" (158 : Nat) ({ cls := "ChatRelay$Line", name := "ofChannel", desc := "(IILChatRelay$Channel;I)LChatRelay$Line;" } : MethodName) ∈ lwg := wt2 162 rfl (by decide +kernel)
theorem wm_2_163 : Cond.instanceMethod ({ cls := "ChatRelay$Line", name := "ofChannel", desc := "(IILChatRelay$Channel;I)LChatRelay$Line;" } : MethodName) ∈ lwg := wt2 163 rfl (by decide +kernel)
theorem wm_2_164 : Cond.selects "ChatRelay$Line" ({ cls := "ChatRelay$Line", name := "ofChannel", desc := "(IILChatRelay$Channel;I)LChatRelay$Line;" } : MethodName) ({ cls := "ChatRelay$Line", name := "ofChannel", desc := "(IILChatRelay$Channel;I)LChatRelay$Line;" } : MethodName) ∈ lwg := wt2 164 rfl (by decide +kernel)
theorem wm_2_165 : Cond.code ({ cls := "ChatRelay$Line", name := "ofChannel", desc := "(IILChatRelay$Channel;I)LChatRelay$Line;" } : MethodName) prog_3_method_4_code (5 : Nat) (Option.some (FieldType.object "ChatRelay$Line")) ∈ lwg := wt2 165 rfl (by decide +kernel)
theorem wm_2_166 : Cond.methodLink "ChatRelayLaw" (88 : Nat) ({ cls := "ChatRelayLaw", name := "split", desc := "(LChatRelay;II[J)I" } : MethodName) ∈ lwg := wt2 166 rfl (by decide +kernel)
theorem wm_2_167 : Cond.static ({ cls := "ChatRelayLaw", name := "split", desc := "(LChatRelay;II[J)I" } : MethodName) ∈ lwg := wt2 167 rfl (by decide +kernel)
theorem wm_2_168 : Cond.codeWith ({ cls := "ChatRelayLaw", name := "split", desc := "(LChatRelay;II[J)I" } : MethodName) method_4_code (5 : Nat) (Option.some FieldType.int) [((0 : Nat), (10 : Nat), (13 : Nat), (13 : Nat)), ((0 : Nat), (10 : Nat), (17 : Nat), (15 : Nat))] ∈ lwg := wt2 168 rfl (by decide +kernel)
theorem wm_2_169 : Cond.methodLink "ChatRelayLaw" (17 : Nat) ({ cls := "ChatRelay", name := "split", desc := "(II)I" } : MethodName) ∈ lwg := wt2 169 rfl (by decide +kernel)
theorem wm_2_170 : Cond.instanceMethod ({ cls := "ChatRelay", name := "split", desc := "(II)I" } : MethodName) ∈ lwg := wt2 170 rfl (by decide +kernel)
theorem wm_2_171 : Cond.selects "ChatRelay" ({ cls := "ChatRelay", name := "split", desc := "(II)I" } : MethodName) ({ cls := "ChatRelay", name := "split", desc := "(II)I" } : MethodName) ∈ lwg := wt2 171 rfl (by decide +kernel)
theorem wm_2_172 : Cond.code ({ cls := "ChatRelay", name := "split", desc := "(II)I" } : MethodName) prog_1_method_3_code (5 : Nat) (Option.some FieldType.int) ∈ lwg := wt2 172 rfl (by decide +kernel)
theorem wm_2_173 : Cond.methodLink "ChatRelay" (76 : Nat) ({ cls := "ChatRelay$Wires", name := "haveLink", desc := "(II)Z" } : MethodName) ∈ lwg := wt2 173 rfl (by decide +kernel)
theorem wm_2_175 : Cond.methodLink "ChatRelay" (81 : Nat) ({ cls := "ChatRelay$Wires", name := "cut", desc := "(II)V" } : MethodName) ∈ lwg := wt2 175 rfl (by decide +kernel)
theorem wm_2_176 : Cond.instanceMethod ({ cls := "ChatRelay$Wires", name := "cut", desc := "(II)V" } : MethodName) ∈ lwg := wt2 176 rfl (by decide +kernel)
theorem wm_2_177 : Cond.selects "ChatRelay$Wires" ({ cls := "ChatRelay$Wires", name := "cut", desc := "(II)V" } : MethodName) ({ cls := "ChatRelay$Wires", name := "cut", desc := "(II)V" } : MethodName) ∈ lwg := wt2 177 rfl (by decide +kernel)
theorem wm_2_178 : Cond.code ({ cls := "ChatRelay$Wires", name := "cut", desc := "(II)V" } : MethodName) prog_6_method_6_code (3 : Nat) (Option.none : Option FieldType) ∈ lwg := wt2 178 rfl (by decide +kernel)
theorem wm_2_179 : Cond.methodLink "ChatRelay$Wires" (46 : Nat) ({ cls := "ChatRelay$Wires", name := "loseLines", desc := "(II)V" } : MethodName) ∈ lwg := wt2 179 rfl (by decide +kernel)
theorem wm_2_180 : Cond.instanceMethod ({ cls := "ChatRelay$Wires", name := "loseLines", desc := "(II)V" } : MethodName) ∈ lwg := wt2 180 rfl (by decide +kernel)
theorem wm_2_181 : Cond.selects "ChatRelay$Wires" ({ cls := "ChatRelay$Wires", name := "loseLines", desc := "(II)V" } : MethodName) ({ cls := "ChatRelay$Wires", name := "loseLines", desc := "(II)V" } : MethodName) ∈ lwg := wt2 181 rfl (by decide +kernel)
theorem wm_2_182 : Cond.code ({ cls := "ChatRelay$Wires", name := "loseLines", desc := "(II)V" } : MethodName) prog_6_method_7_code (5 : Nat) (Option.none : Option FieldType) ∈ lwg := wt2 182 rfl (by decide +kernel)
theorem wm_2_183 : Cond.methodLink "ChatRelay$Wires" (50 : Nat) ({ cls := "ChatRelay$Wires", name := "take", desc := "(II)LChatRelay$Line;" } : MethodName) ∈ lwg := wt2 183 rfl (by decide +kernel)
theorem wm_2_184 : Cond.methodLink "ChatRelay$Wires" (55 : Nat) ({ cls := "ChatRelay$Wires", name := "keepSpare", desc := "(LChatRelay$Line;)V" } : MethodName) ∈ lwg := wt2 184 rfl (by decide +kernel)
theorem wm_2_185 : Cond.methodLink "ChatRelay" (84 : Nat) ({ cls := "ChatRelay", name := "forgetUnreached", desc := "(I)V" } : MethodName) ∈ lwg := wt2 185 rfl (by decide +kernel)
theorem wm_2_187 : Cond.instanceMethod ({ cls := "ChatRelay", name := "forgetUnreached", desc := "(I)V" } : MethodName) ∈ lwg := wt2 187 rfl (by decide +kernel)
theorem wm_2_188 : Cond.code ({ cls := "ChatRelay", name := "forgetUnreached", desc := "(I)V" } : MethodName) prog_1_method_29_code (5 : Nat) (Option.none : Option FieldType) ∈ lwg := wt2 188 rfl (by decide +kernel)
theorem wm_2_189 : Cond.methodLink "ChatRelayLaw" (91 : Nat) ({ cls := "ChatRelayLaw", name := "deliver", desc := "(LChatRelay;II[J)I" } : MethodName) ∈ lwg := wt2 189 rfl (by decide +kernel)
theorem wm_2_190 : Cond.static ({ cls := "ChatRelayLaw", name := "deliver", desc := "(LChatRelay;II[J)I" } : MethodName) ∈ lwg := wt2 190 rfl (by decide +kernel)
theorem wm_2_191 : Cond.codeWith ({ cls := "ChatRelayLaw", name := "deliver", desc := "(LChatRelay;II[J)I" } : MethodName) method_5_code (5 : Nat) (Option.some FieldType.int) [((0 : Nat), (10 : Nat), (13 : Nat), (13 : Nat)), ((0 : Nat), (10 : Nat), (17 : Nat), (15 : Nat))] ∈ lwg := wt2 191 rfl (by decide +kernel)
theorem wm_2_192 : Cond.methodLink "ChatRelayLaw" (20 : Nat) ({ cls := "ChatRelay", name := "deliver", desc := "(II)I" } : MethodName) ∈ lwg := wt2 192 rfl (by decide +kernel)
theorem wm_2_193 : Cond.instanceMethod ({ cls := "ChatRelay", name := "deliver", desc := "(II)I" } : MethodName) ∈ lwg := wt2 193 rfl (by decide +kernel)
theorem wm_2_194 : Cond.selects "ChatRelay" ({ cls := "ChatRelay", name := "deliver", desc := "(II)I" } : MethodName) ({ cls := "ChatRelay", name := "deliver", desc := "(II)I" } : MethodName) ∈ lwg := wt2 194 rfl (by decide +kernel)
theorem wm_2_195 : Cond.code ({ cls := "ChatRelay", name := "deliver", desc := "(II)I" } : MethodName) prog_1_method_4_code (3 : Nat) (Option.some FieldType.int) ∈ lwg := wt2 195 rfl (by decide +kernel)
theorem wm_2_197 : Cond.methodLink "ChatRelayLaw" (102 : Nat) ({ cls := "ChatRelayLaw", name := "tree", desc := "(LChatRelay;I[J)I" } : MethodName) ∈ lwg := wt2 197 rfl (by decide +kernel)
theorem wm_2_198 : Cond.static ({ cls := "ChatRelayLaw", name := "tree", desc := "(LChatRelay;I[J)I" } : MethodName) ∈ lwg := wt2 198 rfl (by decide +kernel)
theorem wm_2_199 : Cond.codeWith ({ cls := "ChatRelayLaw", name := "tree", desc := "(LChatRelay;I[J)I" } : MethodName) method_6_code (4 : Nat) (Option.some FieldType.int) [((0 : Nat), (9 : Nat), (12 : Nat), (13 : Nat))] ∈ lwg := wt2 199 rfl (by decide +kernel)
theorem wm_2_200 : Cond.methodLink "ChatRelayLaw" (23 : Nat) ({ cls := "ChatRelay", name := "tree", desc := "(I)I" } : MethodName) ∈ lwg := wt2 200 rfl (by decide +kernel)
theorem wm_2_201 : Cond.instanceMethod ({ cls := "ChatRelay", name := "tree", desc := "(I)I" } : MethodName) ∈ lwg := wt2 201 rfl (by decide +kernel)
theorem wm_2_202 : Cond.selects "ChatRelay" ({ cls := "ChatRelay", name := "tree", desc := "(I)I" } : MethodName) ({ cls := "ChatRelay", name := "tree", desc := "(I)I" } : MethodName) ∈ lwg := wt2 202 rfl (by decide +kernel)
theorem wm_2_203 : Cond.code ({ cls := "ChatRelay", name := "tree", desc := "(I)I" } : MethodName) prog_1_method_7_code (2 : Nat) (Option.some FieldType.int) ∈ lwg := wt2 203 rfl (by decide +kernel)
theorem wm_2_204 : Cond.methodLink "ChatRelayLaw" (106 : Nat) ({ cls := "ChatRelayLaw", name := "signOn", desc := "(LChatRelay;IC[J)I" } : MethodName) ∈ lwg := wt2 204 rfl (by decide +kernel)
theorem wm_2_205 : Cond.static ({ cls := "ChatRelayLaw", name := "signOn", desc := "(LChatRelay;IC[J)I" } : MethodName) ∈ lwg := wt2 205 rfl (by decide +kernel)
theorem wm_2_206 : Cond.codeWith ({ cls := "ChatRelayLaw", name := "signOn", desc := "(LChatRelay;IC[J)I" } : MethodName) method_7_code (5 : Nat) (Option.some FieldType.int) [((0 : Nat), (10 : Nat), (13 : Nat), (13 : Nat)), ((0 : Nat), (10 : Nat), (17 : Nat), (31 : Nat)), ((0 : Nat), (10 : Nat), (21 : Nat), (15 : Nat))] ∈ lwg := wt2 206 rfl (by decide +kernel)
theorem wm_2_207 : Cond.classLink "ChatRelayLaw" (31 : Nat) "java/lang/IllegalArgumentException" ∈ lwg := wt2 207 rfl (by decide +kernel)
theorem wm_2_208 : Cond.methodLink "ChatRelayLaw" (27 : Nat) ({ cls := "ChatRelay", name := "signOn", desc := "(IC)I" } : MethodName) ∈ lwg := wt2 208 rfl (by decide +kernel)
theorem wm_2_209 : Cond.instanceMethod ({ cls := "ChatRelay", name := "signOn", desc := "(IC)I" } : MethodName) ∈ lwg := wt2 209 rfl (by decide +kernel)
theorem wm_2_210 : Cond.selects "ChatRelay" ({ cls := "ChatRelay", name := "signOn", desc := "(IC)I" } : MethodName) ({ cls := "ChatRelay", name := "signOn", desc := "(IC)I" } : MethodName) ∈ lwg := wt2 210 rfl (by decide +kernel)
theorem wm_2_211 : Cond.code ({ cls := "ChatRelay", name := "signOn", desc := "(IC)I" } : MethodName) prog_1_method_8_code (6 : Nat) (Option.some FieldType.int) ∈ lwg := wt2 211 rfl (by decide +kernel)
theorem wm_2_212 : Cond.methodLink "ChatRelay" (97 : Nat) ({ cls := "ChatRelay", name := "letterIn", desc := "(C)I" } : MethodName) ∈ lwg := wt2 212 rfl (by decide +kernel)
theorem wm_2_213 : Cond.static ({ cls := "ChatRelay", name := "letterIn", desc := "(C)I" } : MethodName) ∈ lwg := wt2 213 rfl (by decide +kernel)
theorem wm_2_214 : Cond.code ({ cls := "ChatRelay", name := "letterIn", desc := "(C)I" } : MethodName) prog_1_method_41_code (1 : Nat) (Option.some FieldType.int) ∈ lwg := wt2 214 rfl (by decide +kernel)
theorem wm_2_215 : Cond.classLink "ChatRelay" (101 : Nat) "java/lang/IllegalArgumentException" ∈ lwg := wt2 215 rfl (by decide +kernel)
theorem wm_2_216 : Cond.instantiable "java/lang/IllegalArgumentException" (6 : Nat) ∈ lwg := wt2 216 rfl (by decide +kernel)
theorem wm_2_218 : Cond.selects "java/lang/IllegalArgumentException" ({ cls := "java/lang/Throwable", name := "fillInStackTrace", desc := "(I)Ljava/lang/Throwable;" } : MethodName) ({ cls := "java/lang/Throwable", name := "fillInStackTrace", desc := "(I)Ljava/lang/Throwable;" } : MethodName) ∈ lwg := wt2 218 rfl (by decide +kernel)
theorem wm_2_219 : Cond.lays "java/lang/IllegalArgumentException" "java/lang/Throwable" "cause" "Ljava/lang/Throwable;" ∈ lwg := wt2 219 rfl (by decide +kernel)
theorem wm_2_220 : Cond.lays "java/lang/IllegalArgumentException" "java/lang/Throwable" "stackTrace" "[Ljava/lang/StackTraceElement;" ∈ lwg := wt2 220 rfl (by decide +kernel)
theorem wm_2_221 : Cond.lays "java/lang/IllegalArgumentException" "java/lang/Throwable" "suppressedExceptions" "Ljava/util/List;" ∈ lwg := wt2 221 rfl (by decide +kernel)
theorem wm_2_222 : Cond.lays "java/lang/IllegalArgumentException" "java/lang/Throwable" "detailMessage" "Ljava/lang/String;" ∈ lwg := wt2 222 rfl (by decide +kernel)
theorem wm_2_223 : Cond.lays "java/lang/IllegalArgumentException" "java/lang/Throwable" "backtrace" "Ljava/lang/Object;" ∈ lwg := wt2 223 rfl (by decide +kernel)
theorem wm_2_225 : Cond.methodLink "ChatRelay" (105 : Nat) ({ cls := "java/lang/IllegalArgumentException", name := "<init>", desc := "(Ljava/lang/String;)V" } : MethodName) ∈ lwg := wt2 225 rfl (by decide +kernel)
theorem wm_2_226 : Cond.instanceMethod ({ cls := "java/lang/IllegalArgumentException", name := "<init>", desc := "(Ljava/lang/String;)V" } : MethodName) ∈ lwg := wt2 226 rfl (by decide +kernel)
theorem wm_2_227 : Cond.code ({ cls := "java/lang/IllegalArgumentException", name := "<init>", desc := "(Ljava/lang/String;)V" } : MethodName) prog_10_method_2_code (2 : Nat) (Option.none : Option FieldType) ∈ lwg := wt2 227 rfl (by decide +kernel)
theorem wm_2_228 : Cond.methodLink "java/lang/IllegalArgumentException" (7 : Nat) ({ cls := "java/lang/RuntimeException", name := "<init>", desc := "(Ljava/lang/String;)V" } : MethodName) ∈ lwg := wt2 228 rfl (by decide +kernel)
theorem wm_2_229 : Cond.lays "java/lang/IllegalArgumentException" "java/lang/Throwable" "depth" "I" ∈ lwg := wt2 229 rfl (by decide +kernel)
theorem wm_2_232 : Cond.methodLink "ChatRelayLaw" (110 : Nat) ({ cls := "ChatRelayLaw", name := "quit", desc := "(LChatRelay;I)I" } : MethodName) ∈ lwg := wt2 232 rfl (by decide +kernel)
theorem wm_2_233 : Cond.static ({ cls := "ChatRelayLaw", name := "quit", desc := "(LChatRelay;I)I" } : MethodName) ∈ lwg := wt2 233 rfl (by decide +kernel)
theorem wm_2_234 : Cond.codeWith ({ cls := "ChatRelayLaw", name := "quit", desc := "(LChatRelay;I)I" } : MethodName) method_8_code (3 : Nat) (Option.some FieldType.int) [((0 : Nat), (5 : Nat), (8 : Nat), (13 : Nat)), ((0 : Nat), (5 : Nat), (11 : Nat), (15 : Nat))] ∈ lwg := wt2 234 rfl (by decide +kernel)
theorem wm_2_235 : Cond.methodLink "ChatRelayLaw" (33 : Nat) ({ cls := "ChatRelay", name := "quit", desc := "(I)V" } : MethodName) ∈ lwg := wt2 235 rfl (by decide +kernel)
theorem wm_2_236 : Cond.instanceMethod ({ cls := "ChatRelay", name := "quit", desc := "(I)V" } : MethodName) ∈ lwg := wt2 236 rfl (by decide +kernel)
theorem wm_2_237 : Cond.selects "ChatRelay" ({ cls := "ChatRelay", name := "quit", desc := "(I)V" } : MethodName) ({ cls := "ChatRelay", name := "quit", desc := "(I)V" } : MethodName) ∈ lwg := wt2 237 rfl (by decide +kernel)
theorem wm_2_238 : Cond.code ({ cls := "ChatRelay", name := "quit", desc := "(I)V" } : MethodName) prog_1_method_9_code (3 : Nat) (Option.none : Option FieldType) ∈ lwg := wt2 238 rfl (by decide +kernel)
theorem wm_2_239 : Cond.methodLink "ChatRelay" (123 : Nat) ({ cls := "ChatRelay", name := "checkUser", desc := "(I)V" } : MethodName) ∈ lwg := wt2 239 rfl (by decide +kernel)
theorem wm_3_1 : Cond.instanceMethod ({ cls := "ChatRelay", name := "checkUser", desc := "(I)V" } : MethodName) ∈ lwg := wt3 1 rfl (by decide +kernel)
theorem wm_3_2 : Cond.code ({ cls := "ChatRelay", name := "checkUser", desc := "(I)V" } : MethodName) prog_1_method_25_code (2 : Nat) (Option.none : Option FieldType) ∈ lwg := wt3 2 rfl (by decide +kernel)
theorem wm_3_4 : Cond.methodLink "ChatRelay" (126 : Nat) ({ cls := "ChatRelay", name := "checkNotGone", desc := "(I)V" } : MethodName) ∈ lwg := wt3 4 rfl (by decide +kernel)
theorem wm_3_6 : Cond.instanceMethod ({ cls := "ChatRelay", name := "checkNotGone", desc := "(I)V" } : MethodName) ∈ lwg := wt3 6 rfl (by decide +kernel)
theorem wm_3_7 : Cond.code ({ cls := "ChatRelay", name := "checkNotGone", desc := "(I)V" } : MethodName) prog_1_method_26_code (2 : Nat) (Option.none : Option FieldType) ∈ lwg := wt3 7 rfl (by decide +kernel)
theorem wm_3_8 : Cond.methodLink "ChatRelay" (182 : Nat) ({ cls := "ChatRelay", name := "isGone", desc := "(I)Z" } : MethodName) ∈ lwg := wt3 8 rfl (by decide +kernel)
theorem wm_3_10 : Cond.instanceMethod ({ cls := "ChatRelay", name := "isGone", desc := "(I)Z" } : MethodName) ∈ lwg := wt3 10 rfl (by decide +kernel)
theorem wm_3_11 : Cond.code ({ cls := "ChatRelay", name := "isGone", desc := "(I)Z" } : MethodName) prog_1_method_36_code (2 : Nat) (Option.some FieldType.boolean) ∈ lwg := wt3 11 rfl (by decide +kernel)
theorem wm_3_13 : Cond.methodLink "ChatRelayLaw" (114 : Nat) ({ cls := "ChatRelayLaw", name := "join", desc := "(LChatRelay;II[J)I" } : MethodName) ∈ lwg := wt3 13 rfl (by decide +kernel)
theorem wm_3_14 : Cond.static ({ cls := "ChatRelayLaw", name := "join", desc := "(LChatRelay;II[J)I" } : MethodName) ∈ lwg := wt3 14 rfl (by decide +kernel)
theorem wm_3_15 : Cond.codeWith ({ cls := "ChatRelayLaw", name := "join", desc := "(LChatRelay;II[J)I" } : MethodName) method_9_code (5 : Nat) (Option.some FieldType.int) [((0 : Nat), (10 : Nat), (13 : Nat), (13 : Nat)), ((0 : Nat), (10 : Nat), (17 : Nat), (15 : Nat))] ∈ lwg := wt3 15 rfl (by decide +kernel)
theorem wm_3_16 : Cond.methodLink "ChatRelayLaw" (37 : Nat) ({ cls := "ChatRelay", name := "join", desc := "(II)I" } : MethodName) ∈ lwg := wt3 16 rfl (by decide +kernel)
theorem wm_3_17 : Cond.instanceMethod ({ cls := "ChatRelay", name := "join", desc := "(II)I" } : MethodName) ∈ lwg := wt3 17 rfl (by decide +kernel)
theorem wm_3_18 : Cond.selects "ChatRelay" ({ cls := "ChatRelay", name := "join", desc := "(II)I" } : MethodName) ({ cls := "ChatRelay", name := "join", desc := "(II)I" } : MethodName) ∈ lwg := wt3 18 rfl (by decide +kernel)
theorem wm_3_19 : Cond.code ({ cls := "ChatRelay", name := "join", desc := "(II)I" } : MethodName) prog_1_method_10_code (5 : Nat) (Option.some FieldType.int) ∈ lwg := wt3 19 rfl (by decide +kernel)
theorem wm_3_20 : Cond.methodLink "ChatRelay" (132 : Nat) ({ cls := "ChatRelay", name := "checkChannel", desc := "(I)V" } : MethodName) ∈ lwg := wt3 20 rfl (by decide +kernel)
theorem wm_3_21 : Cond.static ({ cls := "ChatRelay", name := "checkChannel", desc := "(I)V" } : MethodName) ∈ lwg := wt3 21 rfl (by decide +kernel)
theorem wm_3_22 : Cond.code ({ cls := "ChatRelay", name := "checkChannel", desc := "(I)V" } : MethodName) prog_1_method_24_code (1 : Nat) (Option.none : Option FieldType) ∈ lwg := wt3 22 rfl (by decide +kernel)
theorem wm_3_26 : Cond.methodLink "ChatRelay" (155 : Nat) ({ cls := "ChatRelay$Channel", name := "enter", desc := "(II)V" } : MethodName) ∈ lwg := wt3 26 rfl (by decide +kernel)
theorem wm_3_27 : Cond.instanceMethod ({ cls := "ChatRelay$Channel", name := "enter", desc := "(II)V" } : MethodName) ∈ lwg := wt3 27 rfl (by decide +kernel)
theorem wm_3_28 : Cond.selects "ChatRelay$Channel" ({ cls := "ChatRelay$Channel", name := "enter", desc := "(II)V" } : MethodName) ({ cls := "ChatRelay$Channel", name := "enter", desc := "(II)V" } : MethodName) ∈ lwg := wt3 28 rfl (by decide +kernel)
theorem wm_3_29 : Cond.code ({ cls := "ChatRelay$Channel", name := "enter", desc := "(II)V" } : MethodName) prog_2_method_3_code (3 : Nat) (Option.none : Option FieldType) ∈ lwg := wt3 29 rfl (by decide +kernel)
theorem wm_3_30 : Cond.methodLink "ChatRelay" (162 : Nat) ({ cls := "java/lang/Integer", name := "bitCount", desc := "(I)I" } : MethodName) ∈ lwg := wt3 30 rfl (by decide +kernel)
theorem wm_3_31 : Cond.static ({ cls := "java/lang/Integer", name := "bitCount", desc := "(I)I" } : MethodName) ∈ lwg := wt3 31 rfl (by decide +kernel)
theorem wm_3_32 : Cond.code ({ cls := "java/lang/Integer", name := "bitCount", desc := "(I)I" } : MethodName) prog_13_method_49_code (1 : Nat) (Option.some FieldType.int) ∈ lwg := wt3 32 rfl (by decide +kernel)
theorem wm_3_33 : Cond.constant "java/lang/Integer" (265 : Nat) (1431655765 : Int32) ∈ lwg := wt3 33 rfl (by decide +kernel)
theorem wm_3_34 : Cond.constant "java/lang/Integer" (266 : Nat) (858993459 : Int32) ∈ lwg := wt3 34 rfl (by decide +kernel)
theorem wm_3_35 : Cond.constant "java/lang/Integer" (267 : Nat) (252645135 : Int32) ∈ lwg := wt3 35 rfl (by decide +kernel)
theorem wm_3_36 : Cond.methodLink "ChatRelayLaw" (117 : Nat) ({ cls := "ChatRelayLaw", name := "leave", desc := "(LChatRelay;II)I" } : MethodName) ∈ lwg := wt3 36 rfl (by decide +kernel)
theorem wm_3_37 : Cond.static ({ cls := "ChatRelayLaw", name := "leave", desc := "(LChatRelay;II)I" } : MethodName) ∈ lwg := wt3 37 rfl (by decide +kernel)
theorem wm_3_38 : Cond.codeWith ({ cls := "ChatRelayLaw", name := "leave", desc := "(LChatRelay;II)I" } : MethodName) method_10_code (4 : Nat) (Option.some FieldType.int) [((0 : Nat), (6 : Nat), (9 : Nat), (13 : Nat)), ((0 : Nat), (6 : Nat), (12 : Nat), (15 : Nat))] ∈ lwg := wt3 38 rfl (by decide +kernel)
theorem wm_3_39 : Cond.methodLink "ChatRelayLaw" (40 : Nat) ({ cls := "ChatRelay", name := "leave", desc := "(II)V" } : MethodName) ∈ lwg := wt3 39 rfl (by decide +kernel)
theorem wm_3_40 : Cond.instanceMethod ({ cls := "ChatRelay", name := "leave", desc := "(II)V" } : MethodName) ∈ lwg := wt3 40 rfl (by decide +kernel)
theorem wm_3_41 : Cond.selects "ChatRelay" ({ cls := "ChatRelay", name := "leave", desc := "(II)V" } : MethodName) ({ cls := "ChatRelay", name := "leave", desc := "(II)V" } : MethodName) ∈ lwg := wt3 41 rfl (by decide +kernel)
theorem wm_3_42 : Cond.code ({ cls := "ChatRelay", name := "leave", desc := "(II)V" } : MethodName) prog_1_method_11_code (4 : Nat) (Option.none : Option FieldType) ∈ lwg := wt3 42 rfl (by decide +kernel)
theorem wm_3_43 : Cond.methodLink "ChatRelay" (167 : Nat) ({ cls := "ChatRelay", name := "checkMember", desc := "(II)V" } : MethodName) ∈ lwg := wt3 43 rfl (by decide +kernel)
theorem wm_3_45 : Cond.instanceMethod ({ cls := "ChatRelay", name := "checkMember", desc := "(II)V" } : MethodName) ∈ lwg := wt3 45 rfl (by decide +kernel)
theorem wm_3_46 : Cond.code ({ cls := "ChatRelay", name := "checkMember", desc := "(II)V" } : MethodName) prog_1_method_27_code (3 : Nat) (Option.none : Option FieldType) ∈ lwg := wt3 46 rfl (by decide +kernel)
theorem wm_3_48 : Cond.methodLink "ChatRelay" (173 : Nat) ({ cls := "ChatRelay$Line", name := "ofLeave", desc := "(II)LChatRelay$Line;" } : MethodName) ∈ lwg := wt3 48 rfl (by decide +kernel)
theorem wm_3_49 : Cond.instanceMethod ({ cls := "ChatRelay$Line", name := "ofLeave", desc := "(II)LChatRelay$Line;" } : MethodName) ∈ lwg := wt3 49 rfl (by decide +kernel)
theorem wm_3_50 : Cond.selects "ChatRelay$Line" ({ cls := "ChatRelay$Line", name := "ofLeave", desc := "(II)LChatRelay$Line;" } : MethodName) ({ cls := "ChatRelay$Line", name := "ofLeave", desc := "(II)LChatRelay$Line;" } : MethodName) ∈ lwg := wt3 50 rfl (by decide +kernel)
theorem wm_3_51 : Cond.code ({ cls := "ChatRelay$Line", name := "ofLeave", desc := "(II)LChatRelay$Line;" } : MethodName) prog_3_method_3_code (3 : Nat) (Option.some (FieldType.object "ChatRelay$Line")) ∈ lwg := wt3 51 rfl (by decide +kernel)
theorem wm_3_52 : Cond.methodLink "ChatRelayLaw" (121 : Nat) ({ cls := "ChatRelayLaw", name := "setModes", desc := "(LChatRelay;IIII[J)I" } : MethodName) ∈ lwg := wt3 52 rfl (by decide +kernel)
theorem wm_3_53 : Cond.static ({ cls := "ChatRelayLaw", name := "setModes", desc := "(LChatRelay;IIII[J)I" } : MethodName) ∈ lwg := wt3 53 rfl (by decide +kernel)
theorem wm_3_54 : Cond.codeWith ({ cls := "ChatRelayLaw", name := "setModes", desc := "(LChatRelay;IIII[J)I" } : MethodName) method_11_code (7 : Nat) (Option.some FieldType.int) [((0 : Nat), (14 : Nat), (17 : Nat), (13 : Nat)), ((0 : Nat), (14 : Nat), (21 : Nat), (31 : Nat)), ((0 : Nat), (14 : Nat), (25 : Nat), (15 : Nat))] ∈ lwg := wt3 54 rfl (by decide +kernel)
theorem wm_3_55 : Cond.methodLink "ChatRelayLaw" (44 : Nat) ({ cls := "ChatRelay", name := "setModes", desc := "(IIII)I" } : MethodName) ∈ lwg := wt3 55 rfl (by decide +kernel)
theorem wm_3_56 : Cond.instanceMethod ({ cls := "ChatRelay", name := "setModes", desc := "(IIII)I" } : MethodName) ∈ lwg := wt3 56 rfl (by decide +kernel)
theorem wm_3_57 : Cond.selects "ChatRelay" ({ cls := "ChatRelay", name := "setModes", desc := "(IIII)I" } : MethodName) ({ cls := "ChatRelay", name := "setModes", desc := "(IIII)I" } : MethodName) ∈ lwg := wt3 57 rfl (by decide +kernel)
theorem wm_3_58 : Cond.code ({ cls := "ChatRelay", name := "setModes", desc := "(IIII)I" } : MethodName) prog_1_method_12_code (8 : Nat) (Option.some FieldType.int) ∈ lwg := wt3 58 rfl (by decide +kernel)
theorem wm_3_59 : Cond.constant "ChatRelay" (176 : Nat) (67108863 : Int32) ∈ lwg := wt3 59 rfl (by decide +kernel)
theorem wm_3_61 : Cond.methodLink "ChatRelayLaw" (125 : Nat) ({ cls := "ChatRelayLaw", name := "say", desc := "(LChatRelay;II[J)I" } : MethodName) ∈ lwg := wt3 61 rfl (by decide +kernel)
theorem wm_3_62 : Cond.static ({ cls := "ChatRelayLaw", name := "say", desc := "(LChatRelay;II[J)I" } : MethodName) ∈ lwg := wt3 62 rfl (by decide +kernel)
theorem wm_3_63 : Cond.codeWith ({ cls := "ChatRelayLaw", name := "say", desc := "(LChatRelay;II[J)I" } : MethodName) method_12_code (5 : Nat) (Option.some FieldType.int) [((0 : Nat), (10 : Nat), (13 : Nat), (13 : Nat))] ∈ lwg := wt3 63 rfl (by decide +kernel)
theorem wm_3_64 : Cond.methodLink "ChatRelayLaw" (48 : Nat) ({ cls := "ChatRelay", name := "say", desc := "(II)I" } : MethodName) ∈ lwg := wt3 64 rfl (by decide +kernel)
theorem wm_3_65 : Cond.instanceMethod ({ cls := "ChatRelay", name := "say", desc := "(II)I" } : MethodName) ∈ lwg := wt3 65 rfl (by decide +kernel)
theorem wm_3_66 : Cond.selects "ChatRelay" ({ cls := "ChatRelay", name := "say", desc := "(II)I" } : MethodName) ({ cls := "ChatRelay", name := "say", desc := "(II)I" } : MethodName) ∈ lwg := wt3 66 rfl (by decide +kernel)
theorem wm_3_67 : Cond.code ({ cls := "ChatRelay", name := "say", desc := "(II)I" } : MethodName) prog_1_method_13_code (4 : Nat) (Option.some FieldType.int) ∈ lwg := wt3 67 rfl (by decide +kernel)
theorem wm_3_68 : Cond.methodLink "ChatRelay" (186 : Nat) ({ cls := "ChatRelay", name := "eldestOf", desc := "(I)I" } : MethodName) ∈ lwg := wt3 68 rfl (by decide +kernel)
theorem wm_3_70 : Cond.instanceMethod ({ cls := "ChatRelay", name := "eldestOf", desc := "(I)I" } : MethodName) ∈ lwg := wt3 70 rfl (by decide +kernel)
theorem wm_3_71 : Cond.code ({ cls := "ChatRelay", name := "eldestOf", desc := "(I)I" } : MethodName) prog_1_method_38_code (4 : Nat) (Option.some FieldType.int) ∈ lwg := wt3 71 rfl (by decide +kernel)
theorem wm_3_72 : Cond.methodLink "ChatRelay" (189 : Nat) ({ cls := "ChatRelay", name := "homesOf", desc := "(I)I" } : MethodName) ∈ lwg := wt3 72 rfl (by decide +kernel)
theorem wm_3_74 : Cond.instanceMethod ({ cls := "ChatRelay", name := "homesOf", desc := "(I)I" } : MethodName) ∈ lwg := wt3 74 rfl (by decide +kernel)
theorem wm_3_75 : Cond.code ({ cls := "ChatRelay", name := "homesOf", desc := "(I)I" } : MethodName) prog_1_method_39_code (4 : Nat) (Option.some FieldType.int) ∈ lwg := wt3 75 rfl (by decide +kernel)
theorem wm_3_76 : Cond.methodLink "ChatRelay" (192 : Nat) ({ cls := "ChatRelay$Wires", name := "linksTowards", desc := "(II)I" } : MethodName) ∈ lwg := wt3 76 rfl (by decide +kernel)
theorem wm_3_77 : Cond.instanceMethod ({ cls := "ChatRelay$Wires", name := "linksTowards", desc := "(II)I" } : MethodName) ∈ lwg := wt3 77 rfl (by decide +kernel)
theorem wm_3_78 : Cond.selects "ChatRelay$Wires" ({ cls := "ChatRelay$Wires", name := "linksTowards", desc := "(II)I" } : MethodName) ({ cls := "ChatRelay$Wires", name := "linksTowards", desc := "(II)I" } : MethodName) ∈ lwg := wt3 78 rfl (by decide +kernel)
theorem wm_3_79 : Cond.code ({ cls := "ChatRelay$Wires", name := "linksTowards", desc := "(II)I" } : MethodName) prog_6_method_4_code (7 : Nat) (Option.some FieldType.int) ∈ lwg := wt3 79 rfl (by decide +kernel)
theorem wm_3_80 : Cond.methodLink "ChatRelay$Wires" (37 : Nat) ({ cls := "ChatRelay$Wires", name := "treeOf", desc := "(I)I" } : MethodName) ∈ lwg := wt3 80 rfl (by decide +kernel)
theorem wm_3_81 : Cond.methodLink "ChatRelay$Wires" (41 : Nat) ({ cls := "java/lang/Integer", name := "bitCount", desc := "(I)I" } : MethodName) ∈ lwg := wt3 81 rfl (by decide +kernel)
theorem wm_3_82 : Cond.methodLink "ChatRelayLaw" (136 : Nat) ({ cls := "ChatRelayLaw", name := "known", desc := "(LChatRelay;I[J)I" } : MethodName) ∈ lwg := wt3 82 rfl (by decide +kernel)
theorem wm_3_83 : Cond.static ({ cls := "ChatRelayLaw", name := "known", desc := "(LChatRelay;I[J)I" } : MethodName) ∈ lwg := wt3 83 rfl (by decide +kernel)
theorem wm_3_84 : Cond.codeWith ({ cls := "ChatRelayLaw", name := "known", desc := "(LChatRelay;I[J)I" } : MethodName) method_13_code (4 : Nat) (Option.some FieldType.int) [((0 : Nat), (9 : Nat), (12 : Nat), (13 : Nat))] ∈ lwg := wt3 84 rfl (by decide +kernel)
theorem wm_3_85 : Cond.methodLink "ChatRelayLaw" (51 : Nat) ({ cls := "ChatRelay", name := "known", desc := "(I)I" } : MethodName) ∈ lwg := wt3 85 rfl (by decide +kernel)
theorem wm_3_86 : Cond.instanceMethod ({ cls := "ChatRelay", name := "known", desc := "(I)I" } : MethodName) ∈ lwg := wt3 86 rfl (by decide +kernel)
theorem wm_3_87 : Cond.selects "ChatRelay" ({ cls := "ChatRelay", name := "known", desc := "(I)I" } : MethodName) ({ cls := "ChatRelay", name := "known", desc := "(I)I" } : MethodName) ∈ lwg := wt3 87 rfl (by decide +kernel)
theorem wm_3_88 : Cond.code ({ cls := "ChatRelay", name := "known", desc := "(I)I" } : MethodName) prog_1_method_16_code (2 : Nat) (Option.some FieldType.int) ∈ lwg := wt3 88 rfl (by decide +kernel)
theorem wm_3_89 : Cond.methodLink "ChatRelayLaw" (139 : Nat) ({ cls := "ChatRelayLaw", name := "members", desc := "(LChatRelay;II[J)I" } : MethodName) ∈ lwg := wt3 89 rfl (by decide +kernel)
theorem wm_3_90 : Cond.static ({ cls := "ChatRelayLaw", name := "members", desc := "(LChatRelay;II[J)I" } : MethodName) ∈ lwg := wt3 90 rfl (by decide +kernel)
theorem wm_3_91 : Cond.codeWith ({ cls := "ChatRelayLaw", name := "members", desc := "(LChatRelay;II[J)I" } : MethodName) method_14_code (5 : Nat) (Option.some FieldType.int) [((0 : Nat), (10 : Nat), (13 : Nat), (13 : Nat))] ∈ lwg := wt3 91 rfl (by decide +kernel)
theorem wm_3_92 : Cond.methodLink "ChatRelayLaw" (54 : Nat) ({ cls := "ChatRelay", name := "members", desc := "(II)I" } : MethodName) ∈ lwg := wt3 92 rfl (by decide +kernel)
theorem wm_3_93 : Cond.instanceMethod ({ cls := "ChatRelay", name := "members", desc := "(II)I" } : MethodName) ∈ lwg := wt3 93 rfl (by decide +kernel)
theorem wm_3_94 : Cond.selects "ChatRelay" ({ cls := "ChatRelay", name := "members", desc := "(II)I" } : MethodName) ({ cls := "ChatRelay", name := "members", desc := "(II)I" } : MethodName) ∈ lwg := wt3 94 rfl (by decide +kernel)
theorem wm_3_95 : Cond.code ({ cls := "ChatRelay", name := "members", desc := "(II)I" } : MethodName) prog_1_method_17_code (3 : Nat) (Option.some FieldType.int) ∈ lwg := wt3 95 rfl (by decide +kernel)
theorem wm_3_96 : Cond.methodLink "ChatRelayLaw" (142 : Nat) ({ cls := "ChatRelayLaw", name := "age", desc := "(LChatRelay;II[J)I" } : MethodName) ∈ lwg := wt3 96 rfl (by decide +kernel)
theorem wm_3_97 : Cond.static ({ cls := "ChatRelayLaw", name := "age", desc := "(LChatRelay;II[J)I" } : MethodName) ∈ lwg := wt3 97 rfl (by decide +kernel)
theorem wm_3_98 : Cond.codeWith ({ cls := "ChatRelayLaw", name := "age", desc := "(LChatRelay;II[J)I" } : MethodName) method_15_code (5 : Nat) (Option.some FieldType.int) [((0 : Nat), (10 : Nat), (13 : Nat), (13 : Nat))] ∈ lwg := wt3 98 rfl (by decide +kernel)
theorem wm_3_99 : Cond.methodLink "ChatRelayLaw" (57 : Nat) ({ cls := "ChatRelay", name := "age", desc := "(II)I" } : MethodName) ∈ lwg := wt3 99 rfl (by decide +kernel)
theorem wm_3_100 : Cond.instanceMethod ({ cls := "ChatRelay", name := "age", desc := "(II)I" } : MethodName) ∈ lwg := wt3 100 rfl (by decide +kernel)
theorem wm_3_101 : Cond.selects "ChatRelay" ({ cls := "ChatRelay", name := "age", desc := "(II)I" } : MethodName) ({ cls := "ChatRelay", name := "age", desc := "(II)I" } : MethodName) ∈ lwg := wt3 101 rfl (by decide +kernel)
theorem wm_3_102 : Cond.code ({ cls := "ChatRelay", name := "age", desc := "(II)I" } : MethodName) prog_1_method_18_code (3 : Nat) (Option.some FieldType.int) ∈ lwg := wt3 102 rfl (by decide +kernel)
theorem wm_3_103 : Cond.methodLink "ChatRelayLaw" (145 : Nat) ({ cls := "ChatRelayLaw", name := "modes", desc := "(LChatRelay;II[J)I" } : MethodName) ∈ lwg := wt3 103 rfl (by decide +kernel)
theorem wm_3_104 : Cond.static ({ cls := "ChatRelayLaw", name := "modes", desc := "(LChatRelay;II[J)I" } : MethodName) ∈ lwg := wt3 104 rfl (by decide +kernel)
theorem wm_3_105 : Cond.codeWith ({ cls := "ChatRelayLaw", name := "modes", desc := "(LChatRelay;II[J)I" } : MethodName) method_16_code (5 : Nat) (Option.some FieldType.int) [((0 : Nat), (10 : Nat), (13 : Nat), (13 : Nat))] ∈ lwg := wt3 105 rfl (by decide +kernel)
theorem wm_3_106 : Cond.methodLink "ChatRelayLaw" (60 : Nat) ({ cls := "ChatRelay", name := "modes", desc := "(II)I" } : MethodName) ∈ lwg := wt3 106 rfl (by decide +kernel)
theorem wm_3_107 : Cond.instanceMethod ({ cls := "ChatRelay", name := "modes", desc := "(II)I" } : MethodName) ∈ lwg := wt3 107 rfl (by decide +kernel)
theorem wm_3_108 : Cond.selects "ChatRelay" ({ cls := "ChatRelay", name := "modes", desc := "(II)I" } : MethodName) ({ cls := "ChatRelay", name := "modes", desc := "(II)I" } : MethodName) ∈ lwg := wt3 108 rfl (by decide +kernel)
theorem wm_3_109 : Cond.code ({ cls := "ChatRelay", name := "modes", desc := "(II)I" } : MethodName) prog_1_method_19_code (3 : Nat) (Option.some FieldType.int) ∈ lwg := wt3 109 rfl (by decide +kernel)
theorem wm_3_110 : Cond.methodLink "ChatRelayLaw" (148 : Nat) ({ cls := "ChatRelayLaw", name := "bans", desc := "(LChatRelay;II[J)I" } : MethodName) ∈ lwg := wt3 110 rfl (by decide +kernel)
theorem wm_3_111 : Cond.static ({ cls := "ChatRelayLaw", name := "bans", desc := "(LChatRelay;II[J)I" } : MethodName) ∈ lwg := wt3 111 rfl (by decide +kernel)
theorem wm_3_112 : Cond.codeWith ({ cls := "ChatRelayLaw", name := "bans", desc := "(LChatRelay;II[J)I" } : MethodName) method_17_code (5 : Nat) (Option.some FieldType.int) [((0 : Nat), (10 : Nat), (13 : Nat), (13 : Nat))] ∈ lwg := wt3 112 rfl (by decide +kernel)
theorem wm_3_113 : Cond.methodLink "ChatRelayLaw" (63 : Nat) ({ cls := "ChatRelay", name := "bans", desc := "(II)I" } : MethodName) ∈ lwg := wt3 113 rfl (by decide +kernel)
theorem wm_3_114 : Cond.instanceMethod ({ cls := "ChatRelay", name := "bans", desc := "(II)I" } : MethodName) ∈ lwg := wt3 114 rfl (by decide +kernel)
theorem wm_3_115 : Cond.selects "ChatRelay" ({ cls := "ChatRelay", name := "bans", desc := "(II)I" } : MethodName) ({ cls := "ChatRelay", name := "bans", desc := "(II)I" } : MethodName) ∈ lwg := wt3 115 rfl (by decide +kernel)
theorem wm_3_116 : Cond.code ({ cls := "ChatRelay", name := "bans", desc := "(II)I" } : MethodName) prog_1_method_20_code (3 : Nat) (Option.some FieldType.int) ∈ lwg := wt3 116 rfl (by decide +kernel)
theorem wm_3_117 : Cond.methodLink "ChatRelayLaw" (151 : Nat) ({ cls := "ChatRelayLaw", name := "areSame", desc := "(LChatRelay;II[J)I" } : MethodName) ∈ lwg := wt3 117 rfl (by decide +kernel)
theorem wm_3_118 : Cond.static ({ cls := "ChatRelayLaw", name := "areSame", desc := "(LChatRelay;II[J)I" } : MethodName) ∈ lwg := wt3 118 rfl (by decide +kernel)
theorem wm_3_119 : Cond.codeWith ({ cls := "ChatRelayLaw", name := "areSame", desc := "(LChatRelay;II[J)I" } : MethodName) method_18_code (5 : Nat) (Option.some FieldType.int) [((0 : Nat), (17 : Nat), (20 : Nat), (13 : Nat))] ∈ lwg := wt3 119 rfl (by decide +kernel)
theorem wm_3_120 : Cond.methodLink "ChatRelayLaw" (66 : Nat) ({ cls := "ChatRelay", name := "areSame", desc := "(II)Z" } : MethodName) ∈ lwg := wt3 120 rfl (by decide +kernel)
theorem wm_3_121 : Cond.instanceMethod ({ cls := "ChatRelay", name := "areSame", desc := "(II)Z" } : MethodName) ∈ lwg := wt3 121 rfl (by decide +kernel)
theorem wm_3_122 : Cond.selects "ChatRelay" ({ cls := "ChatRelay", name := "areSame", desc := "(II)Z" } : MethodName) ({ cls := "ChatRelay", name := "areSame", desc := "(II)Z" } : MethodName) ∈ lwg := wt3 122 rfl (by decide +kernel)
theorem wm_3_123 : Cond.code ({ cls := "ChatRelay", name := "areSame", desc := "(II)Z" } : MethodName) prog_1_method_21_code (3 : Nat) (Option.some FieldType.boolean) ∈ lwg := wt3 123 rfl (by decide +kernel)
theorem wm_3_124 : Cond.methodLink "ChatRelay" (202 : Nat) ({ cls := "ChatRelay$View", name := "looksLike", desc := "(LChatRelay$View;)Z" } : MethodName) ∈ lwg := wt3 124 rfl (by decide +kernel)
theorem wm_3_125 : Cond.instanceMethod ({ cls := "ChatRelay$View", name := "looksLike", desc := "(LChatRelay$View;)Z" } : MethodName) ∈ lwg := wt3 125 rfl (by decide +kernel)
theorem wm_3_126 : Cond.selects "ChatRelay$View" ({ cls := "ChatRelay$View", name := "looksLike", desc := "(LChatRelay$View;)Z" } : MethodName) ({ cls := "ChatRelay$View", name := "looksLike", desc := "(LChatRelay$View;)Z" } : MethodName) ∈ lwg := wt3 126 rfl (by decide +kernel)
theorem wm_3_127 : Cond.code ({ cls := "ChatRelay$View", name := "looksLike", desc := "(LChatRelay$View;)Z" } : MethodName) prog_5_method_5_code (3 : Nat) (Option.some FieldType.boolean) ∈ lwg := wt3 127 rfl (by decide +kernel)
theorem wm_3_128 : Cond.methodLink "ChatRelay$View" (30 : Nat) ({ cls := "ChatRelay$Channel", name := "looksLike", desc := "(LChatRelay$Channel;)Z" } : MethodName) ∈ lwg := wt3 128 rfl (by decide +kernel)
theorem wm_3_129 : Cond.instanceMethod ({ cls := "ChatRelay$Channel", name := "looksLike", desc := "(LChatRelay$Channel;)Z" } : MethodName) ∈ lwg := wt3 129 rfl (by decide +kernel)
theorem wm_3_130 : Cond.selects "ChatRelay$Channel" ({ cls := "ChatRelay$Channel", name := "looksLike", desc := "(LChatRelay$Channel;)Z" } : MethodName) ({ cls := "ChatRelay$Channel", name := "looksLike", desc := "(LChatRelay$Channel;)Z" } : MethodName) ∈ lwg := wt3 130 rfl (by decide +kernel)
theorem wm_3_131 : Cond.code ({ cls := "ChatRelay$Channel", name := "looksLike", desc := "(LChatRelay$Channel;)Z" } : MethodName) prog_2_method_6_code (2 : Nat) (Option.some FieldType.boolean) ∈ lwg := wt3 131 rfl (by decide +kernel)
theorem wm_3_132 : Cond.methodLink "ChatRelayLaw" (154 : Nat) ({ cls := "ChatRelayLaw", name := "joinedModes", desc := "(LChatRelay;III[J)I" } : MethodName) ∈ lwg := wt3 132 rfl (by decide +kernel)
theorem wm_3_133 : Cond.static ({ cls := "ChatRelayLaw", name := "joinedModes", desc := "(LChatRelay;III[J)I" } : MethodName) ∈ lwg := wt3 133 rfl (by decide +kernel)
theorem wm_3_134 : Cond.codeWith ({ cls := "ChatRelayLaw", name := "joinedModes", desc := "(LChatRelay;III[J)I" } : MethodName) method_19_code (6 : Nat) (Option.some FieldType.int) [((0 : Nat), (12 : Nat), (15 : Nat), (13 : Nat))] ∈ lwg := wt3 134 rfl (by decide +kernel)
theorem wm_3_135 : Cond.methodLink "ChatRelayLaw" (70 : Nat) ({ cls := "ChatRelay", name := "joinedModes", desc := "(III)I" } : MethodName) ∈ lwg := wt3 135 rfl (by decide +kernel)
theorem wm_3_136 : Cond.instanceMethod ({ cls := "ChatRelay", name := "joinedModes", desc := "(III)I" } : MethodName) ∈ lwg := wt3 136 rfl (by decide +kernel)
theorem wm_3_137 : Cond.selects "ChatRelay" ({ cls := "ChatRelay", name := "joinedModes", desc := "(III)I" } : MethodName) ({ cls := "ChatRelay", name := "joinedModes", desc := "(III)I" } : MethodName) ∈ lwg := wt3 137 rfl (by decide +kernel)
theorem wm_3_138 : Cond.code ({ cls := "ChatRelay", name := "joinedModes", desc := "(III)I" } : MethodName) prog_1_method_22_code (6 : Nat) (Option.some FieldType.int) ∈ lwg := wt3 138 rfl (by decide +kernel)
theorem wm_3_139 : Cond.methodLink "ChatRelay" (206 : Nat) ({ cls := "ChatRelay", name := "settledSet", desc := "(IIII)I" } : MethodName) ∈ lwg := wt3 139 rfl (by decide +kernel)
theorem wm_3_140 : Cond.classLink "ChatRelayLaw" (75 : Nat) "ChatRelayModel" ∈ lwg := wt3 140 rfl (by decide +kernel)
theorem wm_3_141 : Cond.instantiable "ChatRelayModel" (29 : Nat) ∈ lwg := wt3 141 rfl (by decide +kernel)
theorem wm_3_142 : Cond.methodLink "ChatRelayLaw" (77 : Nat) ({ cls := "ChatRelayModel", name := "<init>", desc := "()V" } : MethodName) ∈ lwg := wt3 142 rfl (by decide +kernel)
theorem wm_3_143 : Cond.instanceMethod ({ cls := "ChatRelayModel", name := "<init>", desc := "()V" } : MethodName) ∈ lwg := wt3 143 rfl (by decide +kernel)
theorem wm_3_144 : Cond.code ({ cls := "ChatRelayModel", name := "<init>", desc := "()V" } : MethodName) prog_8_method_1_code (2 : Nat) (Option.none : Option FieldType) ∈ lwg := wt3 144 rfl (by decide +kernel)
theorem wm_3_145 : Cond.methodLink "ChatRelayModel" (1 : Nat) ({ cls := "java/lang/Object", name := "<init>", desc := "()V" } : MethodName) ∈ lwg := wt3 145 rfl (by decide +kernel)
theorem wm_3_146 : Cond.fieldLink "ChatRelayModel" (64 : Nat) "ChatRelayModel" "thrown" "I" ∈ lwg := wt3 146 rfl (by decide +kernel)
theorem wm_3_147 : Cond.fieldLink "ChatRelayModel" (149 : Nat) "ChatRelayModel" "clock" "I" ∈ lwg := wt3 147 rfl (by decide +kernel)
theorem wm_3_148 : Cond.fieldLink "ChatRelayModel" (111 : Nat) "ChatRelayModel" "users" "I" ∈ lwg := wt3 148 rfl (by decide +kernel)
theorem wm_3_149 : Cond.fieldLink "ChatRelayModel" (7 : Nat) "ChatRelayModel" "names" "[I" ∈ lwg := wt3 149 rfl (by decide +kernel)
theorem wm_3_150 : Cond.fieldLink "ChatRelayModel" (13 : Nat) "ChatRelayModel" "homes" "[I" ∈ lwg := wt3 150 rfl (by decide +kernel)
theorem wm_3_151 : Cond.fieldLink "ChatRelayModel" (16 : Nat) "ChatRelayModel" "born" "[I" ∈ lwg := wt3 151 rfl (by decide +kernel)
theorem wm_3_152 : Cond.fieldLink "ChatRelayModel" (19 : Nat) "ChatRelayModel" "links" "[I" ∈ lwg := wt3 152 rfl (by decide +kernel)
theorem wm_3_153 : Cond.fieldLink "ChatRelayModel" (22 : Nat) "ChatRelayModel" "known" "[I" ∈ lwg := wt3 153 rfl (by decide +kernel)
theorem wm_3_154 : Cond.fieldLink "ChatRelayModel" (25 : Nat) "ChatRelayModel" "ages" "[I" ∈ lwg := wt3 154 rfl (by decide +kernel)
theorem wm_3_155 : Cond.fieldLink "ChatRelayModel" (28 : Nat) "ChatRelayModel" "modes" "[I" ∈ lwg := wt3 155 rfl (by decide +kernel)
theorem wm_3_156 : Cond.fieldLink "ChatRelayModel" (31 : Nat) "ChatRelayModel" "bans" "[I" ∈ lwg := wt3 156 rfl (by decide +kernel)
theorem wm_3_157 : Cond.fieldLink "ChatRelayModel" (34 : Nat) "ChatRelayModel" "members" "[I" ∈ lwg := wt3 157 rfl (by decide +kernel)
theorem wm_3_158 : Cond.fieldLink "ChatRelayModel" (37 : Nat) "ChatRelayModel" "heads" "[I" ∈ lwg := wt3 158 rfl (by decide +kernel)
theorem wm_3_159 : Cond.fieldLink "ChatRelayModel" (40 : Nat) "ChatRelayModel" "tails" "[I" ∈ lwg := wt3 159 rfl (by decide +kernel)
theorem wm_3_160 : Cond.fieldLink "ChatRelayModel" (97 : Nat) "ChatRelayModel" "lines" "I" ∈ lwg := wt3 160 rfl (by decide +kernel)
theorem wm_3_161 : Cond.fieldLink "ChatRelayModel" (94 : Nat) "ChatRelayModel" "free" "I" ∈ lwg := wt3 161 rfl (by decide +kernel)
theorem wm_3_162 : Cond.fieldLink "ChatRelayModel" (43 : Nat) "ChatRelayModel" "next" "[I" ∈ lwg := wt3 162 rfl (by decide +kernel)
theorem wm_3_163 : Cond.fieldLink "ChatRelayModel" (46 : Nat) "ChatRelayModel" "kinds" "[I" ∈ lwg := wt3 163 rfl (by decide +kernel)
theorem wm_3_164 : Cond.fieldLink "ChatRelayModel" (49 : Nat) "ChatRelayModel" "of" "[I" ∈ lwg := wt3 164 rfl (by decide +kernel)
theorem wm_3_165 : Cond.fieldLink "ChatRelayModel" (52 : Nat) "ChatRelayModel" "lineUsers" "[I" ∈ lwg := wt3 165 rfl (by decide +kernel)
theorem wm_3_166 : Cond.fieldLink "ChatRelayModel" (55 : Nat) "ChatRelayModel" "lineAges" "[I" ∈ lwg := wt3 166 rfl (by decide +kernel)
theorem wm_3_167 : Cond.fieldLink "ChatRelayModel" (58 : Nat) "ChatRelayModel" "lineModes" "[I" ∈ lwg := wt3 167 rfl (by decide +kernel)
theorem wm_3_168 : Cond.fieldLink "ChatRelayModel" (61 : Nat) "ChatRelayModel" "lineBans" "[I" ∈ lwg := wt3 168 rfl (by decide +kernel)
theorem wm_3_169 : Cond.fieldLink "ChatRelayModel" (68 : Nat) "ChatRelayModel" "kind" "I" ∈ lwg := wt3 169 rfl (by decide +kernel)
theorem wm_3_170 : Cond.fieldLink "ChatRelayModel" (71 : Nat) "ChatRelayModel" "its" "I" ∈ lwg := wt3 170 rfl (by decide +kernel)
theorem wm_3_171 : Cond.fieldLink "ChatRelayModel" (74 : Nat) "ChatRelayModel" "who" "I" ∈ lwg := wt3 171 rfl (by decide +kernel)
theorem wm_3_172 : Cond.fieldLink "ChatRelayModel" (85 : Nat) "ChatRelayModel" "age" "I" ∈ lwg := wt3 172 rfl (by decide +kernel)
theorem wm_3_173 : Cond.fieldLink "ChatRelayModel" (88 : Nat) "ChatRelayModel" "mode" "I" ∈ lwg := wt3 173 rfl (by decide +kernel)
theorem wm_3_174 : Cond.fieldLink "ChatRelayModel" (91 : Nat) "ChatRelayModel" "ban" "I" ∈ lwg := wt3 174 rfl (by decide +kernel)
theorem wm_3_175 : Cond.lays "ChatRelayModel" "ChatRelayModel" "thrown" "I" ∈ lwg := wt3 175 rfl (by decide +kernel)
theorem wm_3_177 : Cond.lays "ChatRelayModel" "ChatRelayModel" "clock" "I" ∈ lwg := wt3 177 rfl (by decide +kernel)
theorem wm_3_179 : Cond.lays "ChatRelayModel" "ChatRelayModel" "users" "I" ∈ lwg := wt3 179 rfl (by decide +kernel)
theorem wm_3_181 : Cond.laysFinal "ChatRelayModel" "ChatRelayModel" "names" "[I" ∈ lwg := wt3 181 rfl (by decide +kernel)
theorem wm_3_183 : Cond.laysFinal "ChatRelayModel" "ChatRelayModel" "homes" "[I" ∈ lwg := wt3 183 rfl (by decide +kernel)
theorem wm_3_185 : Cond.laysFinal "ChatRelayModel" "ChatRelayModel" "born" "[I" ∈ lwg := wt3 185 rfl (by decide +kernel)
theorem wm_3_187 : Cond.laysFinal "ChatRelayModel" "ChatRelayModel" "links" "[I" ∈ lwg := wt3 187 rfl (by decide +kernel)
theorem wm_3_189 : Cond.laysFinal "ChatRelayModel" "ChatRelayModel" "known" "[I" ∈ lwg := wt3 189 rfl (by decide +kernel)
theorem wm_3_191 : Cond.laysFinal "ChatRelayModel" "ChatRelayModel" "ages" "[I" ∈ lwg := wt3 191 rfl (by decide +kernel)
theorem wm_3_193 : Cond.laysFinal "ChatRelayModel" "ChatRelayModel" "modes" "[I" ∈ lwg := wt3 193 rfl (by decide +kernel)
theorem wm_3_195 : Cond.laysFinal "ChatRelayModel" "ChatRelayModel" "bans" "[I" ∈ lwg := wt3 195 rfl (by decide +kernel)
theorem wm_3_197 : Cond.laysFinal "ChatRelayModel" "ChatRelayModel" "members" "[I" ∈ lwg := wt3 197 rfl (by decide +kernel)
theorem wm_3_199 : Cond.laysFinal "ChatRelayModel" "ChatRelayModel" "heads" "[I" ∈ lwg := wt3 199 rfl (by decide +kernel)
theorem wm_3_201 : Cond.laysFinal "ChatRelayModel" "ChatRelayModel" "tails" "[I" ∈ lwg := wt3 201 rfl (by decide +kernel)
theorem wm_3_203 : Cond.lays "ChatRelayModel" "ChatRelayModel" "lines" "I" ∈ lwg := wt3 203 rfl (by decide +kernel)
theorem wm_3_205 : Cond.lays "ChatRelayModel" "ChatRelayModel" "free" "I" ∈ lwg := wt3 205 rfl (by decide +kernel)
theorem wm_3_207 : Cond.laysFinal "ChatRelayModel" "ChatRelayModel" "next" "[I" ∈ lwg := wt3 207 rfl (by decide +kernel)
theorem wm_3_209 : Cond.laysFinal "ChatRelayModel" "ChatRelayModel" "kinds" "[I" ∈ lwg := wt3 209 rfl (by decide +kernel)
theorem wm_3_211 : Cond.laysFinal "ChatRelayModel" "ChatRelayModel" "of" "[I" ∈ lwg := wt3 211 rfl (by decide +kernel)
theorem wm_3_213 : Cond.laysFinal "ChatRelayModel" "ChatRelayModel" "lineUsers" "[I" ∈ lwg := wt3 213 rfl (by decide +kernel)
theorem wm_3_215 : Cond.laysFinal "ChatRelayModel" "ChatRelayModel" "lineAges" "[I" ∈ lwg := wt3 215 rfl (by decide +kernel)
theorem wm_3_217 : Cond.laysFinal "ChatRelayModel" "ChatRelayModel" "lineModes" "[I" ∈ lwg := wt3 217 rfl (by decide +kernel)
theorem wm_3_219 : Cond.laysFinal "ChatRelayModel" "ChatRelayModel" "lineBans" "[I" ∈ lwg := wt3 219 rfl (by decide +kernel)
theorem wm_3_221 : Cond.lays "ChatRelayModel" "ChatRelayModel" "kind" "I" ∈ lwg := wt3 221 rfl (by decide +kernel)
theorem wm_3_223 : Cond.lays "ChatRelayModel" "ChatRelayModel" "its" "I" ∈ lwg := wt3 223 rfl (by decide +kernel)
theorem wm_3_225 : Cond.lays "ChatRelayModel" "ChatRelayModel" "who" "I" ∈ lwg := wt3 225 rfl (by decide +kernel)
theorem wm_3_227 : Cond.lays "ChatRelayModel" "ChatRelayModel" "age" "I" ∈ lwg := wt3 227 rfl (by decide +kernel)
theorem wm_3_229 : Cond.lays "ChatRelayModel" "ChatRelayModel" "mode" "I" ∈ lwg := wt3 229 rfl (by decide +kernel)
theorem wm_3_231 : Cond.lays "ChatRelayModel" "ChatRelayModel" "ban" "I" ∈ lwg := wt3 231 rfl (by decide +kernel)
theorem wm_3_234 : Cond.methodLink "ChatRelayLaw" (84 : Nat) ({ cls := "ChatRelayModel", name := "thrown", desc := "()I" } : MethodName) ∈ lwg := wt3 234 rfl (by decide +kernel)
theorem wm_3_235 : Cond.instanceMethod ({ cls := "ChatRelayModel", name := "thrown", desc := "()I" } : MethodName) ∈ lwg := wt3 235 rfl (by decide +kernel)
theorem wm_3_236 : Cond.selects "ChatRelayModel" ({ cls := "ChatRelayModel", name := "thrown", desc := "()I" } : MethodName) ({ cls := "ChatRelayModel", name := "thrown", desc := "()I" } : MethodName) ∈ lwg := wt3 236 rfl (by decide +kernel)
theorem wm_3_237 : Cond.code ({ cls := "ChatRelayModel", name := "thrown", desc := "()I" } : MethodName) prog_8_method_2_code (1 : Nat) (Option.some FieldType.int) ∈ lwg := wt3 237 rfl (by decide +kernel)
theorem wm_3_238 : Cond.methodLink "ChatRelayLaw" (83 : Nat) ({ cls := "ChatRelayModel", name := "link", desc := "(II)I" } : MethodName) ∈ lwg := wt3 238 rfl (by decide +kernel)
theorem wm_3_239 : Cond.instanceMethod ({ cls := "ChatRelayModel", name := "link", desc := "(II)I" } : MethodName) ∈ lwg := wt3 239 rfl (by decide +kernel)
theorem wm_4_0 : Cond.selects "ChatRelayModel" ({ cls := "ChatRelayModel", name := "link", desc := "(II)I" } : MethodName) ({ cls := "ChatRelayModel", name := "link", desc := "(II)I" } : MethodName) ∈ lwg := wt4 0 rfl (by decide +kernel)
theorem wm_4_1 : Cond.code ({ cls := "ChatRelayModel", name := "link", desc := "(II)I" } : MethodName) prog_8_method_21_code (5 : Nat) (Option.some FieldType.int) ∈ lwg := wt4 1 rfl (by decide +kernel)
theorem wm_4_2 : Cond.methodLink "ChatRelayModel" (139 : Nat) ({ cls := "ChatRelayModel", name := "isServer", desc := "(I)Z" } : MethodName) ∈ lwg := wt4 2 rfl (by decide +kernel)
theorem wm_4_3 : Cond.static ({ cls := "ChatRelayModel", name := "isServer", desc := "(I)Z" } : MethodName) ∈ lwg := wt4 3 rfl (by decide +kernel)
theorem wm_4_4 : Cond.code ({ cls := "ChatRelayModel", name := "isServer", desc := "(I)Z" } : MethodName) prog_8_method_4_code (1 : Nat) (Option.some FieldType.boolean) ∈ lwg := wt4 4 rfl (by decide +kernel)
theorem wm_4_5 : Cond.methodLink "ChatRelayModel" (114 : Nat) ({ cls := "ChatRelayModel", name := "treeOf", desc := "(I)I" } : MethodName) ∈ lwg := wt4 5 rfl (by decide +kernel)
theorem wm_4_7 : Cond.instanceMethod ({ cls := "ChatRelayModel", name := "treeOf", desc := "(I)I" } : MethodName) ∈ lwg := wt4 7 rfl (by decide +kernel)
theorem wm_4_8 : Cond.code ({ cls := "ChatRelayModel", name := "treeOf", desc := "(I)I" } : MethodName) prog_8_method_13_code (5 : Nat) (Option.some FieldType.int) ∈ lwg := wt4 8 rfl (by decide +kernel)
theorem wm_4_9 : Cond.methodLink "ChatRelayModel" (100 : Nat) ({ cls := "ChatRelayModel", name := "has", desc := "(II)Z" } : MethodName) ∈ lwg := wt4 9 rfl (by decide +kernel)
theorem wm_4_10 : Cond.static ({ cls := "ChatRelayModel", name := "has", desc := "(II)Z" } : MethodName) ∈ lwg := wt4 10 rfl (by decide +kernel)
theorem wm_4_11 : Cond.code ({ cls := "ChatRelayModel", name := "has", desc := "(II)Z" } : MethodName) prog_8_method_6_code (2 : Nat) (Option.some FieldType.boolean) ∈ lwg := wt4 11 rfl (by decide +kernel)
theorem wm_4_12 : Cond.methodLink "ChatRelayModel" (143 : Nat) ({ cls := "ChatRelayModel", name := "holds", desc := "(I)Z" } : MethodName) ∈ lwg := wt4 12 rfl (by decide +kernel)
theorem wm_4_14 : Cond.instanceMethod ({ cls := "ChatRelayModel", name := "holds", desc := "(I)Z" } : MethodName) ∈ lwg := wt4 14 rfl (by decide +kernel)
theorem wm_4_15 : Cond.code ({ cls := "ChatRelayModel", name := "holds", desc := "(I)Z" } : MethodName) prog_8_method_3_code (2 : Nat) (Option.some FieldType.boolean) ∈ lwg := wt4 15 rfl (by decide +kernel)
theorem wm_4_16 : Cond.methodLink "ChatRelayModel" (146 : Nat) ({ cls := "ChatRelayModel", name := "bursts", desc := "(II)V" } : MethodName) ∈ lwg := wt4 16 rfl (by decide +kernel)
theorem wm_4_18 : Cond.instanceMethod ({ cls := "ChatRelayModel", name := "bursts", desc := "(II)V" } : MethodName) ∈ lwg := wt4 18 rfl (by decide +kernel)
theorem wm_4_19 : Cond.code ({ cls := "ChatRelayModel", name := "bursts", desc := "(II)V" } : MethodName) prog_8_method_20_code (4 : Nat) (Option.none : Option FieldType) ∈ lwg := wt4 19 rfl (by decide +kernel)
theorem wm_4_20 : Cond.methodLink "ChatRelayModel" (77 : Nat) ({ cls := "ChatRelayModel", name := "makes", desc := "(III)V" } : MethodName) ∈ lwg := wt4 20 rfl (by decide +kernel)
theorem wm_4_22 : Cond.instanceMethod ({ cls := "ChatRelayModel", name := "makes", desc := "(III)V" } : MethodName) ∈ lwg := wt4 22 rfl (by decide +kernel)
theorem wm_4_23 : Cond.code ({ cls := "ChatRelayModel", name := "makes", desc := "(III)V" } : MethodName) prog_8_method_8_code (4 : Nat) (Option.none : Option FieldType) ∈ lwg := wt4 23 rfl (by decide +kernel)
theorem wm_4_24 : Cond.methodLink "ChatRelayModel" (104 : Nat) ({ cls := "ChatRelayModel", name := "puts", desc := "(II)V" } : MethodName) ∈ lwg := wt4 24 rfl (by decide +kernel)
theorem wm_4_26 : Cond.instanceMethod ({ cls := "ChatRelayModel", name := "puts", desc := "(II)V" } : MethodName) ∈ lwg := wt4 26 rfl (by decide +kernel)
theorem wm_4_27 : Cond.code ({ cls := "ChatRelayModel", name := "puts", desc := "(II)V" } : MethodName) prog_8_method_10_code (5 : Nat) (Option.none : Option FieldType) ∈ lwg := wt4 27 rfl (by decide +kernel)
theorem wm_4_28 : Cond.methodLink "ChatRelayModel" (81 : Nat) ({ cls := "ChatRelayModel", name := "at", desc := "(II)I" } : MethodName) ∈ lwg := wt4 28 rfl (by decide +kernel)
theorem wm_4_29 : Cond.static ({ cls := "ChatRelayModel", name := "at", desc := "(II)I" } : MethodName) ∈ lwg := wt4 29 rfl (by decide +kernel)
theorem wm_4_30 : Cond.code ({ cls := "ChatRelayModel", name := "at", desc := "(II)I" } : MethodName) prog_8_method_7_code (2 : Nat) (Option.some FieldType.int) ∈ lwg := wt4 30 rfl (by decide +kernel)
theorem wm_4_31 : Cond.methodLink "ChatRelayModel" (135 : Nat) ({ cls := "ChatRelayModel", name := "tells", desc := "(IIII)V" } : MethodName) ∈ lwg := wt4 31 rfl (by decide +kernel)
theorem wm_4_33 : Cond.instanceMethod ({ cls := "ChatRelayModel", name := "tells", desc := "(IIII)V" } : MethodName) ∈ lwg := wt4 33 rfl (by decide +kernel)
theorem wm_4_34 : Cond.code ({ cls := "ChatRelayModel", name := "tells", desc := "(IIII)V" } : MethodName) prog_8_method_9_code (5 : Nat) (Option.none : Option FieldType) ∈ lwg := wt4 34 rfl (by decide +kernel)
theorem wm_4_35 : Cond.methodLink "ChatRelayLaw" (90 : Nat) ({ cls := "ChatRelayModel", name := "split", desc := "(II)I" } : MethodName) ∈ lwg := wt4 35 rfl (by decide +kernel)
theorem wm_4_36 : Cond.instanceMethod ({ cls := "ChatRelayModel", name := "split", desc := "(II)I" } : MethodName) ∈ lwg := wt4 36 rfl (by decide +kernel)
theorem wm_4_37 : Cond.selects "ChatRelayModel" ({ cls := "ChatRelayModel", name := "split", desc := "(II)I" } : MethodName) ({ cls := "ChatRelayModel", name := "split", desc := "(II)I" } : MethodName) ∈ lwg := wt4 37 rfl (by decide +kernel)
theorem wm_4_38 : Cond.code ({ cls := "ChatRelayModel", name := "split", desc := "(II)I" } : MethodName) prog_8_method_23_code (5 : Nat) (Option.some FieldType.int) ∈ lwg := wt4 38 rfl (by decide +kernel)
theorem wm_4_39 : Cond.methodLink "ChatRelayModel" (152 : Nat) ({ cls := "ChatRelayModel", name := "takes", desc := "(I)V" } : MethodName) ∈ lwg := wt4 39 rfl (by decide +kernel)
theorem wm_4_41 : Cond.instanceMethod ({ cls := "ChatRelayModel", name := "takes", desc := "(I)V" } : MethodName) ∈ lwg := wt4 41 rfl (by decide +kernel)
theorem wm_4_42 : Cond.code ({ cls := "ChatRelayModel", name := "takes", desc := "(I)V" } : MethodName) prog_8_method_12_code (3 : Nat) (Option.none : Option FieldType) ∈ lwg := wt4 42 rfl (by decide +kernel)
theorem wm_4_43 : Cond.methodLink "ChatRelayModel" (155 : Nat) ({ cls := "ChatRelayModel", name := "forgets", desc := "()V" } : MethodName) ∈ lwg := wt4 43 rfl (by decide +kernel)
theorem wm_4_45 : Cond.instanceMethod ({ cls := "ChatRelayModel", name := "forgets", desc := "()V" } : MethodName) ∈ lwg := wt4 45 rfl (by decide +kernel)
theorem wm_4_46 : Cond.code ({ cls := "ChatRelayModel", name := "forgets", desc := "()V" } : MethodName) prog_8_method_22_code (4 : Nat) (Option.none : Option FieldType) ∈ lwg := wt4 46 rfl (by decide +kernel)
theorem wm_4_47 : Cond.methodLink "ChatRelayModel" (122 : Nat) ({ cls := "ChatRelayModel", name := "quits", desc := "(II)V" } : MethodName) ∈ lwg := wt4 47 rfl (by decide +kernel)
theorem wm_4_49 : Cond.instanceMethod ({ cls := "ChatRelayModel", name := "quits", desc := "(II)V" } : MethodName) ∈ lwg := wt4 49 rfl (by decide +kernel)
theorem wm_4_50 : Cond.code ({ cls := "ChatRelayModel", name := "quits", desc := "(II)V" } : MethodName) prog_8_method_15_code (4 : Nat) (Option.none : Option FieldType) ∈ lwg := wt4 50 rfl (by decide +kernel)
theorem wm_4_51 : Cond.methodLink "ChatRelayModel" (108 : Nat) ({ cls := "ChatRelayModel", name := "leaves", desc := "(III)V" } : MethodName) ∈ lwg := wt4 51 rfl (by decide +kernel)
theorem wm_4_53 : Cond.instanceMethod ({ cls := "ChatRelayModel", name := "leaves", desc := "(III)V" } : MethodName) ∈ lwg := wt4 53 rfl (by decide +kernel)
theorem wm_4_54 : Cond.code ({ cls := "ChatRelayModel", name := "leaves", desc := "(III)V" } : MethodName) prog_8_method_14_code (5 : Nat) (Option.none : Option FieldType) ∈ lwg := wt4 54 rfl (by decide +kernel)
theorem wm_4_55 : Cond.methodLink "ChatRelayLaw" (93 : Nat) ({ cls := "ChatRelayModel", name := "deliver", desc := "(II)I" } : MethodName) ∈ lwg := wt4 55 rfl (by decide +kernel)
theorem wm_4_56 : Cond.instanceMethod ({ cls := "ChatRelayModel", name := "deliver", desc := "(II)I" } : MethodName) ∈ lwg := wt4 56 rfl (by decide +kernel)
theorem wm_4_57 : Cond.selects "ChatRelayModel" ({ cls := "ChatRelayModel", name := "deliver", desc := "(II)I" } : MethodName) ({ cls := "ChatRelayModel", name := "deliver", desc := "(II)I" } : MethodName) ∈ lwg := wt4 57 rfl (by decide +kernel)
theorem wm_4_58 : Cond.code ({ cls := "ChatRelayModel", name := "deliver", desc := "(II)I" } : MethodName) prog_8_method_26_code (4 : Nat) (Option.some FieldType.int) ∈ lwg := wt4 58 rfl (by decide +kernel)
theorem wm_4_59 : Cond.methodLink "ChatRelayModel" (161 : Nat) ({ cls := "ChatRelayModel", name := "isLine", desc := "(II)Z" } : MethodName) ∈ lwg := wt4 59 rfl (by decide +kernel)
theorem wm_4_61 : Cond.instanceMethod ({ cls := "ChatRelayModel", name := "isLine", desc := "(II)Z" } : MethodName) ∈ lwg := wt4 61 rfl (by decide +kernel)
theorem wm_4_62 : Cond.code ({ cls := "ChatRelayModel", name := "isLine", desc := "(II)Z" } : MethodName) prog_8_method_24_code (3 : Nat) (Option.some FieldType.boolean) ∈ lwg := wt4 62 rfl (by decide +kernel)
theorem wm_4_63 : Cond.methodLink "ChatRelayModel" (164 : Nat) ({ cls := "ChatRelayModel", name := "delivers", desc := "(II)V" } : MethodName) ∈ lwg := wt4 63 rfl (by decide +kernel)
theorem wm_4_65 : Cond.instanceMethod ({ cls := "ChatRelayModel", name := "delivers", desc := "(II)V" } : MethodName) ∈ lwg := wt4 65 rfl (by decide +kernel)
theorem wm_4_66 : Cond.code ({ cls := "ChatRelayModel", name := "delivers", desc := "(II)V" } : MethodName) prog_8_method_25_code (3 : Nat) (Option.none : Option FieldType) ∈ lwg := wt4 66 rfl (by decide +kernel)
theorem wm_4_67 : Cond.methodLink "ChatRelayModel" (158 : Nat) ({ cls := "ChatRelayModel", name := "gets", desc := "(II)V" } : MethodName) ∈ lwg := wt4 67 rfl (by decide +kernel)
theorem wm_4_69 : Cond.instanceMethod ({ cls := "ChatRelayModel", name := "gets", desc := "(II)V" } : MethodName) ∈ lwg := wt4 69 rfl (by decide +kernel)
theorem wm_4_70 : Cond.code ({ cls := "ChatRelayModel", name := "gets", desc := "(II)V" } : MethodName) prog_8_method_19_code (3 : Nat) (Option.none : Option FieldType) ∈ lwg := wt4 70 rfl (by decide +kernel)
theorem wm_4_71 : Cond.methodLink "ChatRelayModel" (128 : Nat) ({ cls := "ChatRelayModel", name := "getsUser", desc := "(II)V" } : MethodName) ∈ lwg := wt4 71 rfl (by decide +kernel)
theorem wm_4_73 : Cond.instanceMethod ({ cls := "ChatRelayModel", name := "getsUser", desc := "(II)V" } : MethodName) ∈ lwg := wt4 73 rfl (by decide +kernel)
theorem wm_4_74 : Cond.code ({ cls := "ChatRelayModel", name := "getsUser", desc := "(II)V" } : MethodName) prog_8_method_17_code (5 : Nat) (Option.none : Option FieldType) ∈ lwg := wt4 74 rfl (by decide +kernel)
theorem wm_4_75 : Cond.methodLink "ChatRelayModel" (118 : Nat) ({ cls := "ChatRelayModel", name := "namesake", desc := "(III)I" } : MethodName) ∈ lwg := wt4 75 rfl (by decide +kernel)
theorem wm_4_77 : Cond.instanceMethod ({ cls := "ChatRelayModel", name := "namesake", desc := "(III)I" } : MethodName) ∈ lwg := wt4 77 rfl (by decide +kernel)
theorem wm_4_78 : Cond.code ({ cls := "ChatRelayModel", name := "namesake", desc := "(III)I" } : MethodName) prog_8_method_16_code (6 : Nat) (Option.some FieldType.int) ∈ lwg := wt4 78 rfl (by decide +kernel)
theorem wm_4_79 : Cond.methodLink "ChatRelayModel" (125 : Nat) ({ cls := "ChatRelayModel", name := "sends", desc := "(II)V" } : MethodName) ∈ lwg := wt4 79 rfl (by decide +kernel)
theorem wm_4_81 : Cond.instanceMethod ({ cls := "ChatRelayModel", name := "sends", desc := "(II)V" } : MethodName) ∈ lwg := wt4 81 rfl (by decide +kernel)
theorem wm_4_82 : Cond.code ({ cls := "ChatRelayModel", name := "sends", desc := "(II)V" } : MethodName) prog_8_method_11_code (4 : Nat) (Option.none : Option FieldType) ∈ lwg := wt4 82 rfl (by decide +kernel)
theorem wm_4_83 : Cond.methodLink "ChatRelayModel" (131 : Nat) ({ cls := "ChatRelayModel", name := "getsChannel", desc := "(I)V" } : MethodName) ∈ lwg := wt4 83 rfl (by decide +kernel)
theorem wm_4_85 : Cond.instanceMethod ({ cls := "ChatRelayModel", name := "getsChannel", desc := "(I)V" } : MethodName) ∈ lwg := wt4 85 rfl (by decide +kernel)
theorem wm_4_86 : Cond.code ({ cls := "ChatRelayModel", name := "getsChannel", desc := "(I)V" } : MethodName) prog_8_method_18_code (7 : Nat) (Option.none : Option FieldType) ∈ lwg := wt4 86 rfl (by decide +kernel)
theorem wm_4_87 : Cond.methodLink "ChatRelayLaw" (97 : Nat) ({ cls := "ChatRelayModel", name := "deliverAll", desc := "()I" } : MethodName) ∈ lwg := wt4 87 rfl (by decide +kernel)
theorem wm_4_88 : Cond.instanceMethod ({ cls := "ChatRelayModel", name := "deliverAll", desc := "()I" } : MethodName) ∈ lwg := wt4 88 rfl (by decide +kernel)
theorem wm_4_89 : Cond.selects "ChatRelayModel" ({ cls := "ChatRelayModel", name := "deliverAll", desc := "()I" } : MethodName) ({ cls := "ChatRelayModel", name := "deliverAll", desc := "()I" } : MethodName) ∈ lwg := wt4 89 rfl (by decide +kernel)
theorem wm_4_90 : Cond.code ({ cls := "ChatRelayModel", name := "deliverAll", desc := "()I" } : MethodName) prog_8_method_27_code (3 : Nat) (Option.some FieldType.int) ∈ lwg := wt4 90 rfl (by decide +kernel)
theorem wm_4_91 : Cond.methodLink "ChatRelayLaw" (101 : Nat) ({ cls := "ChatRelayModel", name := "lines", desc := "()I" } : MethodName) ∈ lwg := wt4 91 rfl (by decide +kernel)
theorem wm_4_92 : Cond.instanceMethod ({ cls := "ChatRelayModel", name := "lines", desc := "()I" } : MethodName) ∈ lwg := wt4 92 rfl (by decide +kernel)
theorem wm_4_93 : Cond.selects "ChatRelayModel" ({ cls := "ChatRelayModel", name := "lines", desc := "()I" } : MethodName) ({ cls := "ChatRelayModel", name := "lines", desc := "()I" } : MethodName) ∈ lwg := wt4 93 rfl (by decide +kernel)
theorem wm_4_94 : Cond.code ({ cls := "ChatRelayModel", name := "lines", desc := "()I" } : MethodName) prog_8_method_28_code (1 : Nat) (Option.some FieldType.int) ∈ lwg := wt4 94 rfl (by decide +kernel)
theorem wm_4_95 : Cond.methodLink "ChatRelayLaw" (105 : Nat) ({ cls := "ChatRelayModel", name := "tree", desc := "(I)I" } : MethodName) ∈ lwg := wt4 95 rfl (by decide +kernel)
theorem wm_4_96 : Cond.instanceMethod ({ cls := "ChatRelayModel", name := "tree", desc := "(I)I" } : MethodName) ∈ lwg := wt4 96 rfl (by decide +kernel)
theorem wm_4_97 : Cond.selects "ChatRelayModel" ({ cls := "ChatRelayModel", name := "tree", desc := "(I)I" } : MethodName) ({ cls := "ChatRelayModel", name := "tree", desc := "(I)I" } : MethodName) ∈ lwg := wt4 97 rfl (by decide +kernel)
theorem wm_4_98 : Cond.code ({ cls := "ChatRelayModel", name := "tree", desc := "(I)I" } : MethodName) prog_8_method_29_code (2 : Nat) (Option.some FieldType.int) ∈ lwg := wt4 98 rfl (by decide +kernel)
theorem wm_4_99 : Cond.methodLink "ChatRelayLaw" (109 : Nat) ({ cls := "ChatRelayModel", name := "signOn", desc := "(IC)I" } : MethodName) ∈ lwg := wt4 99 rfl (by decide +kernel)
theorem wm_4_100 : Cond.instanceMethod ({ cls := "ChatRelayModel", name := "signOn", desc := "(IC)I" } : MethodName) ∈ lwg := wt4 100 rfl (by decide +kernel)
theorem wm_4_101 : Cond.selects "ChatRelayModel" ({ cls := "ChatRelayModel", name := "signOn", desc := "(IC)I" } : MethodName) ({ cls := "ChatRelayModel", name := "signOn", desc := "(IC)I" } : MethodName) ∈ lwg := wt4 101 rfl (by decide +kernel)
theorem wm_4_102 : Cond.code ({ cls := "ChatRelayModel", name := "signOn", desc := "(IC)I" } : MethodName) prog_8_method_31_code (6 : Nat) (Option.some FieldType.int) ∈ lwg := wt4 102 rfl (by decide +kernel)
theorem wm_4_103 : Cond.methodLink "ChatRelayModel" (167 : Nat) ({ cls := "ChatRelayModel", name := "letter", desc := "(C)I" } : MethodName) ∈ lwg := wt4 103 rfl (by decide +kernel)
theorem wm_4_104 : Cond.static ({ cls := "ChatRelayModel", name := "letter", desc := "(C)I" } : MethodName) ∈ lwg := wt4 104 rfl (by decide +kernel)
theorem wm_4_105 : Cond.code ({ cls := "ChatRelayModel", name := "letter", desc := "(C)I" } : MethodName) prog_8_method_30_code (1 : Nat) (Option.some FieldType.int) ∈ lwg := wt4 105 rfl (by decide +kernel)
theorem wm_4_106 : Cond.methodLink "ChatRelayLaw" (113 : Nat) ({ cls := "ChatRelayModel", name := "quit", desc := "(I)V" } : MethodName) ∈ lwg := wt4 106 rfl (by decide +kernel)
theorem wm_4_107 : Cond.instanceMethod ({ cls := "ChatRelayModel", name := "quit", desc := "(I)V" } : MethodName) ∈ lwg := wt4 107 rfl (by decide +kernel)
theorem wm_4_108 : Cond.selects "ChatRelayModel" ({ cls := "ChatRelayModel", name := "quit", desc := "(I)V" } : MethodName) ({ cls := "ChatRelayModel", name := "quit", desc := "(I)V" } : MethodName) ∈ lwg := wt4 108 rfl (by decide +kernel)
theorem wm_4_109 : Cond.code ({ cls := "ChatRelayModel", name := "quit", desc := "(I)V" } : MethodName) prog_8_method_35_code (3 : Nat) (Option.none : Option FieldType) ∈ lwg := wt4 109 rfl (by decide +kernel)
theorem wm_4_110 : Cond.methodLink "ChatRelayModel" (171 : Nat) ({ cls := "ChatRelayModel", name := "isUser", desc := "(I)Z" } : MethodName) ∈ lwg := wt4 110 rfl (by decide +kernel)
theorem wm_4_112 : Cond.instanceMethod ({ cls := "ChatRelayModel", name := "isUser", desc := "(I)Z" } : MethodName) ∈ lwg := wt4 112 rfl (by decide +kernel)
theorem wm_4_113 : Cond.code ({ cls := "ChatRelayModel", name := "isUser", desc := "(I)Z" } : MethodName) prog_8_method_32_code (2 : Nat) (Option.some FieldType.boolean) ∈ lwg := wt4 113 rfl (by decide +kernel)
theorem wm_4_114 : Cond.methodLink "ChatRelayModel" (174 : Nat) ({ cls := "ChatRelayModel", name := "isGone", desc := "(I)Z" } : MethodName) ∈ lwg := wt4 114 rfl (by decide +kernel)
theorem wm_4_116 : Cond.instanceMethod ({ cls := "ChatRelayModel", name := "isGone", desc := "(I)Z" } : MethodName) ∈ lwg := wt4 116 rfl (by decide +kernel)
theorem wm_4_117 : Cond.code ({ cls := "ChatRelayModel", name := "isGone", desc := "(I)Z" } : MethodName) prog_8_method_33_code (2 : Nat) (Option.some FieldType.boolean) ∈ lwg := wt4 117 rfl (by decide +kernel)
theorem wm_4_118 : Cond.methodLink "ChatRelayLaw" (116 : Nat) ({ cls := "ChatRelayModel", name := "join", desc := "(II)I" } : MethodName) ∈ lwg := wt4 118 rfl (by decide +kernel)
theorem wm_4_119 : Cond.instanceMethod ({ cls := "ChatRelayModel", name := "join", desc := "(II)I" } : MethodName) ∈ lwg := wt4 119 rfl (by decide +kernel)
theorem wm_4_120 : Cond.selects "ChatRelayModel" ({ cls := "ChatRelayModel", name := "join", desc := "(II)I" } : MethodName) ({ cls := "ChatRelayModel", name := "join", desc := "(II)I" } : MethodName) ∈ lwg := wt4 120 rfl (by decide +kernel)
theorem wm_4_121 : Cond.code ({ cls := "ChatRelayModel", name := "join", desc := "(II)I" } : MethodName) prog_8_method_38_code (5 : Nat) (Option.some FieldType.int) ∈ lwg := wt4 121 rfl (by decide +kernel)
theorem wm_4_122 : Cond.methodLink "ChatRelayModel" (177 : Nat) ({ cls := "ChatRelayModel", name := "isChannel", desc := "(I)Z" } : MethodName) ∈ lwg := wt4 122 rfl (by decide +kernel)
theorem wm_4_123 : Cond.static ({ cls := "ChatRelayModel", name := "isChannel", desc := "(I)Z" } : MethodName) ∈ lwg := wt4 123 rfl (by decide +kernel)
theorem wm_4_124 : Cond.code ({ cls := "ChatRelayModel", name := "isChannel", desc := "(I)Z" } : MethodName) prog_8_method_5_code (1 : Nat) (Option.some FieldType.boolean) ∈ lwg := wt4 124 rfl (by decide +kernel)
theorem wm_4_125 : Cond.methodLink "ChatRelayModel" (180 : Nat) ({ cls := "ChatRelayModel", name := "isMember", desc := "(II)Z" } : MethodName) ∈ lwg := wt4 125 rfl (by decide +kernel)
theorem wm_4_127 : Cond.instanceMethod ({ cls := "ChatRelayModel", name := "isMember", desc := "(II)Z" } : MethodName) ∈ lwg := wt4 127 rfl (by decide +kernel)
theorem wm_4_128 : Cond.code ({ cls := "ChatRelayModel", name := "isMember", desc := "(II)Z" } : MethodName) prog_8_method_34_code (4 : Nat) (Option.some FieldType.boolean) ∈ lwg := wt4 128 rfl (by decide +kernel)
theorem wm_4_129 : Cond.methodLink "ChatRelayModel" (183 : Nat) ({ cls := "ChatRelayModel", name := "isBanned", desc := "(II)Z" } : MethodName) ∈ lwg := wt4 129 rfl (by decide +kernel)
theorem wm_4_131 : Cond.instanceMethod ({ cls := "ChatRelayModel", name := "isBanned", desc := "(II)Z" } : MethodName) ∈ lwg := wt4 131 rfl (by decide +kernel)
theorem wm_4_132 : Cond.code ({ cls := "ChatRelayModel", name := "isBanned", desc := "(II)Z" } : MethodName) prog_8_method_36_code (4 : Nat) (Option.some FieldType.boolean) ∈ lwg := wt4 132 rfl (by decide +kernel)
theorem wm_4_133 : Cond.methodLink "ChatRelayModel" (186 : Nat) ({ cls := "ChatRelayModel", name := "count", desc := "(I)I" } : MethodName) ∈ lwg := wt4 133 rfl (by decide +kernel)
theorem wm_4_134 : Cond.static ({ cls := "ChatRelayModel", name := "count", desc := "(I)I" } : MethodName) ∈ lwg := wt4 134 rfl (by decide +kernel)
theorem wm_4_135 : Cond.code ({ cls := "ChatRelayModel", name := "count", desc := "(I)I" } : MethodName) prog_8_method_37_code (3 : Nat) (Option.some FieldType.int) ∈ lwg := wt4 135 rfl (by decide +kernel)
theorem wm_4_136 : Cond.methodLink "ChatRelayLaw" (120 : Nat) ({ cls := "ChatRelayModel", name := "leave", desc := "(II)V" } : MethodName) ∈ lwg := wt4 136 rfl (by decide +kernel)
theorem wm_4_137 : Cond.instanceMethod ({ cls := "ChatRelayModel", name := "leave", desc := "(II)V" } : MethodName) ∈ lwg := wt4 137 rfl (by decide +kernel)
theorem wm_4_138 : Cond.selects "ChatRelayModel" ({ cls := "ChatRelayModel", name := "leave", desc := "(II)V" } : MethodName) ({ cls := "ChatRelayModel", name := "leave", desc := "(II)V" } : MethodName) ∈ lwg := wt4 138 rfl (by decide +kernel)
theorem wm_4_139 : Cond.code ({ cls := "ChatRelayModel", name := "leave", desc := "(II)V" } : MethodName) prog_8_method_39_code (4 : Nat) (Option.none : Option FieldType) ∈ lwg := wt4 139 rfl (by decide +kernel)
theorem wm_4_140 : Cond.methodLink "ChatRelayLaw" (124 : Nat) ({ cls := "ChatRelayModel", name := "setModes", desc := "(IIII)I" } : MethodName) ∈ lwg := wt4 140 rfl (by decide +kernel)
theorem wm_4_141 : Cond.instanceMethod ({ cls := "ChatRelayModel", name := "setModes", desc := "(IIII)I" } : MethodName) ∈ lwg := wt4 141 rfl (by decide +kernel)
theorem wm_4_142 : Cond.selects "ChatRelayModel" ({ cls := "ChatRelayModel", name := "setModes", desc := "(IIII)I" } : MethodName) ({ cls := "ChatRelayModel", name := "setModes", desc := "(IIII)I" } : MethodName) ∈ lwg := wt4 142 rfl (by decide +kernel)
theorem wm_4_143 : Cond.code ({ cls := "ChatRelayModel", name := "setModes", desc := "(IIII)I" } : MethodName) prog_8_method_40_code (9 : Nat) (Option.some FieldType.int) ∈ lwg := wt4 143 rfl (by decide +kernel)
theorem wm_4_144 : Cond.constant "ChatRelayModel" (189 : Nat) (67108863 : Int32) ∈ lwg := wt4 144 rfl (by decide +kernel)
theorem wm_4_145 : Cond.methodLink "ChatRelayLaw" (127 : Nat) ({ cls := "ChatRelayModel", name := "say", desc := "(II)I" } : MethodName) ∈ lwg := wt4 145 rfl (by decide +kernel)
theorem wm_4_146 : Cond.instanceMethod ({ cls := "ChatRelayModel", name := "say", desc := "(II)I" } : MethodName) ∈ lwg := wt4 146 rfl (by decide +kernel)
theorem wm_4_147 : Cond.selects "ChatRelayModel" ({ cls := "ChatRelayModel", name := "say", desc := "(II)I" } : MethodName) ({ cls := "ChatRelayModel", name := "say", desc := "(II)I" } : MethodName) ∈ lwg := wt4 147 rfl (by decide +kernel)
theorem wm_4_148 : Cond.code ({ cls := "ChatRelayModel", name := "say", desc := "(II)I" } : MethodName) prog_8_method_44_code (10 : Nat) (Option.some FieldType.int) ∈ lwg := wt4 148 rfl (by decide +kernel)
theorem wm_4_149 : Cond.methodLink "ChatRelayModel" (190 : Nat) ({ cls := "ChatRelayModel", name := "isEldest", desc := "(II)Z" } : MethodName) ∈ lwg := wt4 149 rfl (by decide +kernel)
theorem wm_4_151 : Cond.instanceMethod ({ cls := "ChatRelayModel", name := "isEldest", desc := "(II)Z" } : MethodName) ∈ lwg := wt4 151 rfl (by decide +kernel)
theorem wm_4_152 : Cond.code ({ cls := "ChatRelayModel", name := "isEldest", desc := "(II)Z" } : MethodName) prog_8_method_41_code (5 : Nat) (Option.some FieldType.boolean) ∈ lwg := wt4 152 rfl (by decide +kernel)
theorem wm_4_153 : Cond.methodLink "ChatRelayModel" (193 : Nat) ({ cls := "ChatRelayModel", name := "homesOf", desc := "(I)I" } : MethodName) ∈ lwg := wt4 153 rfl (by decide +kernel)
theorem wm_4_155 : Cond.instanceMethod ({ cls := "ChatRelayModel", name := "homesOf", desc := "(I)I" } : MethodName) ∈ lwg := wt4 155 rfl (by decide +kernel)
theorem wm_4_156 : Cond.code ({ cls := "ChatRelayModel", name := "homesOf", desc := "(I)I" } : MethodName) prog_8_method_43_code (4 : Nat) (Option.some FieldType.int) ∈ lwg := wt4 156 rfl (by decide +kernel)
theorem wm_4_157 : Cond.methodLink "ChatRelayModel" (196 : Nat) ({ cls := "ChatRelayModel", name := "behind", desc := "(II)I" } : MethodName) ∈ lwg := wt4 157 rfl (by decide +kernel)
theorem wm_4_159 : Cond.instanceMethod ({ cls := "ChatRelayModel", name := "behind", desc := "(II)I" } : MethodName) ∈ lwg := wt4 159 rfl (by decide +kernel)
theorem wm_4_160 : Cond.code ({ cls := "ChatRelayModel", name := "behind", desc := "(II)I" } : MethodName) prog_8_method_42_code (6 : Nat) (Option.some FieldType.int) ∈ lwg := wt4 160 rfl (by decide +kernel)
theorem wm_4_161 : Cond.methodLink "ChatRelayLaw" (131 : Nat) ({ cls := "ChatRelayModel", name := "users", desc := "()I" } : MethodName) ∈ lwg := wt4 161 rfl (by decide +kernel)
theorem wm_4_162 : Cond.instanceMethod ({ cls := "ChatRelayModel", name := "users", desc := "()I" } : MethodName) ∈ lwg := wt4 162 rfl (by decide +kernel)
theorem wm_4_163 : Cond.selects "ChatRelayModel" ({ cls := "ChatRelayModel", name := "users", desc := "()I" } : MethodName) ({ cls := "ChatRelayModel", name := "users", desc := "()I" } : MethodName) ∈ lwg := wt4 163 rfl (by decide +kernel)
theorem wm_4_164 : Cond.code ({ cls := "ChatRelayModel", name := "users", desc := "()I" } : MethodName) prog_8_method_45_code (1 : Nat) (Option.some FieldType.int) ∈ lwg := wt4 164 rfl (by decide +kernel)
theorem wm_4_165 : Cond.methodLink "ChatRelayLaw" (135 : Nat) ({ cls := "ChatRelayModel", name := "clock", desc := "()I" } : MethodName) ∈ lwg := wt4 165 rfl (by decide +kernel)
theorem wm_4_166 : Cond.instanceMethod ({ cls := "ChatRelayModel", name := "clock", desc := "()I" } : MethodName) ∈ lwg := wt4 166 rfl (by decide +kernel)
theorem wm_4_167 : Cond.selects "ChatRelayModel" ({ cls := "ChatRelayModel", name := "clock", desc := "()I" } : MethodName) ({ cls := "ChatRelayModel", name := "clock", desc := "()I" } : MethodName) ∈ lwg := wt4 167 rfl (by decide +kernel)
theorem wm_4_168 : Cond.code ({ cls := "ChatRelayModel", name := "clock", desc := "()I" } : MethodName) prog_8_method_46_code (1 : Nat) (Option.some FieldType.int) ∈ lwg := wt4 168 rfl (by decide +kernel)
theorem wm_4_169 : Cond.methodLink "ChatRelayLaw" (138 : Nat) ({ cls := "ChatRelayModel", name := "known", desc := "(I)I" } : MethodName) ∈ lwg := wt4 169 rfl (by decide +kernel)
theorem wm_4_170 : Cond.instanceMethod ({ cls := "ChatRelayModel", name := "known", desc := "(I)I" } : MethodName) ∈ lwg := wt4 170 rfl (by decide +kernel)
theorem wm_4_171 : Cond.selects "ChatRelayModel" ({ cls := "ChatRelayModel", name := "known", desc := "(I)I" } : MethodName) ({ cls := "ChatRelayModel", name := "known", desc := "(I)I" } : MethodName) ∈ lwg := wt4 171 rfl (by decide +kernel)
theorem wm_4_172 : Cond.code ({ cls := "ChatRelayModel", name := "known", desc := "(I)I" } : MethodName) prog_8_method_47_code (2 : Nat) (Option.some FieldType.int) ∈ lwg := wt4 172 rfl (by decide +kernel)
theorem wm_4_173 : Cond.methodLink "ChatRelayLaw" (141 : Nat) ({ cls := "ChatRelayModel", name := "members", desc := "(II)I" } : MethodName) ∈ lwg := wt4 173 rfl (by decide +kernel)
theorem wm_4_174 : Cond.instanceMethod ({ cls := "ChatRelayModel", name := "members", desc := "(II)I" } : MethodName) ∈ lwg := wt4 174 rfl (by decide +kernel)
theorem wm_4_175 : Cond.selects "ChatRelayModel" ({ cls := "ChatRelayModel", name := "members", desc := "(II)I" } : MethodName) ({ cls := "ChatRelayModel", name := "members", desc := "(II)I" } : MethodName) ∈ lwg := wt4 175 rfl (by decide +kernel)
theorem wm_4_176 : Cond.code ({ cls := "ChatRelayModel", name := "members", desc := "(II)I" } : MethodName) prog_8_method_49_code (3 : Nat) (Option.some FieldType.int) ∈ lwg := wt4 176 rfl (by decide +kernel)
theorem wm_4_177 : Cond.methodLink "ChatRelayModel" (199 : Nat) ({ cls := "ChatRelayModel", name := "isView", desc := "(II)Z" } : MethodName) ∈ lwg := wt4 177 rfl (by decide +kernel)
theorem wm_4_179 : Cond.instanceMethod ({ cls := "ChatRelayModel", name := "isView", desc := "(II)Z" } : MethodName) ∈ lwg := wt4 179 rfl (by decide +kernel)
theorem wm_4_180 : Cond.code ({ cls := "ChatRelayModel", name := "isView", desc := "(II)Z" } : MethodName) prog_8_method_48_code (3 : Nat) (Option.some FieldType.boolean) ∈ lwg := wt4 180 rfl (by decide +kernel)
theorem wm_4_181 : Cond.methodLink "ChatRelayLaw" (144 : Nat) ({ cls := "ChatRelayModel", name := "age", desc := "(II)I" } : MethodName) ∈ lwg := wt4 181 rfl (by decide +kernel)
theorem wm_4_182 : Cond.instanceMethod ({ cls := "ChatRelayModel", name := "age", desc := "(II)I" } : MethodName) ∈ lwg := wt4 182 rfl (by decide +kernel)
theorem wm_4_183 : Cond.selects "ChatRelayModel" ({ cls := "ChatRelayModel", name := "age", desc := "(II)I" } : MethodName) ({ cls := "ChatRelayModel", name := "age", desc := "(II)I" } : MethodName) ∈ lwg := wt4 183 rfl (by decide +kernel)
theorem wm_4_184 : Cond.code ({ cls := "ChatRelayModel", name := "age", desc := "(II)I" } : MethodName) prog_8_method_50_code (3 : Nat) (Option.some FieldType.int) ∈ lwg := wt4 184 rfl (by decide +kernel)
theorem wm_4_185 : Cond.methodLink "ChatRelayLaw" (147 : Nat) ({ cls := "ChatRelayModel", name := "modes", desc := "(II)I" } : MethodName) ∈ lwg := wt4 185 rfl (by decide +kernel)
theorem wm_4_186 : Cond.instanceMethod ({ cls := "ChatRelayModel", name := "modes", desc := "(II)I" } : MethodName) ∈ lwg := wt4 186 rfl (by decide +kernel)
theorem wm_4_187 : Cond.selects "ChatRelayModel" ({ cls := "ChatRelayModel", name := "modes", desc := "(II)I" } : MethodName) ({ cls := "ChatRelayModel", name := "modes", desc := "(II)I" } : MethodName) ∈ lwg := wt4 187 rfl (by decide +kernel)
theorem wm_4_188 : Cond.code ({ cls := "ChatRelayModel", name := "modes", desc := "(II)I" } : MethodName) prog_8_method_51_code (3 : Nat) (Option.some FieldType.int) ∈ lwg := wt4 188 rfl (by decide +kernel)
theorem wm_4_189 : Cond.methodLink "ChatRelayLaw" (150 : Nat) ({ cls := "ChatRelayModel", name := "bans", desc := "(II)I" } : MethodName) ∈ lwg := wt4 189 rfl (by decide +kernel)
theorem wm_4_190 : Cond.instanceMethod ({ cls := "ChatRelayModel", name := "bans", desc := "(II)I" } : MethodName) ∈ lwg := wt4 190 rfl (by decide +kernel)
theorem wm_4_191 : Cond.selects "ChatRelayModel" ({ cls := "ChatRelayModel", name := "bans", desc := "(II)I" } : MethodName) ({ cls := "ChatRelayModel", name := "bans", desc := "(II)I" } : MethodName) ∈ lwg := wt4 191 rfl (by decide +kernel)
theorem wm_4_192 : Cond.code ({ cls := "ChatRelayModel", name := "bans", desc := "(II)I" } : MethodName) prog_8_method_52_code (3 : Nat) (Option.some FieldType.int) ∈ lwg := wt4 192 rfl (by decide +kernel)
theorem wm_4_193 : Cond.methodLink "ChatRelayLaw" (153 : Nat) ({ cls := "ChatRelayModel", name := "areSame", desc := "(II)Z" } : MethodName) ∈ lwg := wt4 193 rfl (by decide +kernel)
theorem wm_4_194 : Cond.instanceMethod ({ cls := "ChatRelayModel", name := "areSame", desc := "(II)Z" } : MethodName) ∈ lwg := wt4 194 rfl (by decide +kernel)
theorem wm_4_195 : Cond.selects "ChatRelayModel" ({ cls := "ChatRelayModel", name := "areSame", desc := "(II)Z" } : MethodName) ({ cls := "ChatRelayModel", name := "areSame", desc := "(II)Z" } : MethodName) ∈ lwg := wt4 195 rfl (by decide +kernel)
theorem wm_4_196 : Cond.code ({ cls := "ChatRelayModel", name := "areSame", desc := "(II)Z" } : MethodName) prog_8_method_53_code (8 : Nat) (Option.some FieldType.boolean) ∈ lwg := wt4 196 rfl (by decide +kernel)
theorem wm_4_197 : Cond.methodLink "ChatRelayLaw" (157 : Nat) ({ cls := "ChatRelayModel", name := "joinedModes", desc := "(III)I" } : MethodName) ∈ lwg := wt4 197 rfl (by decide +kernel)
theorem wm_4_198 : Cond.instanceMethod ({ cls := "ChatRelayModel", name := "joinedModes", desc := "(III)I" } : MethodName) ∈ lwg := wt4 198 rfl (by decide +kernel)
theorem wm_4_199 : Cond.selects "ChatRelayModel" ({ cls := "ChatRelayModel", name := "joinedModes", desc := "(III)I" } : MethodName) ({ cls := "ChatRelayModel", name := "joinedModes", desc := "(III)I" } : MethodName) ∈ lwg := wt4 199 rfl (by decide +kernel)
theorem wm_4_200 : Cond.code ({ cls := "ChatRelayModel", name := "joinedModes", desc := "(III)I" } : MethodName) prog_8_method_54_code (6 : Nat) (Option.some FieldType.int) ∈ lwg := wt4 200 rfl (by decide +kernel)
theorem wm_4_201 : Cond.arrayClass FieldType.long ∈ lwg := wt4 201 rfl (by decide +kernel)
theorem wm_0_0 : Cond.selects "ChatRelay" ⟨"ChatRelay", "deliverRound", "()I"⟩ ⟨"ChatRelay", "deliverRound", "()I"⟩ ∈ lwg := wt0 0 rfl (by decide +kernel)
theorem wm_0_1 : Cond.selects "ChatRelay" ⟨"ChatRelay", "deliverFirst", "(II)Z"⟩ ⟨"ChatRelay", "deliverFirst", "(II)Z"⟩ ∈ lwg := wt0 1 rfl (by decide +kernel)
theorem wm_0_2 : Cond.selects "ChatRelay" ⟨"ChatRelay", "receiveUser", "(LChatRelay$Line;II)V"⟩ ⟨"ChatRelay", "receiveUser", "(LChatRelay$Line;II)V"⟩ ∈ lwg := wt0 2 rfl (by decide +kernel)
theorem wm_0_3 : Cond.selects "ChatRelay" ⟨"ChatRelay", "namesake", "(LChatRelay$View;II)I"⟩ ⟨"ChatRelay", "namesake", "(LChatRelay$View;II)I"⟩ ∈ lwg := wt0 3 rfl (by decide +kernel)
theorem wm_0_4 : Cond.selects "ChatRelay" ⟨"ChatRelay", "receiveQuit", "(LChatRelay$Line;II)V"⟩ ⟨"ChatRelay", "receiveQuit", "(LChatRelay$Line;II)V"⟩ ∈ lwg := wt0 4 rfl (by decide +kernel)
theorem wm_0_5 : Cond.selects "ChatRelay" ⟨"ChatRelay", "receiveChannel", "(LChatRelay$Line;II)V"⟩ ⟨"ChatRelay", "receiveChannel", "(LChatRelay$Line;II)V"⟩ ∈ lwg := wt0 5 rfl (by decide +kernel)
theorem wm_0_6 : Cond.selects "ChatRelay" ⟨"ChatRelay", "receiveModes", "(LChatRelay$Line;II)V"⟩ ⟨"ChatRelay", "receiveModes", "(LChatRelay$Line;II)V"⟩ ∈ lwg := wt0 6 rfl (by decide +kernel)
theorem wm_0_7 : Cond.selects "java/lang/Throwable" ⟨"java/lang/Throwable", "fillInStackTrace", "(I)Ljava/lang/Throwable;"⟩ ⟨"java/lang/Throwable", "fillInStackTrace", "(I)Ljava/lang/Throwable;"⟩ ∈ lwg := wt0 7 rfl (by decide +kernel)
theorem wm_0_8 : Cond.selects "ChatRelay" ⟨"ChatRelay", "burst", "(II)V"⟩ ⟨"ChatRelay", "burst", "(II)V"⟩ ∈ lwg := wt0 8 rfl (by decide +kernel)
theorem wm_0_9 : Cond.selects "ChatRelay" ⟨"ChatRelay", "forgetUnreached", "(I)V"⟩ ⟨"ChatRelay", "forgetUnreached", "(I)V"⟩ ∈ lwg := wt0 9 rfl (by decide +kernel)
theorem wm_0_10 : Cond.selects "ChatRelay" ⟨"ChatRelay", "checkUser", "(I)V"⟩ ⟨"ChatRelay", "checkUser", "(I)V"⟩ ∈ lwg := wt0 10 rfl (by decide +kernel)
theorem wm_0_11 : Cond.selects "ChatRelay" ⟨"ChatRelay", "checkNotGone", "(I)V"⟩ ⟨"ChatRelay", "checkNotGone", "(I)V"⟩ ∈ lwg := wt0 11 rfl (by decide +kernel)
theorem wm_0_12 : Cond.selects "ChatRelay" ⟨"ChatRelay", "isGone", "(I)Z"⟩ ⟨"ChatRelay", "isGone", "(I)Z"⟩ ∈ lwg := wt0 12 rfl (by decide +kernel)
theorem wm_0_13 : Cond.selects "ChatRelay" ⟨"ChatRelay", "checkMember", "(II)V"⟩ ⟨"ChatRelay", "checkMember", "(II)V"⟩ ∈ lwg := wt0 13 rfl (by decide +kernel)
theorem wm_0_14 : Cond.selects "ChatRelay" ⟨"ChatRelay", "eldestOf", "(I)I"⟩ ⟨"ChatRelay", "eldestOf", "(I)I"⟩ ∈ lwg := wt0 14 rfl (by decide +kernel)
theorem wm_0_15 : Cond.selects "ChatRelay" ⟨"ChatRelay", "homesOf", "(I)I"⟩ ⟨"ChatRelay", "homesOf", "(I)I"⟩ ∈ lwg := wt0 15 rfl (by decide +kernel)
theorem wm_0_16 : Cond.selects "ChatRelayModel" ⟨"ChatRelayModel", "treeOf", "(I)I"⟩ ⟨"ChatRelayModel", "treeOf", "(I)I"⟩ ∈ lwg := wt0 16 rfl (by decide +kernel)
theorem wm_0_17 : Cond.selects "ChatRelayModel" ⟨"ChatRelayModel", "holds", "(I)Z"⟩ ⟨"ChatRelayModel", "holds", "(I)Z"⟩ ∈ lwg := wt0 17 rfl (by decide +kernel)
theorem wm_0_18 : Cond.selects "ChatRelayModel" ⟨"ChatRelayModel", "bursts", "(II)V"⟩ ⟨"ChatRelayModel", "bursts", "(II)V"⟩ ∈ lwg := wt0 18 rfl (by decide +kernel)
theorem wm_0_19 : Cond.selects "ChatRelayModel" ⟨"ChatRelayModel", "makes", "(III)V"⟩ ⟨"ChatRelayModel", "makes", "(III)V"⟩ ∈ lwg := wt0 19 rfl (by decide +kernel)
theorem wm_0_20 : Cond.selects "ChatRelayModel" ⟨"ChatRelayModel", "puts", "(II)V"⟩ ⟨"ChatRelayModel", "puts", "(II)V"⟩ ∈ lwg := wt0 20 rfl (by decide +kernel)
theorem wm_0_21 : Cond.selects "ChatRelayModel" ⟨"ChatRelayModel", "tells", "(IIII)V"⟩ ⟨"ChatRelayModel", "tells", "(IIII)V"⟩ ∈ lwg := wt0 21 rfl (by decide +kernel)
theorem wm_0_22 : Cond.selects "ChatRelayModel" ⟨"ChatRelayModel", "takes", "(I)V"⟩ ⟨"ChatRelayModel", "takes", "(I)V"⟩ ∈ lwg := wt0 22 rfl (by decide +kernel)
theorem wm_0_23 : Cond.selects "ChatRelayModel" ⟨"ChatRelayModel", "forgets", "()V"⟩ ⟨"ChatRelayModel", "forgets", "()V"⟩ ∈ lwg := wt0 23 rfl (by decide +kernel)
theorem wm_0_24 : Cond.selects "ChatRelayModel" ⟨"ChatRelayModel", "quits", "(II)V"⟩ ⟨"ChatRelayModel", "quits", "(II)V"⟩ ∈ lwg := wt0 24 rfl (by decide +kernel)
theorem wm_0_25 : Cond.selects "ChatRelayModel" ⟨"ChatRelayModel", "leaves", "(III)V"⟩ ⟨"ChatRelayModel", "leaves", "(III)V"⟩ ∈ lwg := wt0 25 rfl (by decide +kernel)
theorem wm_0_26 : Cond.selects "ChatRelayModel" ⟨"ChatRelayModel", "isLine", "(II)Z"⟩ ⟨"ChatRelayModel", "isLine", "(II)Z"⟩ ∈ lwg := wt0 26 rfl (by decide +kernel)
theorem wm_0_27 : Cond.selects "ChatRelayModel" ⟨"ChatRelayModel", "delivers", "(II)V"⟩ ⟨"ChatRelayModel", "delivers", "(II)V"⟩ ∈ lwg := wt0 27 rfl (by decide +kernel)
theorem wm_0_28 : Cond.selects "ChatRelayModel" ⟨"ChatRelayModel", "gets", "(II)V"⟩ ⟨"ChatRelayModel", "gets", "(II)V"⟩ ∈ lwg := wt0 28 rfl (by decide +kernel)
theorem wm_0_29 : Cond.selects "ChatRelayModel" ⟨"ChatRelayModel", "getsUser", "(II)V"⟩ ⟨"ChatRelayModel", "getsUser", "(II)V"⟩ ∈ lwg := wt0 29 rfl (by decide +kernel)
theorem wm_0_30 : Cond.selects "ChatRelayModel" ⟨"ChatRelayModel", "namesake", "(III)I"⟩ ⟨"ChatRelayModel", "namesake", "(III)I"⟩ ∈ lwg := wt0 30 rfl (by decide +kernel)
theorem wm_0_31 : Cond.selects "ChatRelayModel" ⟨"ChatRelayModel", "sends", "(II)V"⟩ ⟨"ChatRelayModel", "sends", "(II)V"⟩ ∈ lwg := wt0 31 rfl (by decide +kernel)
theorem wm_0_32 : Cond.selects "ChatRelayModel" ⟨"ChatRelayModel", "getsChannel", "(I)V"⟩ ⟨"ChatRelayModel", "getsChannel", "(I)V"⟩ ∈ lwg := wt0 32 rfl (by decide +kernel)
theorem wm_0_33 : Cond.selects "ChatRelayModel" ⟨"ChatRelayModel", "isUser", "(I)Z"⟩ ⟨"ChatRelayModel", "isUser", "(I)Z"⟩ ∈ lwg := wt0 33 rfl (by decide +kernel)
theorem wm_0_34 : Cond.selects "ChatRelayModel" ⟨"ChatRelayModel", "isGone", "(I)Z"⟩ ⟨"ChatRelayModel", "isGone", "(I)Z"⟩ ∈ lwg := wt0 34 rfl (by decide +kernel)
theorem wm_0_35 : Cond.selects "ChatRelayModel" ⟨"ChatRelayModel", "isMember", "(II)Z"⟩ ⟨"ChatRelayModel", "isMember", "(II)Z"⟩ ∈ lwg := wt0 35 rfl (by decide +kernel)
theorem wm_0_36 : Cond.selects "ChatRelayModel" ⟨"ChatRelayModel", "isBanned", "(II)Z"⟩ ⟨"ChatRelayModel", "isBanned", "(II)Z"⟩ ∈ lwg := wt0 36 rfl (by decide +kernel)
theorem wm_0_37 : Cond.selects "ChatRelayModel" ⟨"ChatRelayModel", "isEldest", "(II)Z"⟩ ⟨"ChatRelayModel", "isEldest", "(II)Z"⟩ ∈ lwg := wt0 37 rfl (by decide +kernel)
theorem wm_0_38 : Cond.selects "ChatRelayModel" ⟨"ChatRelayModel", "homesOf", "(I)I"⟩ ⟨"ChatRelayModel", "homesOf", "(I)I"⟩ ∈ lwg := wt0 38 rfl (by decide +kernel)
theorem wm_0_39 : Cond.selects "ChatRelayModel" ⟨"ChatRelayModel", "behind", "(II)I"⟩ ⟨"ChatRelayModel", "behind", "(II)I"⟩ ∈ lwg := wt0 39 rfl (by decide +kernel)
theorem wm_0_40 : Cond.selects "ChatRelayModel" ⟨"ChatRelayModel", "isView", "(II)Z"⟩ ⟨"ChatRelayModel", "isView", "(II)Z"⟩ ∈ lwg := wt0 40 rfl (by decide +kernel)
end
section
/-! MEMORY: types of addresses, whole numbers, references, longs; a picture of the heap -/
abbrev Mem : Type := (Nat → Option (Nat × Nat)) × (Nat → Nat → Int32) × (Nat → Nat → Option Nat) × (Nat → Nat → Int64)
def gT (M : Mem) (a : Nat) : Option (Nat × Nat) := M.1 a
def gI (M : Mem) (a k : Nat) : Int32 := M.2.1 a k
def gR (M : Mem) (a k : Nat) : Option Nat := M.2.2.1 a k
def gL (M : Mem) (a k : Nat) : Int64 := M.2.2.2 a k
def sI (M : Mem) (a k : Nat) (x : Int32) : Mem := (M.1, (fun b j => if b = a ∧ j = k then x else M.2.1 b j), M.2.2.1, M.2.2.2)
def sR (M : Mem) (a k : Nat) (x : Option Nat) : Mem := (M.1, M.2.1, (fun b j => if b = a ∧ j = k then x else M.2.2.1 b j), M.2.2.2)
def sL (M : Mem) (a k : Nat) (x : Int64) : Mem := (M.1, M.2.1, M.2.2.1, fun b j => if b = a ∧ j = k then x else M.2.2.2 b j)
def sN (M : Mem) (a : Nat) (ty : Nat × Nat) : Mem := ((fun b => if b = a then some ty else M.1 b), (fun b j => if b = a then 0 else M.2.1 b j), (fun b j => if b = a then none else M.2.2.1 b j), fun b j => if b = a then 0 else M.2.2.2 b j)
theorem gT_sI (M : Mem) (a k : Nat) (x : Int32) (b : Nat) : gT (sI M a k x) b = gT M b := rfl
theorem gT_sR (M : Mem) (a k : Nat) (x : Option Nat) (b : Nat) : gT (sR M a k x) b = gT M b := rfl
theorem gT_sL (M : Mem) (a k : Nat) (x : Int64) (b : Nat) : gT (sL M a k x) b = gT M b := rfl
theorem gT_sN (M : Mem) (a : Nat) (ty : Nat × Nat) (b : Nat) : gT (sN M a ty) b = if b = a then some ty else gT M b := rfl
theorem gI_sI (M : Mem) (a k : Nat) (x : Int32) (b j : Nat) : gI (sI M a k x) b j = if b = a ∧ j = k then x else gI M b j := rfl
theorem gI_sR (M : Mem) (a k : Nat) (x : Option Nat) (b j : Nat) : gI (sR M a k x) b j = gI M b j := rfl
theorem gI_sL (M : Mem) (a k : Nat) (x : Int64) (b j : Nat) : gI (sL M a k x) b j = gI M b j := rfl
theorem gI_sN (M : Mem) (a : Nat) (ty : Nat × Nat) (b j : Nat) : gI (sN M a ty) b j = if b = a then 0 else gI M b j := rfl
theorem gR_sI (M : Mem) (a k : Nat) (x : Int32) (b j : Nat) : gR (sI M a k x) b j = gR M b j := rfl
theorem gR_sR (M : Mem) (a k : Nat) (x : Option Nat) (b j : Nat) : gR (sR M a k x) b j = if b = a ∧ j = k then x else gR M b j := rfl
theorem gR_sL (M : Mem) (a k : Nat) (x : Int64) (b j : Nat) : gR (sL M a k x) b j = gR M b j := rfl
theorem gR_sN (M : Mem) (a : Nat) (ty : Nat × Nat) (b j : Nat) : gR (sN M a ty) b j = if b = a then none else gR M b j := rfl
theorem gL_sI (M : Mem) (a k : Nat) (x : Int32) (b j : Nat) : gL (sI M a k x) b j = gL M b j := rfl
theorem gL_sR (M : Mem) (a k : Nat) (x : Option Nat) (b j : Nat) : gL (sR M a k x) b j = gL M b j := rfl
theorem gL_sL (M : Mem) (a k : Nat) (x : Int64) (b j : Nat) : gL (sL M a k x) b j = if b = a ∧ j = k then x else gL M b j := rfl
theorem gL_sN (M : Mem) (a : Nat) (ty : Nat × Nat) (b j : Nat) : gL (sN M a ty) b j = if b = a then 0 else gL M b j := rfl
/-- which fields are whole numbers: Channel 0, Line 1, LineQueue 2, View 3, Wires 4, ChatRelay 5, ChatRelayModel 6 -/
def kd (c k : Nat) : Bool := match c with
  | 0 => true
  | 1 => decide (k < 7)
  | 2 => false
  | 3 => decide (k = 0)
  | 4 => decide (k = 2 ∨ k = 4)
  | 5 => decide (6 ≤ k)
  | _ => decide (k < 3 ∨ k = 14 ∨ k = 15 ∨ 23 ≤ k)
def nf (c : Nat) : Nat := match c with
  | 0 => 4
  | 1 => 8
  | 2 => 2
  | 3 => 2
  | 4 => 5
  | 5 => 8
  | _ => 29
def fV (M : Mem) (a c k : Nat) : Value := if kd c k = true then .int (gI M a k) else va_rf (gR M a k)
def aE (M : Mem) (a c n : Nat) : vp_A := (n, if c = 10 then .inl (gI M a) else if c = 11 then .inr (.inl (gL M a)) else .inr (.inr (.inr (.inr (gR M a)))))
def pcell (D : va_G) (dA : Nat → ClassId) (M : Mem) (H : Heap) (a c n : Nat) : Prop := if c < 7 then t_OB a (D.1 c) (nf c) (D.2 c) H (fV M a c) else H[a]? = some (vp_cell (dA c) (aE M a c n))
def pic (D : va_G) (dA : Nat → ClassId) (M : Mem) (H : Heap) : Prop := ∀ a c n : Nat, gT M a = some (c, n) → pcell D dA M H a c n
theorem pcell_kept {D : va_G} {dA : Nat → ClassId} {M M' : Mem} {H H1 : Heap} {a c n : Nat} (h : pcell D dA M H a c n) (hI : ∀ j, gI M' a j = gI M a j) (hR : ∀ j, gR M' a j = gR M a j) (hL : ∀ j, gL M' a j = gL M a j) (hq : H1[a]? = H[a]?) : pcell D dA M' H1 a c n := by
  unfold pcell at h ⊢
  split at h
  · rename_i hc
    rw [if_pos hc]
    refine (h.kept hq).to (fun k _ => ?_)
    unfold fV
    rw [hI, hR]
  · rename_i hc
    rw [if_neg hc, hq, h]
    unfold aE
    rw [show gI M' a = gI M a from funext hI, show gR M' a = gR M a from funext hR, show gL M' a = gL M a from funext hL]
theorem pcell_lt {D : va_G} {dA : Nat → ClassId} {M : Mem} {H : Heap} {a c n : Nat} (h : pcell D dA M H a c n) : a < H.size := by
  unfold pcell at h
  split at h
  · obtain ⟨cell, h2, -⟩ := h
    exact (Array.getElem?_eq_some_iff.mp h2).1
  · exact (Array.getElem?_eq_some_iff.mp h).1
theorem pic_lt {D : va_G} {dA : Nat → ClassId} {M : Mem} {H : Heap} (hP : pic D dA M H) {a : Nat} (h : gT M a ≠ none) : a < H.size := by
  cases e : gT M a with
  | none => exact absurd e h
  | some t => exact pcell_lt (hP a t.1 t.2 e)
/-- one cell has changed -/
theorem pic_upd {D : va_G} {dA : Nat → ClassId} {M M' : Mem} {H H1 : Heap} {a : Nat} (hP : pic D dA M H) (hT : ∀ b, gT M' b = gT M b) (hI : ∀ b j, b ≠ a → gI M' b j = gI M b j) (hR : ∀ b j, b ≠ a → gR M' b j = gR M b j) (hL : ∀ b j, b ≠ a → gL M' b j = gL M b j) (hq : ∀ q : Nat, q ≠ a → H1[q]? = H[q]?) (ha : ∀ c n, gT M a = some (c, n) → pcell D dA M' H1 a c n) : pic D dA M' H1 := by
  intro b c n hb
  rw [hT] at hb
  by_cases e : b = a
  · subst e
    exact ha c n hb
  · exact pcell_kept (hP b c n hb) (fun j => hI b j e) (fun j => hR b j e) (fun j => hL b j e) (hq b e)
/-- a cell has come -/
theorem pic_new {D : va_G} {dA : Nat → ClassId} {M : Mem} {H H1 : Heap} {a : Nat} {ty : Nat × Nat} (hP : pic D dA M H) (hz : a = H.size) (hq : ∀ q : Nat, q < H.size → H1[q]? = H[q]?) (ha : pcell D dA (sN M a ty) H1 a ty.1 ty.2) : gT M a = none ∧ pic D dA (sN M a ty) H1 := by
  have h0 : gT M a = none := by
    cases e : gT M a with
    | none => rfl
    | some t => exact absurd (pic_lt hP (a := a) (by rw [e]; exact fun h => by cases h)) (by omega)
  refine ⟨h0, fun b c n hb => ?_⟩
  rw [gT_sN] at hb
  by_cases e : b = a
  · rw [if_pos e] at hb
    cases hb
    rw [e]
    exact ha
  · rw [if_neg e] at hb
    exact pcell_kept (hP b c n hb) (fun j => by rw [gI_sN, if_neg e]) (fun j => by rw [gR_sN, if_neg e]) (fun j => by rw [gL_sN, if_neg e]) (hq b (pcell_lt (hP b c n hb)))
def tysA (dA : Nat → ClassId) : List (ClassId × FieldType) := [(dA 10, .int), (dA 11, .long), (dA 12, .object RX3), (dA 13, .object RX0), (dA 14, .object RX2)]
/-! what the tables say beside the words that last -/
def xwN : List Cond := [.methodLinkNest RX4 32 yX2_init "ChatRelay", .methodLinkNest RX5 34 yX1_init "ChatRelay", .methodLinkNest RX3 21 yX0_init "ChatRelay", .methodLinkNest RX4 33 yX5_has "ChatRelay", .methodLinkNest RX3 22 yX5_has "ChatRelay", .methodLinkNest RX4 71 yX1_init "ChatRelay", .methodLinkNest RX0 28 yX5_settledSet "ChatRelay", .castable "java/lang/IndexOutOfBoundsException" "java/lang/IndexOutOfBoundsException", .castable "java/lang/IllegalStateException" "java/lang/IllegalStateException", .castable "java/lang/IllegalArgumentException" "java/lang/IllegalArgumentException", .declares (Bundle.initS "java/lang/RuntimeException"), .declares (Bundle.initS "java/lang/Exception"), .declares (Bundle.initS "java/lang/Throwable")]
def xwC : List (String × String) := [("java/lang/IllegalStateException", "java/lang/IndexOutOfBoundsException"), ("java/lang/IllegalArgumentException", "java/lang/IndexOutOfBoundsException"), ("java/lang/IllegalStateException", "java/lang/IllegalArgumentException")]
def xwS : List (Nat × String) := [(212, "there is no such server"), (61, "both are in one tree"), (79, "they have no link"), (90, "there is no line"), (103, "the name is no letter"), (110, "the name is known there, or 20 users have signed on"), (217, "there is no such user"), (219, "the user is gone"), (215, "there is no such channel"), (144, "the user is a member there"), (153, "the name is banned there"), (221, "the user is no member"), (177, "the modes or bans are out of range")]
def kx (D : va_G) (dA : Nat → ClassId) (U : State) : Prop := va_K D vwCl (tysA dA) U ∧ (∀ w ∈ xwN, va_Nw w U) ∧ (∀ C ∈ [RX3, RX0, RX2], va_AO C U) ∧ (∀ q ∈ xwS, ∃ sa : Nat, vk_R RX5 q.1 q.2 sa U) ∧ ∀ q ∈ xwC, va_Nc q.1 q.2 U
theorem kx_warm {D : va_G} {dA : Nat → ClassId} {s U : State} (hW : s.WarmedH U.vm) (h : kx D dA s) : kx D dA U := by
  obtain ⟨h1, h2, h3, h4, h5⟩ := h
  refine ⟨va_K.moved hW.alike h1, fun w hw => ?_, fun C hC => va_AO.moved hW.alike (h3 C hC), fun q hq => ?_, fun q hq => va_Nc.moved hW.alike (h5 q hq)⟩
  · have h9 := h2 w hw
    unfold xwN at hw
    simp only [List.mem_cons, List.not_mem_nil, or_false] at hw
    rcases hw with rfl | rfl | rfl | rfl | rfl | rfl | rfl | rfl | rfl | rfl | rfl | rfl | rfl
    · exact va_Nw.warmM hW h9
    · exact va_Nw.warmM hW h9
    · exact va_Nw.warmM hW h9
    · exact va_Nw.warmM hW h9
    · exact va_Nw.warmM hW h9
    · exact va_Nw.warmM hW h9
    · exact va_Nw.warmM hW h9
    · exact va_Nw.warmC hW h9
    · exact va_Nw.warmC hW h9
    · exact va_Nw.warmC hW h9
    · exact va_Nw.warmD hW h9
    · exact va_Nw.warmD hW h9
    · exact va_Nw.warmD hW h9
  · obtain ⟨sa, h⟩ := h4 q hq
    exact ⟨sa, vk_R.warm hW h⟩
/-- the two statics of Throwable -/
def zx (A : Nat → Prop) (U : State) (H : Heap) : Prop := vx_Zq Bundle.tN "UNASSIGNED_STACK" Bundle.steD A U H ∧ vx_Zq Bundle.tN "SUPPRESSED_SENTINEL" Bundle.listD A U H
def own (M : Mem) (sz : Nat) : Nat → Prop := fun q => gT M q ≠ none ∨ sz ≤ q
abbrev XT : Type := Program × Launch × Env × Room × State × MethodId × Array Value × List Frame × Method × Code × va_G × (Nat → ClassId) × (Nat → Prop) × (State → Prop)
/-- the walk's place: the memory M, k cells and n slots made, at pc, locals lv, stack st -/
def G (X : XT) (nL : Nat) (M : Mem) (k n pc : Nat) (lv : List (Nat × Value)) (st : List Value) : Prop := match X with
  | (p, l, e, R, s, m, args, below, meth, c, D, dA, A, Q) => ∀ (H : Heap) (locs : List Loc) (ls : Array Slot), pic D dA M H → (∀ a, gT M a ≠ none → A a) → va_S A s.heap H locs → lv_has ls nL lv → (k ≤ R.cells ∧ n ≤ R.slots) → W p l e R s m args below meth c H locs k n Q (F0 m pc ls st)
/-- E is thrown here -/
def GX (X : XT) (nL : Nat) (M : Mem) (k n pc : Nat) (lv : List (Nat × Value)) (st : List Value) (E : String) : Prop := match X with
  | (p, l, e, R, s, m, args, below, meth, c, D, dA, A, Q) => ∀ (H : Heap) (locs : List Loc) (ls : Array Slot) (q : Addr) (ce : Cell), pic D dA M H → (∀ a, gT M a ≠ none → A a) → va_S A s.heap H locs → lv_has ls nL lv → (k ≤ R.cells ∧ n ≤ R.slots) → H[q]? = some ce → ce.vm = .none → s.vm.findClass E = some ce.cls → vx_W p l e R s m args below meth c H locs k n Q (F0 m pc ls st) q
/-- what is known of the place: d its depth, cc its code, own its class, mc and ms its room -/
def Cx (X : XT) (d : Nat) (cc : ByteArray) (nL : Nat) (own : String) (mc ms : Nat) : Prop := match X with
  | (p, l, e, R, s, m, args, below, meth, c, D, dA, A, Q) => p.tables.exec = Jvm.exec ∧ c.code = cc ∧ c.maxLocals = nL ∧ s.vm.findClass own = some m.cls ∧ (∀ w ∈ lwg, w.before args s = true) ∧ kx D dA s ∧ zx A s s.heap ∧ (∀ q, s.heap.size ≤ q → A q) ∧ (d ≤ R.frames ∧ 36 * d ≤ R.locals) ∧ (R.cells = mc ∧ R.slots = ms) ∧ meth.locks = false ∧ l.stackTraces = false
/-! rows: what touches no cell -/
section GR
variable {X : XT} {d nL mc ms : Nat} {cc : ByteArray} {ow : String} {M : Mem} {k n pc : Nat} {lv : List (Nat × Value)} {st : List Value}
theorem g_iconst (C : Cx X d cc nL ow mc ms) {i : Int} {v : Int32} (hd : decode cc pc = .ok (.iconst i, 1)) (hv : Int32.ofInt i = v) (kk : G X nL M k n (pc + 1) lv (.int v :: st)) : G X nL M k n pc lv st := by
  obtain ⟨p, l, e, R, s, m, args, below, meth, c, D, dA, A, Q⟩ := X
  obtain ⟨hx, hb, -⟩ := C
  intro H locs ls hP hA hS hl hr
  exact lv_iconst hx hb hd hv (kk H locs ls hP hA hS hl hr)
theorem g_bipush (C : Cx X d cc nL ow mc ms) {i : Int} {v : Int32} (hd : decode cc pc = .ok (.bipush i, 2)) (hv : (Int8.ofInt i).toInt32 = v) (kk : G X nL M k n (pc + 2) lv (.int v :: st)) : G X nL M k n pc lv st := by
  obtain ⟨p, l, e, R, s, m, args, below, meth, c, D, dA, A, Q⟩ := X
  obtain ⟨hx, hb, -⟩ := C
  intro H locs ls hP hA hS hl hr
  exact lv_bipush hx hb hd hv (kk H locs ls hP hA hS hl hr)
theorem g_sipush (C : Cx X d cc nL ow mc ms) {i : Int} {v : Int32} (hd : decode cc pc = .ok (.sipush i, 3)) (hv : (Int16.ofInt i).toInt32 = v) (kk : G X nL M k n (pc + 3) lv (.int v :: st)) : G X nL M k n pc lv st := by
  obtain ⟨p, l, e, R, s, m, args, below, meth, c, D, dA, A, Q⟩ := X
  obtain ⟨hx, hb, -⟩ := C
  intro H locs ls hP hA hS hl hr
  exact lv_sipush hx hb hd hv (kk H locs ls hP hA hS hl hr)
theorem g_ldc (C : Cx X d cc nL ow mc ms) {i : Nat} {v : Int32} (hw : Cond.constant ow i v ∈ lwg) (hd : decode cc pc = .ok (.ldc i, 2)) (kk : G X nL M k n (pc + 2) lv (.int v :: st)) : G X nL M k n pc lv st := by
  obtain ⟨p, l, e, R, s, m, args, below, meth, c, D, dA, A, Q⟩ := X
  obtain ⟨hx, hb, -, hown, hts, -⟩ := C
  intro H locs ls hP hA hS hl hr
  exact lv_ldc hx hb hown (hts _ hw) hd (kk H locs ls hP hA hS hl hr)
theorem g_ldcw (C : Cx X d cc nL ow mc ms) {i : Nat} {v : Int32} (hw : Cond.constant ow i v ∈ lwg) (hd : decode cc pc = .ok (.ldc_w i, 3)) (kk : G X nL M k n (pc + 3) lv (.int v :: st)) : G X nL M k n pc lv st := by
  obtain ⟨p, l, e, R, s, m, args, below, meth, c, D, dA, A, Q⟩ := X
  obtain ⟨hx, hb, -, hown, hts, -⟩ := C
  intro H locs ls hP hA hS hl hr
  exact lv_ldcw hx hb hown (hts _ hw) hd (kk H locs ls hP hA hS hl hr)
theorem g_lconst (C : Cx X d cc nL ow mc ms) {i : Fin 2} {v : Int64} (hd : decode cc pc = .ok (.lconst i, 1)) (hv : Int64.ofNat (i : Nat) = v) (kk : G X nL M k n (pc + 1) lv (.long v :: st)) : G X nL M k n pc lv st := by
  obtain ⟨p, l, e, R, s, m, args, below, meth, c, D, dA, A, Q⟩ := X
  obtain ⟨hx, hb, -⟩ := C
  intro H locs ls hP hA hS hl hr
  exact lv_lconst hx hb hd hv (kk H locs ls hP hA hS hl hr)
theorem g_null (C : Cx X d cc nL ow mc ms) (hd : decode cc pc = .ok (.aconst_null, 1)) (kk : G X nL M k n (pc + 1) lv (va_rf none :: st)) : G X nL M k n pc lv st := by
  obtain ⟨p, l, e, R, s, m, args, below, meth, c, D, dA, A, Q⟩ := X
  obtain ⟨hx, hb, -⟩ := C
  intro H locs ls hP hA hS hl hr
  exact lv_null hx hb hd (kk H locs ls hP hA hS hl hr)
theorem g_iload_n (C : Cx X d cc nL ow mc ms) (j : Nat) {i : Fin 4} {x : Int32} (hd : decode cc pc = .ok (.iload_n i, 1)) (hj : lv[j]? = some ((i : Nat), .int x)) (kk : G X nL M k n (pc + 1) lv (.int x :: st)) : G X nL M k n pc lv st := by
  obtain ⟨p, l, e, R, s, m, args, below, meth, c, D, dA, A, Q⟩ := X
  obtain ⟨hx, hb, -⟩ := C
  intro H locs ls hP hA hS hl hr
  exact lv_iload_n hx hb hd rfl (lv_at hl j hj) (kk H locs ls hP hA hS hl hr)
theorem g_iload (C : Cx X d cc nL ow mc ms) (j : Nat) {i : Nat} {x : Int32} (hd : decode cc pc = .ok (.iload i, 2)) (hj : lv[j]? = some (i, .int x)) (kk : G X nL M k n (pc + 2) lv (.int x :: st)) : G X nL M k n pc lv st := by
  obtain ⟨p, l, e, R, s, m, args, below, meth, c, D, dA, A, Q⟩ := X
  obtain ⟨hx, hb, -⟩ := C
  intro H locs ls hP hA hS hl hr
  exact lv_iload hx hb hd (lv_at hl j hj) (kk H locs ls hP hA hS hl hr)
theorem g_aload_n (C : Cx X d cc nL ow mc ms) (j : Nat) {i : Fin 4} {r : Option Nat} (hd : decode cc pc = .ok (.aload_n i, 1)) (hj : lv[j]? = some ((i : Nat), va_rf r)) (kk : G X nL M k n (pc + 1) lv (va_rf r :: st)) : G X nL M k n pc lv st := by
  obtain ⟨p, l, e, R, s, m, args, below, meth, c, D, dA, A, Q⟩ := X
  obtain ⟨hx, hb, -⟩ := C
  intro H locs ls hP hA hS hl hr
  cases r with
  | none => exact lv_aload_nN hx hb hd rfl (lv_at hl j hj) (kk H locs ls hP hA hS hl hr)
  | some a => exact lv_aload_n hx hb hd rfl (lv_at hl j hj) (kk H locs ls hP hA hS hl hr)
theorem g_aload (C : Cx X d cc nL ow mc ms) (j : Nat) {i : Nat} {r : Option Nat} (hd : decode cc pc = .ok (.aload i, 2)) (hj : lv[j]? = some (i, va_rf r)) (kk : G X nL M k n (pc + 2) lv (va_rf r :: st)) : G X nL M k n pc lv st := by
  obtain ⟨p, l, e, R, s, m, args, below, meth, c, D, dA, A, Q⟩ := X
  obtain ⟨hx, hb, -⟩ := C
  intro H locs ls hP hA hS hl hr
  cases r with
  | none => exact lv_aloadN hx hb hd (lv_at hl j hj) (kk H locs ls hP hA hS hl hr)
  | some a => exact lv_aload hx hb hd (lv_at hl j hj) (kk H locs ls hP hA hS hl hr)
/-- the locals when i holds v; all other words of them are of one place each -/
def lvs (i : Nat) (v : Value) (lv : List (Nat × Value)) : List (Nat × Value) := (i, v) :: lv.filter (fun q => !(q.1 == i) && !(q.1 + 1 == i && q.2.category == 2))
theorem g_istore_n (C : Cx X d cc nL ow mc ms) {lv' : List (Nat × Value)} {i : Fin 4} {x : Int32} (hd : decode cc pc = .ok (.istore_n i, 1)) (hi : (i : Nat) < nL) (hl' : lvs (i : Nat) (.int x) lv = lv') (kk : G X nL M k n (pc + 1) lv' st) : G X nL M k n pc lv (.int x :: st) := by
  obtain ⟨p, l, e, R, s, m, args, below, meth, c, D, dA, A, Q⟩ := X
  obtain ⟨hx, hb, -⟩ := C
  intro H locs ls hP hA hS hl hr
  exact lv_istore_n hx hb hd rfl hl hi hl' (fun ls hl => kk H locs ls hP hA hS hl hr)
theorem g_istore (C : Cx X d cc nL ow mc ms) {lv' : List (Nat × Value)} {i : Nat} {x : Int32} (hd : decode cc pc = .ok (.istore i, 2)) (hi : i < nL) (hl' : lvs i (.int x) lv = lv') (kk : G X nL M k n (pc + 2) lv' st) : G X nL M k n pc lv (.int x :: st) := by
  obtain ⟨p, l, e, R, s, m, args, below, meth, c, D, dA, A, Q⟩ := X
  obtain ⟨hx, hb, -⟩ := C
  intro H locs ls hP hA hS hl hr
  exact lv_istore hx hb hd hl hi hl' (fun ls hl => kk H locs ls hP hA hS hl hr)
theorem g_astore_n (C : Cx X d cc nL ow mc ms) {lv' : List (Nat × Value)} {i : Fin 4} {r : Option Nat} (hd : decode cc pc = .ok (.astore_n i, 1)) (hi : (i : Nat) < nL) (hl' : lvs (i : Nat) (va_rf r) lv = lv') (kk : G X nL M k n (pc + 1) lv' st) : G X nL M k n pc lv (va_rf r :: st) := by
  obtain ⟨p, l, e, R, s, m, args, below, meth, c, D, dA, A, Q⟩ := X
  obtain ⟨hx, hb, -⟩ := C
  intro H locs ls hP hA hS hl hr
  cases r with
  | none => exact lv_astore_nN hx hb hd rfl hl hi hl' (fun ls hl => kk H locs ls hP hA hS hl hr)
  | some a => exact lv_astore_n hx hb hd rfl hl hi hl' (fun ls hl => kk H locs ls hP hA hS hl hr)
theorem g_astore (C : Cx X d cc nL ow mc ms) {lv' : List (Nat × Value)} {i : Nat} {r : Option Nat} (hd : decode cc pc = .ok (.astore i, 2)) (hi : i < nL) (hl' : lvs i (va_rf r) lv = lv') (kk : G X nL M k n (pc + 2) lv' st) : G X nL M k n pc lv (va_rf r :: st) := by
  obtain ⟨p, l, e, R, s, m, args, below, meth, c, D, dA, A, Q⟩ := X
  obtain ⟨hx, hb, -⟩ := C
  intro H locs ls hP hA hS hl hr
  cases r with
  | none => exact lv_astoreN hx hb hd hl hi hl' (fun ls hl => kk H locs ls hP hA hS hl hr)
  | some a => exact lv_astore hx hb hd hl hi hl' (fun ls hl => kk H locs ls hP hA hS hl hr)
theorem g_iinc (C : Cx X d cc nL ow mc ms) (j : Nat) {lv' : List (Nat × Value)} {i : Nat} {z : Int} {x v : Int32} (hd : decode cc pc = .ok (.iinc i z, 3)) (hj : lv[j]? = some (i, .int x)) (hv : x + Int32.ofInt z = v) (hi : i < nL) (hl' : lvs i (.int v) lv = lv') (kk : G X nL M k n (pc + 3) lv' st) : G X nL M k n pc lv st := by
  obtain ⟨p, l, e, R, s, m, args, below, meth, c, D, dA, A, Q⟩ := X
  obtain ⟨hx, hb, -⟩ := C
  intro H locs ls hP hA hS hl hr
  exact lv_iinc hx hb hd hl hj hv hi hl' (fun ls hl => kk H locs ls hP hA hS hl hr)
theorem g_sub (is : List Nat) {lv' : List (Nat × Value)} (h : lv_pick lv is = lv') (kk : G X nL M k n pc lv' st) : G X nL M k n pc lv st := by
  obtain ⟨p, l, e, R, s, m, args, below, meth, c, D, dA, A, Q⟩ := X
  intro H locs ls hP hA hS hl hr
  exact kk H locs ls hP hA hS (lv_sub hl is h) hr
theorem g_dup (C : Cx X d cc nL ow mc ms) {v : Value} (hd : decode cc pc = .ok (.dup, 1)) (hv : v.category = 1) (kk : G X nL M k n (pc + 1) lv (v :: v :: st)) : G X nL M k n pc lv (v :: st) := by
  obtain ⟨p, l, e, R, s, m, args, below, meth, c, D, dA, A, Q⟩ := X
  obtain ⟨hx, hb, -⟩ := C
  intro H locs ls hP hA hS hl hr
  exact lv_dup hx hb hd hv (kk H locs ls hP hA hS hl hr)
theorem g_dup2 (C : Cx X d cc nL ow mc ms) {v w : Value} (hd : decode cc pc = .ok (.dup2, 1)) (hv : v.category = 1) (hw : w.category = 1) (kk : G X nL M k n (pc + 1) lv (v :: w :: v :: w :: st)) : G X nL M k n pc lv (v :: w :: st) := by
  obtain ⟨p, l, e, R, s, m, args, below, meth, c, D, dA, A, Q⟩ := X
  obtain ⟨hx, hb, -⟩ := C
  intro H locs ls hP hA hS hl hr
  exact lv_dup2_11 hx hb hd hv hw (kk H locs ls hP hA hS hl hr)
theorem g_pop (C : Cx X d cc nL ow mc ms) {v : Value} (hd : decode cc pc = .ok (.pop, 1)) (hv : v.category = 1) (kk : G X nL M k n (pc + 1) lv st) : G X nL M k n pc lv (v :: st) := by
  obtain ⟨p, l, e, R, s, m, args, below, meth, c, D, dA, A, Q⟩ := X
  obtain ⟨hx, hb, -⟩ := C
  intro H locs ls hP hA hS hl hr
  exact lv_pop hx hb hd hv (kk H locs ls hP hA hS hl hr)
theorem g_goto (C : Cx X d cc nL ow mc ms) {off : Int} (tgt : Nat) (hd : decode cc pc = .ok (.goto off, 3)) (ht : (pc : Int) + off = (tgt : Int)) (kk : G X nL M k n tgt lv st) : G X nL M k n pc lv st := by
  obtain ⟨p, l, e, R, s, m, args, below, meth, c, D, dA, A, Q⟩ := X
  obtain ⟨hx, hb, -⟩ := C
  intro H locs ls hP hA hS hl hr
  exact lv_goto hx hb hd ht (kk H locs ls hP hA hS hl hr)
end GR
section GR2
variable {X : XT} {d nL mc ms : Nat} {cc : ByteArray} {ow : String} {M : Mem} {k n pc : Nat} {lv : List (Nat × Value)} {st : List Value}
theorem g_iadd (C : Cx X d cc nL ow mc ms) {x y : Int32} (hd : decode cc pc = .ok (.iadd, 1)) (kk : G X nL M k n (pc + 1) lv (.int (x + y) :: st)) : G X nL M k n pc lv (.int y :: .int x :: st) := by
  obtain ⟨p, l, e, R, s, m, args, below, meth, c, D, dA, A, Q⟩ := X
  obtain ⟨hx, hb, -⟩ := C
  intro H locs ls hP hA hS hl hr
  exact lv_iadd hx hb hd (kk H locs ls hP hA hS hl hr)
theorem g_isub (C : Cx X d cc nL ow mc ms) {x y : Int32} (hd : decode cc pc = .ok (.isub, 1)) (kk : G X nL M k n (pc + 1) lv (.int (x - y) :: st)) : G X nL M k n pc lv (.int y :: .int x :: st) := by
  obtain ⟨p, l, e, R, s, m, args, below, meth, c, D, dA, A, Q⟩ := X
  obtain ⟨hx, hb, -⟩ := C
  intro H locs ls hP hA hS hl hr
  exact lv_isub hx hb hd (kk H locs ls hP hA hS hl hr)
theorem g_imul (C : Cx X d cc nL ow mc ms) {x y : Int32} (hd : decode cc pc = .ok (.imul, 1)) (kk : G X nL M k n (pc + 1) lv (.int (x * y) :: st)) : G X nL M k n pc lv (.int y :: .int x :: st) := by
  obtain ⟨p, l, e, R, s, m, args, below, meth, c, D, dA, A, Q⟩ := X
  obtain ⟨hx, hb, -⟩ := C
  intro H locs ls hP hA hS hl hr
  exact lv_imul hx hb hd (kk H locs ls hP hA hS hl hr)
theorem g_iand (C : Cx X d cc nL ow mc ms) {x y : Int32} (hd : decode cc pc = .ok (.iand, 1)) (kk : G X nL M k n (pc + 1) lv (.int (x &&& y) :: st)) : G X nL M k n pc lv (.int y :: .int x :: st) := by
  obtain ⟨p, l, e, R, s, m, args, below, meth, c, D, dA, A, Q⟩ := X
  obtain ⟨hx, hb, -⟩ := C
  intro H locs ls hP hA hS hl hr
  exact lv_iand hx hb hd (kk H locs ls hP hA hS hl hr)
theorem g_ior (C : Cx X d cc nL ow mc ms) {x y : Int32} (hd : decode cc pc = .ok (.ior, 1)) (kk : G X nL M k n (pc + 1) lv (.int (x ||| y) :: st)) : G X nL M k n pc lv (.int y :: .int x :: st) := by
  obtain ⟨p, l, e, R, s, m, args, below, meth, c, D, dA, A, Q⟩ := X
  obtain ⟨hx, hb, -⟩ := C
  intro H locs ls hP hA hS hl hr
  exact lv_ior hx hb hd (kk H locs ls hP hA hS hl hr)
theorem g_ixor (C : Cx X d cc nL ow mc ms) {x y : Int32} (hd : decode cc pc = .ok (.ixor, 1)) (kk : G X nL M k n (pc + 1) lv (.int (x ^^^ y) :: st)) : G X nL M k n pc lv (.int y :: .int x :: st) := by
  obtain ⟨p, l, e, R, s, m, args, below, meth, c, D, dA, A, Q⟩ := X
  obtain ⟨hx, hb, -⟩ := C
  intro H locs ls hP hA hS hl hr
  exact lv_ixor hx hb hd (kk H locs ls hP hA hS hl hr)
theorem g_ishl (C : Cx X d cc nL ow mc ms) {x y : Int32} (hd : decode cc pc = .ok (.ishl, 1)) (kk : G X nL M k n (pc + 1) lv (.int (x <<< (y &&& 31)) :: st)) : G X nL M k n pc lv (.int y :: .int x :: st) := by
  obtain ⟨p, l, e, R, s, m, args, below, meth, c, D, dA, A, Q⟩ := X
  obtain ⟨hx, hb, -⟩ := C
  intro H locs ls hP hA hS hl hr
  exact lv_ishl hx hb hd (kk H locs ls hP hA hS hl hr)
theorem g_ishr (C : Cx X d cc nL ow mc ms) {x y : Int32} (hd : decode cc pc = .ok (.ishr, 1)) (kk : G X nL M k n (pc + 1) lv (.int (x >>> (y &&& 31)) :: st)) : G X nL M k n pc lv (.int y :: .int x :: st) := by
  obtain ⟨p, l, e, R, s, m, args, below, meth, c, D, dA, A, Q⟩ := X
  obtain ⟨hx, hb, -⟩ := C
  intro H locs ls hP hA hS hl hr
  exact lv_ishr hx hb hd (kk H locs ls hP hA hS hl hr)
theorem g_idiv (C : Cx X d cc nL ow mc ms) {x y : Int32} (hd : decode cc pc = .ok (.idiv, 1)) (hne : ¬ y = 0) (kk : G X nL M k n (pc + 1) lv (.int (x / y) :: st)) : G X nL M k n pc lv (.int y :: .int x :: st) := by
  obtain ⟨p, l, e, R, s, m, args, below, meth, c, D, dA, A, Q⟩ := X
  obtain ⟨hx, hb, -⟩ := C
  intro H locs ls hP hA hS hl hr
  exact lv_idiv hx hb hd hne (kk H locs ls hP hA hS hl hr)
theorem g_irem (C : Cx X d cc nL ow mc ms) {x y : Int32} (hd : decode cc pc = .ok (.irem, 1)) (hne : ¬ y = 0) (kk : G X nL M k n (pc + 1) lv (.int (x - x / y * y) :: st)) : G X nL M k n pc lv (.int y :: .int x :: st) := by
  obtain ⟨p, l, e, R, s, m, args, below, meth, c, D, dA, A, Q⟩ := X
  obtain ⟨hx, hb, -⟩ := C
  intro H locs ls hP hA hS hl hr
  exact lv_irem hx hb hd hne (kk H locs ls hP hA hS hl hr)
theorem g_if_eq (C : Cx X d cc nL ow mc ms) {x : Int32} {off : Int} (tgt : Nat) (hd : decode cc pc = .ok (.ifCond .eq off, 3)) (ht : (pc : Int) + off = (tgt : Int)) (kt : x = 0 → G X nL M k n tgt lv st) (kf : ¬ x = 0 → G X nL M k n (pc + 3) lv st) : G X nL M k n pc lv (.int x :: st) := by
  obtain ⟨p, l, e, R, s, m, args, below, meth, c, D, dA, A, Q⟩ := X
  obtain ⟨hx, hb, -⟩ := C
  intro H locs ls hP hA hS hl hr
  exact lv_if_eq hx hb hd ht (fun z => kt z H locs ls hP hA hS hl hr) (fun z => kf z H locs ls hP hA hS hl hr)
theorem g_if_ne (C : Cx X d cc nL ow mc ms) {x : Int32} {off : Int} (tgt : Nat) (hd : decode cc pc = .ok (.ifCond .ne off, 3)) (ht : (pc : Int) + off = (tgt : Int)) (kt : ¬ x = 0 → G X nL M k n tgt lv st) (kf : x = 0 → G X nL M k n (pc + 3) lv st) : G X nL M k n pc lv (.int x :: st) := by
  obtain ⟨p, l, e, R, s, m, args, below, meth, c, D, dA, A, Q⟩ := X
  obtain ⟨hx, hb, -⟩ := C
  intro H locs ls hP hA hS hl hr
  exact lv_if_ne hx hb hd ht (fun z => kt z H locs ls hP hA hS hl hr) (fun z => kf z H locs ls hP hA hS hl hr)
theorem g_if_lt (C : Cx X d cc nL ow mc ms) {x : Int32} {off : Int} (tgt : Nat) (hd : decode cc pc = .ok (.ifCond .lt off, 3)) (ht : (pc : Int) + off = (tgt : Int)) (kt : x < 0 → G X nL M k n tgt lv st) (kf : ¬ x < 0 → G X nL M k n (pc + 3) lv st) : G X nL M k n pc lv (.int x :: st) := by
  obtain ⟨p, l, e, R, s, m, args, below, meth, c, D, dA, A, Q⟩ := X
  obtain ⟨hx, hb, -⟩ := C
  intro H locs ls hP hA hS hl hr
  exact lv_if_lt hx hb hd ht (fun z => kt z H locs ls hP hA hS hl hr) (fun z => kf z H locs ls hP hA hS hl hr)
theorem g_if_ge (C : Cx X d cc nL ow mc ms) {x : Int32} {off : Int} (tgt : Nat) (hd : decode cc pc = .ok (.ifCond .ge off, 3)) (ht : (pc : Int) + off = (tgt : Int)) (kt : 0 ≤ x → G X nL M k n tgt lv st) (kf : ¬ 0 ≤ x → G X nL M k n (pc + 3) lv st) : G X nL M k n pc lv (.int x :: st) := by
  obtain ⟨p, l, e, R, s, m, args, below, meth, c, D, dA, A, Q⟩ := X
  obtain ⟨hx, hb, -⟩ := C
  intro H locs ls hP hA hS hl hr
  exact lv_if_ge hx hb hd ht (fun z => kt z H locs ls hP hA hS hl hr) (fun z => kf z H locs ls hP hA hS hl hr)
theorem g_if_gt (C : Cx X d cc nL ow mc ms) {x : Int32} {off : Int} (tgt : Nat) (hd : decode cc pc = .ok (.ifCond .gt off, 3)) (ht : (pc : Int) + off = (tgt : Int)) (kt : 0 < x → G X nL M k n tgt lv st) (kf : ¬ 0 < x → G X nL M k n (pc + 3) lv st) : G X nL M k n pc lv (.int x :: st) := by
  obtain ⟨p, l, e, R, s, m, args, below, meth, c, D, dA, A, Q⟩ := X
  obtain ⟨hx, hb, -⟩ := C
  intro H locs ls hP hA hS hl hr
  exact lv_if_gt hx hb hd ht (fun z => kt z H locs ls hP hA hS hl hr) (fun z => kf z H locs ls hP hA hS hl hr)
theorem g_if_le (C : Cx X d cc nL ow mc ms) {x : Int32} {off : Int} (tgt : Nat) (hd : decode cc pc = .ok (.ifCond .le off, 3)) (ht : (pc : Int) + off = (tgt : Int)) (kt : x ≤ 0 → G X nL M k n tgt lv st) (kf : ¬ x ≤ 0 → G X nL M k n (pc + 3) lv st) : G X nL M k n pc lv (.int x :: st) := by
  obtain ⟨p, l, e, R, s, m, args, below, meth, c, D, dA, A, Q⟩ := X
  obtain ⟨hx, hb, -⟩ := C
  intro H locs ls hP hA hS hl hr
  exact lv_if_le hx hb hd ht (fun z => kt z H locs ls hP hA hS hl hr) (fun z => kf z H locs ls hP hA hS hl hr)
theorem g_icmp_eq (C : Cx X d cc nL ow mc ms) {x y : Int32} {off : Int} (tgt : Nat) (hd : decode cc pc = .ok (.if_icmp .eq off, 3)) (ht : (pc : Int) + off = (tgt : Int)) (kt : x = y → G X nL M k n tgt lv st) (kf : ¬ x = y → G X nL M k n (pc + 3) lv st) : G X nL M k n pc lv (.int y :: .int x :: st) := by
  obtain ⟨p, l, e, R, s, m, args, below, meth, c, D, dA, A, Q⟩ := X
  obtain ⟨hx, hb, -⟩ := C
  intro H locs ls hP hA hS hl hr
  exact lv_icmp_eq hx hb hd ht (fun z => kt z H locs ls hP hA hS hl hr) (fun z => kf z H locs ls hP hA hS hl hr)
theorem g_icmp_ne (C : Cx X d cc nL ow mc ms) {x y : Int32} {off : Int} (tgt : Nat) (hd : decode cc pc = .ok (.if_icmp .ne off, 3)) (ht : (pc : Int) + off = (tgt : Int)) (kt : ¬ x = y → G X nL M k n tgt lv st) (kf : x = y → G X nL M k n (pc + 3) lv st) : G X nL M k n pc lv (.int y :: .int x :: st) := by
  obtain ⟨p, l, e, R, s, m, args, below, meth, c, D, dA, A, Q⟩ := X
  obtain ⟨hx, hb, -⟩ := C
  intro H locs ls hP hA hS hl hr
  exact lv_icmp_ne hx hb hd ht (fun z => kt z H locs ls hP hA hS hl hr) (fun z => kf z H locs ls hP hA hS hl hr)
theorem g_icmp_lt (C : Cx X d cc nL ow mc ms) {x y : Int32} {off : Int} (tgt : Nat) (hd : decode cc pc = .ok (.if_icmp .lt off, 3)) (ht : (pc : Int) + off = (tgt : Int)) (kt : x < y → G X nL M k n tgt lv st) (kf : ¬ x < y → G X nL M k n (pc + 3) lv st) : G X nL M k n pc lv (.int y :: .int x :: st) := by
  obtain ⟨p, l, e, R, s, m, args, below, meth, c, D, dA, A, Q⟩ := X
  obtain ⟨hx, hb, -⟩ := C
  intro H locs ls hP hA hS hl hr
  exact lv_icmp_lt hx hb hd ht (fun z => kt z H locs ls hP hA hS hl hr) (fun z => kf z H locs ls hP hA hS hl hr)
theorem g_icmp_ge (C : Cx X d cc nL ow mc ms) {x y : Int32} {off : Int} (tgt : Nat) (hd : decode cc pc = .ok (.if_icmp .ge off, 3)) (ht : (pc : Int) + off = (tgt : Int)) (kt : y ≤ x → G X nL M k n tgt lv st) (kf : ¬ y ≤ x → G X nL M k n (pc + 3) lv st) : G X nL M k n pc lv (.int y :: .int x :: st) := by
  obtain ⟨p, l, e, R, s, m, args, below, meth, c, D, dA, A, Q⟩ := X
  obtain ⟨hx, hb, -⟩ := C
  intro H locs ls hP hA hS hl hr
  exact lv_icmp_ge hx hb hd ht (fun z => kt z H locs ls hP hA hS hl hr) (fun z => kf z H locs ls hP hA hS hl hr)
theorem g_icmp_gt (C : Cx X d cc nL ow mc ms) {x y : Int32} {off : Int} (tgt : Nat) (hd : decode cc pc = .ok (.if_icmp .gt off, 3)) (ht : (pc : Int) + off = (tgt : Int)) (kt : y < x → G X nL M k n tgt lv st) (kf : ¬ y < x → G X nL M k n (pc + 3) lv st) : G X nL M k n pc lv (.int y :: .int x :: st) := by
  obtain ⟨p, l, e, R, s, m, args, below, meth, c, D, dA, A, Q⟩ := X
  obtain ⟨hx, hb, -⟩ := C
  intro H locs ls hP hA hS hl hr
  exact lv_icmp_gt hx hb hd ht (fun z => kt z H locs ls hP hA hS hl hr) (fun z => kf z H locs ls hP hA hS hl hr)
theorem g_icmp_le (C : Cx X d cc nL ow mc ms) {x y : Int32} {off : Int} (tgt : Nat) (hd : decode cc pc = .ok (.if_icmp .le off, 3)) (ht : (pc : Int) + off = (tgt : Int)) (kt : x ≤ y → G X nL M k n tgt lv st) (kf : ¬ x ≤ y → G X nL M k n (pc + 3) lv st) : G X nL M k n pc lv (.int y :: .int x :: st) := by
  obtain ⟨p, l, e, R, s, m, args, below, meth, c, D, dA, A, Q⟩ := X
  obtain ⟨hx, hb, -⟩ := C
  intro H locs ls hP hA hS hl hr
  exact lv_icmp_le hx hb hd ht (fun z => kt z H locs ls hP hA hS hl hr) (fun z => kf z H locs ls hP hA hS hl hr)
theorem g_iushr (C : Cx X d cc nL ow mc ms) {x y : Int32} (hd : decode cc pc = .ok (.iushr, 1)) (kk : G X nL M k n (pc + 1) lv (.int ((x.toUInt32 >>> (y.toUInt32 &&& Int32.toUInt32 31)).toInt32) :: st)) : G X nL M k n pc lv (.int y :: .int x :: st) := by
  obtain ⟨p, l, e, R, s, m, args, below, meth, c, D, dA, A, Q⟩ := X
  obtain ⟨hx, hb, -⟩ := C
  intro H locs ls hP hA hS hl hr
  exact lv_iushr hx hb hd rfl (kk H locs ls hP hA hS hl hr)
theorem g_i2l (C : Cx X d cc nL ow mc ms) {x : Int32} (hd : decode cc pc = .ok (.i2l, 1)) (kk : G X nL M k n (pc + 1) lv (.long x.toInt64 :: st)) : G X nL M k n pc lv (.int x :: st) := by
  obtain ⟨p, l, e, R, s, m, args, below, meth, c, D, dA, A, Q⟩ := X
  obtain ⟨hx, hb, -⟩ := C
  intro H locs ls hP hA hS hl hr
  exact lv_i2l hx hb hd rfl (kk H locs ls hP hA hS hl hr)
theorem g_i2c (C : Cx X d cc nL ow mc ms) {x : Int32} (hd : decode cc pc = .ok (.i2c, 1)) (kk : G X nL M k n (pc + 1) lv (.int (x.toUInt32 % 65536).toInt32 :: st)) : G X nL M k n pc lv (.int x :: st) := by
  obtain ⟨p, l, e, R, s, m, args, below, meth, c, D, dA, A, Q⟩ := X
  obtain ⟨hx, hb, -⟩ := C
  intro H locs ls hP hA hS hl hr
  exact lv_i2c hx hb hd rfl (kk H locs ls hP hA hS hl hr)
theorem g_lcmp (C : Cx X d cc nL ow mc ms) {x y : Int64} (hd : decode cc pc = .ok (.lcmp, 1)) (kk : G X nL M k n (pc + 1) lv (.int (lg_cmp x y) :: st)) : G X nL M k n pc lv (.long y :: .long x :: st) := by
  obtain ⟨p, l, e, R, s, m, args, below, meth, c, D, dA, A, Q⟩ := X
  obtain ⟨hx, hb, -⟩ := C
  intro H locs ls hP hA hS hl hr
  exact W.lcmp hx hb hd (kk H locs ls hP hA hS hl hr)
theorem g_ifnull (C : Cx X d cc nL ow mc ms) {r : Option Nat} {off : Int} (tgt : Nat) (hd : decode cc pc = .ok (.ifnull off, 3)) (ht : (pc : Int) + off = (tgt : Int)) (kt : r = none → G X nL M k n tgt lv st) (kf : ∀ a, r = some a → G X nL M k n (pc + 3) lv st) : G X nL M k n pc lv (va_rf r :: st) := by
  obtain ⟨p, l, e, R, s, m, args, below, meth, c, D, dA, A, Q⟩ := X
  obtain ⟨hx, hb, -⟩ := C
  intro H locs ls hP hA hS hl hr
  cases r with
  | none => exact lv_ifnullN hx hb hd ht (kt rfl H locs ls hP hA hS hl hr)
  | some a => exact lv_ifnull hx hb hd (kf a rfl H locs ls hP hA hS hl hr)
theorem g_ifnonnull (C : Cx X d cc nL ow mc ms) {r : Option Nat} {off : Int} (tgt : Nat) (hd : decode cc pc = .ok (.ifnonnull off, 3)) (ht : (pc : Int) + off = (tgt : Int)) (kt : ∀ a, r = some a → G X nL M k n tgt lv st) (kf : r = none → G X nL M k n (pc + 3) lv st) : G X nL M k n pc lv (va_rf r :: st) := by
  obtain ⟨p, l, e, R, s, m, args, below, meth, c, D, dA, A, Q⟩ := X
  obtain ⟨hx, hb, -⟩ := C
  intro H locs ls hP hA hS hl hr
  cases r with
  | none => exact lv_ifnonnullN hx hb hd (kf rfl H locs ls hP hA hS hl hr)
  | some a => exact lv_ifnonnull hx hb hd ht (kt a rfl H locs ls hP hA hS hl hr)
theorem g_tableIn (C : Cx X d cc nL ow mc ms) {dflt lo hi : Int} {offs : Array Int} {len : Nat} {x : Int32} {off : Int} (tgt : Nat) (hd : decode cc pc = .ok (.tableswitch dflt lo hi offs, len)) (h1 : ¬ x.toInt < lo) (h2 : ¬ hi < x.toInt) (ho : offs[(x.toInt - lo).toNat]? = some off) (ht : (pc : Int) + off = (tgt : Int)) (kk : G X nL M k n tgt lv st) : G X nL M k n pc lv (.int x :: st) := by
  obtain ⟨p, l, e, R, s, m, args, below, meth, c, D, dA, A, Q⟩ := X
  obtain ⟨hx, hb, -⟩ := C
  intro H locs ls hP hA hS hl hr
  exact lv_tableIn hx hb hd h1 h2 ho ht (kk H locs ls hP hA hS hl hr)
theorem g_tableOut (C : Cx X d cc nL ow mc ms) {dflt lo hi : Int} {offs : Array Int} {len : Nat} {x : Int32} (tgt : Nat) (hd : decode cc pc = .ok (.tableswitch dflt lo hi offs, len)) (h : x.toInt < lo ∨ hi < x.toInt) (ht : (pc : Int) + dflt = (tgt : Int)) (kk : G X nL M k n tgt lv st) : G X nL M k n pc lv (.int x :: st) := by
  obtain ⟨p, l, e, R, s, m, args, below, meth, c, D, dA, A, Q⟩ := X
  obtain ⟨hx, hb, -⟩ := C
  intro H locs ls hP hA hS hl hr
  exact lv_tableOut hx hb hd h ht (kk H locs ls hP hA hS hl hr)
theorem g_pc {pc' : Nat} (h : pc = pc') (kk : G X nL M k n pc' lv st) : G X nL M k n pc lv st := h ▸ kk
theorem g_objInit (C : Cx X (d + 1) cc nL ow mc ms) {r idx : Nat} (hw1 : Cond.methodLink ow idx Lib.objectInit ∈ lwg) (hw2 : Cond.instanceMethod Lib.objectInit ∈ lwg) (hw3 : Cond.code Lib.objectInit ⟨#[0xb1]⟩ 1 none ∈ lwg) (hd : decode cc pc = .ok (.invokespecial idx, 3)) (hst : (st.map fun v => v.category).sum ≤ 8) (kk : G X nL M k n (pc + 3) lv st) : G X nL M k n pc lv (.ref r :: st) := by
  obtain ⟨p, l, e, R, s, m, args, below, meth, c, D, dA, A, Q⟩ := X
  obtain ⟨hx, hb, hml, hown, hts, -, -, -, hR, -⟩ := C
  intro H locs ls hP hA hS hl hr
  refine W.objInit hx hb hown (hts _ hw1) (hts _ hw2) (hts _ hw3) rfl (by rw [hml]; exact hl.1) rfl hd (by omega) ?_ (kk H locs ls hP hA hS hl hr)
  show 2 * 0 + _ + 12 ≤ _
  omega
end GR2
/-! rows that read and write cells -/
section GM
variable {X : XT} {d nL mc ms : Nat} {cc : ByteArray} {ow : String} {M : Mem} {k n pc : Nat} {lv : List (Nat × Value)} {st : List Value}
theorem g_get (C : Cx X d cc nL ow mc ms) {ci N : Nat} {CN : String} {T : u_T} (hc : vwCl[ci]? = some (CN, T, N)) (hc7 : ci < 7) (hN : nf ci = N) (hin : ∀ w ∈ u_ws CN T N, w ∈ lwg) {a f idx : Nat} (hf : f < N) (hw : Cond.fieldLink ow idx (T f).1 (T f).2.1 (T f).2.2.1 ∈ lwg) (hd : decode cc pc = .ok (.getfield idx, 3)) (hT : gT M a = some (ci, 0)) (kk : G X nL M k n (pc + 3) lv (fV M a ci f :: st)) : G X nL M k n pc lv (.ref a :: st) := by
  obtain ⟨p, l, e, R, s, m, args, below, meth, c, D, dA, A, Q⟩ := X
  obtain ⟨hx, hb, hml, hown, hts, hK, -⟩ := C
  intro H locs ls hP hA hS hl hr
  have h1 := hP a ci 0 hT
  unfold pcell at h1
  rw [if_pos hc7] at h1
  obtain ⟨cell, q1, q2, q3, q4⟩ := h1
  obtain ⟨hSl, hfc, kC, hkC, hkind⟩ := hK.1.1 ci _ hc
  obtain ⟨cf, kf, fi, fd, hi, hsl⟩ := hSl f hf
  refine W.getf hx hb hown (hts _ hw) hi (u_facts hfc hkC (u_lays hts hin hf) hi).1 q1 (by rw [q3]; exact fun h => by cases h) (v := fV M a ci f) ?_ rfl rfl hd (kk H locs ls hP hA hS hl hr)
  rw [hsl, q4 f (by rw [hN]; exact hf)]
theorem g_put (C : Cx X d cc nL ow mc ms) {ci N : Nat} {CN : String} {T : u_T} {tyT : Nat → FieldType} (hc : vwCl[ci]? = some (CN, T, N)) (hc7 : ci < 7) (hN : nf ci = N) (hin : ∀ w ∈ u_ws CN T N, w ∈ lwg) (hty : ∀ k, k < N → parseFieldDescriptor (T k).2.2.1 = some (tyT k)) (hnm : ∀ a, a < N → ∀ b, b < N → a ≠ b → (T a).2.1 ≠ (T b).2.1) {a f idx : Nat} {v : Value} {M' : Mem} (hf : f < N) (hw : Cond.fieldLink ow idx (T f).1 (T f).2.1 (T f).2.2.1 ∈ lwg) (hd : decode cc pc = .ok (.putfield idx, 3))
    (hfin : (T f).2.2.2 = false ∨ ((T f).2.2.2 = true ∧ (∀ (m0 : Method), X.2.2.2.2.2.2.2.2.1 = m0 → m0.name = "<init>") ∧ (T f).1 = ow)) (hn : narrow (tyT f) v = v) (hfit : fits (tyT f) v = true) (hT : gT M a = some (ci, 0))
    (hM : (∀ b, gT M' b = gT M b) ∧ (∀ b j, b ≠ a → gI M' b j = gI M b j) ∧ (∀ b j, b ≠ a → gR M' b j = gR M b j) ∧ (∀ b j, b ≠ a → gL M' b j = gL M b j) ∧ ∀ j, j < N → fV M' a ci j = if j = f then v else fV M a ci j) (kk : G X nL M' k n (pc + 3) lv st) : G X nL M k n pc lv (v :: .ref a :: st) := by
  obtain ⟨p, l, e, R, s, m, args, below, meth, c, D, dA, A, Q⟩ := X
  obtain ⟨hx, hb, hml, hown, hts, hK, -⟩ := C
  intro H locs ls hP hA hS hl hr
  have hap := va_apart (own := ow) hts hin tyT hty hnm hK.1 hc
  have h1 := hP a ci 0 hT
  unfold pcell at h1
  rw [if_pos hc7] at h1
  obtain ⟨cell, q1, q2, q3, q4⟩ := h1
  rw [hN] at q4
  obtain ⟨hSl, hfc, kC, hkC, hkind⟩ := hK.1.1 ci _ hc
  obtain ⟨cf, kf, fi, fd, hi, hsl⟩ := hSl f hf
  have hst := (u_facts hfc hkC (u_lays hts hin hf) hi).1
  have go : ∀ H' : Heap, H'[a]? = some (cell.setSlot (D.2 ci f) v) → H'.size = H.size → (∀ q : Nat, q ≠ a → H'[q]? = H[q]?) → W p l e R s m args below meth c H' (locs ++ [⟨a, D.2 ci f⟩]) k n Q (F0 m (pc + 3) ls st) := by
    intro H' e1 e2 e3
    refine kk H' _ ls (pic_upd hP hM.1 hM.2.1 hM.2.2.1 hM.2.2.2.1 e3 (fun c0 n0 h0 => ?_)) (fun b hb2 => hA b (by rw [← hM.1]; exact hb2)) (hS.put e2 e3 (hA a (by rw [hT]; exact fun z => by cases z))) hl hr
    rw [hT] at h0
    cases h0
    unfold pcell
    rw [if_pos hc7, hN]
    refine t_OB.to (V := updV (fV M a ci) f v) ⟨_, e1, q2, q3, t_set q4 hap hf v⟩ (fun j hj => ?_)
    rw [hM.2.2.2.2 j hj]
    unfold updV
    rfl
  rcases hfin with hfin | ⟨hfin, hin2, hdecl⟩
  · have hlay := hts _ (hin _ (u_in_lay hf))
    unfold u_lay at hlay
    rw [if_neg (by rw [hfin]; decide)] at hlay
    have h6 := u_store hfc hkC hkind hlay hi (hty f hf) hn hfit
    refine W.putK hx hb (f := fd) ⟨hown, hts _ hw, ⟨_, _, _, hi⟩, hst⟩ (by rw [q2]; exact h6) q1 q3 (by rw [hsl]; exact k2_hasslot (q4 f hf)) rfl rfl hd fun H' e1 e2 e3 => ?_
    rw [hsl] at e1 ⊢
    exact go H' e1 e2 e3
  · have hlay := hts _ (hin _ (u_in_lay hf))
    unfold u_lay at hlay
    rw [if_pos hfin] at hlay
    have hcf : m.cls = cf := by
      obtain ⟨_, _, c', _, _, _, -, -, hf', -, -, -, hown2, -⟩ := Cond.laysFinal_spec hlay
      have e1 : c' = cf := by have := hi.symm.trans hf'; simp at this; exact this.1.symm
      rw [hdecl] at hown2
      rw [← e1]; exact Option.some.inj (hown.symm.trans hown2)
    have h6 := u_fits hfc hkC hkind (Or.inr hlay) hi (hty f hf) hn hfit
    refine W.putFinK hx hb hown (hts _ hw) hi hst hcf (hin2 meth rfl) (by rw [q2]; exact h6) q1 q3 (by rw [hsl]; exact k2_hasslot (q4 f hf)) rfl rfl hd fun H' e1 e2 e3 => ?_
    rw [hsl] at e1 ⊢
    exact go H' e1 e2 e3
theorem g_new (C : Cx X d cc nL ow mc ms) {ci N : Nat} {CN : String} {T : u_T} {tyT : Nat → FieldType} (hc : vwCl[ci]? = some (CN, T, N)) (hc7 : ci < 7) (hN : nf ci = N) (hin : ∀ w ∈ u_ws CN T N, w ∈ lwg) (hty : ∀ k, k < N → parseFieldDescriptor (T k).2.2.1 = some (tyT k)) (hdef : ∀ j, j < N → defaultValue (tyT j) = if kd ci j = true then .int 0 else .null) {idx : Nat} (hw1 : Cond.classLink ow idx CN ∈ lwg) (hw2 : Cond.instantiable CN N ∈ lwg) (hw3 : Cond.initialized CN ∈ lwg) (hd : decode cc pc = .ok (.new idx, 3)) (hk : k + 1 ≤ mc ∧ n + N ≤ ms) (kk : ∀ q, gT M q = none → G X nL (sN M q (ci, 0)) (k + 1) (n + N) (pc + 3) lv (.ref q :: st)) : G X nL M k n pc lv st := by
  obtain ⟨p, l, e, R, s, m, args, below, meth, c, D, dA, A, Q⟩ := X
  obtain ⟨hx, hb, hml, hown, hts, hK, -, hA0, -, hRc, -⟩ := C
  intro H locs ls hP hA hS hl hr
  have hKn := hK.1.1 ci _ hc
  refine W.newcK hx hb hown (hts _ hw1) (hts _ hw2) (hts _ hw3) rfl hd (by rw [hRc.1]; exact hk.1) (by rw [hRc.2]; exact hk.2) hKn.2.1 rfl fun H1 kC hkC e1 z1 o1 => ?_
  obtain ⟨g1, g2⟩ := pic_new (H1 := H1) (ty := (ci, 0)) hP rfl o1 (by
    unfold pcell
    rw [if_pos hc7, hN]
    refine (u_born tyT hts hin hKn hkC e1 hty).to (fun j hj => ?_)
    rw [hdef j hj]
    unfold fV
    rw [gI_sN, gR_sN, if_pos rfl, if_pos rfl]
    rfl)
  exact kk H.size g1 H1 locs ls g2 (fun b hb2 => by
    rw [gT_sN] at hb2
    by_cases e9 : b = H.size
    · rw [e9]; exact hA0 _ hS.1
    · rw [if_neg e9] at hb2; exact hA b hb2) ⟨Nat.le_trans hS.1 (by omega), fun x h1 h2 => (o1 x (Nat.lt_of_lt_of_le h1 hS.1)).trans (hS.2.1 x h1 h2), hS.2.2⟩ hl ⟨by rw [hRc.1]; exact hk.1, by rw [hRc.2]; exact hk.2⟩
theorem g_newa (C : Cx X d cc nL ow mc ms) {at0 : ArrayType} {ty : FieldType} {ck : Nat} (hty : newarray.typeOf at0 = ty) (hck : (ck = 10 ∧ ty = .int) ∨ (ck = 11 ∧ ty = .long)) (hw : Cond.arrayClass ty ∈ lwg) {x : Int32} {N' : Nat} (hn : ¬ x < 0) (hN : x.toNatClampNeg = N') (hbytes : N' * componentBytes ty ≤ 536870912) (hd : decode cc pc = .ok (.newarray at0, 2)) (hk : k + 1 ≤ mc ∧ n + N' ≤ ms) (kk : ∀ q, gT M q = none → G X nL (sN M q (ck, N')) (k + 1) (n + N') (pc + 2) lv (.ref q :: st)) : G X nL M k n pc lv (.int x :: st) := by
  obtain ⟨p, l, e, R, s, m, args, below, meth, c, D, dA, A, Q⟩ := X
  obtain ⟨hx, hb, hml, hown, hts, hK, -, hA0, -, hRc, -⟩ := C
  intro H locs ls hP hA hS hl hr
  subst hty
  refine va_newaK hx hb (hts _ hw) rfl hd rfl hn hN hbytes (by rw [hRc.1]; exact hk.1) (by rw [hRc.2]; exact hk.2) rfl fun H1 cA e1 z1 o1 hAr hNm => ?_
  obtain ⟨g1, g2⟩ := pic_new (H1 := H1) (ty := (ck, N')) hP rfl o1 (by
    rcases hck with ⟨rfl, ht⟩ | ⟨rfl, ht⟩
    · have hcA : cA = dA 10 := by
        have h9 := (hK.1.2 0 (dA 10, .int) rfl).2
        rw [ht] at hNm
        exact Option.some.inj (hNm.symm.trans h9)
      show H1[H.size]? = some (vp_cell (dA 10) (N', .inl (gI (sN M H.size (10, N')) H.size)))
      rw [e1, hcA, ht, vp_cell_i]
      congr 2
      funext j
      show Value.int 0 = Value.int (gI (sN M H.size (10, N')) H.size j)
      rw [gI_sN, if_pos rfl]
    · have hcA : cA = dA 11 := by
        have h9 := (hK.1.2 1 (dA 11, .long) rfl).2
        rw [ht] at hNm
        exact Option.some.inj (hNm.symm.trans h9)
      show H1[H.size]? = some (vp_cell (dA 11) (N', .inr (.inl (gL (sN M H.size (11, N')) H.size))))
      rw [e1, hcA, ht, vp_cell_l]
      congr 2
      funext j
      show Value.long 0 = Value.long (gL (sN M H.size (11, N')) H.size j)
      rw [gL_sN, if_pos rfl])
  exact kk H.size g1 H1 locs ls g2 (fun b hb2 => by
    rw [gT_sN] at hb2
    by_cases e9 : b = H.size
    · rw [e9]; exact hA0 _ hS.1
    · rw [if_neg e9] at hb2; exact hA b hb2) ⟨Nat.le_trans hS.1 (by omega), fun x h1 h2 => (o1 x (Nat.lt_of_lt_of_le h1 hS.1)).trans (hS.2.1 x h1 h2), hS.2.2⟩ hl ⟨by rw [hRc.1]; exact hk.1, by rw [hRc.2]; exact hk.2⟩
theorem g_newq (C : Cx X d cc nL ow mc ms) {CN : String} {ck j0 idx : Nat} (hck : 11 < ck) (hj : (tysA X.2.2.2.2.2.2.2.2.2.2.2.1)[j0]? = some (X.2.2.2.2.2.2.2.2.2.2.2.1 ck, .object CN)) (hCN : CN ∈ [RX3, RX0, RX2]) (hw : Cond.classLink ow idx CN ∈ lwg) {x : Int32} {N' : Nat} (hn : ¬ x < 0) (hN : x.toNatClampNeg = N') (hbytes : N' * 4 ≤ 536870912) (hd : decode cc pc = .ok (.anewarray idx, 3)) (hk : k + 1 ≤ mc ∧ n + N' ≤ ms) (kk : ∀ q, gT M q = none → G X nL (sN M q (ck, N')) (k + 1) (n + N') (pc + 3) lv (.ref q :: st)) : G X nL M k n pc lv (.int x :: st) := by
  obtain ⟨p, l, e, R, s, m, args, below, meth, c, D, dA, A, Q⟩ := X
  obtain ⟨hx, hb, hml, hown, hts, hK, -, hA0, -, hRc, -⟩ := C
  intro H locs ls hP hA hS hl hr
  subst hN
  refine W.anew hx hb hown (hts _ hw) (va_AO.use (hK.2.2.1 CN hCN)) rfl hd rfl hn hbytes (by rw [hRc.1]; exact hk.1) (by rw [hRc.2]; exact hk.2) fun cA kA comp f1 f2 f3 f4 => ?_
  generalize hH1 : H.push ({ cls := cA, slots := Array.replicate x.toNatClampNeg .null, vm := .none } : Cell) = H1
  have z1 : H1.size = H.size + 1 := by rw [← hH1, Array.size_push]
  have e1 : H1[H.size]? = some (arrV cA x.toNatClampNeg (fun _ => .null)) := by rw [← hH1, Array.getElem?_push_size, ← arrV_new]
  have o1 : ∀ q : Nat, q < H.size → H1[q]? = H[q]? := fun q hq => by rw [← hH1, Array.getElem?_push, if_neg (Nat.ne_of_lt hq)]
  have hcA : cA = dA ck := by
    obtain ⟨kA', comp', g1, g2, g3, g4⟩ := (hK.1.2 j0 (dA ck, .object CN) hj).2
    exact Option.some.inj (f1.symm.trans g4)
  obtain ⟨g1, g2⟩ := pic_new (H1 := H1) (ty := (ck, x.toNatClampNeg)) hP rfl o1 (by
    unfold pcell
    rw [if_neg (by show ¬ ck < 7; omega), e1, hcA]
    unfold aE
    rw [if_neg (by show ¬ ck = 10; omega), if_neg (by show ¬ ck = 11; omega), vp_cell_q]
    congr 2
    funext j
    rw [gR_sN, if_pos rfl]
    rfl)
  exact kk H.size g1 H1 locs ls g2 (fun b hb2 => by
    rw [gT_sN] at hb2
    by_cases e9 : b = H.size
    · rw [e9]; exact hA0 _ hS.1
    · rw [if_neg e9] at hb2; exact hA b hb2) ⟨Nat.le_trans hS.1 (by omega), fun x h1 h2 => (o1 x (Nat.lt_of_lt_of_le h1 hS.1)).trans (hS.2.1 x h1 h2), hS.2.2⟩ hl ⟨by rw [hRc.1]; exact hk.1, by rw [hRc.2]; exact hk.2⟩
theorem g_iald (C : Cx X d cc nL ow mc ms) {a N : Nat} {i : Int32} (hd : decode cc pc = .ok (.iaload, 1)) (hT : gT M a = some (10, N)) (hi : vp_in i N) (kk : G X nL M k n (pc + 1) lv (.int (gI M a i.toNatClampNeg) :: st)) : G X nL M k n pc lv (.int i :: .ref a :: st) := by
  obtain ⟨p, l, e, R, s, m, args, below, meth, c, D, dA, A, Q⟩ := X
  obtain ⟨hx, hb, hml, hown, hts, hK, -⟩ := C
  intro H locs ls hP hA hS hl hr
  exact va_iald (ws := [(a, .inl (dA 10, N, .inl (gI M a)))]) hx hb hK.1 (fun j q hq => by
    have hz : j < 1 := (List.getElem?_eq_some_iff.mp hq).1
    rw [show j = 0 by omega] at hq
    cases hq
    exact hP a 10 N hT) 0 0 rfl rfl hi hd (kk H locs ls hP hA hS hl hr)
theorem g_lald (C : Cx X d cc nL ow mc ms) {a N : Nat} {i : Int32} (hd : decode cc pc = .ok (.laload, 1)) (hT : gT M a = some (11, N)) (hi : vp_in i N) (kk : G X nL M k n (pc + 1) lv (.long (gL M a i.toNatClampNeg) :: st)) : G X nL M k n pc lv (.int i :: .ref a :: st) := by
  obtain ⟨p, l, e, R, s, m, args, below, meth, c, D, dA, A, Q⟩ := X
  obtain ⟨hx, hb, hml, hown, hts, hK, -⟩ := C
  intro H locs ls hP hA hS hl hr
  exact va_lald (ws := [(a, .inl (dA 11, N, .inr (.inl (gL M a))))]) hx hb hK.1 (fun j q hq => by
    have hz : j < 1 := (List.getElem?_eq_some_iff.mp hq).1
    rw [show j = 0 by omega] at hq
    cases hq
    exact hP a 11 N hT) 0 1 rfl rfl hi hd (kk H locs ls hP hA hS hl hr)
theorem g_aald (C : Cx X d cc nL ow mc ms) {a N ck : Nat} {i : Int32} (hck : ck = 12 ∨ ck = 13 ∨ ck = 14) (hd : decode cc pc = .ok (.aaload, 1)) (hT : gT M a = some (ck, N)) (hi : vp_in i N) (kk : G X nL M k n (pc + 1) lv (va_rf (gR M a i.toNatClampNeg) :: st)) : G X nL M k n pc lv (.int i :: .ref a :: st) := by
  obtain ⟨p, l, e, R, s, m, args, below, meth, c, D, dA, A, Q⟩ := X
  obtain ⟨hx, hb, hml, hown, hts, hK, -⟩ := C
  intro H locs ls hP hA hS hl hr
  have h1 := hP a ck N hT
  rcases hck with rfl | rfl | rfl
  · exact va_aldq (ws := [(a, .inl (dA 12, N, .inr (.inr (.inr (.inr (gR M a))))))]) hx hb hK.1 (fun j q hq => by
      have hz : j < 1 := (List.getElem?_eq_some_iff.mp hq).1
      rw [show j = 0 by omega] at hq
      cases hq
      exact h1) 0 2 rfl rfl hi hd (kk H locs ls hP hA hS hl hr)
  · exact va_aldq (ws := [(a, .inl (dA 13, N, .inr (.inr (.inr (.inr (gR M a))))))]) hx hb hK.1 (fun j q hq => by
      have hz : j < 1 := (List.getElem?_eq_some_iff.mp hq).1
      rw [show j = 0 by omega] at hq
      cases hq
      exact h1) 0 3 rfl rfl hi hd (kk H locs ls hP hA hS hl hr)
  · exact va_aldq (ws := [(a, .inl (dA 14, N, .inr (.inr (.inr (.inr (gR M a))))))]) hx hb hK.1 (fun j q hq => by
      have hz : j < 1 := (List.getElem?_eq_some_iff.mp hq).1
      rw [show j = 0 by omega] at hq
      cases hq
      exact h1) 0 4 rfl rfl hi hd (kk H locs ls hP hA hS hl hr)
theorem g_iast (C : Cx X d cc nL ow mc ms) {a N : Nat} {i x : Int32} (hd : decode cc pc = .ok (.iastore, 1)) (hT : gT M a = some (10, N)) (hi : vp_in i N) (kk : G X nL (sI M a i.toNatClampNeg x) k n (pc + 1) lv st) : G X nL M k n pc lv (.int x :: .int i :: .ref a :: st) := by
  obtain ⟨p, l, e, R, s, m, args, below, meth, c, D, dA, A, Q⟩ := X
  obtain ⟨hx, hb, hml, hown, hts, hK, -⟩ := C
  intro H locs ls hP hA hS hl hr
  have h1 : H[a]? = some (vp_cell (dA 10) (N, .inl (gI M a))) := hP a 10 N hT
  refine W.iast hx hb h1 ((hK.1.2 0 (dA 10, .int) rfl).1 N (fun j => .int (gI M a j))) (fun q => by cases q) (by show ¬ (i < 0 ∨ (arrV _ _ _).slots.size ≤ _); rw [arrV_size]; exact hi) rfl rfl hd fun H1 e1 z oq => ?_
  refine kk H1 _ ls (pic_upd (a := a) hP (fun b => rfl) (fun b j hb2 => by rw [gI_sI, if_neg (fun h => hb2 h.1)]) (fun b j _ => rfl) (fun b j _ => rfl) oq (fun c0 n0 h0 => ?_)) hA (hS.put z oq (hA a (by rw [hT]; exact fun z => by cases z))) hl hr
  rw [hT] at h0
  cases h0
  show H1[a]? = some (vp_cell (dA 10) (N, .inl (gI (sI M a i.toNatClampNeg x) a)))
  rw [e1, vp_cell_i, vp_cell_i, arrV_store]
  congr 2
  funext q
  unfold updV
  rw [gI_sI]
  by_cases hq : q = i.toNatClampNeg
  · rw [if_pos hq, if_pos ⟨rfl, hq⟩]
  · rw [if_neg hq, if_neg (fun h => hq h.2)]
theorem g_last (C : Cx X d cc nL ow mc ms) {a N : Nat} {i : Int32} {x : Int64} (hd : decode cc pc = .ok (.lastore, 1)) (hT : gT M a = some (11, N)) (hi : vp_in i N) (kk : G X nL (sL M a i.toNatClampNeg x) k n (pc + 1) lv st) : G X nL M k n pc lv (.long x :: .int i :: .ref a :: st) := by
  obtain ⟨p, l, e, R, s, m, args, below, meth, c, D, dA, A, Q⟩ := X
  obtain ⟨hx, hb, hml, hown, hts, hK, -⟩ := C
  intro H locs ls hP hA hS hl hr
  have h1 : H[a]? = some (vp_cell (dA 11) (N, .inr (.inl (gL M a)))) := hP a 11 N hT
  refine W.last hx hb h1 ((hK.1.2 1 (dA 11, .long) rfl).1 N (fun j => .long (gL M a j))) (fun q => by cases q) (by show ¬ (i < 0 ∨ (arrV _ _ _).slots.size ≤ _); rw [arrV_size]; exact hi) rfl rfl hd fun H1 e1 z oq => ?_
  refine kk H1 _ ls (pic_upd (a := a) hP (fun b => rfl) (fun b j _ => rfl) (fun b j _ => rfl) (fun b j hb2 => by rw [gL_sL, if_neg (fun h => hb2 h.1)]) oq (fun c0 n0 h0 => ?_)) hA (hS.put z oq (hA a (by rw [hT]; exact fun z => by cases z))) hl hr
  rw [hT] at h0
  cases h0
  show H1[a]? = some (vp_cell (dA 11) (N, .inr (.inl (gL (sL M a i.toNatClampNeg x) a))))
  rw [e1, vp_cell_l, vp_cell_l, arrV_store]
  congr 2
  funext q
  unfold updV
  rw [gL_sL]
  by_cases hq : q = i.toNatClampNeg
  · rw [if_pos hq, if_pos ⟨rfl, hq⟩]
  · rw [if_neg hq, if_neg (fun h => hq h.2)]
/-- an object goes into an array of references: ck the array's kind, ci the object's -/
theorem g_aast (C : Cx X d cc nL ow mc ms) {a N ck ci v : Nat} {i : Int32} (hck : (ck = 12 ∧ ci = 3) ∨ (ck = 13 ∧ ci = 0) ∨ (ck = 14 ∧ ci = 2)) (hd : decode cc pc = .ok (.aastore, 1)) (hT : gT M a = some (ck, N)) (hV : gT M v = some (ci, 0)) (hi : vp_in i N) (kk : G X nL (sR M a i.toNatClampNeg (some v)) k n (pc + 1) lv st) : G X nL M k n pc lv (.ref v :: .int i :: .ref a :: st) := by
  obtain ⟨p, l, e, R, s, m, args, below, meth, c, D, dA, A, Q⟩ := X
  obtain ⟨hx, hb, hml, hown, hts, hK, -⟩ := C
  intro H locs ls hP hA hS hl hr
  have h12 : ¬ ck < 7 ∧ ¬ ck = 10 ∧ ¬ ck = 11 ∧ ci < 7 := by omega
  have h1 : H[a]? = some (vp_cell (dA ck) (N, .inr (.inr (.inr (.inr (gR M a)))))) := by
    have h9 := hP a ck N hT
    unfold pcell at h9
    rw [if_neg h12.1] at h9
    rw [h9]
    unfold aE
    rw [if_neg h12.2.1, if_neg h12.2.2.1]
  have h2 := hP v ci 0 hV
  unfold pcell at h2
  rw [if_pos h12.2.2.2] at h2
  obtain ⟨cellV, g1, g2, g3, -⟩ := h2
  obtain ⟨r, hr9, j0, ht9⟩ : ∃ r : vw_C, vwCl[ci]? = some r ∧ ∃ j0 : Nat, (tysA dA)[j0]? = some (dA ck, FieldType.object r.1) := by
    rcases hck with ⟨rfl, rfl⟩ | ⟨rfl, rfl⟩ | ⟨rfl, rfl⟩
    · exact ⟨(RX3, TX3, 2), rfl, 2, rfl⟩
    · exact ⟨(RX0, TX0, 4), rfl, 3, rfl⟩
    · exact ⟨(RX2, TX2, 2), rfl, 4, rfl⟩
  have hlt : i.toNatClampNeg < N := Nat.not_le.mp fun q => hi (Or.inr q)
  have h0 : ¬ i < 0 := fun q => hi (Or.inl q)
  have hcls := (hK.1.1 ci r hr9).2
  obtain ⟨kA, comp, k1, k2, k3, -⟩ := (hK.1.2 j0 _ ht9).2
  have hcomp : comp = D.1 ci := Option.some.inj (k3.symm.trans hcls.1)
  subst hcomp
  obtain ⟨kC, hkC, -⟩ := id hcls.2
  refine W.aast hx hb h1 (fun q h => by cases h) (fun h => by cases h) k1 k2 rfl hkC ⟨h0, by show _ < (arrV _ _ _).slots.size; rw [arrV_size]; exact hlt⟩ g1 (fun q h => by rw [g3] at h; cases h) (by rw [g2]; exact hkC) (by rw [g2]; exact va_assign hcls) rfl rfl hd fun H1 e1 z oq => ?_
  refine kk H1 _ ls (pic_upd (a := a) hP (fun b => rfl) (fun b j _ => rfl) (fun b j hb2 => by rw [gR_sR, if_neg (fun h => hb2 h.1)]) (fun b j _ => rfl) oq (fun c0 n0 h0 => ?_)) hA (hS.put z oq (hA a (by rw [hT]; exact fun z => by cases z))) hl hr
  rw [hT] at h0
  cases h0
  unfold pcell
  rw [if_neg h12.1]
  unfold aE
  rw [if_neg h12.2.1, if_neg h12.2.2.1]
  rw [e1, vp_cell_q, vp_cell_q, arrV_store]
  congr 2
  funext q
  unfold updV
  rw [gR_sR]
  by_cases hq : q = i.toNatClampNeg
  · rw [if_pos hq, if_pos ⟨rfl, hq⟩]
    rfl
  · rw [if_neg hq, if_neg (fun h => hq h.2)]
end GM
end
section
/-! CONTRACTS over the memory, and calls -/
def rmd (d mc ms : Nat) : Room := { frames := d, cells := mc, slots := ms, locals := 36 * d }
def Pre (D : va_G) (dA : Nat → ClassId) (M : Mem) (sz : Nat) (U : State) : Prop := U.heap.size = sz ∧ pic D dA M U.heap ∧ kx D dA U ∧ zx (own M sz) U U.heap
def QcN (D : va_G) (dA : Nat → ClassId) (M : Mem) (sz : Nat) (post : Mem → Option Value → Prop) : Array Value → State → Outcome → State → Prop := fun _ st o t => ∃ (v : Option Value) (M' : Mem), o = .returned v ∧ post M' v ∧ pic D dA M' t.heap ∧ (∀ q, gT M' q ≠ none → own M sz q) ∧ va_F (own M sz) st t
def XcN (D : va_G) (dA : Nat → ClassId) (M : Mem) (sz : Nat) (xp : String → Mem → Prop) : String → State → State → Prop := fun E st t => ∃ M' : Mem, xp E M' ∧ pic D dA M' t.heap ∧ (∀ q, gT M' q ≠ none → own M sz q) ∧ va_F (own M sz) st t
/-- a method that returns: from the memory M, with the arguments argv, in at most mc new cells of ms slots, it returns with post -/
def CtN (l : Launch) (D : va_G) (dA : Nat → ClassId) (y : MethodName) (cc : ByteArray) (maxL : Nat) (ret : Option FieldType) (d : Nat) (argv : List Value) (M : Mem) (mc ms : Nat) (post : Mem → Option Value → Prop) : Prop :=
  ∀ sz : Nat, Met l y (Cond.code y cc maxL ret :: lwg) (rmd d mc ms) (va_Pc argv (Pre D dA M sz)) (QcN D dA M sz post) mc ms (own M sz)
/-- .. or throws, with xp -/
def CtX (l : Launch) (D : va_G) (dA : Nat → ClassId) (y : MethodName) (cc : ByteArray) (maxL : Nat) (ret : Option FieldType) (d : Nat) (argv : List Value) (M : Mem) (mc ms : Nat) (xp : String → Mem → Prop) (post : Mem → Option Value → Prop) : Prop :=
  ∀ sz : Nat, vx_Met l y (Cond.code y cc maxL ret :: lwg) (rmd d mc ms) (va_Pc argv (Pre D dA M sz)) (QcN D dA M sz post) (XcN D dA M sz xp) mc ms (own M sz)
theorem zx_kept {A : Nat → Prop} {s : State} {H : Heap} {locs : List Loc} (h : zx A s s.heap) (hS : va_S A s.heap H locs) : zx A s H := ⟨h.1.kept hS.2.1, h.2.kept hS.2.1⟩
theorem zx_narrow {A B : Nat → Prop} {s : State} {H : Heap} (h : zx A s H) (hAB : ∀ q, B q → A q) : zx B s H := ⟨h.1.narrow hAB, h.2.narrow hAB⟩
theorem zx_moved {A : Nat → Prop} {u U : State} {H : Heap} (hvm : u.vm.Alike U.vm) (h : zx A u H) : zx A U H := ⟨h.1.moved hvm, h.2.moved hvm⟩
theorem pre_blind {D : va_G} {dA : Nat → ClassId} {M : Mem} {sz : Nat} {argv : List Value} : FrameBlind (va_Pc argv (Pre D dA M sz)) := by
  intro a U g mk q
  obtain ⟨q0, q1, q2, q3, q4⟩ := q
  exact ⟨q0, q1, q2, kx_warm (s := U) (U := U.calling g mk a) (State.WarmedH.refl U) q3, zx_moved (u := U) (U := U.calling g mk a) (Vm.Alike.refl U.vm) q4⟩
theorem own_in {M : Mem} {A : Nat → Prop} {s : State} {H : Heap} {locs : List Loc} (hA : ∀ a, gT M a ≠ none → A a) (hA0 : ∀ q, s.heap.size ≤ q → A q) (hS : va_S A s.heap H locs) : ∀ q, own M H.size q → A q := by
  intro q hq
  rcases hq with h | h
  · exact hA q h
  · exact hA0 q (Nat.le_trans hS.1 h)
theorem pre_at {D : va_G} {dA : Nat → ClassId} {M : Mem} {A : Nat → Prop} {s U : State} {H : Heap} {locs : List Loc} (hP : pic D dA M H) (hA : ∀ a, gT M a ≠ none → A a) (hA0 : ∀ q, s.heap.size ≤ q → A q) (hS : va_S A s.heap H locs) (hK : kx D dA s) (hz : zx A s s.heap) (hU : U.heap = H) (hW : s.WarmedH U.vm) : Pre D dA M H.size U := by
  refine ⟨by rw [hU], by rw [hU]; exact hP, kx_warm hW hK, ?_⟩
  rw [hU]
  exact zx_moved hW.alike (zx_narrow (zx_kept hz hS) (own_in hA hA0 hS))
section GC
variable {X : XT} {d d' nL mc ms mc' ms' maxL' idx : Nat} {cc cy : ByteArray} {ow : String} {M : Mem} {k n pc : Nat} {lv : List (Nat × Value)} {st : List Value} {y : MethodName} {ret' : Option FieldType} {post : Mem → Option Value → Prop} {xp : String → Mem → Prop}
/-- behind a call that returns -/
theorem g_after {p : Program} {l : Launch} {e : Env} {R : Room} {s : State} {m : MethodId} {args : Array Value} {below : List Frame} {meth : Method} {c : Code} {D : va_G} {dA : Nat → ClassId} {A : Nat → Prop} {Q : State → Prop} {H : Heap} {locs : List Loc} {ls : Array Slot} {st0 rest : List Value} {a : Array Value}
    (hA : ∀ a, gT M a ≠ none → A a) (hA0 : ∀ q, s.heap.size ≤ q → A q) (hS : va_S A s.heap H locs) (hl : lv_has ls nL lv) (hk : k + mc' ≤ R.cells ∧ n + ms' ≤ R.slots)
    (hr : va_Run p l e R s m args below meth c H locs k n mc' ms' (F0 m pc ls st0) rest (QcN D dA M H.size post a) (own M H.size))
    (kk : ∀ M' v, post M' v → G (p, l, e, R, s, m, args, below, meth, c, D, dA, A, Q) nL M' (k + mc') (n + ms') (pc + 3) lv (v.toList ++ rest)) : W p l e R s m args below meth c H locs k n Q (F0 m pc ls st0) := by
  intro T hT X0
  obtain ⟨v, st₀, t, T', L, h0, X', hL, e1, e2, ⟨v', M', hv, hp, hpic, how, hF⟩, hst⟩ := hr T hT X0
  cases hv
  have ho := own_in hA hA0 hS
  obtain ⟨hz, hkp⟩ := hF
  rw [h0] at hz hkp
  obtain ⟨t2, a1, b1⟩ := kk M' v hp T'.heap (locs ++ L) ls (by rw [e1]; exact hpic) (fun q hq => ho q (how q hq)) ⟨Nat.le_trans hS.1 (by rw [e1]; exact hz), fun q h1 h2 => by rw [e1, hkp q (Nat.lt_of_lt_of_le h1 hS.1) (fun z => h2 (ho q z))]; exact hS.2.1 q h1 h2, fun q hq => by
    rcases List.mem_append.mp hq with h | h
    · exact hS.2.2 q h
    · exact ho _ (hL q h)⟩ hl hk T' rfl X'
  exact ⟨t2, hst t2 a1, b1⟩
/-- behind a call that returns or throws -/
theorem gx_after {p : Program} {l : Launch} {e : Env} {R : Room} {s : State} {m : MethodId} {args : Array Value} {below : List Frame} {meth : Method} {c : Code} {D : va_G} {dA : Nat → ClassId} {A : Nat → Prop} {Q : State → Prop} {H : Heap} {locs : List Loc} {ls : Array Slot} {st0 rest : List Value} {a : Array Value}
    (hA : ∀ a, gT M a ≠ none → A a) (hA0 : ∀ q, s.heap.size ≤ q → A q) (hS : va_S A s.heap H locs) (hl : lv_has ls nL lv) (hk : k + mc' ≤ R.cells ∧ n + ms' ≤ R.slots)
    (hr : vx_Run p l e R s m args below meth c H locs k n mc' ms' (F0 m pc ls st0) rest (QcN D dA M H.size post a) (XcN D dA M H.size xp) (own M H.size))
    (kx9 : ∀ M' E, xp E M' → GX (p, l, e, R, s, m, args, below, meth, c, D, dA, A, Q) nL M' (k + mc') (n + ms') pc lv rest E)
    (kk : ∀ M' v, post M' v → G (p, l, e, R, s, m, args, below, meth, c, D, dA, A, Q) nL M' (k + mc') (n + ms') (pc + 3) lv (v.toList ++ rest)) : W p l e R s m args below meth c H locs k n Q (F0 m pc ls st0) := by
  intro T hT X0
  have ho := own_in hA hA0 hS
  rcases hr T hT X0 with ⟨v, st₀, t, T', L, h0, X', hL, e1, e2, ⟨v', M', hv, hp, hpic, how, hF⟩, hst⟩ | ⟨q, st₀, t, T', L, E, ce, h0, X', hL, e1, e2, ⟨M', hp, hpic, how, hF⟩, hce, hcv, hcl, hst⟩
  · cases hv
    obtain ⟨hz, hkp⟩ := hF
    rw [h0] at hz hkp
    obtain ⟨t2, a1, b1⟩ := kk M' v hp T'.heap (locs ++ L) ls (by rw [e1]; exact hpic) (fun q hq => ho q (how q hq)) ⟨Nat.le_trans hS.1 (by rw [e1]; exact hz), fun q h1 h2 => by rw [e1, hkp q (Nat.lt_of_lt_of_le h1 hS.1) (fun z => h2 (ho q z))]; exact hS.2.1 q h1 h2, fun q hq => by
      rcases List.mem_append.mp hq with h | h
      · exact hS.2.2 q h
      · exact ho _ (hL q h)⟩ hl hk T' rfl X'
    exact ⟨t2, hst t2 a1, b1⟩
  · obtain ⟨hz, hkp⟩ := hF
    rw [h0] at hz hkp
    obtain ⟨t2, a1, b1⟩ := kx9 M' E hp T'.heap (locs ++ L) ls q ce (by rw [e1]; exact hpic) (fun q hq => ho q (how q hq)) ⟨Nat.le_trans hS.1 (by rw [e1]; exact hz), fun q h1 h2 => by rw [e1, hkp q (Nat.lt_of_lt_of_le h1 hS.1) (fun z => h2 (ho q z))]; exact hS.2.1 q h1 h2, fun q hq => by
      rcases List.mem_append.mp hq with h | h
      · exact hS.2.2 q h
      · exact ho _ (hL q h)⟩ hl hk (by rw [e1]; exact hce) hcv hcl T' rfl X'
    exact ⟨t2, hst.trans a1, b1⟩
theorem hkz {R : Room} {k n mc ms mc' ms' : Nat} (hk : (mc' = 0 ∧ ms' = 0) ∨ (k + mc' ≤ mc ∧ n + ms' ≤ ms)) (hRc : R.cells = mc ∧ R.slots = ms) (hr : k ≤ R.cells ∧ n ≤ R.slots) : k + mc' ≤ R.cells ∧ n + ms' ≤ R.slots := by
  rw [hRc.1, hRc.2] at hr ⊢
  rcases hk with ⟨rfl, rfl⟩ | h
  · exact hr
  · exact h
abbrev plainY (y : MethodName) (a : Nat) : Prop := y.cls ≠ "java/lang/invoke/MethodHandle" ∧ y.cls ≠ "java/lang/invoke/VarHandle" ∧ (parseMethodDescriptor y.desc).map (fun d => d.parameters.length) = some a
theorem g_recv {D : va_G} {dA : Nat → ClassId} {s : State} {H : Heap} {ci a N : Nat} {CN : String} {T : u_T} (hK : kx D dA s) (hP : pic D dA M H) (hc : vwCl[ci]? = some (CN, T, N)) (hc7 : ci < 7) (hT : gT M a = some (ci, 0)) : ∃ cell : Cell, H[a]? = some cell ∧ cell.vm.isStatics = false ∧ s.vm.findClass CN = some cell.cls := by
  have h1 := hP a ci 0 hT
  unfold pcell at h1
  rw [if_pos hc7] at h1
  obtain ⟨cell, q1, q2, q3, -⟩ := h1
  exact ⟨cell, q1, by rw [q3]; rfl, by rw [q2]; exact (hK.1.1 ci _ hc).2.1⟩
theorem g_callV (C : Cx X d cc nL ow mc ms) {a ci N : Nat} {CN : String} {T : u_T} {As : List Value} (hct : ∀ l D dA, l.stackTraces = false → CtN l D dA y cy maxL' ret' d' (.ref a :: As) M mc' ms' post) (hw0 : Cond.code y cy maxL' ret' ∈ lwg) (hw1 : Cond.methodLink ow idx y ∈ lwg) (hw2 : Cond.instanceMethod y ∈ lwg) (hw3 : Cond.selects CN y y ∈ lwg) (hw4 : Cond.initialized y.cls ∈ lwg) (hy : plainY y As.length) (hc : vwCl[ci]? = some (CN, T, N)) (hc7 : ci < 7) (hd : decode cc pc = .ok (.invokevirtual idx, 3)) (hdd : d' + 1 ≤ d ∧ maxL' ≤ 17) (hst : (st.map fun v => v.category).sum ≤ 8) (hT : gT M a = some (ci, 0)) (hk : (mc' = 0 ∧ ms' = 0) ∨ (k + mc' ≤ mc ∧ n + ms' ≤ ms))
    (kk : ∀ M' v, post M' v → G X nL M' (k + mc') (n + ms') (pc + 3) lv (v.toList ++ st)) : G X nL M k n pc lv (As.reverse ++ .ref a :: st) := by
  obtain ⟨p, l, e, R, s, m, args, below, meth, c, D, dA, A, Q⟩ := X
  obtain ⟨hx, hb, hml, hown, hts, hK, hz, hA0, hR, hRc, hlk, htr⟩ := C
  intro H locs ls hP hA hS hl hr
  have hkR : k + mc' ≤ R.cells ∧ n + ms' ≤ R.slots := hkz hk hRc hr
  have hcw : CallW R s args ow CN idx y cy maxL' ret' (Cond.code y cy maxL' ret' :: lwg) (rmd d' mc' ms') mc' ms' As.length := ⟨callB_of As.length hts (wt_inL y cy maxL' ret' hw0) rfl rfl rfl (hts _ hw4) (hts _ hw1) hy ⟨by show d' + 1 ≤ _; omega, by show 8 + (maxL' + 11) + 36 * d' ≤ _; omega⟩, hts _ hw2, hts _ hw3⟩
  exact g_after hA hA0 hS hl hkR (va_runV ⟨hx, hb, hml, hown, hts⟩ (hct l D dA htr H.size) hcw ⟨pre_blind, g_recv hK hP hc hc7 hT, fun U hU hW => ⟨rfl, pre_at hP hA hA0 hS hK hz hU hW⟩⟩ rfl rfl hl.1 rfl (lv_room hst) hd hkR) kk
theorem g_callS (C : Cx X d cc nL ow mc ms) {As : List Value} (hct : ∀ l D dA, l.stackTraces = false → CtN l D dA y cy maxL' ret' d' As M mc' ms' post) (hw0 : Cond.code y cy maxL' ret' ∈ lwg) (hw1 : Cond.methodLink ow idx y ∈ lwg) (hw2 : Cond.static y ∈ lwg) (hw4 : Cond.initialized y.cls ∈ lwg) (hy : plainY y As.length) (hd : decode cc pc = .ok (.invokestatic idx, 3)) (hdd : d' + 1 ≤ d ∧ maxL' ≤ 17) (hst : (st.map fun v => v.category).sum ≤ 8) (hk : (mc' = 0 ∧ ms' = 0) ∨ (k + mc' ≤ mc ∧ n + ms' ≤ ms))
    (kk : ∀ M' v, post M' v → G X nL M' (k + mc') (n + ms') (pc + 3) lv (v.toList ++ st)) : G X nL M k n pc lv (As.reverse ++ st) := by
  obtain ⟨p, l, e, R, s, m, args, below, meth, c, D, dA, A, Q⟩ := X
  obtain ⟨hx, hb, hml, hown, hts, hK, hz, hA0, hR, hRc, hlk, htr⟩ := C
  intro H locs ls hP hA hS hl hr
  have hkR : k + mc' ≤ R.cells ∧ n + ms' ≤ R.slots := hkz hk hRc hr
  exact g_after hA hA0 hS hl hkR (va_runS ⟨hx, hb, hml, hown, hts⟩ (hct l D dA htr H.size) ⟨callB_of As.length hts (wt_inL y cy maxL' ret' hw0) rfl rfl rfl (hts _ hw4) (hts _ hw1) hy ⟨by show d' + 1 ≤ _; omega, by show 8 + (maxL' + 11) + 36 * d' ≤ _; omega⟩, hts _ hw2⟩ ⟨pre_blind, fun U hU hW => ⟨rfl, pre_at hP hA hA0 hS hK hz hU hW⟩⟩ rfl rfl hl.1 rfl (lv_room hst) hd hkR) kk
theorem g_callSN (C : Cx X d cc nL ow mc ms) {As : List Value} (hct : ∀ l D dA, l.stackTraces = false → CtN l D dA y cy maxL' ret' d' As M mc' ms' post) (hw0 : Cond.code y cy maxL' ret' ∈ lwg) (hw1 : Cond.methodLinkNest ow idx y "ChatRelay" ∈ xwN) (hw2 : Cond.static y ∈ lwg) (hw4 : Cond.initialized y.cls ∈ lwg) (hy : plainY y As.length) (hd : decode cc pc = .ok (.invokestatic idx, 3)) (hdd : d' + 1 ≤ d ∧ maxL' ≤ 17) (hst : (st.map fun v => v.category).sum ≤ 8) (hk : (mc' = 0 ∧ ms' = 0) ∨ (k + mc' ≤ mc ∧ n + ms' ≤ ms))
    (kk : ∀ M' v, post M' v → G X nL M' (k + mc') (n + ms') (pc + 3) lv (v.toList ++ st)) : G X nL M k n pc lv (As.reverse ++ st) := by
  obtain ⟨p, l, e, R, s, m, args, below, meth, c, D, dA, A, Q⟩ := X
  obtain ⟨hx, hb, hml, hown, hts, hK, hz, hA0, hR, hRc, hlk, htr⟩ := C
  intro H locs ls hP hA hS hl hr
  have hkR : k + mc' ≤ R.cells ∧ n + ms' ≤ R.slots := hkz hk hRc hr
  exact g_after hA hA0 hS hl hkR (va_runSN ⟨hx, hb, hml, hown, hts⟩ (hct l D dA htr H.size) ⟨va_cnB As.length hts (wt_inL y cy maxL' ret' hw0) rfl rfl rfl (hK.2.1 _ hw1) (hts _ hw4) hy ⟨by show d' + 1 ≤ _; omega, by show 8 + (maxL' + 11) + 36 * d' ≤ _; omega⟩, hts _ hw2, trivial⟩ ⟨pre_blind, fun U hU hW => ⟨rfl, pre_at hP hA hA0 hS hK hz hU hW⟩⟩ rfl rfl hl.1 rfl (lv_room hst) hd hkR) kk
theorem g_callI (C : Cx X d cc nL ow mc ms) {a : Nat} {As : List Value} (hct : ∀ l D dA, l.stackTraces = false → CtN l D dA y cy maxL' none d' (.ref a :: As) M mc' ms' post) (hy1 : y.name = "<init>") (hw0 : Cond.code y cy maxL' none ∈ lwg) (hw1 : Cond.methodLink ow idx y ∈ lwg) (hw2 : Cond.instanceMethod y ∈ lwg) (hw4 : Cond.initialized y.cls ∈ lwg) (hy : plainY y As.length) (hd : decode cc pc = .ok (.invokespecial idx, 3)) (hdd : d' + 1 ≤ d ∧ maxL' ≤ 17) (hst : (st.map fun v => v.category).sum ≤ 8) (hk : (mc' = 0 ∧ ms' = 0) ∨ (k + mc' ≤ mc ∧ n + ms' ≤ ms))
    (kk : ∀ M' v, post M' v → G X nL M' (k + mc') (n + ms') (pc + 3) lv (v.toList ++ st)) : G X nL M k n pc lv (As.reverse ++ .ref a :: st) := by
  obtain ⟨p, l, e, R, s, m, args, below, meth, c, D, dA, A, Q⟩ := X
  obtain ⟨hx, hb, hml, hown, hts, hK, hz, hA0, hR, hRc, hlk, htr⟩ := C
  intro H locs ls hP hA hS hl hr
  have hkR : k + mc' ≤ R.cells ∧ n + ms' ≤ R.slots := hkz hk hRc hr
  exact g_after hA hA0 hS hl hkR (va_runI ⟨hx, hb, hml, hown, hts⟩ (hct l D dA htr H.size) (cwI As.length hts (wt_inL y cy maxL' none hw0) rfl rfl rfl (hts _ hw4) (hts _ hw1) (hts _ hw2) hy1 hy ⟨by show d' + 1 ≤ _; omega, by show 8 + (maxL' + 11) + 36 * d' ≤ _; omega⟩) ⟨pre_blind, fun U hU hW => ⟨rfl, pre_at hP hA hA0 hS hK hz hU hW⟩⟩ rfl rfl hl.1 rfl (lv_room hst) hd hkR) kk
theorem g_callIN (C : Cx X d cc nL ow mc ms) {a : Nat} {As : List Value} (hct : ∀ l D dA, l.stackTraces = false → CtN l D dA y cy maxL' none d' (.ref a :: As) M mc' ms' post) (hy1 : y.name = "<init>") (hw0 : Cond.code y cy maxL' none ∈ lwg) (hw1 : Cond.methodLinkNest ow idx y "ChatRelay" ∈ xwN) (hw2 : Cond.instanceMethod y ∈ lwg) (hw4 : Cond.initialized y.cls ∈ lwg) (hy : plainY y As.length) (hd : decode cc pc = .ok (.invokespecial idx, 3)) (hdd : d' + 1 ≤ d ∧ maxL' ≤ 17) (hst : (st.map fun v => v.category).sum ≤ 8) (hk : (mc' = 0 ∧ ms' = 0) ∨ (k + mc' ≤ mc ∧ n + ms' ≤ ms))
    (kk : ∀ M' v, post M' v → G X nL M' (k + mc') (n + ms') (pc + 3) lv (v.toList ++ st)) : G X nL M k n pc lv (As.reverse ++ .ref a :: st) := by
  obtain ⟨p, l, e, R, s, m, args, below, meth, c, D, dA, A, Q⟩ := X
  obtain ⟨hx, hb, hml, hown, hts, hK, hz, hA0, hR, hRc, hlk, htr⟩ := C
  intro H locs ls hP hA hS hl hr
  have hkR : k + mc' ≤ R.cells ∧ n + ms' ≤ R.slots := hkz hk hRc hr
  exact g_after hA hA0 hS hl hkR (va_runIN ⟨hx, hb, hml, hown, hts⟩ (hct l D dA htr H.size) ⟨va_cnB As.length hts (wt_inL y cy maxL' none hw0) rfl rfl rfl (hK.2.1 _ hw1) (hts _ hw4) hy ⟨by show d' + 1 ≤ _; omega, by show 8 + (maxL' + 11) + 36 * d' ≤ _; omega⟩, hy1, hts _ hw2⟩ ⟨pre_blind, fun U hU hW => ⟨rfl, pre_at hP hA hA0 hS hK hz hU hW⟩⟩ rfl rfl hl.1 rfl (lv_room hst) hd hkR) kk
theorem gx_callV (C : Cx X d cc nL ow mc ms) {a ci N : Nat} {CN : String} {T : u_T} {As : List Value} (hct : ∀ l D dA, l.stackTraces = false → CtX l D dA y cy maxL' ret' d' (.ref a :: As) M mc' ms' xp post) (hw0 : Cond.code y cy maxL' ret' ∈ lwg) (hw1 : Cond.methodLink ow idx y ∈ lwg) (hw2 : Cond.instanceMethod y ∈ lwg) (hw3 : Cond.selects CN y y ∈ lwg) (hw4 : Cond.initialized y.cls ∈ lwg) (hy : plainY y As.length) (hc : vwCl[ci]? = some (CN, T, N)) (hc7 : ci < 7) (hd : decode cc pc = .ok (.invokevirtual idx, 3)) (hdd : d' + 1 ≤ d ∧ maxL' ≤ 17) (hst : (st.map fun v => v.category).sum ≤ 8) (hT : gT M a = some (ci, 0)) (hk : (mc' = 0 ∧ ms' = 0) ∨ (k + mc' ≤ mc ∧ n + ms' ≤ ms))
    (kx9 : ∀ M' E, xp E M' → GX X nL M' (k + mc') (n + ms') pc lv st E)
    (kk : ∀ M' v, post M' v → G X nL M' (k + mc') (n + ms') (pc + 3) lv (v.toList ++ st)) : G X nL M k n pc lv (As.reverse ++ .ref a :: st) := by
  obtain ⟨p, l, e, R, s, m, args, below, meth, c, D, dA, A, Q⟩ := X
  obtain ⟨hx, hb, hml, hown, hts, hK, hz, hA0, hR, hRc, hlk, htr⟩ := C
  intro H locs ls hP hA hS hl hr
  have hkR : k + mc' ≤ R.cells ∧ n + ms' ≤ R.slots := hkz hk hRc hr
  have hcw : CallW R s args ow CN idx y cy maxL' ret' (Cond.code y cy maxL' ret' :: lwg) (rmd d' mc' ms') mc' ms' As.length := ⟨callB_of As.length hts (wt_inL y cy maxL' ret' hw0) rfl rfl rfl (hts _ hw4) (hts _ hw1) hy ⟨by show d' + 1 ≤ _; omega, by show 8 + (maxL' + 11) + 36 * d' ≤ _; omega⟩, hts _ hw2, hts _ hw3⟩
  exact gx_after hA hA0 hS hl hkR (vx_runV ⟨hx, hb, hml, hown, hts⟩ (hct l D dA htr H.size) hcw ⟨pre_blind, g_recv hK hP hc hc7 hT, fun U hU hW => ⟨rfl, pre_at hP hA hA0 hS hK hz hU hW⟩⟩ rfl rfl hl.1 rfl (lv_room hst) hd hkR) kx9 kk
theorem gx_callS (C : Cx X d cc nL ow mc ms) {As : List Value} (hct : ∀ l D dA, l.stackTraces = false → CtX l D dA y cy maxL' ret' d' As M mc' ms' xp post) (hw0 : Cond.code y cy maxL' ret' ∈ lwg) (hw1 : Cond.methodLink ow idx y ∈ lwg) (hw2 : Cond.static y ∈ lwg) (hw4 : Cond.initialized y.cls ∈ lwg) (hy : plainY y As.length) (hd : decode cc pc = .ok (.invokestatic idx, 3)) (hdd : d' + 1 ≤ d ∧ maxL' ≤ 17) (hst : (st.map fun v => v.category).sum ≤ 8) (hk : (mc' = 0 ∧ ms' = 0) ∨ (k + mc' ≤ mc ∧ n + ms' ≤ ms))
    (kx9 : ∀ M' E, xp E M' → GX X nL M' (k + mc') (n + ms') pc lv st E)
    (kk : ∀ M' v, post M' v → G X nL M' (k + mc') (n + ms') (pc + 3) lv (v.toList ++ st)) : G X nL M k n pc lv (As.reverse ++ st) := by
  obtain ⟨p, l, e, R, s, m, args, below, meth, c, D, dA, A, Q⟩ := X
  obtain ⟨hx, hb, hml, hown, hts, hK, hz, hA0, hR, hRc, hlk, htr⟩ := C
  intro H locs ls hP hA hS hl hr
  have hkR : k + mc' ≤ R.cells ∧ n + ms' ≤ R.slots := hkz hk hRc hr
  exact gx_after hA hA0 hS hl hkR (vx_runS ⟨hx, hb, hml, hown, hts⟩ (hct l D dA htr H.size) ⟨callB_of As.length hts (wt_inL y cy maxL' ret' hw0) rfl rfl rfl (hts _ hw4) (hts _ hw1) hy ⟨by show d' + 1 ≤ _; omega, by show 8 + (maxL' + 11) + 36 * d' ≤ _; omega⟩, hts _ hw2⟩ ⟨pre_blind, fun U hU hW => ⟨rfl, pre_at hP hA hA0 hS hK hz hU hW⟩⟩ rfl rfl hl.1 rfl (lv_room hst) hd hkR) kx9 kk
theorem g_min (C : Cx X (d + 1) cc nL ow mc ms) {x z : Int32} (hw1 : Cond.methodLink ow idx Lib.Math.min.name ∈ lwg) (hw2 : Cond.static Lib.Math.min.name ∈ lwg) (hw3 : Cond.initialized "java/lang/Math" ∈ lwg) (hw0 : Cond.code Lib.Math.min.name Lib.Math.min.code 2 (some .int) ∈ lwg) (hd : decode cc pc = .ok (.invokestatic idx, 3)) (hst : (st.map fun v => v.category).sum ≤ 8) (kk : G X nL M k n (pc + 3) lv (.int (if z < x then z else x) :: st)) : G X nL M k n pc lv (.int z :: .int x :: st) := by
  obtain ⟨p, l, e, R, s, m, args, below, meth, c, D, dA, A, Q⟩ := X
  obtain ⟨hx, hb, hml, hown, hts, hK, hz, hA0, hR, hRc, hlk, htr⟩ := C
  intro H locs ls hP hA hS hl hr
  exact va_mmin hx hb (by rw [hml]; exact hl.1.symm) hown (hts _ hw1) (hts _ hw2) (hts _ hw3) (hts _ hw0) (by omega) (by omega) hr.1 hr.2 hd (kk H locs ls hP hA hS hl hr)
end GC
/-! a body's ends -/
def Rets (X : XT) (cc : ByteArray) (nL mc ms : Nat) (ret : Option FieldType) (post : Mem → Option Value → Prop) : Prop :=
  (ret = none → ∀ (M : Mem) (k n pc : Nat) (lv : List (Nat × Value)), decode cc pc = .ok (.return_, 1) → post M none → G X nL M k n pc lv []) ∧
  (ret = some .int → ∀ (M : Mem) (k n pc : Nat) (lv : List (Nat × Value)) (x : Int32), decode cc pc = .ok (.ireturn, 1) → post M (some (.int x)) → G X nL M k n pc lv [.int x]) ∧
  (ret = some .boolean → ∀ (M : Mem) (k n pc : Nat) (lv : List (Nat × Value)) (x : Int32), decode cc pc = .ok (.ireturn, 1) → (x = 0 ∨ x = 1) ∧ post M (some (.int x)) → G X nL M k n pc lv [.int x]) ∧
  (∀ nm, ret = some (.object nm) → ∀ (M : Mem) (k n pc : Nat) (lv : List (Nat × Value)) (r : Option Nat), decode cc pc = .ok (.areturn, 1) → post M (some (va_rf r)) → G X nL M k n pc lv [va_rf r])
def Named (X : XT) (nm : String) : Prop := ∀ m0 : Method, X.2.2.2.2.2.2.2.2.1 = m0 → m0.name = nm
theorem ct_ofN {l : Launch} {D : va_G} {dA : Nat → ClassId} {y : MethodName} {cc : ByteArray} {maxL : Nat} {ret : Option FieldType} {d : Nat} {argv : List Value} {M : Mem} {mc ms : Nat} {post : Mem → Option Value → Prop} (htr : l.stackTraces = false) (hy : plainName y.cls = true) (hlen : (lg_sl argv).length ≤ maxL)
    (body : ∀ X : XT, Cx X d cc maxL y.cls mc ms → Named X y.name → Rets X cc maxL mc ms ret post → G X maxL M 0 0 0 (lv_args 0 argv) []) : CtN l D dA y cc maxL ret d argv M mc ms post := by
  intro sz
  refine Met.ofW (cc := cc) (maxL := maxL) (ret := ret) hy rfl ?_
  intro p e s m args below meth c s₁ B hml hv
  obtain ⟨rfl, hsz, hP, hK, hz⟩ := hv
  have hts0 := atoms_spec (ws := Cond.code y cc maxL ret :: lwg) B.pre
  subst hsz
  have hlocks := B.notSynchronized
  have hA0 : ∀ q, s.heap.size ≤ q → own M s.heap.size q := fun q h => Or.inr h
  have hC : Cx (p, l, e, (headSpec (Cond.code y cc maxL ret :: lwg) (rmd d mc ms)).room, s, m, argv.toArray, below, meth, c, D, dA, own M s.heap.size, MQ below (QcN D dA M s.heap.size post) argv.toArray s mc ms (own M s.heap.size)) d cc maxL y.cls mc ms :=
    ⟨B.exec, B.bytes, hml, findClass_of_methodNamed B.named, fun w hw => hts0 w (List.mem_cons_of_mem _ hw), hK, hz, hA0, ⟨Nat.le_refl _, Nat.le_refl _⟩, ⟨rfl, rfl⟩, hlocks, htr⟩
  have hl := lv_entry argv (n := maxL) hlen
  rw [lg_entry_eq]
  refine body _ hC (fun m0 h0 => by cases h0; exact (name_of_methodNamed B.named B.method).1) ⟨?_, ?_, ?_, ?_⟩ s.heap [] _ hP (fun a h => Or.inl h) va_S.rf hl ⟨Nat.zero_le _, Nat.zero_le _⟩
  · intro hr M' k n pc lv hd hp H locs ls hP hA hS hl hk
    exact W.widen hk.1 hk.2 (W.vret B.exec B.bytes (B.returns.trans hr) (fun t ht hW => ⟨none, M', rfl, hp, by rw [ht]; exact hP, hA, hS.F ht⟩) hS.2.2 hd hlocks)
  · intro hr M' k n pc lv x hd hp H locs ls hP hA hS hl hk
    exact W.widen hk.1 hk.2 (W.zret (ty := .int) B.exec B.bytes (B.returns.trans hr) rfl (fun t ht hW => ⟨_, M', rfl, hp, by rw [ht]; exact hP, hA, hS.F ht⟩) hS.2.2 hd hlocks)
  · intro hr M' k n pc lv x hd hp H locs ls hP hA hS hl hk
    exact W.widen hk.1 hk.2 (W.zret (ty := .boolean) B.exec B.bytes (B.returns.trans hr) (by rcases hp.1 with rfl | rfl <;> rfl) (fun t ht hW => ⟨_, M', rfl, hp.2, by rw [ht]; exact hP, hA, hS.F ht⟩) hS.2.2 hd hlocks)
  · intro nm hr M' k n pc lv r hd hp H locs ls hP hA hS hl hk
    exact W.widen hk.1 hk.2 (W.aret (v := va_rf r) B.exec B.bytes (B.returns.trans hr) (Or.inl ⟨nm, rfl⟩) (by cases r with | none => exact Or.inl rfl | some a => exact Or.inr ⟨a, rfl⟩) (fun t ht hW => ⟨_, M', rfl, hp, by rw [ht]; exact hP, hA, hS.F ht⟩) hS.2.2 hd hlocks)
end
section
/-! methods that throw -/
def xnm : List String := ["java/lang/RuntimeException", "java/lang/Exception"]
def ioob : String := "java/lang/IndexOutOfBoundsException"
def ise : String := "java/lang/IllegalStateException"
def iae : String := "java/lang/IllegalArgumentException"
/-- the words of 'throw new E(text)' in the class ChatRelay -/
def tw (ik ic : Nat) (E : String) : Prop := Bundle.fit E = true ∧ Cond.classLink RX5 ik E ∈ lwg ∧ Cond.initialized E ∈ lwg ∧ (∀ w ∈ (vx_atS RX5 ic E xnm).filter goodWord, w ∈ lwg) ∧ (∀ w ∈ (vx_atS RX5 ic E xnm).filter (fun w => !goodWord w), w ∈ xwN ∧ w.onTables = true) ∧ (∀ w ∈ Cond.classLink RX5 ik E :: Cond.initialized E :: vx_atS RX5 ic E xnm, vx_ot w = true)
set_option maxRecDepth 100000 in
theorem tw_ioob : tw 210 214 ioob := ⟨by decide +kernel, by decide +kernel, by decide +kernel, by decide +kernel, by decide +kernel, by decide +kernel⟩
set_option maxRecDepth 100000 in
theorem tw_ise : tw 59 63 ise := ⟨by decide +kernel, by decide +kernel, by decide +kernel, by decide +kernel, by decide +kernel, by decide +kernel⟩
set_option maxRecDepth 100000 in
theorem tw_iae : tw 101 105 iae := ⟨by decide +kernel, by decide +kernel, by decide +kernel, by decide +kernel, by decide +kernel, by decide +kernel⟩
def Throws (X : XT) (cc : ByteArray) (nL mc ms : Nat) (xp : String → Mem → Prop) : Prop :=
  ∀ (M : Mem) (k n pc : Nat) (lv : List (Nat × Value)) (st : List Value) (ik is ic : Nat) (E text : String), decode cc pc = .ok (.new ik, 3) → decode cc (pc + 3) = .ok (.dup, 1) → decode cc (pc + 4) = .ok (.ldc is, 2) → decode cc (pc + 6) = .ok (.invokespecial ic, 3) → decode cc (pc + 9) = .ok (.athrow, 1) → tw ik ic E → (is, text) ∈ xwS → (st.map fun v => v.category).sum ≤ 8 → k + 1 ≤ mc ∧ n + 6 ≤ ms → xp E M → G X nL M k n pc lv st
def Outs (X : XT) (nL : Nat) (xp : String → Mem → Prop) : Prop := ∀ (M : Mem) (k n pc : Nat) (lv : List (Nat × Value)) (st : List Value) (E : String), xp E M → GX X nL M k n pc lv st E
theorem ct_ofX {l : Launch} {D : va_G} {dA : Nat → ClassId} {y : MethodName} {cc : ByteArray} {maxL : Nat} {ret : Option FieldType} {d : Nat} {argv : List Value} {M : Mem} {mc ms : Nat} {xp : String → Mem → Prop} {post : Mem → Option Value → Prop} (htr : l.stackTraces = false) (hy : plainName y.cls = true) (hlen : (lg_sl argv).length ≤ maxL) (hd6 : 6 ≤ d) (hy5 : y.cls = RX5)
    (body : ∀ X : XT, Cx X d cc maxL y.cls mc ms → Rets X cc maxL mc ms ret post → Throws X cc maxL mc ms xp → Outs X maxL xp → G X maxL M 0 0 0 (lv_args 0 argv) []) : CtX l D dA y cc maxL ret d argv M mc ms xp post := by
  intro sz
  refine vx_ofW (cc := cc) (maxL := maxL) (ret := ret) hy rfl ?_
  intro p e s m args below meth c s₁ B hml hno hv
  obtain ⟨rfl, hsz, hP, hK, hz⟩ := hv
  have hts0 := atoms_spec (ws := Cond.code y cc maxL ret :: lwg) B.pre
  subst hsz
  have hlocks := B.notSynchronized
  have hA0 : ∀ q, s.heap.size ≤ q → own M s.heap.size q := fun q h => Or.inr h
  have hts : ∀ w ∈ lwg, w.before argv.toArray s = true := fun w hw => hts0 w (List.mem_cons_of_mem _ hw)
  have hown := findClass_of_methodNamed B.named
  have hC : Cx (p, l, e, (headSpec (Cond.code y cc maxL ret :: lwg) (rmd d mc ms)).room, s, m, argv.toArray, below, meth, c, D, dA, own M s.heap.size, vx_MQ below (QcN D dA M s.heap.size post) (XcN D dA M s.heap.size xp) argv.toArray s mc ms (own M s.heap.size)) d cc maxL y.cls mc ms :=
    ⟨B.exec, B.bytes, hml, hown, hts, hK, hz, hA0, ⟨Nat.le_refl _, Nat.le_refl _⟩, ⟨rfl, rfl⟩, hlocks, htr⟩
  have hl := lv_entry argv (n := maxL) hlen
  rw [lg_entry_eq]
  refine body _ hC ⟨?_, ?_, ?_, ?_⟩ ?_ ?_ s.heap [] _ hP (fun a h => Or.inl h) va_S.rf hl ⟨Nat.zero_le _, Nat.zero_le _⟩
  · intro hr M' k n pc lv hd hp H locs ls hP hA hS hl hk
    exact vx_ret (W.widen hk.1 hk.2 (W.vret B.exec B.bytes (B.returns.trans hr) (fun t ht hW => ⟨none, M', rfl, hp, by rw [ht]; exact hP, hA, hS.F ht⟩) hS.2.2 hd hlocks))
  · intro hr M' k n pc lv x hd hp H locs ls hP hA hS hl hk
    exact vx_ret (W.widen hk.1 hk.2 (W.zret (ty := .int) B.exec B.bytes (B.returns.trans hr) rfl (fun t ht hW => ⟨_, M', rfl, hp, by rw [ht]; exact hP, hA, hS.F ht⟩) hS.2.2 hd hlocks))
  · intro hr M' k n pc lv x hd hp H locs ls hP hA hS hl hk
    exact vx_ret (W.widen hk.1 hk.2 (W.zret (ty := .boolean) B.exec B.bytes (B.returns.trans hr) (by rcases hp.1 with rfl | rfl <;> rfl) (fun t ht hW => ⟨_, M', rfl, hp.2, by rw [ht]; exact hP, hA, hS.F ht⟩) hS.2.2 hd hlocks))
  · intro nm hr M' k n pc lv r hd hp H locs ls hP hA hS hl hk
    exact vx_ret (W.widen hk.1 hk.2 (W.aret (v := va_rf r) B.exec B.bytes (B.returns.trans hr) (Or.inl ⟨nm, rfl⟩) (by cases r with | none => exact Or.inl rfl | some a => exact Or.inr ⟨a, rfl⟩) (fun t ht hW => ⟨_, M', rfl, hp, by rw [ht]; exact hP, hA, hS.F ht⟩) hS.2.2 hd hlocks))
  · intro M' k n pc lv st ik is ic E text d0 d3 d4 d6 d9 ht htx hst hkm hxp H locs ls hP hA hS hl hk
    obtain ⟨t1, t2, t3, t4, t5, t7⟩ := ht
    obtain ⟨sa, hsa⟩ := hK.2.2.2.1 (is, text) htx
    have hat : ∀ w ∈ vx_atS RX5 ic E xnm, w.before argv.toArray s = true := by
      intro w hw
      by_cases g : goodWord w = true
      · exact hts w (t4 w (List.mem_filter.mpr ⟨hw, g⟩))
      · have h9 := t5 w (List.mem_filter.mpr ⟨hw, by simp [g]⟩)
        exact va_Nw.use h9.2 (hK.2.1 _ h9.1)
    exact vx_throwS (names := xnm) B.exec B.bytes htr (hy5 ▸ hown) t1 (by decide +kernel) (hts _ t2) (hts _ t3) hsa hat t7 hz.1 hz.2 hS (by rw [hl.1, hml]) d0 d3 d4 d6 d9 (fun x hx => (hno x hx).elim) (by show 5 < d; omega) (by show _ + (13 * 3 + 43) ≤ 36 * d; omega) hkm.1 hkm.2 hlocks
      (fun t ht2 hz2 hkp => ⟨M', hxp, fun a c0 n0 h0 => pcell_kept (hP a c0 n0 h0) (fun _ => rfl) (fun _ => rfl) (fun _ => rfl) (hkp a (pcell_lt (hP a c0 n0 h0))), hA, Nat.le_trans hS.1 hz2, fun q h1 h2 => (hkp q (Nat.lt_of_lt_of_le h1 hS.1)).trans (hS.2.1 q h1 h2)⟩) hS.2.2 hkm.1 hkm.2
  · intro M' k n pc lv st E hxp H locs ls q ce hP hA hS hl hk hce hcv hcl
    exact vx_out (fun x hx => (hno x hx).elim) hlocks hce hcv hcl (fun t ht hW => ⟨M', hxp, by rw [ht]; exact hP, hA, hS.F ht⟩) hS.2.2 hk.1 hk.2
end
section
/-! rows by class, loops, and the words' bundle -/
def KC (ci : Nat) (CN : String) (T : u_T) (N : Nat) (tyT : Nat → FieldType) : Prop := vwCl[ci]? = some (CN, T, N) ∧ ci < 7 ∧ nf ci = N ∧ (∀ w ∈ u_ws CN T N, w ∈ lwg) ∧ (∀ k, k < N → parseFieldDescriptor (T k).2.2.1 = some (tyT k)) ∧ (∀ a, a < N → ∀ b, b < N → a ≠ b → (T a).2.1 ≠ (T b).2.1) ∧ ∀ j, j < N → defaultValue (tyT j) = if kd ci j = true then .int 0 else .null
set_option maxRecDepth 100000 in
theorem kc0 : KC 0 RX0 TX0 4 tyX0 := ⟨rfl, by decide, rfl, by decide +kernel, tyX0_ok, nmX0, by decide +kernel⟩
set_option maxRecDepth 100000 in
theorem kc1 : KC 1 RX1 TX1 8 tyX1 := ⟨rfl, by decide, rfl, by decide +kernel, tyX1_ok, nmX1, by decide +kernel⟩
set_option maxRecDepth 100000 in
theorem kc2 : KC 2 RX2 TX2 2 tyX2 := ⟨rfl, by decide, rfl, by decide +kernel, tyX2_ok, nmX2, by decide +kernel⟩
set_option maxRecDepth 100000 in
theorem kc3 : KC 3 RX3 TX3 2 tyX3 := ⟨rfl, by decide, rfl, by decide +kernel, tyX3_ok, nmX3, by decide +kernel⟩
set_option maxRecDepth 100000 in
theorem kc4 : KC 4 RX4 TX4 5 tyX4 := ⟨rfl, by decide, rfl, by decide +kernel, tyX4_ok, nmX4, by decide +kernel⟩
set_option maxRecDepth 100000 in
theorem kc5 : KC 5 RX5 TX5 8 tyX5 := ⟨rfl, by decide, rfl, by decide +kernel, tyX5_ok, nmX5, by decide +kernel⟩
set_option maxRecDepth 100000 in
theorem kc6 : KC 6 RX6 TX6 29 tyX6 := ⟨rfl, by decide, rfl, by decide +kernel, tyX6_ok, nmX6, by decide +kernel⟩
section GF
variable {X : XT} {d nL mc ms ci N : Nat} {cc : ByteArray} {ow CN : String} {T : u_T} {tyT : Nat → FieldType} {M : Mem} {k n pc : Nat} {lv : List (Nat × Value)} {st : List Value}
theorem g_getI (C : Cx X d cc nL ow mc ms) (K : KC ci CN T N tyT) {a idx : Nat} (f : Nat) (hf : f < N) (hw : Cond.fieldLink ow idx (T f).1 (T f).2.1 (T f).2.2.1 ∈ lwg) (hd : decode cc pc = .ok (.getfield idx, 3)) (hk : kd ci f = true) (hT : gT M a = some (ci, 0)) (kk : G X nL M k n (pc + 3) lv (.int (gI M a f) :: st)) : G X nL M k n pc lv (.ref a :: st) := by
  refine g_get C K.1 K.2.1 K.2.2.1 K.2.2.2.1 hf hw hd hT ?_
  unfold fV
  rw [if_pos hk]
  exact kk
theorem g_getR (C : Cx X d cc nL ow mc ms) (K : KC ci CN T N tyT) {a idx : Nat} (f : Nat) (hf : f < N) (hw : Cond.fieldLink ow idx (T f).1 (T f).2.1 (T f).2.2.1 ∈ lwg) (hd : decode cc pc = .ok (.getfield idx, 3)) (hk : kd ci f = false) (hT : gT M a = some (ci, 0)) {r : Option Nat} (hr : gR M a f = r) (kk : G X nL M k n (pc + 3) lv (va_rf r :: st)) : G X nL M k n pc lv (.ref a :: st) := by
  refine g_get C K.1 K.2.1 K.2.2.1 K.2.2.2.1 hf hw hd hT ?_
  unfold fV
  rw [if_neg (by rw [hk]; decide), hr]
  exact kk
theorem g_getA (C : Cx X d cc nL ow mc ms) (K : KC ci CN T N tyT) {a idx : Nat} (f : Nat) (hf : f < N) (hw : Cond.fieldLink ow idx (T f).1 (T f).2.1 (T f).2.2.1 ∈ lwg) (hd : decode cc pc = .ok (.getfield idx, 3)) (hk : kd ci f = false) (hT : gT M a = some (ci, 0)) {b : Nat} (hr : gR M a f = some b) (kk : G X nL M k n (pc + 3) lv (.ref b :: st)) : G X nL M k n pc lv (.ref a :: st) := g_getR C K f hf hw hd hk hT hr kk
abbrev finF (X : XT) (T : u_T) (f : Nat) (ow : String) : Prop := (T f).2.2.2 = false ∨ ((T f).2.2.2 = true ∧ (∀ (m0 : Method), X.2.2.2.2.2.2.2.2.1 = m0 → m0.name = "<init>") ∧ (T f).1 = ow)
theorem g_putI (C : Cx X d cc nL ow mc ms) (K : KC ci CN T N tyT) {a idx : Nat} {x : Int32} (f : Nat) (hf : f < N) (hw : Cond.fieldLink ow idx (T f).1 (T f).2.1 (T f).2.2.1 ∈ lwg) (hd : decode cc pc = .ok (.putfield idx, 3)) (hk : kd ci f = true) (hty : tyT f = .int) (hfin : finF X T f ow) (hT : gT M a = some (ci, 0)) (kk : G X nL (sI M a f x) k n (pc + 3) lv st) : G X nL M k n pc lv (.int x :: .ref a :: st) := by
  refine g_put (M' := sI M a f x) C K.1 K.2.1 K.2.2.1 K.2.2.2.1 K.2.2.2.2.1 K.2.2.2.2.2.1 hf hw hd hfin (by rw [hty]; rfl) (by rw [hty]; rfl) hT ⟨fun _ => rfl, fun b j hb => by rw [gI_sI, if_neg (fun h => hb h.1)], fun _ _ _ => rfl, fun _ _ _ => rfl, fun j _ => ?_⟩ kk
  unfold fV
  by_cases e : j = f
  · subst e
    rw [if_pos rfl, if_pos hk, gI_sI, if_pos ⟨rfl, rfl⟩]
  · have h1 : gI (sI M a f x) a j = gI M a j := by rw [gI_sI, if_neg (fun h => e h.2)]
    rw [if_neg e, h1, gR_sI]
theorem g_putR (C : Cx X d cc nL ow mc ms) (K : KC ci CN T N tyT) {a idx : Nat} {r : Option Nat} (f : Nat) (hf : f < N) (hw : Cond.fieldLink ow idx (T f).1 (T f).2.1 (T f).2.2.1 ∈ lwg) (hd : decode cc pc = .ok (.putfield idx, 3)) (hk : kd ci f = false) (hty : ∀ r : Option Nat, narrow (tyT f) (va_rf r) = va_rf r ∧ fits (tyT f) (va_rf r) = true) (hfin : finF X T f ow) (hT : gT M a = some (ci, 0)) (kk : G X nL (sR M a f r) k n (pc + 3) lv st) : G X nL M k n pc lv (va_rf r :: .ref a :: st) := by
  refine g_put (M' := sR M a f r) C K.1 K.2.1 K.2.2.1 K.2.2.2.1 K.2.2.2.2.1 K.2.2.2.2.2.1 hf hw hd hfin (hty r).1 (hty r).2 hT ⟨fun _ => rfl, fun _ _ _ => rfl, fun b j hb => by rw [gR_sR, if_neg (fun h => hb h.1)], fun _ _ _ => rfl, fun j _ => ?_⟩ kk
  unfold fV
  by_cases e : j = f
  · subst e
    rw [if_pos rfl, if_neg (by rw [hk]; decide), gR_sR, if_pos ⟨rfl, rfl⟩]
  · have h1 : gR (sR M a f r) a j = gR M a j := by rw [gR_sR, if_neg (fun h => e h.2)]
    rw [if_neg e, h1, gI_sR]
theorem g_newK (C : Cx X d cc nL ow mc ms) (K : KC ci CN T N tyT) {idx : Nat} (hw1 : Cond.classLink ow idx CN ∈ lwg) (hw2 : Cond.instantiable CN N ∈ lwg) (hw3 : Cond.initialized CN ∈ lwg) (hd : decode cc pc = .ok (.new idx, 3)) (hk : k + 1 ≤ mc ∧ n + N ≤ ms) (kk : ∀ q, gT M q = none → G X nL (sN M q (ci, 0)) (k + 1) (n + N) (pc + 3) lv (.ref q :: st)) : G X nL M k n pc lv st :=
  g_new C K.1 K.2.1 K.2.2.1 K.2.2.2.1 K.2.2.2.2.1 K.2.2.2.2.2.2 hw1 hw2 hw3 hd hk kk
/-- an index into an array of kind c -/
def inA (M : Mem) (a c : Nat) (i : Int32) : Prop := ∃ N, gT M a = some (c, N) ∧ vp_in i N
theorem g_ialdA (C : Cx X d cc nL ow mc ms) {a : Nat} {i : Int32} (hd : decode cc pc = .ok (.iaload, 1)) (hi : inA M a 10 i) (kk : G X nL M k n (pc + 1) lv (.int (gI M a i.toNatClampNeg) :: st)) : G X nL M k n pc lv (.int i :: .ref a :: st) := by
  obtain ⟨N, h1, h2⟩ := hi
  exact g_iald C hd h1 h2 kk
theorem g_laldA (C : Cx X d cc nL ow mc ms) {a : Nat} {i : Int32} (hd : decode cc pc = .ok (.laload, 1)) (hi : inA M a 11 i) (kk : G X nL M k n (pc + 1) lv (.long (gL M a i.toNatClampNeg) :: st)) : G X nL M k n pc lv (.int i :: .ref a :: st) := by
  obtain ⟨N, h1, h2⟩ := hi
  exact g_lald C hd h1 h2 kk
theorem g_aaldA (C : Cx X d cc nL ow mc ms) {a ck b : Nat} {i : Int32} (hck : ck = 12 ∨ ck = 13 ∨ ck = 14) (hd : decode cc pc = .ok (.aaload, 1)) (hi : inA M a ck i) (hb : gR M a i.toNatClampNeg = some b) (kk : G X nL M k n (pc + 1) lv (.ref b :: st)) : G X nL M k n pc lv (.int i :: .ref a :: st) := by
  obtain ⟨N, h1, h2⟩ := hi
  refine g_aald C hck hd h1 h2 ?_
  rw [hb]
  exact kk
theorem g_iastA (C : Cx X d cc nL ow mc ms) {a : Nat} {i x : Int32} (hd : decode cc pc = .ok (.iastore, 1)) (hi : inA M a 10 i) (kk : G X nL (sI M a i.toNatClampNeg x) k n (pc + 1) lv st) : G X nL M k n pc lv (.int x :: .int i :: .ref a :: st) := by
  obtain ⟨N, h1, h2⟩ := hi
  exact g_iast C hd h1 h2 kk
theorem g_lastA (C : Cx X d cc nL ow mc ms) {a : Nat} {i : Int32} {x : Int64} (hd : decode cc pc = .ok (.lastore, 1)) (hi : inA M a 11 i) (kk : G X nL (sL M a i.toNatClampNeg x) k n (pc + 1) lv st) : G X nL M k n pc lv (.long x :: .int i :: .ref a :: st) := by
  obtain ⟨N, h1, h2⟩ := hi
  exact g_last C hd h1 h2 kk
theorem g_aastA (C : Cx X d cc nL ow mc ms) {a ck v : Nat} {i : Int32} (ci' : Nat) (hck : (ck = 12 ∧ ci' = 3) ∨ (ck = 13 ∧ ci' = 0) ∨ (ck = 14 ∧ ci' = 2)) (hd : decode cc pc = .ok (.aastore, 1)) (hi : inA M a ck i) (hV : gT M v = some (ci', 0)) (kk : G X nL (sR M a i.toNatClampNeg (some v)) k n (pc + 1) lv st) : G X nL M k n pc lv (.ref v :: .int i :: .ref a :: st) := by
  obtain ⟨N, h1, h2⟩ := hi
  exact g_aast C hck hd h1 hV h2 kk
end GF
/-- a loop: an invariant and a measure -/
def Lp {σ : Type} (F : (σ → Prop) → σ → Prop) (x0 : σ) : Prop := ∃ (I : σ → Prop) (μ : σ → Nat), I x0 ∧ ∀ x, I x → F (fun y => I y ∧ μ y < μ x) x
theorem Lp_use {σ : Type} {F : (σ → Prop) → σ → Prop} {x0 : σ} (P : σ → Prop) (h : Lp F x0) (hs : ∀ (K : σ → Prop) (x : σ), (∀ y, K y → P y) → F K x → P x) : P x0 := by
  obtain ⟨I, μ, h0, h1⟩ := h
  have key : ∀ (b : Nat) (x : σ), μ x ≤ b → I x → P x := by
    intro b
    induction b with
    | zero => intro x hx hI; exact hs _ x (fun y hy => absurd hy.2 (by omega)) (h1 x hI)
    | succ b ih => intro x hx hI; exact hs _ x (fun y hy => ih y (by omega) hy.1) (h1 x hI)
  exact key _ x0 (Nat.le_refl _) h0
theorem nar_o (C : String) : ∀ r : Option Nat, narrow (.object C) (va_rf r) = va_rf r ∧ fits (.object C) (va_rf r) = true := fun r => by cases r <;> exact ⟨rfl, rfl⟩
theorem nar_a (t : FieldType) : ∀ r : Option Nat, narrow (.array t) (va_rf r) = va_rf r ∧ fits (.array t) (va_rf r) = true := fun r => by cases r <;> exact ⟨rfl, rfl⟩
abbrev pI (f : Mem → Int32 → Prop) : Mem → Option Value → Prop := fun M' v => ∃ r : Int32, v = some (.int r) ∧ f M' r
abbrev pV (f : Mem → Prop) : Mem → Option Value → Prop := fun M' v => v = none ∧ f M'
abbrev pR (f : Mem → Option Nat → Prop) : Mem → Option Value → Prop := fun M' v => ∃ r : Option Nat, v = some (va_rf r) ∧ f M' r
end
section
def w_X0_init (M : Mem) (a0 : Nat) (post : Mem → Prop) : Prop :=
  gT M a0 = some (0, 0) ∧ ∀ M2, M2 = sI M a0 0 ((-1)) → gT M2 a0 = some (0, 0) ∧ ∀ M4, M4 = sI M2 a0 1 ((-1)) → gT M4 a0 = some (0, 0) ∧ ∀ M6, M6 = sI M4 a0 2 ((-1)) → gT M6 a0 = some (0, 0) ∧ ∀ M8, M8 = sI M6 a0 3 0 → post M8
set_option maxRecDepth 100000 in
set_option maxHeartbeats 8000000 in
theorem s_X0_init (l : Launch) (D : va_G) (dA : Nat → ClassId) (htr : l.stackTraces = false) (M : Mem) (a0 : Nat) (post : Mem → Prop) (h : w_X0_init M a0 post) : CtN l D dA yX0_init cX0_init 1 (none) 2 [.ref a0] M 0 0 (pV post) := by
  refine ct_ofN htr (by decide) (Nat.le_of_ble_eq_true rfl) ?_
  intro X hC hN hR
  show G X 1 M 0 0 0 [(0, .ref a0)] []
  unfold w_X0_init at h
  refine g_aload_n (r := (some a0)) hC 0 dX0_init_0 rfl ?_
  refine g_objInit hC wm_1_118 wm_1_22 wm_1_23 dX0_init_1 (Nat.le_of_ble_eq_true rfl) ?_
  refine g_aload_n (r := (some a0)) hC 0 dX0_init_4 rfl ?_
  refine g_iconst (v := (-1)) hC dX0_init_5 (by decide) ?_
  obtain ⟨hc1, h⟩ := h
  refine g_putI hC kc0 0 (by decide) wm_1_119 dX0_init_6 rfl rfl (Or.inl rfl) hc1 ?_
  obtain ⟨M2, eM2⟩ : ∃ w, w = sI M a0 0 ((-1)) := ⟨_, rfl⟩
  replace h := h M2 eM2
  rw [← eM2]
  refine g_aload_n (r := (some a0)) hC 0 dX0_init_9 rfl ?_
  refine g_iconst (v := (-1)) hC dX0_init_10 (by decide) ?_
  obtain ⟨hc3, h⟩ := h
  refine g_pc (pc' := 11) rfl ?_
  refine g_putI hC kc0 1 (by decide) wm_1_122 dX0_init_11 rfl rfl (Or.inl rfl) hc3 ?_
  obtain ⟨M4, eM4⟩ : ∃ w, w = sI M2 a0 1 ((-1)) := ⟨_, rfl⟩
  replace h := h M4 eM4
  rw [← eM4]
  refine g_aload_n (r := (some a0)) hC 0 dX0_init_14 rfl ?_
  refine g_iconst (v := (-1)) hC dX0_init_15 (by decide) ?_
  obtain ⟨hc5, h⟩ := h
  refine g_putI hC kc0 2 (by decide) wm_1_125 dX0_init_16 rfl rfl (Or.inl rfl) hc5 ?_
  obtain ⟨M6, eM6⟩ : ∃ w, w = sI M4 a0 2 ((-1)) := ⟨_, rfl⟩
  replace h := h M6 eM6
  rw [← eM6]
  refine g_aload_n (r := (some a0)) hC 0 dX0_init_19 rfl ?_
  refine g_iconst (v := 0) hC dX0_init_20 (by decide) ?_
  obtain ⟨hc7, h⟩ := h
  refine g_putI hC kc0 3 (by decide) wm_1_128 dX0_init_21 rfl rfl (Or.inl rfl) hc7 ?_
  obtain ⟨M8, eM8⟩ : ∃ w, w = sI M6 a0 3 0 := ⟨_, rfl⟩
  replace h := h M8 eM8
  rw [← eM8]
  exact hR.1 rfl _ _ _ _ _ dX0_init_24 ⟨rfl, h⟩

def w_X0_isThere (M : Mem) (a0 : Nat) (post : Int32 → Prop) : Prop :=
  gT M a0 = some (0, 0) ∧ ∀ J3 : Int32 → Prop, (∀ (x2 : Int32), (((x2 : Int32) = 0 ∨ (x2 : Int32) = 1) ∧ post x2) → J3 x2) → ((gI M a0 3 = 0 → J3 0) ∧ (¬ (gI M a0 3 = 0) → J3 1))
set_option maxRecDepth 100000 in
set_option maxHeartbeats 8000000 in
theorem s_X0_isThere (l : Launch) (D : va_G) (dA : Nat → ClassId) (htr : l.stackTraces = false) (M : Mem) (a0 : Nat) (post : Int32 → Prop) (h : w_X0_isThere M a0 post) : CtN l D dA yX0_isThere cX0_isThere 1 (some .boolean) 1 [.ref a0] M 0 0 (pI (fun M' r => M' = M ∧ post r)) := by
  refine ct_ofN htr (by decide) (Nat.le_of_ble_eq_true rfl) ?_
  intro X hC hN hR
  show G X 1 M 0 0 0 [(0, .ref a0)] []
  unfold w_X0_isThere at h
  refine g_aload_n (r := (some a0)) hC 0 dX0_isThere_0 rfl ?_
  obtain ⟨hc1, h⟩ := h
  refine g_getI hC kc0 3 (by decide) wm_1_128 dX0_isThere_1 rfl hc1 ?_
  replace h := h (fun (x2 : Int32) => G X 1 M 0 0 12 [(0, .ref a0)] [.int x2]) (by
    intro x2 h
    show G X 1 M 0 0 12 [(0, .ref a0)] [.int x2]
    exact hR.2.2.1 rfl _ _ _ _ _ _ dX0_isThere_12 ⟨h.1, ⟨_, rfl, rfl, h.2⟩⟩)
  refine g_if_eq hC 11 dX0_isThere_4 (by decide) (fun c4 => ?_) (fun c4 => ?_)
  · replace h := h.1 c4
    refine g_iconst (v := 0) hC dX0_isThere_11 (by decide) ?_
    exact h
  · replace h := h.2 c4
    refine g_iconst (v := 1) hC dX0_isThere_7 (by decide) ?_
    refine g_goto hC 12 dX0_isThere_8 (by decide) ?_
    exact h

def w_X0_enter (M : Mem) (a0 : Nat) (p0 : Int32) (p1 : Int32) (post : Mem → Prop) : Prop :=
  gT M a0 = some (0, 0) ∧ ∀ J3 : Mem → Prop, (∀ (M2 : Mem), (gT M2 a0 = some (0, 0) ∧ gT M2 a0 = some (0, 0) ∧ ∀ M6, M6 = sI M2 a0 3 ((gI M2 a0 3) ||| (1 <<< (p0 &&& 31))) → post M6) → J3 M2) → ((gI M a0 3 = 0 → gT M a0 = some (0, 0) ∧ ∀ M8, M8 = sI M a0 0 p1 → gT M8 a0 = some (0, 0) ∧ ∀ M10, M10 = sI M8 a0 1 0 → gT M10 a0 = some (0, 0) ∧ ∀ M12, M12 = sI M10 a0 2 0 → J3 M12) ∧ (¬ (gI M a0 3 = 0) → J3 M))
set_option maxRecDepth 100000 in
set_option maxHeartbeats 8000000 in
theorem s_X0_enter (l : Launch) (D : va_G) (dA : Nat → ClassId) (htr : l.stackTraces = false) (M : Mem) (a0 : Nat) (p0 : Int32) (p1 : Int32) (post : Mem → Prop) (h : w_X0_enter M a0 p0 p1 post) : CtN l D dA yX0_enter cX0_enter 3 (none) 1 [.ref a0, .int p0, .int p1] M 0 0 (pV post) := by
  refine ct_ofN htr (by decide) (Nat.le_of_ble_eq_true rfl) ?_
  intro X hC hN hR
  show G X 3 M 0 0 0 [(0, .ref a0), (1, .int p0), (2, .int p1)] []
  unfold w_X0_enter at h
  refine g_aload_n (r := (some a0)) hC 0 dX0_enter_0 rfl ?_
  obtain ⟨hc1, h⟩ := h
  refine g_getI hC kc0 3 (by decide) wm_1_128 dX0_enter_1 rfl hc1 ?_
  replace h := h (fun (M2 : Mem) => G X 3 M2 0 0 22 [(0, .ref a0), (1, .int p0), (2, .int p1)] []) (by
    intro M2 h
    show G X 3 M2 0 0 22 [(0, .ref a0), (1, .int p0), (2, .int p1)] []
    refine g_aload_n (r := (some a0)) hC 0 dX0_enter_22 rfl ?_
    refine g_dup hC dX0_enter_23 rfl ?_
    obtain ⟨hc4, h⟩ := h
    refine g_getI hC kc0 3 (by decide) wm_1_128 dX0_enter_24 rfl hc4 ?_
    refine g_iconst (v := 1) hC dX0_enter_27 (by decide) ?_
    refine g_iload_n hC 1 dX0_enter_28 rfl ?_
    refine g_pc (pc' := 29) rfl ?_
    refine g_ishl hC dX0_enter_29 ?_
    refine g_ior hC dX0_enter_30 ?_
    obtain ⟨hc5, h⟩ := h
    refine g_putI hC kc0 3 (by decide) wm_1_128 dX0_enter_31 rfl rfl (Or.inl rfl) hc5 ?_
    obtain ⟨M6, eM6⟩ : ∃ w, w = sI M2 a0 3 ((gI M2 a0 3) ||| (1 <<< (p0 &&& 31))) := ⟨_, rfl⟩
    replace h := h M6 eM6
    rw [← eM6]
    exact hR.1 rfl _ _ _ _ _ dX0_enter_34 ⟨rfl, h⟩)
  refine g_if_ne hC 22 dX0_enter_4 (by decide) (fun c13 => ?_) (fun c13 => ?_)
  · replace h := h.2 c13
    exact h
  · replace h := h.1 c13
    refine g_aload_n (r := (some a0)) hC 0 dX0_enter_7 rfl ?_
    refine g_iload_n hC 2 dX0_enter_8 rfl ?_
    obtain ⟨hc7, h⟩ := h
    refine g_putI hC kc0 0 (by decide) wm_1_119 dX0_enter_9 rfl rfl (Or.inl rfl) hc7 ?_
    obtain ⟨M8, eM8⟩ : ∃ w, w = sI M a0 0 p1 := ⟨_, rfl⟩
    replace h := h M8 eM8
    rw [← eM8]
    refine g_aload_n (r := (some a0)) hC 0 dX0_enter_12 rfl ?_
    refine g_pc (pc' := 13) rfl ?_
    refine g_iconst (v := 0) hC dX0_enter_13 (by decide) ?_
    obtain ⟨hc9, h⟩ := h
    refine g_putI hC kc0 1 (by decide) wm_1_122 dX0_enter_14 rfl rfl (Or.inl rfl) hc9 ?_
    obtain ⟨M10, eM10⟩ : ∃ w, w = sI M8 a0 1 0 := ⟨_, rfl⟩
    replace h := h M10 eM10
    rw [← eM10]
    refine g_aload_n (r := (some a0)) hC 0 dX0_enter_17 rfl ?_
    refine g_iconst (v := 0) hC dX0_enter_18 (by decide) ?_
    obtain ⟨hc11, h⟩ := h
    refine g_putI hC kc0 2 (by decide) wm_1_125 dX0_enter_19 rfl rfl (Or.inl rfl) hc11 ?_
    obtain ⟨M12, eM12⟩ : ∃ w, w = sI M10 a0 2 0 := ⟨_, rfl⟩
    replace h := h M12 eM12
    rw [← eM12]
    exact h

def w_X0_drop (M : Mem) (a0 : Nat) (p0 : Int32) (post : Mem → Prop) : Prop :=
  gT M a0 = some (0, 0) ∧ gT M a0 = some (0, 0) ∧ ∀ M3, M3 = sI M a0 3 ((gI M a0 3) &&& ((1 <<< (p0 &&& 31)) ^^^ ((-1)))) → gT M3 a0 = some (0, 0) ∧ ∀ J6 : Mem → Prop, (∀ (M5 : Mem), (post M5) → J6 M5) → ((gI M3 a0 3 = 0 → gT M3 a0 = some (0, 0) ∧ ∀ M8, M8 = sI M3 a0 0 ((-1)) → gT M8 a0 = some (0, 0) ∧ ∀ M10, M10 = sI M8 a0 1 ((-1)) → gT M10 a0 = some (0, 0) ∧ ∀ M12, M12 = sI M10 a0 2 ((-1)) → J6 M12) ∧ (¬ (gI M3 a0 3 = 0) → J6 M3))
set_option maxRecDepth 100000 in
set_option maxHeartbeats 8000000 in
theorem s_X0_drop (l : Launch) (D : va_G) (dA : Nat → ClassId) (htr : l.stackTraces = false) (M : Mem) (a0 : Nat) (p0 : Int32) (post : Mem → Prop) (h : w_X0_drop M a0 p0 post) : CtN l D dA yX0_drop cX0_drop 2 (none) 1 [.ref a0, .int p0] M 0 0 (pV post) := by
  refine ct_ofN htr (by decide) (Nat.le_of_ble_eq_true rfl) ?_
  intro X hC hN hR
  show G X 2 M 0 0 0 [(0, .ref a0), (1, .int p0)] []
  unfold w_X0_drop at h
  refine g_aload_n (r := (some a0)) hC 0 dX0_drop_0 rfl ?_
  refine g_dup hC dX0_drop_1 rfl ?_
  obtain ⟨hc1, h⟩ := h
  refine g_getI hC kc0 3 (by decide) wm_1_128 dX0_drop_2 rfl hc1 ?_
  refine g_iconst (v := 1) hC dX0_drop_5 (by decide) ?_
  refine g_iload_n hC 1 dX0_drop_6 rfl ?_
  refine g_ishl hC dX0_drop_7 ?_
  refine g_iconst (v := (-1)) hC dX0_drop_8 (by decide) ?_
  refine g_pc (pc' := 9) rfl ?_
  refine g_ixor hC dX0_drop_9 ?_
  refine g_iand hC dX0_drop_10 ?_
  obtain ⟨hc2, h⟩ := h
  refine g_putI hC kc0 3 (by decide) wm_1_128 dX0_drop_11 rfl rfl (Or.inl rfl) hc2 ?_
  obtain ⟨M3, eM3⟩ : ∃ w, w = sI M a0 3 ((gI M a0 3) &&& ((1 <<< (p0 &&& 31)) ^^^ ((-1)))) := ⟨_, rfl⟩
  replace h := h M3 eM3
  rw [← eM3]
  refine g_aload_n (r := (some a0)) hC 0 dX0_drop_14 rfl ?_
  obtain ⟨hc4, h⟩ := h
  refine g_getI hC kc0 3 (by decide) wm_1_128 dX0_drop_15 rfl hc4 ?_
  replace h := h (fun (M5 : Mem) => G X 2 M5 0 0 36 [(0, .ref a0), (1, .int p0)] []) (by
    intro M5 h
    show G X 2 M5 0 0 36 [(0, .ref a0), (1, .int p0)] []
    exact hR.1 rfl _ _ _ _ _ dX0_drop_36 ⟨rfl, h⟩)
  refine g_if_ne hC 36 dX0_drop_18 (by decide) (fun c13 => ?_) (fun c13 => ?_)
  · replace h := h.2 c13
    exact h
  · replace h := h.1 c13
    refine g_aload_n (r := (some a0)) hC 0 dX0_drop_21 rfl ?_
    refine g_iconst (v := (-1)) hC dX0_drop_22 (by decide) ?_
    obtain ⟨hc7, h⟩ := h
    refine g_pc (pc' := 23) rfl ?_
    refine g_putI hC kc0 0 (by decide) wm_1_119 dX0_drop_23 rfl rfl (Or.inl rfl) hc7 ?_
    obtain ⟨M8, eM8⟩ : ∃ w, w = sI M3 a0 0 ((-1)) := ⟨_, rfl⟩
    replace h := h M8 eM8
    rw [← eM8]
    refine g_aload_n (r := (some a0)) hC 0 dX0_drop_26 rfl ?_
    refine g_iconst (v := (-1)) hC dX0_drop_27 (by decide) ?_
    obtain ⟨hc9, h⟩ := h
    refine g_putI hC kc0 1 (by decide) wm_1_122 dX0_drop_28 rfl rfl (Or.inl rfl) hc9 ?_
    obtain ⟨M10, eM10⟩ : ∃ w, w = sI M8 a0 1 ((-1)) := ⟨_, rfl⟩
    replace h := h M10 eM10
    rw [← eM10]
    refine g_aload_n (r := (some a0)) hC 0 dX0_drop_31 rfl ?_
    refine g_iconst (v := (-1)) hC dX0_drop_32 (by decide) ?_
    obtain ⟨hc11, h⟩ := h
    refine g_putI hC kc0 2 (by decide) wm_1_125 dX0_drop_33 rfl rfl (Or.inl rfl) hc11 ?_
    obtain ⟨M12, eM12⟩ : ∃ w, w = sI M10 a0 2 ((-1)) := ⟨_, rfl⟩
    replace h := h M12 eM12
    rw [← eM12]
    exact h

def w_X5_settledSet (M : Mem) (p0 : Int32) (p1 : Int32) (p2 : Int32) (p3 : Int32) (post : Int32 → Prop) : Prop :=
  (p0 = (-1) → post p3) ∧ (¬ (p0 = (-1)) → (p2 = (-1) → post p1) ∧ (¬ (p2 = (-1)) → (p0 = p2 → post (p1 ||| p3)) ∧ (¬ (p0 = p2) → ∀ J2 : Int32 → Prop, (∀ (x1 : Int32), (post x1) → J2 x1) → ((p2 ≤ p0 → J2 p3) ∧ (¬ (p2 ≤ p0) → J2 p1)))))
set_option maxRecDepth 100000 in
set_option maxHeartbeats 8000000 in
theorem s_X5_settledSet (l : Launch) (D : va_G) (dA : Nat → ClassId) (htr : l.stackTraces = false) (M : Mem) (p0 : Int32) (p1 : Int32) (p2 : Int32) (p3 : Int32) (post : Int32 → Prop) (h : w_X5_settledSet M p0 p1 p2 p3 post) : CtN l D dA yX5_settledSet cX5_settledSet 4 (some .int) 1 [.int p0, .int p1, .int p2, .int p3] M 0 0 (pI (fun M' r => M' = M ∧ post r)) := by
  refine ct_ofN htr (by decide) (Nat.le_of_ble_eq_true rfl) ?_
  intro X hC hN hR
  show G X 4 M 0 0 0 [(0, .int p0), (1, .int p1), (2, .int p2), (3, .int p3)] []
  unfold w_X5_settledSet at h
  refine g_iload_n hC 0 dX5_settledSet_0 rfl ?_
  refine g_iconst (v := (-1)) hC dX5_settledSet_1 (by decide) ?_
  refine g_icmp_ne hC 7 dX5_settledSet_2 (by decide) (fun c6 => ?_) (fun c6 => ?_)
  · replace h := h.2 c6
    refine g_iload_n hC 2 dX5_settledSet_7 rfl ?_
    refine g_iconst (v := (-1)) hC dX5_settledSet_8 (by decide) ?_
    refine g_icmp_ne hC 14 dX5_settledSet_9 (by decide) (fun c5 => ?_) (fun c5 => ?_)
    · replace h := h.2 c5
      refine g_iload_n hC 0 dX5_settledSet_14 rfl ?_
      refine g_pc (pc' := 15) rfl ?_
      refine g_iload_n hC 2 dX5_settledSet_15 rfl ?_
      refine g_icmp_ne hC 23 dX5_settledSet_16 (by decide) (fun c4 => ?_) (fun c4 => ?_)
      · replace h := h.2 c4
        refine g_iload_n hC 0 dX5_settledSet_23 rfl ?_
        refine g_iload_n hC 2 dX5_settledSet_24 rfl ?_
        replace h := h (fun (x1 : Int32) => G X 4 M 0 0 33 [(0, .int p0), (1, .int p1), (2, .int p2), (3, .int p3)] [.int x1]) (by
          intro x1 h
          show G X 4 M 0 0 33 [(0, .int p0), (1, .int p1), (2, .int p2), (3, .int p3)] [.int x1]
          exact hR.2.1 rfl _ _ _ _ _ _ dX5_settledSet_33 ⟨_, rfl, rfl, h⟩)
        refine g_icmp_ge hC 32 dX5_settledSet_25 (by decide) (fun c3 => ?_) (fun c3 => ?_)
        · replace h := h.1 c3
          refine g_iload_n hC 3 dX5_settledSet_32 rfl ?_
          exact h
        · replace h := h.2 c3
          refine g_iload_n hC 1 dX5_settledSet_28 rfl ?_
          refine g_goto hC 33 dX5_settledSet_29 (by decide) ?_
          exact h
      · replace h := h.1 c4
        refine g_iload_n hC 1 dX5_settledSet_19 rfl ?_
        refine g_iload_n hC 3 dX5_settledSet_20 rfl ?_
        refine g_ior hC dX5_settledSet_21 ?_
        exact hR.2.1 rfl _ _ _ _ _ _ dX5_settledSet_22 ⟨_, rfl, rfl, h⟩
    · replace h := h.1 c5
      refine g_iload_n hC 1 dX5_settledSet_12 rfl ?_
      refine g_pc (pc' := 13) rfl ?_
      exact hR.2.1 rfl _ _ _ _ _ _ dX5_settledSet_13 ⟨_, rfl, rfl, h⟩
  · replace h := h.1 c6
    refine g_iload_n hC 3 dX5_settledSet_5 rfl ?_
    exact hR.2.1 rfl _ _ _ _ _ _ dX5_settledSet_6 ⟨_, rfl, rfl, h⟩

def w_X0_takeIn (M : Mem) (a0 : Nat) (b0 : Nat) (p1 : Int32) (post : Mem → Prop) : Prop :=
  gT M a0 = some (0, 0) ∧ gT M a0 = some (0, 0) ∧ gT M b0 = some (1, 0) ∧ gT M b0 = some (1, 0) ∧ w_X5_settledSet M (gI M a0 0) (gI M a0 1) (gI M b0 3) (gI M b0 4) (fun x5 => gT M a0 = some (0, 0) ∧ ∀ M7, M7 = sI M a0 1 x5 → gT M7 a0 = some (0, 0) ∧ gT M7 a0 = some (0, 0) ∧ gT M7 b0 = some (1, 0) ∧ gT M7 b0 = some (1, 0) ∧ w_X5_settledSet M7 (gI M7 a0 0) (gI M7 a0 2) (gI M7 b0 3) (gI M7 b0 5) (fun x12 => gT M7 a0 = some (0, 0) ∧ ∀ M14, M14 = sI M7 a0 2 x12 → gT M14 a0 = some (0, 0) ∧ ∀ J17 : Int32 → Prop, (∀ (x16 : Int32), (gT M14 a0 = some (0, 0) ∧ ∀ M19, M19 = sI M14 a0 0 x16 → gT M19 a0 = some (0, 0) ∧ gT M19 a0 = some (0, 0) ∧ ∀ M22, M22 = sI M19 a0 3 ((gI M19 a0 3) ||| p1) → post M22) → J17 x16) → ((gI M14 a0 0 = (-1) → gT M14 b0 = some (1, 0) ∧ J17 (gI M14 b0 3)) ∧ (¬ (gI M14 a0 0 = (-1)) → gT M14 a0 = some (0, 0) ∧ gT M14 b0 = some (1, 0) ∧ J17 (if (gI M14 b0 3) < (gI M14 a0 0) then gI M14 b0 3 else gI M14 a0 0)))))
set_option maxRecDepth 100000 in
set_option maxHeartbeats 8000000 in
theorem s_X0_takeIn (l : Launch) (D : va_G) (dA : Nat → ClassId) (htr : l.stackTraces = false) (M : Mem) (a0 : Nat) (b0 : Nat) (p1 : Int32) (post : Mem → Prop) (h : w_X0_takeIn M a0 b0 p1 post) : CtN l D dA yX0_takeIn cX0_takeIn 3 (none) 2 [.ref a0, .ref b0, .int p1] M 0 0 (pV post) := by
  refine ct_ofN htr (by decide) (Nat.le_of_ble_eq_true rfl) ?_
  intro X hC hN hR
  show G X 3 M 0 0 0 [(0, .ref a0), (1, .ref b0), (2, .int p1)] []
  unfold w_X0_takeIn at h
  refine g_aload_n (r := (some a0)) hC 0 dX0_takeIn_0 rfl ?_
  refine g_aload_n (r := (some a0)) hC 0 dX0_takeIn_1 rfl ?_
  obtain ⟨hc1, h⟩ := h
  refine g_getI hC kc0 0 (by decide) wm_1_119 dX0_takeIn_2 rfl hc1 ?_
  refine g_aload_n (r := (some a0)) hC 0 dX0_takeIn_5 rfl ?_
  obtain ⟨hc2, h⟩ := h
  refine g_getI hC kc0 1 (by decide) wm_1_122 dX0_takeIn_6 rfl hc2 ?_
  refine g_aload_n (r := (some b0)) hC 1 dX0_takeIn_9 rfl ?_
  obtain ⟨hc3, h⟩ := h
  refine g_getI hC kc1 3 (by decide) wm_1_77 dX0_takeIn_10 rfl hc3 ?_
  refine g_pc (pc' := 13) rfl ?_
  refine g_aload_n (r := (some b0)) hC 1 dX0_takeIn_13 rfl ?_
  obtain ⟨hc4, h⟩ := h
  refine g_getI hC kc1 4 (by decide) wm_1_80 dX0_takeIn_14 rfl hc4 ?_
  refine g_callSN hC (As := [.int (gI M a0 0), .int (gI M a0 1), .int (gI M b0 3), .int (gI M b0 4)]) (fun l D dA ht => s_X5_settledSet l D dA ht _ _ _ _ _ _ h) wm_2_29 (by decide +kernel) wm_2_28 wm_1_1 (by decide +kernel : plainY yX5_settledSet 4) dX0_takeIn_17 (by decide) (Nat.le_of_ble_eq_true rfl) (Or.inl ⟨rfl, rfl⟩) ?_
  intro M9 v9 h
  obtain ⟨x5, rfl, h⟩ := h
  obtain ⟨hM9, h⟩ := h
  rw [hM9]
  show G X 3 M 0 0 20 [(0, .ref a0), (1, .ref b0), (2, .int p1)] [.int x5, .ref a0]
  obtain ⟨hc6, h⟩ := h
  refine g_putI hC kc0 1 (by decide) wm_1_122 dX0_takeIn_20 rfl rfl (Or.inl rfl) hc6 ?_
  obtain ⟨M7, eM7⟩ : ∃ w, w = sI M a0 1 x5 := ⟨_, rfl⟩
  replace h := h M7 eM7
  rw [← eM7]
  refine g_aload_n (r := (some a0)) hC 0 dX0_takeIn_23 rfl ?_
  refine g_aload_n (r := (some a0)) hC 0 dX0_takeIn_24 rfl ?_
  obtain ⟨hc8, h⟩ := h
  refine g_getI hC kc0 0 (by decide) wm_1_119 dX0_takeIn_25 rfl hc8 ?_
  refine g_aload_n (r := (some a0)) hC 0 dX0_takeIn_28 rfl ?_
  obtain ⟨hc9, h⟩ := h
  refine g_pc (pc' := 29) rfl ?_
  refine g_getI hC kc0 2 (by decide) wm_1_125 dX0_takeIn_29 rfl hc9 ?_
  refine g_aload_n (r := (some b0)) hC 1 dX0_takeIn_32 rfl ?_
  obtain ⟨hc10, h⟩ := h
  refine g_getI hC kc1 3 (by decide) wm_1_77 dX0_takeIn_33 rfl hc10 ?_
  refine g_aload_n (r := (some b0)) hC 1 dX0_takeIn_36 rfl ?_
  obtain ⟨hc11, h⟩ := h
  refine g_getI hC kc1 5 (by decide) wm_1_83 dX0_takeIn_37 rfl hc11 ?_
  refine g_callSN hC (As := [.int (gI M7 a0 0), .int (gI M7 a0 2), .int (gI M7 b0 3), .int (gI M7 b0 5)]) (fun l D dA ht => s_X5_settledSet l D dA ht _ _ _ _ _ _ h) wm_2_29 (by decide +kernel) wm_2_28 wm_1_1 (by decide +kernel : plainY yX5_settledSet 4) dX0_takeIn_40 (by decide) (Nat.le_of_ble_eq_true rfl) (Or.inl ⟨rfl, rfl⟩) ?_
  intro M9 v9 h
  obtain ⟨x12, rfl, h⟩ := h
  obtain ⟨hM9, h⟩ := h
  rw [hM9]
  show G X 3 M7 0 0 43 [(0, .ref a0), (1, .ref b0), (2, .int p1)] [.int x12, .ref a0]
  obtain ⟨hc13, h⟩ := h
  refine g_putI hC kc0 2 (by decide) wm_1_125 dX0_takeIn_43 rfl rfl (Or.inl rfl) hc13 ?_
  obtain ⟨M14, eM14⟩ : ∃ w, w = sI M7 a0 2 x12 := ⟨_, rfl⟩
  replace h := h M14 eM14
  rw [← eM14]
  refine g_aload_n (r := (some a0)) hC 0 dX0_takeIn_46 rfl ?_
  refine g_pc (pc' := 47) rfl ?_
  refine g_aload_n (r := (some a0)) hC 0 dX0_takeIn_47 rfl ?_
  obtain ⟨hc15, h⟩ := h
  refine g_getI hC kc0 0 (by decide) wm_1_119 dX0_takeIn_48 rfl hc15 ?_
  refine g_iconst (v := (-1)) hC dX0_takeIn_51 (by decide) ?_
  replace h := h (fun (x16 : Int32) => G X 3 M14 0 0 73 [(0, .ref a0), (1, .ref b0), (2, .int p1)] [.int x16, .ref a0]) (by
    intro x16 h
    show G X 3 M14 0 0 73 [(0, .ref a0), (1, .ref b0), (2, .int p1)] [.int x16, .ref a0]
    obtain ⟨hc18, h⟩ := h
    refine g_putI hC kc0 0 (by decide) wm_1_119 dX0_takeIn_73 rfl rfl (Or.inl rfl) hc18 ?_
    obtain ⟨M19, eM19⟩ : ∃ w, w = sI M14 a0 0 x16 := ⟨_, rfl⟩
    replace h := h M19 eM19
    rw [← eM19]
    refine g_aload_n (r := (some a0)) hC 0 dX0_takeIn_76 rfl ?_
    refine g_dup hC dX0_takeIn_77 rfl ?_
    obtain ⟨hc20, h⟩ := h
    refine g_getI hC kc0 3 (by decide) wm_1_128 dX0_takeIn_78 rfl hc20 ?_
    refine g_iload_n hC 2 dX0_takeIn_81 rfl ?_
    refine g_pc (pc' := 82) rfl ?_
    refine g_ior hC dX0_takeIn_82 ?_
    obtain ⟨hc21, h⟩ := h
    refine g_putI hC kc0 3 (by decide) wm_1_128 dX0_takeIn_83 rfl rfl (Or.inl rfl) hc21 ?_
    obtain ⟨M22, eM22⟩ : ∃ w, w = sI M19 a0 3 ((gI M19 a0 3) ||| p1) := ⟨_, rfl⟩
    replace h := h M22 eM22
    rw [← eM22]
    exact hR.1 rfl _ _ _ _ _ dX0_takeIn_86 ⟨rfl, h⟩)
  refine g_icmp_ne hC 62 dX0_takeIn_52 (by decide) (fun c26 => ?_) (fun c26 => ?_)
  · replace h := h.2 c26
    refine g_aload_n (r := (some a0)) hC 0 dX0_takeIn_62 rfl ?_
    obtain ⟨hc23, h⟩ := h
    refine g_getI hC kc0 0 (by decide) wm_1_119 dX0_takeIn_63 rfl hc23 ?_
    refine g_aload_n (r := (some b0)) hC 1 dX0_takeIn_66 rfl ?_
    obtain ⟨hc24, h⟩ := h
    refine g_getI hC kc1 3 (by decide) wm_1_77 dX0_takeIn_67 rfl hc24 ?_
    refine g_pc (pc' := 70) rfl ?_
    refine g_min hC wm_2_30 wm_2_31 wm_1_13 wm_2_32 dX0_takeIn_70 (Nat.le_of_ble_eq_true rfl) ?_
    exact h
  · replace h := h.1 c26
    refine g_aload_n (r := (some b0)) hC 1 dX0_takeIn_55 rfl ?_
    obtain ⟨hc25, h⟩ := h
    refine g_getI hC kc1 3 (by decide) wm_1_77 dX0_takeIn_56 rfl hc25 ?_
    refine g_goto hC 73 dX0_takeIn_59 (by decide) ?_
    exact h

def w_X0_looksLike (M : Mem) (a0 : Nat) (b0 : Nat) (post : Int32 → Prop) : Prop :=
  gT M a0 = some (0, 0) ∧ gT M b0 = some (0, 0) ∧ ∀ J4 : Int32 → Prop, (∀ (x3 : Int32), (((x3 : Int32) = 0 ∨ (x3 : Int32) = 1) ∧ post x3) → J4 x3) → (∀ J5 : Prop, ((J4 0) → J5) → ((gI M a0 0 = gI M b0 0 → gT M a0 = some (0, 0) ∧ gT M b0 = some (0, 0) ∧ (gI M a0 1 = gI M b0 1 → gT M a0 = some (0, 0) ∧ gT M b0 = some (0, 0) ∧ (gI M a0 2 = gI M b0 2 → gT M a0 = some (0, 0) ∧ gT M b0 = some (0, 0) ∧ (gI M a0 3 = gI M b0 3 → J4 1) ∧ (¬ (gI M a0 3 = gI M b0 3) → J5)) ∧ (¬ (gI M a0 2 = gI M b0 2) → J5)) ∧ (¬ (gI M a0 1 = gI M b0 1) → J5)) ∧ (¬ (gI M a0 0 = gI M b0 0) → J5)))
set_option maxRecDepth 100000 in
set_option maxHeartbeats 8000000 in
theorem s_X0_looksLike (l : Launch) (D : va_G) (dA : Nat → ClassId) (htr : l.stackTraces = false) (M : Mem) (a0 : Nat) (b0 : Nat) (post : Int32 → Prop) (h : w_X0_looksLike M a0 b0 post) : CtN l D dA yX0_looksLike cX0_looksLike 2 (some .boolean) 1 [.ref a0, .ref b0] M 0 0 (pI (fun M' r => M' = M ∧ post r)) := by
  refine ct_ofN htr (by decide) (Nat.le_of_ble_eq_true rfl) ?_
  intro X hC hN hR
  show G X 2 M 0 0 0 [(0, .ref a0), (1, .ref b0)] []
  unfold w_X0_looksLike at h
  refine g_aload_n (r := (some a0)) hC 0 dX0_looksLike_0 rfl ?_
  obtain ⟨hc1, h⟩ := h
  refine g_getI hC kc0 0 (by decide) wm_1_119 dX0_looksLike_1 rfl hc1 ?_
  refine g_aload_n (r := (some b0)) hC 1 dX0_looksLike_4 rfl ?_
  obtain ⟨hc2, h⟩ := h
  refine g_getI hC kc0 0 (by decide) wm_1_119 dX0_looksLike_5 rfl hc2 ?_
  replace h := h (fun (x3 : Int32) => G X 2 M 0 0 49 [(0, .ref a0), (1, .ref b0)] [.int x3]) (by
    intro x3 h
    show G X 2 M 0 0 49 [(0, .ref a0), (1, .ref b0)] [.int x3]
    exact hR.2.2.1 rfl _ _ _ _ _ _ dX0_looksLike_49 ⟨h.1, ⟨_, rfl, rfl, h.2⟩⟩)
  replace h := h (G X 2 M 0 0 48 [(0, .ref a0), (1, .ref b0)] []) (by
    intro h
    refine g_iconst (v := 0) hC dX0_looksLike_48 (by decide) ?_
    exact h)
  refine g_icmp_ne hC 48 dX0_looksLike_8 (by decide) (fun c15 => ?_) (fun c15 => ?_)
  · replace h := h.2 c15
    exact h
  · replace h := h.1 c15
    refine g_aload_n (r := (some a0)) hC 0 dX0_looksLike_11 rfl ?_
    obtain ⟨hc6, h⟩ := h
    refine g_getI hC kc0 1 (by decide) wm_1_122 dX0_looksLike_12 rfl hc6 ?_
    refine g_pc (pc' := 15) rfl ?_
    refine g_aload_n (r := (some b0)) hC 1 dX0_looksLike_15 rfl ?_
    obtain ⟨hc7, h⟩ := h
    refine g_getI hC kc0 1 (by decide) wm_1_122 dX0_looksLike_16 rfl hc7 ?_
    refine g_icmp_ne hC 48 dX0_looksLike_19 (by decide) (fun c14 => ?_) (fun c14 => ?_)
    · replace h := h.2 c14
      exact h
    · replace h := h.1 c14
      refine g_aload_n (r := (some a0)) hC 0 dX0_looksLike_22 rfl ?_
      obtain ⟨hc8, h⟩ := h
      refine g_getI hC kc0 2 (by decide) wm_1_125 dX0_looksLike_23 rfl hc8 ?_
      refine g_aload_n (r := (some b0)) hC 1 dX0_looksLike_26 rfl ?_
      obtain ⟨hc9, h⟩ := h
      refine g_getI hC kc0 2 (by decide) wm_1_125 dX0_looksLike_27 rfl hc9 ?_
      refine g_icmp_ne hC 48 dX0_looksLike_30 (by decide) (fun c13 => ?_) (fun c13 => ?_)
      · replace h := h.2 c13
        exact h
      · replace h := h.1 c13
        refine g_pc (pc' := 33) rfl ?_
        refine g_aload_n (r := (some a0)) hC 0 dX0_looksLike_33 rfl ?_
        obtain ⟨hc10, h⟩ := h
        refine g_getI hC kc0 3 (by decide) wm_1_128 dX0_looksLike_34 rfl hc10 ?_
        refine g_aload_n (r := (some b0)) hC 1 dX0_looksLike_37 rfl ?_
        obtain ⟨hc11, h⟩ := h
        refine g_getI hC kc0 3 (by decide) wm_1_128 dX0_looksLike_38 rfl hc11 ?_
        refine g_icmp_ne hC 48 dX0_looksLike_41 (by decide) (fun c12 => ?_) (fun c12 => ?_)
        · replace h := h.2 c12
          exact h
        · replace h := h.1 c12
          refine g_iconst (v := 1) hC dX0_looksLike_44 (by decide) ?_
          refine g_goto hC 49 dX0_looksLike_45 (by decide) ?_
          exact h

def w_X1_init (M : Mem) (a0 : Nat) (post : Mem → Prop) : Prop :=
  gT M a0 = some (1, 0) ∧ ∀ M2, M2 = sI M a0 0 1 → gT M2 a0 = some (1, 0) ∧ ∀ M4, M4 = sI M2 a0 1 0 → gT M4 a0 = some (1, 0) ∧ ∀ M6, M6 = sI M4 a0 2 0 → gT M6 a0 = some (1, 0) ∧ ∀ M8, M8 = sI M6 a0 3 0 → gT M8 a0 = some (1, 0) ∧ ∀ M10, M10 = sI M8 a0 4 0 → gT M10 a0 = some (1, 0) ∧ ∀ M12, M12 = sI M10 a0 5 0 → gT M12 a0 = some (1, 0) ∧ ∀ M14, M14 = sI M12 a0 6 0 → gT M14 a0 = some (1, 0) ∧ ∀ M16, M16 = sR M14 a0 7 none → post M16
set_option maxRecDepth 100000 in
set_option maxHeartbeats 8000000 in
theorem s_X1_init (l : Launch) (D : va_G) (dA : Nat → ClassId) (htr : l.stackTraces = false) (M : Mem) (a0 : Nat) (post : Mem → Prop) (h : w_X1_init M a0 post) : CtN l D dA yX1_init cX1_init 1 (none) 2 [.ref a0] M 0 0 (pV post) := by
  refine ct_ofN htr (by decide) (Nat.le_of_ble_eq_true rfl) ?_
  intro X hC hN hR
  show G X 1 M 0 0 0 [(0, .ref a0)] []
  unfold w_X1_init at h
  refine g_aload_n (r := (some a0)) hC 0 dX1_init_0 rfl ?_
  refine g_objInit hC wm_1_69 wm_1_22 wm_1_23 dX1_init_1 (Nat.le_of_ble_eq_true rfl) ?_
  refine g_aload_n (r := (some a0)) hC 0 dX1_init_4 rfl ?_
  refine g_iconst (v := 1) hC dX1_init_5 (by decide) ?_
  obtain ⟨hc1, h⟩ := h
  refine g_putI hC kc1 0 (by decide) wm_1_70 dX1_init_6 rfl rfl (Or.inl rfl) hc1 ?_
  obtain ⟨M2, eM2⟩ : ∃ w, w = sI M a0 0 1 := ⟨_, rfl⟩
  replace h := h M2 eM2
  rw [← eM2]
  refine g_aload_n (r := (some a0)) hC 0 dX1_init_9 rfl ?_
  refine g_iconst (v := 0) hC dX1_init_10 (by decide) ?_
  obtain ⟨hc3, h⟩ := h
  refine g_pc (pc' := 11) rfl ?_
  refine g_putI hC kc1 1 (by decide) wm_1_72 dX1_init_11 rfl rfl (Or.inl rfl) hc3 ?_
  obtain ⟨M4, eM4⟩ : ∃ w, w = sI M2 a0 1 0 := ⟨_, rfl⟩
  replace h := h M4 eM4
  rw [← eM4]
  refine g_aload_n (r := (some a0)) hC 0 dX1_init_14 rfl ?_
  refine g_iconst (v := 0) hC dX1_init_15 (by decide) ?_
  obtain ⟨hc5, h⟩ := h
  refine g_putI hC kc1 2 (by decide) wm_1_74 dX1_init_16 rfl rfl (Or.inl rfl) hc5 ?_
  obtain ⟨M6, eM6⟩ : ∃ w, w = sI M4 a0 2 0 := ⟨_, rfl⟩
  replace h := h M6 eM6
  rw [← eM6]
  refine g_aload_n (r := (some a0)) hC 0 dX1_init_19 rfl ?_
  refine g_iconst (v := 0) hC dX1_init_20 (by decide) ?_
  obtain ⟨hc7, h⟩ := h
  refine g_putI hC kc1 3 (by decide) wm_1_76 dX1_init_21 rfl rfl (Or.inl rfl) hc7 ?_
  obtain ⟨M8, eM8⟩ : ∃ w, w = sI M6 a0 3 0 := ⟨_, rfl⟩
  replace h := h M8 eM8
  rw [← eM8]
  refine g_aload_n (r := (some a0)) hC 0 dX1_init_24 rfl ?_
  refine g_pc (pc' := 25) rfl ?_
  refine g_iconst (v := 0) hC dX1_init_25 (by decide) ?_
  obtain ⟨hc9, h⟩ := h
  refine g_putI hC kc1 4 (by decide) wm_1_79 dX1_init_26 rfl rfl (Or.inl rfl) hc9 ?_
  obtain ⟨M10, eM10⟩ : ∃ w, w = sI M8 a0 4 0 := ⟨_, rfl⟩
  replace h := h M10 eM10
  rw [← eM10]
  refine g_aload_n (r := (some a0)) hC 0 dX1_init_29 rfl ?_
  refine g_iconst (v := 0) hC dX1_init_30 (by decide) ?_
  obtain ⟨hc11, h⟩ := h
  refine g_putI hC kc1 5 (by decide) wm_1_82 dX1_init_31 rfl rfl (Or.inl rfl) hc11 ?_
  obtain ⟨M12, eM12⟩ : ∃ w, w = sI M10 a0 5 0 := ⟨_, rfl⟩
  replace h := h M12 eM12
  rw [← eM12]
  refine g_aload_n (r := (some a0)) hC 0 dX1_init_34 rfl ?_
  refine g_iconst (v := 0) hC dX1_init_35 (by decide) ?_
  obtain ⟨hc13, h⟩ := h
  refine g_putI hC kc1 6 (by decide) wm_1_85 dX1_init_36 rfl rfl (Or.inl rfl) hc13 ?_
  obtain ⟨M14, eM14⟩ : ∃ w, w = sI M12 a0 6 0 := ⟨_, rfl⟩
  replace h := h M14 eM14
  rw [← eM14]
  refine g_pc (pc' := 39) rfl ?_
  refine g_aload_n (r := (some a0)) hC 0 dX1_init_39 rfl ?_
  refine g_null hC dX1_init_40 ?_
  obtain ⟨hc15, h⟩ := h
  refine g_putR (r := none) hC kc1 7 (by decide) wm_1_87 dX1_init_41 rfl (nar_o _) (Or.inl rfl) hc15 ?_
  obtain ⟨M16, eM16⟩ : ∃ w, w = sR M14 a0 7 none := ⟨_, rfl⟩
  replace h := h M16 eM16
  rw [← eM16]
  exact hR.1 rfl _ _ _ _ _ dX1_init_44 ⟨rfl, h⟩

def w_X1_ofUser (M : Mem) (a0 : Nat) (p0 : Int32) (p1 : Int32) (post : Mem → Option Nat → Prop) : Prop :=
  gT M a0 = some (1, 0) ∧ ∀ M2, M2 = sI M a0 0 p0 → gT M2 a0 = some (1, 0) ∧ ∀ M4, M4 = sI M2 a0 1 p1 → post M4 ((some a0))
set_option maxRecDepth 100000 in
set_option maxHeartbeats 8000000 in
theorem s_X1_ofUser (l : Launch) (D : va_G) (dA : Nat → ClassId) (htr : l.stackTraces = false) (M : Mem) (a0 : Nat) (p0 : Int32) (p1 : Int32) (post : Mem → Option Nat → Prop) (h : w_X1_ofUser M a0 p0 p1 post) : CtN l D dA yX1_ofUser cX1_ofUser 3 (some (.object "ChatRelay$Line")) 1 [.ref a0, .int p0, .int p1] M 0 0 (pR post) := by
  refine ct_ofN htr (by decide) (Nat.le_of_ble_eq_true rfl) ?_
  intro X hC hN hR
  show G X 3 M 0 0 0 [(0, .ref a0), (1, .int p0), (2, .int p1)] []
  unfold w_X1_ofUser at h
  refine g_aload_n (r := (some a0)) hC 0 dX1_ofUser_0 rfl ?_
  refine g_iload_n hC 1 dX1_ofUser_1 rfl ?_
  obtain ⟨hc1, h⟩ := h
  refine g_putI hC kc1 0 (by decide) wm_1_70 dX1_ofUser_2 rfl rfl (Or.inl rfl) hc1 ?_
  obtain ⟨M2, eM2⟩ : ∃ w, w = sI M a0 0 p0 := ⟨_, rfl⟩
  replace h := h M2 eM2
  rw [← eM2]
  refine g_aload_n (r := (some a0)) hC 0 dX1_ofUser_5 rfl ?_
  refine g_iload_n hC 2 dX1_ofUser_6 rfl ?_
  obtain ⟨hc3, h⟩ := h
  refine g_putI hC kc1 1 (by decide) wm_1_72 dX1_ofUser_7 rfl rfl (Or.inl rfl) hc3 ?_
  obtain ⟨M4, eM4⟩ : ∃ w, w = sI M2 a0 1 p1 := ⟨_, rfl⟩
  replace h := h M4 eM4
  rw [← eM4]
  refine g_aload_n (r := (some a0)) hC 0 dX1_ofUser_10 rfl ?_
  refine g_pc (pc' := 11) rfl ?_
  exact hR.2.2.2 _ rfl _ _ _ _ _ (some a0) dX1_ofUser_11 ⟨_, rfl, h⟩

def w_X1_ofLeave (M : Mem) (a0 : Nat) (p0 : Int32) (p1 : Int32) (post : Mem → Option Nat → Prop) : Prop :=
  gT M a0 = some (1, 0) ∧ ∀ M2, M2 = sI M a0 0 3 → gT M2 a0 = some (1, 0) ∧ ∀ M4, M4 = sI M2 a0 2 p0 → gT M4 a0 = some (1, 0) ∧ ∀ M6, M6 = sI M4 a0 1 p1 → post M6 ((some a0))
set_option maxRecDepth 100000 in
set_option maxHeartbeats 8000000 in
theorem s_X1_ofLeave (l : Launch) (D : va_G) (dA : Nat → ClassId) (htr : l.stackTraces = false) (M : Mem) (a0 : Nat) (p0 : Int32) (p1 : Int32) (post : Mem → Option Nat → Prop) (h : w_X1_ofLeave M a0 p0 p1 post) : CtN l D dA yX1_ofLeave cX1_ofLeave 3 (some (.object "ChatRelay$Line")) 1 [.ref a0, .int p0, .int p1] M 0 0 (pR post) := by
  refine ct_ofN htr (by decide) (Nat.le_of_ble_eq_true rfl) ?_
  intro X hC hN hR
  show G X 3 M 0 0 0 [(0, .ref a0), (1, .int p0), (2, .int p1)] []
  unfold w_X1_ofLeave at h
  refine g_aload_n (r := (some a0)) hC 0 dX1_ofLeave_0 rfl ?_
  refine g_iconst (v := 3) hC dX1_ofLeave_1 (by decide) ?_
  obtain ⟨hc1, h⟩ := h
  refine g_putI hC kc1 0 (by decide) wm_1_70 dX1_ofLeave_2 rfl rfl (Or.inl rfl) hc1 ?_
  obtain ⟨M2, eM2⟩ : ∃ w, w = sI M a0 0 3 := ⟨_, rfl⟩
  replace h := h M2 eM2
  rw [← eM2]
  refine g_aload_n (r := (some a0)) hC 0 dX1_ofLeave_5 rfl ?_
  refine g_iload_n hC 1 dX1_ofLeave_6 rfl ?_
  obtain ⟨hc3, h⟩ := h
  refine g_putI hC kc1 2 (by decide) wm_1_74 dX1_ofLeave_7 rfl rfl (Or.inl rfl) hc3 ?_
  obtain ⟨M4, eM4⟩ : ∃ w, w = sI M2 a0 2 p0 := ⟨_, rfl⟩
  replace h := h M4 eM4
  rw [← eM4]
  refine g_aload_n (r := (some a0)) hC 0 dX1_ofLeave_10 rfl ?_
  refine g_pc (pc' := 11) rfl ?_
  refine g_iload_n hC 2 dX1_ofLeave_11 rfl ?_
  obtain ⟨hc5, h⟩ := h
  refine g_putI hC kc1 1 (by decide) wm_1_72 dX1_ofLeave_12 rfl rfl (Or.inl rfl) hc5 ?_
  obtain ⟨M6, eM6⟩ : ∃ w, w = sI M4 a0 1 p1 := ⟨_, rfl⟩
  replace h := h M6 eM6
  rw [← eM6]
  refine g_aload_n (r := (some a0)) hC 0 dX1_ofLeave_15 rfl ?_
  exact hR.2.2.2 _ rfl _ _ _ _ _ (some a0) dX1_ofLeave_16 ⟨_, rfl, h⟩

def w_X1_ofChannel (M : Mem) (a0 : Nat) (p0 : Int32) (p1 : Int32) (b2 : Nat) (p3 : Int32) (post : Mem → Option Nat → Prop) : Prop :=
  gT M a0 = some (1, 0) ∧ ∀ M2, M2 = sI M a0 0 p0 → gT M2 a0 = some (1, 0) ∧ ∀ M4, M4 = sI M2 a0 2 p1 → gT M4 b2 = some (0, 0) ∧ gT M4 a0 = some (1, 0) ∧ ∀ M7, M7 = sI M4 a0 3 (gI M4 b2 0) → gT M7 b2 = some (0, 0) ∧ gT M7 a0 = some (1, 0) ∧ ∀ M10, M10 = sI M7 a0 4 (gI M7 b2 1) → gT M10 b2 = some (0, 0) ∧ gT M10 a0 = some (1, 0) ∧ ∀ M13, M13 = sI M10 a0 5 (gI M10 b2 2) → gT M13 a0 = some (1, 0) ∧ ∀ M15, M15 = sI M13 a0 6 p3 → post M15 ((some a0))
set_option maxRecDepth 100000 in
set_option maxHeartbeats 8000000 in
theorem s_X1_ofChannel (l : Launch) (D : va_G) (dA : Nat → ClassId) (htr : l.stackTraces = false) (M : Mem) (a0 : Nat) (p0 : Int32) (p1 : Int32) (b2 : Nat) (p3 : Int32) (post : Mem → Option Nat → Prop) (h : w_X1_ofChannel M a0 p0 p1 b2 p3 post) : CtN l D dA yX1_ofChannel cX1_ofChannel 5 (some (.object "ChatRelay$Line")) 1 [.ref a0, .int p0, .int p1, .ref b2, .int p3] M 0 0 (pR post) := by
  refine ct_ofN htr (by decide) (Nat.le_of_ble_eq_true rfl) ?_
  intro X hC hN hR
  show G X 5 M 0 0 0 [(0, .ref a0), (1, .int p0), (2, .int p1), (3, .ref b2), (4, .int p3)] []
  unfold w_X1_ofChannel at h
  refine g_aload_n (r := (some a0)) hC 0 dX1_ofChannel_0 rfl ?_
  refine g_iload_n hC 1 dX1_ofChannel_1 rfl ?_
  obtain ⟨hc1, h⟩ := h
  refine g_putI hC kc1 0 (by decide) wm_1_70 dX1_ofChannel_2 rfl rfl (Or.inl rfl) hc1 ?_
  obtain ⟨M2, eM2⟩ : ∃ w, w = sI M a0 0 p0 := ⟨_, rfl⟩
  replace h := h M2 eM2
  rw [← eM2]
  refine g_aload_n (r := (some a0)) hC 0 dX1_ofChannel_5 rfl ?_
  refine g_iload_n hC 2 dX1_ofChannel_6 rfl ?_
  obtain ⟨hc3, h⟩ := h
  refine g_putI hC kc1 2 (by decide) wm_1_74 dX1_ofChannel_7 rfl rfl (Or.inl rfl) hc3 ?_
  obtain ⟨M4, eM4⟩ : ∃ w, w = sI M2 a0 2 p1 := ⟨_, rfl⟩
  replace h := h M4 eM4
  rw [← eM4]
  refine g_aload_n (r := (some a0)) hC 0 dX1_ofChannel_10 rfl ?_
  refine g_pc (pc' := 11) rfl ?_
  refine g_aload_n (r := (some b2)) hC 3 dX1_ofChannel_11 rfl ?_
  obtain ⟨hc5, h⟩ := h
  refine g_getI hC kc0 0 (by decide) wm_1_120 dX1_ofChannel_12 rfl hc5 ?_
  obtain ⟨hc6, h⟩ := h
  refine g_putI hC kc1 3 (by decide) wm_1_76 dX1_ofChannel_15 rfl rfl (Or.inl rfl) hc6 ?_
  obtain ⟨M7, eM7⟩ : ∃ w, w = sI M4 a0 3 (gI M4 b2 0) := ⟨_, rfl⟩
  replace h := h M7 eM7
  rw [← eM7]
  refine g_aload_n (r := (some a0)) hC 0 dX1_ofChannel_18 rfl ?_
  refine g_aload_n (r := (some b2)) hC 3 dX1_ofChannel_19 rfl ?_
  obtain ⟨hc8, h⟩ := h
  refine g_getI hC kc0 1 (by decide) wm_1_123 dX1_ofChannel_20 rfl hc8 ?_
  obtain ⟨hc9, h⟩ := h
  refine g_putI hC kc1 4 (by decide) wm_1_79 dX1_ofChannel_23 rfl rfl (Or.inl rfl) hc9 ?_
  obtain ⟨M10, eM10⟩ : ∃ w, w = sI M7 a0 4 (gI M7 b2 1) := ⟨_, rfl⟩
  replace h := h M10 eM10
  rw [← eM10]
  refine g_aload_n (r := (some a0)) hC 0 dX1_ofChannel_26 rfl ?_
  refine g_pc (pc' := 27) rfl ?_
  refine g_aload_n (r := (some b2)) hC 3 dX1_ofChannel_27 rfl ?_
  obtain ⟨hc11, h⟩ := h
  refine g_getI hC kc0 2 (by decide) wm_1_126 dX1_ofChannel_28 rfl hc11 ?_
  obtain ⟨hc12, h⟩ := h
  refine g_putI hC kc1 5 (by decide) wm_1_82 dX1_ofChannel_31 rfl rfl (Or.inl rfl) hc12 ?_
  obtain ⟨M13, eM13⟩ : ∃ w, w = sI M10 a0 5 (gI M10 b2 2) := ⟨_, rfl⟩
  replace h := h M13 eM13
  rw [← eM13]
  refine g_aload_n (r := (some a0)) hC 0 dX1_ofChannel_34 rfl ?_
  refine g_iload hC 4 dX1_ofChannel_35 rfl ?_
  obtain ⟨hc14, h⟩ := h
  refine g_putI hC kc1 6 (by decide) wm_1_85 dX1_ofChannel_37 rfl rfl (Or.inl rfl) hc14 ?_
  obtain ⟨M15, eM15⟩ : ∃ w, w = sI M13 a0 6 p3 := ⟨_, rfl⟩
  replace h := h M15 eM15
  rw [← eM15]
  refine g_aload_n (r := (some a0)) hC 0 dX1_ofChannel_40 rfl ?_
  exact hR.2.2.2 _ rfl _ _ _ _ _ (some a0) dX1_ofChannel_41 ⟨_, rfl, h⟩

def w_X1_copyFrom (M : Mem) (a0 : Nat) (b0 : Nat) (post : Mem → Prop) : Prop :=
  gT M b0 = some (1, 0) ∧ gT M a0 = some (1, 0) ∧ ∀ M3, M3 = sI M a0 0 (gI M b0 0) → gT M3 b0 = some (1, 0) ∧ gT M3 a0 = some (1, 0) ∧ ∀ M6, M6 = sI M3 a0 1 (gI M3 b0 1) → gT M6 b0 = some (1, 0) ∧ gT M6 a0 = some (1, 0) ∧ ∀ M9, M9 = sI M6 a0 2 (gI M6 b0 2) → gT M9 b0 = some (1, 0) ∧ gT M9 a0 = some (1, 0) ∧ ∀ M12, M12 = sI M9 a0 3 (gI M9 b0 3) → gT M12 b0 = some (1, 0) ∧ gT M12 a0 = some (1, 0) ∧ ∀ M15, M15 = sI M12 a0 4 (gI M12 b0 4) → gT M15 b0 = some (1, 0) ∧ gT M15 a0 = some (1, 0) ∧ ∀ M18, M18 = sI M15 a0 5 (gI M15 b0 5) → gT M18 b0 = some (1, 0) ∧ gT M18 a0 = some (1, 0) ∧ ∀ M21, M21 = sI M18 a0 6 (gI M18 b0 6) → post M21
set_option maxRecDepth 100000 in
set_option maxHeartbeats 8000000 in
theorem s_X1_copyFrom (l : Launch) (D : va_G) (dA : Nat → ClassId) (htr : l.stackTraces = false) (M : Mem) (a0 : Nat) (b0 : Nat) (post : Mem → Prop) (h : w_X1_copyFrom M a0 b0 post) : CtN l D dA yX1_copyFrom cX1_copyFrom 2 (none) 1 [.ref a0, .ref b0] M 0 0 (pV post) := by
  refine ct_ofN htr (by decide) (Nat.le_of_ble_eq_true rfl) ?_
  intro X hC hN hR
  show G X 2 M 0 0 0 [(0, .ref a0), (1, .ref b0)] []
  unfold w_X1_copyFrom at h
  refine g_aload_n (r := (some a0)) hC 0 dX1_copyFrom_0 rfl ?_
  refine g_aload_n (r := (some b0)) hC 1 dX1_copyFrom_1 rfl ?_
  obtain ⟨hc1, h⟩ := h
  refine g_getI hC kc1 0 (by decide) wm_1_70 dX1_copyFrom_2 rfl hc1 ?_
  obtain ⟨hc2, h⟩ := h
  refine g_putI hC kc1 0 (by decide) wm_1_70 dX1_copyFrom_5 rfl rfl (Or.inl rfl) hc2 ?_
  obtain ⟨M3, eM3⟩ : ∃ w, w = sI M a0 0 (gI M b0 0) := ⟨_, rfl⟩
  replace h := h M3 eM3
  rw [← eM3]
  refine g_aload_n (r := (some a0)) hC 0 dX1_copyFrom_8 rfl ?_
  refine g_aload_n (r := (some b0)) hC 1 dX1_copyFrom_9 rfl ?_
  obtain ⟨hc4, h⟩ := h
  refine g_getI hC kc1 1 (by decide) wm_1_72 dX1_copyFrom_10 rfl hc4 ?_
  obtain ⟨hc5, h⟩ := h
  refine g_pc (pc' := 13) rfl ?_
  refine g_putI hC kc1 1 (by decide) wm_1_72 dX1_copyFrom_13 rfl rfl (Or.inl rfl) hc5 ?_
  obtain ⟨M6, eM6⟩ : ∃ w, w = sI M3 a0 1 (gI M3 b0 1) := ⟨_, rfl⟩
  replace h := h M6 eM6
  rw [← eM6]
  refine g_aload_n (r := (some a0)) hC 0 dX1_copyFrom_16 rfl ?_
  refine g_aload_n (r := (some b0)) hC 1 dX1_copyFrom_17 rfl ?_
  obtain ⟨hc7, h⟩ := h
  refine g_getI hC kc1 2 (by decide) wm_1_74 dX1_copyFrom_18 rfl hc7 ?_
  obtain ⟨hc8, h⟩ := h
  refine g_putI hC kc1 2 (by decide) wm_1_74 dX1_copyFrom_21 rfl rfl (Or.inl rfl) hc8 ?_
  obtain ⟨M9, eM9⟩ : ∃ w, w = sI M6 a0 2 (gI M6 b0 2) := ⟨_, rfl⟩
  replace h := h M9 eM9
  rw [← eM9]
  refine g_aload_n (r := (some a0)) hC 0 dX1_copyFrom_24 rfl ?_
  refine g_aload_n (r := (some b0)) hC 1 dX1_copyFrom_25 rfl ?_
  obtain ⟨hc10, h⟩ := h
  refine g_getI hC kc1 3 (by decide) wm_1_76 dX1_copyFrom_26 rfl hc10 ?_
  obtain ⟨hc11, h⟩ := h
  refine g_pc (pc' := 29) rfl ?_
  refine g_putI hC kc1 3 (by decide) wm_1_76 dX1_copyFrom_29 rfl rfl (Or.inl rfl) hc11 ?_
  obtain ⟨M12, eM12⟩ : ∃ w, w = sI M9 a0 3 (gI M9 b0 3) := ⟨_, rfl⟩
  replace h := h M12 eM12
  rw [← eM12]
  refine g_aload_n (r := (some a0)) hC 0 dX1_copyFrom_32 rfl ?_
  refine g_aload_n (r := (some b0)) hC 1 dX1_copyFrom_33 rfl ?_
  obtain ⟨hc13, h⟩ := h
  refine g_getI hC kc1 4 (by decide) wm_1_79 dX1_copyFrom_34 rfl hc13 ?_
  obtain ⟨hc14, h⟩ := h
  refine g_putI hC kc1 4 (by decide) wm_1_79 dX1_copyFrom_37 rfl rfl (Or.inl rfl) hc14 ?_
  obtain ⟨M15, eM15⟩ : ∃ w, w = sI M12 a0 4 (gI M12 b0 4) := ⟨_, rfl⟩
  replace h := h M15 eM15
  rw [← eM15]
  refine g_aload_n (r := (some a0)) hC 0 dX1_copyFrom_40 rfl ?_
  refine g_aload_n (r := (some b0)) hC 1 dX1_copyFrom_41 rfl ?_
  obtain ⟨hc16, h⟩ := h
  refine g_getI hC kc1 5 (by decide) wm_1_82 dX1_copyFrom_42 rfl hc16 ?_
  obtain ⟨hc17, h⟩ := h
  refine g_pc (pc' := 45) rfl ?_
  refine g_putI hC kc1 5 (by decide) wm_1_82 dX1_copyFrom_45 rfl rfl (Or.inl rfl) hc17 ?_
  obtain ⟨M18, eM18⟩ : ∃ w, w = sI M15 a0 5 (gI M15 b0 5) := ⟨_, rfl⟩
  replace h := h M18 eM18
  rw [← eM18]
  refine g_aload_n (r := (some a0)) hC 0 dX1_copyFrom_48 rfl ?_
  refine g_aload_n (r := (some b0)) hC 1 dX1_copyFrom_49 rfl ?_
  obtain ⟨hc19, h⟩ := h
  refine g_getI hC kc1 6 (by decide) wm_1_85 dX1_copyFrom_50 rfl hc19 ?_
  obtain ⟨hc20, h⟩ := h
  refine g_putI hC kc1 6 (by decide) wm_1_85 dX1_copyFrom_53 rfl rfl (Or.inl rfl) hc20 ?_
  obtain ⟨M21, eM21⟩ : ∃ w, w = sI M18 a0 6 (gI M18 b0 6) := ⟨_, rfl⟩
  replace h := h M21 eM21
  rw [← eM21]
  exact hR.1 rfl _ _ _ _ _ dX1_copyFrom_56 ⟨rfl, h⟩

def w_X2_init (M : Mem) (a0 : Nat) (post : Mem → Prop) : Prop :=
  gT M a0 = some (2, 0) ∧ ∀ M2, M2 = sR M a0 0 none → gT M2 a0 = some (2, 0) ∧ ∀ M4, M4 = sR M2 a0 1 none → post M4
set_option maxRecDepth 100000 in
set_option maxHeartbeats 8000000 in
theorem s_X2_init (l : Launch) (D : va_G) (dA : Nat → ClassId) (htr : l.stackTraces = false) (M : Mem) (a0 : Nat) (post : Mem → Prop) (h : w_X2_init M a0 post) : CtN l D dA yX2_init cX2_init 1 (none) 2 [.ref a0] M 0 0 (pV post) := by
  refine ct_ofN htr (by decide) (Nat.le_of_ble_eq_true rfl) ?_
  intro X hC hN hR
  show G X 1 M 0 0 0 [(0, .ref a0)] []
  unfold w_X2_init at h
  refine g_aload_n (r := (some a0)) hC 0 dX2_init_0 rfl ?_
  refine g_objInit hC wm_1_38 wm_1_22 wm_1_23 dX2_init_1 (Nat.le_of_ble_eq_true rfl) ?_
  refine g_aload_n (r := (some a0)) hC 0 dX2_init_4 rfl ?_
  refine g_null hC dX2_init_5 ?_
  obtain ⟨hc1, h⟩ := h
  refine g_putR (r := none) hC kc2 0 (by decide) wm_1_39 dX2_init_6 rfl (nar_o _) (Or.inl rfl) hc1 ?_
  obtain ⟨M2, eM2⟩ : ∃ w, w = sR M a0 0 none := ⟨_, rfl⟩
  replace h := h M2 eM2
  rw [← eM2]
  refine g_aload_n (r := (some a0)) hC 0 dX2_init_9 rfl ?_
  refine g_null hC dX2_init_10 ?_
  obtain ⟨hc3, h⟩ := h
  refine g_pc (pc' := 11) rfl ?_
  refine g_putR (r := none) hC kc2 1 (by decide) wm_1_40 dX2_init_11 rfl (nar_o _) (Or.inl rfl) hc3 ?_
  obtain ⟨M4, eM4⟩ : ∃ w, w = sR M2 a0 1 none := ⟨_, rfl⟩
  replace h := h M4 eM4
  rw [← eM4]
  exact hR.1 rfl _ _ _ _ _ dX2_init_14 ⟨rfl, h⟩

def w_X2_append (M : Mem) (a0 : Nat) (b0 : Nat) (post : Mem → Prop) : Prop :=
  gT M b0 = some (1, 0) ∧ ∀ M2, M2 = sR M b0 7 none → gT M2 a0 = some (2, 0) ∧ ∀ r4, gR M2 a0 1 = r4 → ∀ J6 : Mem → Prop, (∀ (M5 : Mem), (gT M5 a0 = some (2, 0) ∧ ∀ M8, M8 = sR M5 a0 1 ((some b0)) → post M8) → J6 M5) → ((r4 = none → gT M2 a0 = some (2, 0) ∧ ∀ M11, M11 = sR M2 a0 0 ((some b0)) → J6 M11) ∧ (∀ b9, r4 = some b9 → gT M2 a0 = some (2, 0) ∧ ∀ r13, gR M2 a0 1 = r13 → ∃ b14, r13 = some b14 ∧ gT M2 b14 = some (1, 0) ∧ ∀ M16, M16 = sR M2 b14 7 ((some b0)) → J6 M16))
set_option maxRecDepth 100000 in
set_option maxHeartbeats 8000000 in
theorem s_X2_append (l : Launch) (D : va_G) (dA : Nat → ClassId) (htr : l.stackTraces = false) (M : Mem) (a0 : Nat) (b0 : Nat) (post : Mem → Prop) (h : w_X2_append M a0 b0 post) : CtN l D dA yX2_append cX2_append 2 (none) 1 [.ref a0, .ref b0] M 0 0 (pV post) := by
  refine ct_ofN htr (by decide) (Nat.le_of_ble_eq_true rfl) ?_
  intro X hC hN hR
  show G X 2 M 0 0 0 [(0, .ref a0), (1, .ref b0)] []
  unfold w_X2_append at h
  refine g_aload_n (r := (some b0)) hC 1 dX2_append_0 rfl ?_
  refine g_null hC dX2_append_1 ?_
  obtain ⟨hc1, h⟩ := h
  refine g_putR (r := none) hC kc1 7 (by decide) wm_1_88 dX2_append_2 rfl (nar_o _) (Or.inl rfl) hc1 ?_
  obtain ⟨M2, eM2⟩ : ∃ w, w = sR M b0 7 none := ⟨_, rfl⟩
  replace h := h M2 eM2
  rw [← eM2]
  refine g_aload_n (r := (some a0)) hC 0 dX2_append_5 rfl ?_
  obtain ⟨hc3, h⟩ := h
  obtain ⟨r4, er4⟩ : ∃ w, gR M2 a0 1 = w := ⟨_, rfl⟩
  replace h := h r4 er4
  refine g_getR hC kc2 1 (by decide) wm_1_40 dX2_append_6 rfl hc3 er4 ?_
  replace h := h (fun (M5 : Mem) => G X 2 M5 0 0 28 [(0, .ref a0), (1, .ref b0)] []) (by
    intro M5 h
    show G X 2 M5 0 0 28 [(0, .ref a0), (1, .ref b0)] []
    refine g_aload_n (r := (some a0)) hC 0 dX2_append_28 rfl ?_
    refine g_aload_n (r := (some b0)) hC 1 dX2_append_29 rfl ?_
    obtain ⟨hc7, h⟩ := h
    refine g_pc (pc' := 30) rfl ?_
    refine g_putR (r := (some b0)) hC kc2 1 (by decide) wm_1_40 dX2_append_30 rfl (nar_o _) (Or.inl rfl) hc7 ?_
    obtain ⟨M8, eM8⟩ : ∃ w, w = sR M5 a0 1 ((some b0)) := ⟨_, rfl⟩
    replace h := h M8 eM8
    rw [← eM8]
    exact hR.1 rfl _ _ _ _ _ dX2_append_33 ⟨rfl, h⟩)
  refine g_ifnonnull hC 20 dX2_append_9 (by decide) (fun b9 eb9 => ?_) (fun eb9 => ?_)
  · replace h := h.2 b9 eb9
    subst eb9
    refine g_aload_n (r := (some a0)) hC 0 dX2_append_20 rfl ?_
    obtain ⟨hc12, h⟩ := h
    obtain ⟨r13, er13⟩ : ∃ w, gR M2 a0 1 = w := ⟨_, rfl⟩
    replace h := h r13 er13
    refine g_pc (pc' := 21) rfl ?_
    refine g_getR hC kc2 1 (by decide) wm_1_40 dX2_append_21 rfl hc12 er13 ?_
    refine g_aload_n (r := (some b0)) hC 1 dX2_append_24 rfl ?_
    obtain ⟨b14, eb14, h⟩ := h
    subst eb14
    obtain ⟨hc15, h⟩ := h
    refine g_putR (r := (some b0)) hC kc1 7 (by decide) wm_1_88 dX2_append_25 rfl (nar_o _) (Or.inl rfl) hc15 ?_
    obtain ⟨M16, eM16⟩ : ∃ w, w = sR M2 b14 7 ((some b0)) := ⟨_, rfl⟩
    replace h := h M16 eM16
    rw [← eM16]
    exact h
  · replace h := h.1 eb9
    subst eb9
    refine g_aload_n (r := (some a0)) hC 0 dX2_append_12 rfl ?_
    refine g_pc (pc' := 13) rfl ?_
    refine g_aload_n (r := (some b0)) hC 1 dX2_append_13 rfl ?_
    obtain ⟨hc10, h⟩ := h
    refine g_putR (r := (some b0)) hC kc2 0 (by decide) wm_1_39 dX2_append_14 rfl (nar_o _) (Or.inl rfl) hc10 ?_
    obtain ⟨M11, eM11⟩ : ∃ w, w = sR M2 a0 0 ((some b0)) := ⟨_, rfl⟩
    replace h := h M11 eM11
    rw [← eM11]
    refine g_goto hC 28 dX2_append_17 (by decide) ?_
    exact h

def w_X2_takeFirst (M : Mem) (a0 : Nat) (post : Mem → Option Nat → Prop) : Prop :=
  gT M a0 = some (2, 0) ∧ ∀ r2, gR M a0 0 = r2 → ∀ J4 : Mem → Prop, (∀ (M3 : Mem), (post M3 r2) → J4 M3) → ((r2 = none → J4 M) ∧ (∀ b5, r2 = some b5 → gT M b5 = some (1, 0) ∧ ∀ r7, gR M b5 7 = r7 → gT M a0 = some (2, 0) ∧ ∀ M9, M9 = sR M a0 0 r7 → gT M9 a0 = some (2, 0) ∧ ∀ r11, gR M9 a0 0 = r11 → ∀ J13 : Mem → Prop, (∀ (M12 : Mem), (gT M12 b5 = some (1, 0) ∧ ∀ M15, M15 = sR M12 b5 7 none → J4 M15) → J13 M12) → ((r11 = none → gT M9 a0 = some (2, 0) ∧ ∀ M18, M18 = sR M9 a0 1 none → J13 M18) ∧ (∀ b16, r11 = some b16 → J13 M9))))
set_option maxRecDepth 100000 in
set_option maxHeartbeats 8000000 in
theorem s_X2_takeFirst (l : Launch) (D : va_G) (dA : Nat → ClassId) (htr : l.stackTraces = false) (M : Mem) (a0 : Nat) (post : Mem → Option Nat → Prop) (h : w_X2_takeFirst M a0 post) : CtN l D dA yX2_takeFirst cX2_takeFirst 2 (some (.object "ChatRelay$Line")) 1 [.ref a0] M 0 0 (pR post) := by
  refine ct_ofN htr (by decide) (Nat.le_of_ble_eq_true rfl) ?_
  intro X hC hN hR
  show G X 2 M 0 0 0 [(0, .ref a0)] []
  unfold w_X2_takeFirst at h
  refine g_aload_n (r := (some a0)) hC 0 dX2_takeFirst_0 rfl ?_
  obtain ⟨hc1, h⟩ := h
  obtain ⟨r2, er2⟩ : ∃ w, gR M a0 0 = w := ⟨_, rfl⟩
  replace h := h r2 er2
  refine g_getR hC kc2 0 (by decide) wm_1_39 dX2_takeFirst_1 rfl hc1 er2 ?_
  refine g_astore_n (r := r2) (lv' := [(1, va_rf r2), (0, .ref a0)]) hC dX2_takeFirst_4 (by decide) rfl ?_
  refine g_aload_n (r := r2) hC 0 dX2_takeFirst_5 rfl ?_
  replace h := h (fun (M3 : Mem) => G X 2 M3 0 0 34 [(0, .ref a0), (1, va_rf r2)] []) (by
    intro M3 h
    show G X 2 M3 0 0 34 [(0, .ref a0), (1, va_rf r2)] []
    refine g_aload_n (r := r2) hC 1 dX2_takeFirst_34 rfl ?_
    exact hR.2.2.2 _ rfl _ _ _ _ _ r2 dX2_takeFirst_35 ⟨_, rfl, h⟩)
  refine g_ifnull hC 34 dX2_takeFirst_6 (by decide) (fun eb5 => ?_) (fun b5 eb5 => ?_)
  · replace h := h.1 eb5
    subst eb5
    refine g_sub [1, 0] (lv' := [(0, .ref a0), (1, va_rf none)]) rfl ?_
    exact h
  · replace h := h.2 b5 eb5
    subst eb5
    refine g_aload_n (r := (some a0)) hC 1 dX2_takeFirst_9 rfl ?_
    refine g_aload_n (r := (some b5)) hC 0 dX2_takeFirst_10 rfl ?_
    obtain ⟨hc6, h⟩ := h
    obtain ⟨r7, er7⟩ : ∃ w, gR M b5 7 = w := ⟨_, rfl⟩
    replace h := h r7 er7
    refine g_pc (pc' := 11) rfl ?_
    refine g_getR hC kc1 7 (by decide) wm_1_88 dX2_takeFirst_11 rfl hc6 er7 ?_
    obtain ⟨hc8, h⟩ := h
    refine g_putR (r := r7) hC kc2 0 (by decide) wm_1_39 dX2_takeFirst_14 rfl (nar_o _) (Or.inl rfl) hc8 ?_
    obtain ⟨M9, eM9⟩ : ∃ w, w = sR M a0 0 r7 := ⟨_, rfl⟩
    replace h := h M9 eM9
    rw [← eM9]
    refine g_aload_n (r := (some a0)) hC 1 dX2_takeFirst_17 rfl ?_
    obtain ⟨hc10, h⟩ := h
    obtain ⟨r11, er11⟩ : ∃ w, gR M9 a0 0 = w := ⟨_, rfl⟩
    replace h := h r11 er11
    refine g_getR hC kc2 0 (by decide) wm_1_39 dX2_takeFirst_18 rfl hc10 er11 ?_
    replace h := h (fun (M12 : Mem) => G X 2 M12 0 0 29 [(0, .ref a0), (1, .ref b5)] []) (by
      intro M12 h
      show G X 2 M12 0 0 29 [(0, .ref a0), (1, .ref b5)] []
      refine g_aload_n (r := (some b5)) hC 1 dX2_takeFirst_29 rfl ?_
      refine g_null hC dX2_takeFirst_30 ?_
      obtain ⟨hc14, h⟩ := h
      refine g_putR (r := none) hC kc1 7 (by decide) wm_1_88 dX2_takeFirst_31 rfl (nar_o _) (Or.inl rfl) hc14 ?_
      obtain ⟨M15, eM15⟩ : ∃ w, w = sR M12 b5 7 none := ⟨_, rfl⟩
      replace h := h M15 eM15
      rw [← eM15]
      exact h)
    refine g_ifnonnull hC 29 dX2_takeFirst_21 (by decide) (fun b16 eb16 => ?_) (fun eb16 => ?_)
    · replace h := h.2 b16 eb16
      subst eb16
      refine g_sub [1, 0] (lv' := [(0, .ref a0), (1, .ref b5)]) rfl ?_
      exact h
    · replace h := h.1 eb16
      subst eb16
      refine g_aload_n (r := (some a0)) hC 1 dX2_takeFirst_24 rfl ?_
      refine g_null hC dX2_takeFirst_25 ?_
      obtain ⟨hc17, h⟩ := h
      refine g_putR (r := none) hC kc2 1 (by decide) wm_1_40 dX2_takeFirst_26 rfl (nar_o _) (Or.inl rfl) hc17 ?_
      obtain ⟨M18, eM18⟩ : ∃ w, w = sR M9 a0 1 none := ⟨_, rfl⟩
      replace h := h M18 eM18
      rw [← eM18]
      refine g_sub [1, 0] (lv' := [(0, .ref a0), (1, .ref b5)]) rfl ?_
      exact h
end
section
def w_X3_init (mc ms : Nat) (M : Mem) (a0 : Nat) (post : Mem → Prop) : Prop :=
  gT M a0 = some (3, 0) ∧ ∀ M2, M2 = sI M a0 0 0 → (0 + 1 ≤ mc ∧ 0 + 4 ≤ ms) ∧ ∀ q3, gT M2 q3 = none → ∀ M4, M4 = sN M2 q3 (13, 4) → gT M4 a0 = some (3, 0) ∧ ∀ M7, M7 = sR M4 a0 1 ((some q3)) → Lp (fun (K12 : Int32 × Mem × Nat × Nat → Prop) (z : Int32 × Mem × Nat × Nat) => ∀ (x8 : Int32) (M9 : Mem) (k10 : Nat) (n11 : Nat), z = (x8, M9, k10, n11) → ((4 ≤ x8 → post M9) ∧ (¬ (4 ≤ x8) → gT M9 a0 = some (3, 0) ∧ ∃ b14, gR M9 a0 1 = some b14 ∧ (k10 + 1 ≤ mc ∧ n11 + 4 ≤ ms) ∧ ∀ q15, gT M9 q15 = none → ∀ M16, M16 = sN M9 q15 (0, 0) → w_X0_init M16 q15 (fun M18 => gT M18 q15 = some (0, 0) ∧ inA M18 b14 13 x8 ∧ ∀ M19, M19 = sR M18 b14 (Int32.toNatClampNeg x8) ((some q15)) → ∀ x21, x21 = x8 + 1 → K12 (x21, M19, k10 + 1, n11 + 4))))) (0, M7, 0 + 1, 0 + 4)
set_option maxRecDepth 100000 in
set_option maxHeartbeats 8000000 in
theorem s_X3_init (l : Launch) (D : va_G) (dA : Nat → ClassId) (htr : l.stackTraces = false) (mc ms : Nat) (M : Mem) (a0 : Nat) (post : Mem → Prop) (h : w_X3_init mc ms M a0 post) : CtN l D dA yX3_init cX3_init 2 (none) 3 [.ref a0] M mc ms (pV post) := by
  refine ct_ofN htr (by decide) (Nat.le_of_ble_eq_true rfl) ?_
  intro X hC hN hR
  show G X 2 M 0 0 0 [(0, .ref a0)] []
  unfold w_X3_init at h
  refine g_aload_n (r := (some a0)) hC 0 dX3_init_0 rfl ?_
  refine g_objInit hC wm_1_111 wm_1_22 wm_1_23 dX3_init_1 (Nat.le_of_ble_eq_true rfl) ?_
  refine g_aload_n (r := (some a0)) hC 0 dX3_init_4 rfl ?_
  refine g_iconst (v := 0) hC dX3_init_5 (by decide) ?_
  obtain ⟨hc1, h⟩ := h
  refine g_putI hC kc3 0 (by decide) wm_1_139 dX3_init_6 rfl rfl (Or.inl rfl) hc1 ?_
  obtain ⟨M2, eM2⟩ : ∃ w, w = sI M a0 0 0 := ⟨_, rfl⟩
  replace h := h M2 eM2
  rw [← eM2]
  refine g_aload_n (r := (some a0)) hC 0 dX3_init_9 rfl ?_
  refine g_iconst (v := 4) hC dX3_init_10 (by decide) ?_
  obtain ⟨hc5, h⟩ := h
  refine g_pc (pc' := 11) rfl ?_
  refine g_newq (ck := 13) (j0 := 3) (N' := 4) hC (by decide) rfl (by decide +kernel) wm_1_112 (by decide) (by decide +kernel) (by decide +kernel) dX3_init_11 hc5 (fun q3 hqq3 => ?_)
  obtain ⟨M4, eM4⟩ : ∃ w, w = sN M2 q3 (13, 4) := ⟨_, rfl⟩
  replace h := h q3 hqq3 M4 eM4
  rw [← eM4]
  obtain ⟨hc6, h⟩ := h
  refine g_putR (r := (some q3)) hC kc3 1 (by decide) wm_1_141 dX3_init_14 rfl (nar_a _) (Or.inr ⟨rfl, hN, rfl⟩) hc6 ?_
  obtain ⟨M7, eM7⟩ : ∃ w, w = sR M4 a0 1 ((some q3)) := ⟨_, rfl⟩
  replace h := h M7 eM7
  rw [← eM7]
  refine g_iconst (v := 0) hC dX3_init_17 (by decide) ?_
  refine g_istore_n (lv' := [(1, .int 0), (0, .ref a0)]) hC dX3_init_18 (by decide) rfl ?_
  refine g_sub [1, 0] (lv' := [(0, .ref a0), (1, .int 0)]) rfl ?_
  refine Lp_use (fun (z23 : Int32 × Mem × Nat × Nat) => G X 2 z23.2.1 z23.2.2.1 z23.2.2.2 19 [(0, .ref a0), (1, .int z23.1)] []) h ?_
  intro K12 z hK_K12 h
  obtain ⟨x8, M9, k10, n11⟩ := z
  replace h := h _ _ _ _ rfl
  show G X 2 M9 k10 n11 19 [(0, .ref a0), (1, .int x8)] []
  refine g_iload_n hC 1 dX3_init_19 rfl ?_
  refine g_iconst (v := 4) hC dX3_init_20 (by decide) ?_
  refine g_icmp_ge hC 43 dX3_init_21 (by decide) (fun c22 => ?_) (fun c22 => ?_)
  · replace h := h.1 c22
    exact hR.1 rfl _ _ _ _ _ dX3_init_43 ⟨rfl, h⟩
  · replace h := h.2 c22
    refine g_aload_n (r := (some a0)) hC 0 dX3_init_24 rfl ?_
    obtain ⟨hc13, h⟩ := h
    obtain ⟨b14, eb14, h⟩ := h
    refine g_pc (pc' := 25) rfl ?_
    refine g_getA hC kc3 1 (by decide) wm_1_141 dX3_init_25 rfl hc13 eb14 ?_
    refine g_iload_n hC 1 dX3_init_28 rfl ?_
    obtain ⟨hc17, h⟩ := h
    refine g_newK hC kc0 wm_1_112 wm_1_114 wm_1_6 dX3_init_29 hc17 (fun q15 hqq15 => ?_)
    obtain ⟨M16, eM16⟩ : ∃ w, w = sN M9 q15 (0, 0) := ⟨_, rfl⟩
    replace h := h q15 hqq15 M16 eM16
    rw [← eM16]
    refine g_dup hC dX3_init_32 rfl ?_
    refine g_callIN hC (As := []) (fun l D dA ht => s_X0_init l D dA ht _ _ _ h) rfl wm_1_117 (by decide +kernel) wm_1_116 wm_1_6 (by decide +kernel : plainY yX0_init 0) dX3_init_33 (by decide) (Nat.le_of_ble_eq_true rfl) (Or.inl ⟨rfl, rfl⟩) ?_
    intro M9 v9 h
    obtain ⟨rfl, h⟩ := h
    generalize M9 = M18 at h ⊢
    show G X 2 M18 (k10 + 1) (n11 + 4) 36 [(0, .ref a0), (1, .int x8)] [.ref q15, .int x8, .ref b14]
    obtain ⟨hvc20, h⟩ := h
    obtain ⟨hc20, h⟩ := h
    refine g_aastA hC 0 (by decide) dX3_init_36 hc20 hvc20 ?_
    obtain ⟨M19, eM19⟩ : ∃ w, w = sR M18 b14 (Int32.toNatClampNeg x8) ((some q15)) := ⟨_, rfl⟩
    replace h := h M19 eM19
    rw [← eM19]
    obtain ⟨x21, ex21⟩ : ∃ w, w = x8 + 1 := ⟨_, rfl⟩
    replace h := h x21 ex21
    refine g_iinc (v := x21) (lv' := [(1, .int x21), (0, .ref a0)]) hC 1 dX3_init_37 rfl (by rw [ex21]; rfl) (by decide) rfl ?_
    refine g_goto hC 19 dX3_init_40 (by decide) ?_
    refine g_sub [1, 0] (lv' := [(0, .ref a0), (1, .int x21)]) rfl ?_
    exact hK_K12 _ h

def w_X5_has (M : Mem) (p0 : Int32) (p1 : Int32) (post : Int32 → Prop) : Prop :=
  ∀ J2 : Int32 → Prop, (∀ (x1 : Int32), (((x1 : Int32) = 0 ∨ (x1 : Int32) = 1) ∧ post x1) → J2 x1) → (((p0 >>> (p1 &&& 31)) &&& 1 = 0 → J2 0) ∧ (¬ ((p0 >>> (p1 &&& 31)) &&& 1 = 0) → J2 1))
set_option maxRecDepth 100000 in
set_option maxHeartbeats 8000000 in
theorem s_X5_has (l : Launch) (D : va_G) (dA : Nat → ClassId) (htr : l.stackTraces = false) (M : Mem) (p0 : Int32) (p1 : Int32) (post : Int32 → Prop) (h : w_X5_has M p0 p1 post) : CtN l D dA yX5_has cX5_has 2 (some .boolean) 1 [.int p0, .int p1] M 0 0 (pI (fun M' r => M' = M ∧ post r)) := by
  refine ct_ofN htr (by decide) (Nat.le_of_ble_eq_true rfl) ?_
  intro X hC hN hR
  show G X 2 M 0 0 0 [(0, .int p0), (1, .int p1)] []
  unfold w_X5_has at h
  refine g_iload_n hC 0 dX5_has_0 rfl ?_
  refine g_iload_n hC 1 dX5_has_1 rfl ?_
  refine g_ishr hC dX5_has_2 ?_
  refine g_iconst (v := 1) hC dX5_has_3 (by decide) ?_
  refine g_iand hC dX5_has_4 ?_
  replace h := h (fun (x1 : Int32) => G X 2 M 0 0 13 [(0, .int p0), (1, .int p1)] [.int x1]) (by
    intro x1 h
    show G X 2 M 0 0 13 [(0, .int p0), (1, .int p1)] [.int x1]
    exact hR.2.2.1 rfl _ _ _ _ _ _ dX5_has_13 ⟨h.1, ⟨_, rfl, rfl, h.2⟩⟩)
  refine g_if_eq hC 12 dX5_has_5 (by decide) (fun c3 => ?_) (fun c3 => ?_)
  · replace h := h.1 c3
    refine g_iconst (v := 0) hC dX5_has_12 (by decide) ?_
    exact h
  · replace h := h.2 c3
    refine g_iconst (v := 1) hC dX5_has_8 (by decide) ?_
    refine g_pc (pc' := 9) rfl ?_
    refine g_goto hC 13 dX5_has_9 (by decide) ?_
    exact h

def w_X3_knows (M : Mem) (a0 : Nat) (p0 : Int32) (post : Int32 → Prop) : Prop :=
  gT M a0 = some (3, 0) ∧ w_X5_has M (gI M a0 0) p0 (fun x2 => ((x2 : Int32) = 0 ∨ (x2 : Int32) = 1) ∧ post x2)
set_option maxRecDepth 100000 in
set_option maxHeartbeats 8000000 in
theorem s_X3_knows (l : Launch) (D : va_G) (dA : Nat → ClassId) (htr : l.stackTraces = false) (M : Mem) (a0 : Nat) (p0 : Int32) (post : Int32 → Prop) (h : w_X3_knows M a0 p0 post) : CtN l D dA yX3_knows cX3_knows 2 (some .boolean) 2 [.ref a0, .int p0] M 0 0 (pI (fun M' r => M' = M ∧ post r)) := by
  refine ct_ofN htr (by decide) (Nat.le_of_ble_eq_true rfl) ?_
  intro X hC hN hR
  show G X 2 M 0 0 0 [(0, .ref a0), (1, .int p0)] []
  unfold w_X3_knows at h
  refine g_aload_n (r := (some a0)) hC 0 dX3_knows_0 rfl ?_
  obtain ⟨hc1, h⟩ := h
  refine g_getI hC kc3 0 (by decide) wm_1_139 dX3_knows_1 rfl hc1 ?_
  refine g_iload_n hC 1 dX3_knows_4 rfl ?_
  refine g_callSN hC (As := [.int (gI M a0 0), .int p0]) (fun l D dA ht => s_X5_has l D dA ht _ _ _ _ h) wm_1_204 (by decide +kernel) wm_1_203 wm_1_1 (by decide +kernel : plainY yX5_has 2) dX3_knows_5 (by decide) (Nat.le_of_ble_eq_true rfl) (Or.inl ⟨rfl, rfl⟩) ?_
  intro M9 v9 h
  obtain ⟨x2, rfl, h⟩ := h
  obtain ⟨hM9, h⟩ := h
  rw [hM9]
  show G X 2 M 0 0 8 [(0, .ref a0), (1, .int p0)] [.int x2]
  exact hR.2.2.1 rfl _ _ _ _ _ _ dX3_knows_8 ⟨h.1, ⟨_, rfl, rfl, h.2⟩⟩

def w_X3_learn (M : Mem) (a0 : Nat) (p0 : Int32) (post : Mem → Prop) : Prop :=
  gT M a0 = some (3, 0) ∧ gT M a0 = some (3, 0) ∧ ∀ M3, M3 = sI M a0 0 ((gI M a0 0) ||| (1 <<< (p0 &&& 31))) → post M3
set_option maxRecDepth 100000 in
set_option maxHeartbeats 8000000 in
theorem s_X3_learn (l : Launch) (D : va_G) (dA : Nat → ClassId) (htr : l.stackTraces = false) (M : Mem) (a0 : Nat) (p0 : Int32) (post : Mem → Prop) (h : w_X3_learn M a0 p0 post) : CtN l D dA yX3_learn cX3_learn 2 (none) 1 [.ref a0, .int p0] M 0 0 (pV post) := by
  refine ct_ofN htr (by decide) (Nat.le_of_ble_eq_true rfl) ?_
  intro X hC hN hR
  show G X 2 M 0 0 0 [(0, .ref a0), (1, .int p0)] []
  unfold w_X3_learn at h
  refine g_aload_n (r := (some a0)) hC 0 dX3_learn_0 rfl ?_
  refine g_dup hC dX3_learn_1 rfl ?_
  obtain ⟨hc1, h⟩ := h
  refine g_getI hC kc3 0 (by decide) wm_1_139 dX3_learn_2 rfl hc1 ?_
  refine g_iconst (v := 1) hC dX3_learn_5 (by decide) ?_
  refine g_iload_n hC 1 dX3_learn_6 rfl ?_
  refine g_ishl hC dX3_learn_7 ?_
  refine g_ior hC dX3_learn_8 ?_
  obtain ⟨hc2, h⟩ := h
  refine g_pc (pc' := 9) rfl ?_
  refine g_putI hC kc3 0 (by decide) wm_1_139 dX3_learn_9 rfl rfl (Or.inl rfl) hc2 ?_
  obtain ⟨M3, eM3⟩ : ∃ w, w = sI M a0 0 ((gI M a0 0) ||| (1 <<< (p0 &&& 31))) := ⟨_, rfl⟩
  replace h := h M3 eM3
  rw [← eM3]
  exact hR.1 rfl _ _ _ _ _ dX3_learn_12 ⟨rfl, h⟩

def w_X3_forget (M : Mem) (a0 : Nat) (p0 : Int32) (post : Mem → Prop) : Prop :=
  gT M a0 = some (3, 0) ∧ gT M a0 = some (3, 0) ∧ ∀ M3, M3 = sI M a0 0 ((gI M a0 0) &&& ((1 <<< (p0 &&& 31)) ^^^ ((-1)))) → Lp (fun (K6 : Int32 × Mem → Prop) (z : Int32 × Mem) => ∀ (x4 : Int32) (M5 : Mem), z = (x4, M5) → ((4 ≤ x4 → post M5) ∧ (¬ (4 ≤ x4) → gT M5 a0 = some (3, 0) ∧ ∃ b8, gR M5 a0 1 = some b8 ∧ inA M5 b8 13 x4 ∧ ∃ b10, gR M5 b8 (Int32.toNatClampNeg x4) = some b10 ∧ gT M5 b10 = some (0, 0) ∧ w_X0_drop M5 b10 p0 (fun M12 => ∀ x13, x13 = x4 + 1 → K6 (x13, M12))))) (0, M3)
set_option maxRecDepth 100000 in
set_option maxHeartbeats 8000000 in
theorem s_X3_forget (l : Launch) (D : va_G) (dA : Nat → ClassId) (htr : l.stackTraces = false) (M : Mem) (a0 : Nat) (p0 : Int32) (post : Mem → Prop) (h : w_X3_forget M a0 p0 post) : CtN l D dA yX3_forget cX3_forget 3 (none) 2 [.ref a0, .int p0] M 0 0 (pV post) := by
  refine ct_ofN htr (by decide) (Nat.le_of_ble_eq_true rfl) ?_
  intro X hC hN hR
  show G X 3 M 0 0 0 [(0, .ref a0), (1, .int p0)] []
  unfold w_X3_forget at h
  refine g_aload_n (r := (some a0)) hC 0 dX3_forget_0 rfl ?_
  refine g_dup hC dX3_forget_1 rfl ?_
  obtain ⟨hc1, h⟩ := h
  refine g_getI hC kc3 0 (by decide) wm_1_139 dX3_forget_2 rfl hc1 ?_
  refine g_iconst (v := 1) hC dX3_forget_5 (by decide) ?_
  refine g_iload_n hC 1 dX3_forget_6 rfl ?_
  refine g_ishl hC dX3_forget_7 ?_
  refine g_iconst (v := (-1)) hC dX3_forget_8 (by decide) ?_
  refine g_pc (pc' := 9) rfl ?_
  refine g_ixor hC dX3_forget_9 ?_
  refine g_iand hC dX3_forget_10 ?_
  obtain ⟨hc2, h⟩ := h
  refine g_putI hC kc3 0 (by decide) wm_1_139 dX3_forget_11 rfl rfl (Or.inl rfl) hc2 ?_
  obtain ⟨M3, eM3⟩ : ∃ w, w = sI M a0 0 ((gI M a0 0) &&& ((1 <<< (p0 &&& 31)) ^^^ ((-1)))) := ⟨_, rfl⟩
  replace h := h M3 eM3
  rw [← eM3]
  refine g_iconst (v := 0) hC dX3_forget_14 (by decide) ?_
  refine g_istore_n (lv' := [(2, .int 0), (0, .ref a0), (1, .int p0)]) hC dX3_forget_15 (by decide) rfl ?_
  refine g_sub [1, 2, 0] (lv' := [(0, .ref a0), (1, .int p0), (2, .int 0)]) rfl ?_
  refine Lp_use (fun (z15 : Int32 × Mem) => G X 3 z15.2 0 0 16 [(0, .ref a0), (1, .int p0), (2, .int z15.1)] []) h ?_
  intro K6 z hK_K6 h
  obtain ⟨x4, M5⟩ := z
  replace h := h _ _ rfl
  show G X 3 M5 0 0 16 [(0, .ref a0), (1, .int p0), (2, .int x4)] []
  refine g_iload_n hC 2 dX3_forget_16 rfl ?_
  refine g_iconst (v := 4) hC dX3_forget_17 (by decide) ?_
  refine g_icmp_ge hC 37 dX3_forget_18 (by decide) (fun c14 => ?_) (fun c14 => ?_)
  · replace h := h.1 c14
    refine g_pc (pc' := 37) rfl ?_
    exact hR.1 rfl _ _ _ _ _ dX3_forget_37 ⟨rfl, h⟩
  · replace h := h.2 c14
    refine g_pc (pc' := 21) rfl ?_
    refine g_aload_n (r := (some a0)) hC 0 dX3_forget_21 rfl ?_
    obtain ⟨hc7, h⟩ := h
    obtain ⟨b8, eb8, h⟩ := h
    refine g_getA hC kc3 1 (by decide) wm_1_141 dX3_forget_22 rfl hc7 eb8 ?_
    refine g_iload_n hC 2 dX3_forget_25 rfl ?_
    obtain ⟨hc9, h⟩ := h
    obtain ⟨b10, eb10, h⟩ := h
    refine g_aaldA hC (by decide) dX3_forget_26 hc9 eb10 ?_
    refine g_iload_n hC 1 dX3_forget_27 rfl ?_
    obtain ⟨hc11, h⟩ := h
    refine g_callV hC (As := [.int p0]) (fun l D dA ht => s_X0_drop l D dA ht _ _ _ _ h) wm_2_1 wm_1_238 wm_1_239 wm_2_0 wm_1_6 (by decide +kernel : plainY yX0_drop 1) kc0.1 kc0.2.1 dX3_forget_28 (by decide) (Nat.le_of_ble_eq_true rfl) hc11 (Or.inl ⟨rfl, rfl⟩) ?_
    intro M9 v9 h
    obtain ⟨rfl, h⟩ := h
    generalize M9 = M12 at h ⊢
    show G X 3 M12 0 0 31 [(0, .ref a0), (1, .int p0), (2, .int x4)] []
    obtain ⟨x13, ex13⟩ : ∃ w, w = x4 + 1 := ⟨_, rfl⟩
    replace h := h x13 ex13
    refine g_iinc (v := x13) (lv' := [(2, .int x13), (0, .ref a0), (1, .int p0)]) hC 2 dX3_forget_31 rfl (by rw [ex13]; rfl) (by decide) rfl ?_
    refine g_goto hC 16 dX3_forget_34 (by decide) ?_
    refine g_sub [1, 2, 0] (lv' := [(0, .ref a0), (1, .int p0), (2, .int x13)]) rfl ?_
    exact hK_K6 _ h

def w_X3_looksLike (M : Mem) (a0 : Nat) (b0 : Nat) (post : Int32 → Prop) : Prop :=
  gT M a0 = some (3, 0) ∧ gT M b0 = some (3, 0) ∧ (gI M a0 0 = gI M b0 0 → Lp (fun (K4 : Int32 → Prop) (z : Int32) => ∀ (x3 : Int32), z = x3 → ((4 ≤ x3 → ((1 : Int32) = 0 ∨ (1 : Int32) = 1) ∧ post 1) ∧ (¬ (4 ≤ x3) → gT M a0 = some (3, 0) ∧ ∃ b6, gR M a0 1 = some b6 ∧ inA M b6 13 x3 ∧ ∃ b8, gR M b6 (Int32.toNatClampNeg x3) = some b8 ∧ gT M b0 = some (3, 0) ∧ ∃ b10, gR M b0 1 = some b10 ∧ inA M b10 13 x3 ∧ ∃ b12, gR M b10 (Int32.toNatClampNeg x3) = some b12 ∧ gT M b8 = some (0, 0) ∧ w_X0_looksLike M b8 b12 (fun x14 => (x14 = 0 → ((0 : Int32) = 0 ∨ (0 : Int32) = 1) ∧ post 0) ∧ (¬ (x14 = 0) → ∀ x15, x15 = x3 + 1 → K4 x15))))) 0) ∧ (¬ (gI M a0 0 = gI M b0 0) → ((0 : Int32) = 0 ∨ (0 : Int32) = 1) ∧ post 0)
set_option maxRecDepth 100000 in
set_option maxHeartbeats 8000000 in
theorem s_X3_looksLike (l : Launch) (D : va_G) (dA : Nat → ClassId) (htr : l.stackTraces = false) (M : Mem) (a0 : Nat) (b0 : Nat) (post : Int32 → Prop) (h : w_X3_looksLike M a0 b0 post) : CtN l D dA yX3_looksLike cX3_looksLike 3 (some .boolean) 2 [.ref a0, .ref b0] M 0 0 (pI (fun M' r => M' = M ∧ post r)) := by
  refine ct_ofN htr (by decide) (Nat.le_of_ble_eq_true rfl) ?_
  intro X hC hN hR
  show G X 3 M 0 0 0 [(0, .ref a0), (1, .ref b0)] []
  unfold w_X3_looksLike at h
  refine g_aload_n (r := (some a0)) hC 0 dX3_looksLike_0 rfl ?_
  obtain ⟨hc1, h⟩ := h
  refine g_getI hC kc3 0 (by decide) wm_1_139 dX3_looksLike_1 rfl hc1 ?_
  refine g_aload_n (r := (some b0)) hC 1 dX3_looksLike_4 rfl ?_
  obtain ⟨hc2, h⟩ := h
  refine g_getI hC kc3 0 (by decide) wm_1_139 dX3_looksLike_5 rfl hc2 ?_
  refine g_icmp_eq hC 13 dX3_looksLike_8 (by decide) (fun c19 => ?_) (fun c19 => ?_)
  · replace h := h.1 c19
    refine g_iconst (v := 0) hC dX3_looksLike_13 (by decide) ?_
    refine g_istore_n (lv' := [(2, .int 0), (0, .ref a0), (1, .ref b0)]) hC dX3_looksLike_14 (by decide) rfl ?_
    refine g_sub [1, 2, 0] (lv' := [(0, .ref a0), (1, .ref b0), (2, .int 0)]) rfl ?_
    refine Lp_use (fun (z18 : Int32) => G X 3 M 0 0 15 [(0, .ref a0), (1, .ref b0), (2, .int z18)] []) h ?_
    intro K4 z hK_K4 h
    obtain ⟨x3, hz⟩ : ∃ w, w = z := ⟨_, rfl⟩; subst hz
    replace h := h _ rfl
    show G X 3 M 0 0 15 [(0, .ref a0), (1, .ref b0), (2, .int x3)] []
    refine g_pc (pc' := 15) rfl ?_
    refine g_iload_n hC 2 dX3_looksLike_15 rfl ?_
    refine g_iconst (v := 4) hC dX3_looksLike_16 (by decide) ?_
    refine g_icmp_ge hC 46 dX3_looksLike_17 (by decide) (fun c17 => ?_) (fun c17 => ?_)
    · replace h := h.1 c17
      refine g_iconst (v := 1) hC dX3_looksLike_46 (by decide) ?_
      exact hR.2.2.1 rfl _ _ _ _ _ _ dX3_looksLike_47 ⟨h.1, ⟨_, rfl, rfl, h.2⟩⟩
    · replace h := h.2 c17
      refine g_aload_n (r := (some a0)) hC 0 dX3_looksLike_20 rfl ?_
      obtain ⟨hc5, h⟩ := h
      obtain ⟨b6, eb6, h⟩ := h
      refine g_getA hC kc3 1 (by decide) wm_1_141 dX3_looksLike_21 rfl hc5 eb6 ?_
      refine g_iload_n hC 2 dX3_looksLike_24 rfl ?_
      obtain ⟨hc7, h⟩ := h
      obtain ⟨b8, eb8, h⟩ := h
      refine g_aaldA hC (by decide) dX3_looksLike_25 hc7 eb8 ?_
      refine g_aload_n (r := (some b0)) hC 1 dX3_looksLike_26 rfl ?_
      obtain ⟨hc9, h⟩ := h
      obtain ⟨b10, eb10, h⟩ := h
      refine g_pc (pc' := 27) rfl ?_
      refine g_getA hC kc3 1 (by decide) wm_1_141 dX3_looksLike_27 rfl hc9 eb10 ?_
      refine g_iload_n hC 2 dX3_looksLike_30 rfl ?_
      obtain ⟨hc11, h⟩ := h
      obtain ⟨b12, eb12, h⟩ := h
      refine g_aaldA hC (by decide) dX3_looksLike_31 hc11 eb12 ?_
      obtain ⟨hc13, h⟩ := h
      refine g_callV hC (As := [.ref b12]) (fun l D dA ht => s_X0_looksLike l D dA ht _ _ _ _ h) wm_3_131 wm_3_128 wm_3_129 wm_3_130 wm_1_6 (by decide +kernel : plainY yX0_looksLike 1) kc0.1 kc0.2.1 dX3_looksLike_32 (by decide) (Nat.le_of_ble_eq_true rfl) hc13 (Or.inl ⟨rfl, rfl⟩) ?_
      intro M9 v9 h
      obtain ⟨x14, rfl, h⟩ := h
      obtain ⟨hM9, h⟩ := h
      rw [hM9]
      show G X 3 M 0 0 35 [(0, .ref a0), (1, .ref b0), (2, .int x3)] [.int x14]
      refine g_if_ne hC 40 dX3_looksLike_35 (by decide) (fun c16 => ?_) (fun c16 => ?_)
      · replace h := h.2 c16
        obtain ⟨x15, ex15⟩ : ∃ w, w = x3 + 1 := ⟨_, rfl⟩
        replace h := h x15 ex15
        refine g_iinc (v := x15) (lv' := [(2, .int x15), (0, .ref a0), (1, .ref b0)]) hC 2 dX3_looksLike_40 rfl (by rw [ex15]; rfl) (by decide) rfl ?_
        refine g_goto hC 15 dX3_looksLike_43 (by decide) ?_
        refine g_sub [1, 2, 0] (lv' := [(0, .ref a0), (1, .ref b0), (2, .int x15)]) rfl ?_
        exact hK_K4 _ h
      · replace h := h.1 c16
        refine g_iconst (v := 0) hC dX3_looksLike_38 (by decide) ?_
        exact hR.2.2.1 rfl _ _ _ _ _ _ dX3_looksLike_39 ⟨h.1, ⟨_, rfl, rfl, h.2⟩⟩
  · replace h := h.2 c19
    refine g_iconst (v := 0) hC dX3_looksLike_11 (by decide) ?_
    exact hR.2.2.1 rfl _ _ _ _ _ _ dX3_looksLike_12 ⟨h.1, ⟨_, rfl, rfl, h.2⟩⟩

def w_X4_init (mc ms : Nat) (M : Mem) (a0 : Nat) (post : Mem → Prop) : Prop :=
  (0 + 1 ≤ mc ∧ 0 + 6 ≤ ms) ∧ ∀ q1, gT M q1 = none → ∀ M2, M2 = sN M q1 (10, 6) → gT M2 a0 = some (4, 0) ∧ ∀ M5, M5 = sR M2 a0 0 ((some q1)) → (0 + 1 + 1 ≤ mc ∧ 0 + 6 + 36 ≤ ms) ∧ ∀ q6, gT M5 q6 = none → ∀ M7, M7 = sN M5 q6 (14, 36) → gT M7 a0 = some (4, 0) ∧ ∀ M10, M10 = sR M7 a0 1 ((some q6)) → gT M10 a0 = some (4, 0) ∧ ∀ M12, M12 = sI M10 a0 2 0 → gT M12 a0 = some (4, 0) ∧ ∀ M14, M14 = sR M12 a0 3 none → gT M14 a0 = some (4, 0) ∧ ∀ M16, M16 = sI M14 a0 4 0 → Lp (fun (K21 : Int32 × Mem × Nat × Nat → Prop) (z : Int32 × Mem × Nat × Nat) => ∀ (x17 : Int32) (M18 : Mem) (k19 : Nat) (n20 : Nat), z = (x17, M18, k19, n20) → ((36 ≤ x17 → post M18) ∧ (¬ (36 ≤ x17) → gT M18 a0 = some (4, 0) ∧ ∃ b23, gR M18 a0 1 = some b23 ∧ (k19 + 1 ≤ mc ∧ n20 + 2 ≤ ms) ∧ ∀ q24, gT M18 q24 = none → ∀ M25, M25 = sN M18 q24 (2, 0) → w_X2_init M25 q24 (fun M27 => gT M27 q24 = some (2, 0) ∧ inA M27 b23 14 x17 ∧ ∀ M28, M28 = sR M27 b23 (Int32.toNatClampNeg x17) ((some q24)) → ∀ x30, x30 = x17 + 1 → K21 (x30, M28, k19 + 1, n20 + 2))))) (0, M16, 0 + 1 + 1, 0 + 6 + 36)
set_option maxRecDepth 100000 in
set_option maxHeartbeats 8000000 in
theorem s_X4_init (l : Launch) (D : va_G) (dA : Nat → ClassId) (htr : l.stackTraces = false) (mc ms : Nat) (M : Mem) (a0 : Nat) (post : Mem → Prop) (h : w_X4_init mc ms M a0 post) : CtN l D dA yX4_init cX4_init 2 (none) 3 [.ref a0] M mc ms (pV post) := by
  refine ct_ofN htr (by decide) (Nat.le_of_ble_eq_true rfl) ?_
  intro X hC hN hR
  show G X 2 M 0 0 0 [(0, .ref a0)] []
  unfold w_X4_init at h
  refine g_aload_n (r := (some a0)) hC 0 dX4_init_0 rfl ?_
  refine g_objInit hC wm_1_31 wm_1_22 wm_1_23 dX4_init_1 (Nat.le_of_ble_eq_true rfl) ?_
  refine g_aload_n (r := (some a0)) hC 0 dX4_init_4 rfl ?_
  refine g_bipush (v := 6) hC dX4_init_5 (by decide) ?_
  obtain ⟨hc3, h⟩ := h
  refine g_newa (at0 := .int) (ty := .int) (ck := 10) (N' := 6) hC rfl (by decide) wm_1_46 (by decide) (by decide +kernel) (by decide +kernel) dX4_init_7 hc3 (fun q1 hqq1 => ?_)
  obtain ⟨M2, eM2⟩ : ∃ w, w = sN M q1 (10, 6) := ⟨_, rfl⟩
  replace h := h q1 hqq1 M2 eM2
  rw [← eM2]
  obtain ⟨hc4, h⟩ := h
  refine g_putR (r := (some q1)) hC kc4 0 (by decide) wm_1_47 dX4_init_9 rfl (nar_a _) (Or.inr ⟨rfl, hN, rfl⟩) hc4 ?_
  obtain ⟨M5, eM5⟩ : ∃ w, w = sR M2 a0 0 ((some q1)) := ⟨_, rfl⟩
  replace h := h M5 eM5
  rw [← eM5]
  refine g_aload_n (r := (some a0)) hC 0 dX4_init_12 rfl ?_
  refine g_pc (pc' := 13) rfl ?_
  refine g_bipush (v := 36) hC dX4_init_13 (by decide) ?_
  obtain ⟨hc8, h⟩ := h
  refine g_newq (ck := 14) (j0 := 4) (N' := 36) hC (by decide) rfl (by decide +kernel) wm_1_32 (by decide) (by decide +kernel) (by decide +kernel) dX4_init_15 hc8 (fun q6 hqq6 => ?_)
  obtain ⟨M7, eM7⟩ : ∃ w, w = sN M5 q6 (14, 36) := ⟨_, rfl⟩
  replace h := h q6 hqq6 M7 eM7
  rw [← eM7]
  obtain ⟨hc9, h⟩ := h
  refine g_putR (r := (some q6)) hC kc4 1 (by decide) wm_1_48 dX4_init_18 rfl (nar_a _) (Or.inr ⟨rfl, hN, rfl⟩) hc9 ?_
  obtain ⟨M10, eM10⟩ : ∃ w, w = sR M7 a0 1 ((some q6)) := ⟨_, rfl⟩
  replace h := h M10 eM10
  rw [← eM10]
  refine g_aload_n (r := (some a0)) hC 0 dX4_init_21 rfl ?_
  refine g_iconst (v := 0) hC dX4_init_22 (by decide) ?_
  obtain ⟨hc11, h⟩ := h
  refine g_putI hC kc4 2 (by decide) wm_1_49 dX4_init_23 rfl rfl (Or.inl rfl) hc11 ?_
  obtain ⟨M12, eM12⟩ : ∃ w, w = sI M10 a0 2 0 := ⟨_, rfl⟩
  replace h := h M12 eM12
  rw [← eM12]
  refine g_aload_n (r := (some a0)) hC 0 dX4_init_26 rfl ?_
  refine g_null hC dX4_init_27 ?_
  obtain ⟨hc13, h⟩ := h
  refine g_pc (pc' := 28) rfl ?_
  refine g_putR (r := none) hC kc4 3 (by decide) wm_1_51 dX4_init_28 rfl (nar_o _) (Or.inl rfl) hc13 ?_
  obtain ⟨M14, eM14⟩ : ∃ w, w = sR M12 a0 3 none := ⟨_, rfl⟩
  replace h := h M14 eM14
  rw [← eM14]
  refine g_aload_n (r := (some a0)) hC 0 dX4_init_31 rfl ?_
  refine g_iconst (v := 0) hC dX4_init_32 (by decide) ?_
  obtain ⟨hc15, h⟩ := h
  refine g_putI hC kc4 4 (by decide) wm_1_52 dX4_init_33 rfl rfl (Or.inl rfl) hc15 ?_
  obtain ⟨M16, eM16⟩ : ∃ w, w = sI M14 a0 4 0 := ⟨_, rfl⟩
  replace h := h M16 eM16
  rw [← eM16]
  refine g_iconst (v := 0) hC dX4_init_36 (by decide) ?_
  refine g_istore_n (lv' := [(1, .int 0), (0, .ref a0)]) hC dX4_init_37 (by decide) rfl ?_
  refine g_sub [1, 0] (lv' := [(0, .ref a0), (1, .int 0)]) rfl ?_
  refine Lp_use (fun (z32 : Int32 × Mem × Nat × Nat) => G X 2 z32.2.1 z32.2.2.1 z32.2.2.2 38 [(0, .ref a0), (1, .int z32.1)] []) h ?_
  intro K21 z hK_K21 h
  obtain ⟨x17, M18, k19, n20⟩ := z
  replace h := h _ _ _ _ rfl
  show G X 2 M18 k19 n20 38 [(0, .ref a0), (1, .int x17)] []
  refine g_iload_n hC 1 dX4_init_38 rfl ?_
  refine g_bipush (v := 36) hC dX4_init_39 (by decide) ?_
  refine g_pc (pc' := 41) rfl ?_
  refine g_icmp_ge hC 63 dX4_init_41 (by decide) (fun c31 => ?_) (fun c31 => ?_)
  · replace h := h.1 c31
    exact hR.1 rfl _ _ _ _ _ dX4_init_63 ⟨rfl, h⟩
  · replace h := h.2 c31
    refine g_aload_n (r := (some a0)) hC 0 dX4_init_44 rfl ?_
    obtain ⟨hc22, h⟩ := h
    obtain ⟨b23, eb23, h⟩ := h
    refine g_getA hC kc4 1 (by decide) wm_1_48 dX4_init_45 rfl hc22 eb23 ?_
    refine g_iload_n hC 1 dX4_init_48 rfl ?_
    obtain ⟨hc26, h⟩ := h
    refine g_newK hC kc2 wm_1_32 wm_1_34 wm_1_3 dX4_init_49 hc26 (fun q24 hqq24 => ?_)
    obtain ⟨M25, eM25⟩ : ∃ w, w = sN M18 q24 (2, 0) := ⟨_, rfl⟩
    replace h := h q24 hqq24 M25 eM25
    rw [← eM25]
    refine g_dup hC dX4_init_52 rfl ?_
    refine g_callIN hC (As := []) (fun l D dA ht => s_X2_init l D dA ht _ _ _ h) rfl wm_1_37 (by decide +kernel) wm_1_36 wm_1_3 (by decide +kernel : plainY yX2_init 0) dX4_init_53 (by decide) (Nat.le_of_ble_eq_true rfl) (Or.inl ⟨rfl, rfl⟩) ?_
    intro M9 v9 h
    obtain ⟨rfl, h⟩ := h
    generalize M9 = M27 at h ⊢
    show G X 2 M27 (k19 + 1) (n20 + 2) 56 [(0, .ref a0), (1, .int x17)] [.ref q24, .int x17, .ref b23]
    obtain ⟨hvc29, h⟩ := h
    obtain ⟨hc29, h⟩ := h
    refine g_aastA hC 2 (by decide) dX4_init_56 hc29 hvc29 ?_
    obtain ⟨M28, eM28⟩ : ∃ w, w = sR M27 b23 (Int32.toNatClampNeg x17) ((some q24)) := ⟨_, rfl⟩
    replace h := h M28 eM28
    rw [← eM28]
    obtain ⟨x30, ex30⟩ : ∃ w, w = x17 + 1 := ⟨_, rfl⟩
    replace h := h x30 ex30
    refine g_pc (pc' := 57) rfl ?_
    refine g_iinc (v := x30) (lv' := [(1, .int x30), (0, .ref a0)]) hC 1 dX4_init_57 rfl (by rw [ex30]; rfl) (by decide) rfl ?_
    refine g_goto hC 38 dX4_init_60 (by decide) ?_
    refine g_sub [1, 0] (lv' := [(0, .ref a0), (1, .int x30)]) rfl ?_
    exact hK_K21 _ h

def w_X4_haveLink (M : Mem) (a0 : Nat) (p0 : Int32) (p1 : Int32) (post : Int32 → Prop) : Prop :=
  gT M a0 = some (4, 0) ∧ ∃ b2, gR M a0 0 = some b2 ∧ inA M b2 10 p0 ∧ w_X5_has M (gI M b2 (Int32.toNatClampNeg p0)) p1 (fun x4 => ((x4 : Int32) = 0 ∨ (x4 : Int32) = 1) ∧ post x4)
set_option maxRecDepth 100000 in
set_option maxHeartbeats 8000000 in
theorem s_X4_haveLink (l : Launch) (D : va_G) (dA : Nat → ClassId) (htr : l.stackTraces = false) (M : Mem) (a0 : Nat) (p0 : Int32) (p1 : Int32) (post : Int32 → Prop) (h : w_X4_haveLink M a0 p0 p1 post) : CtN l D dA yX4_haveLink cX4_haveLink 3 (some .boolean) 2 [.ref a0, .int p0, .int p1] M 0 0 (pI (fun M' r => M' = M ∧ post r)) := by
  refine ct_ofN htr (by decide) (Nat.le_of_ble_eq_true rfl) ?_
  intro X hC hN hR
  show G X 3 M 0 0 0 [(0, .ref a0), (1, .int p0), (2, .int p1)] []
  unfold w_X4_haveLink at h
  refine g_aload_n (r := (some a0)) hC 0 dX4_haveLink_0 rfl ?_
  obtain ⟨hc1, h⟩ := h
  obtain ⟨b2, eb2, h⟩ := h
  refine g_getA hC kc4 0 (by decide) wm_1_47 dX4_haveLink_1 rfl hc1 eb2 ?_
  refine g_iload_n hC 1 dX4_haveLink_4 rfl ?_
  obtain ⟨hc3, h⟩ := h
  refine g_ialdA hC dX4_haveLink_5 hc3 ?_
  refine g_iload_n hC 2 dX4_haveLink_6 rfl ?_
  refine g_callSN hC (As := [.int (gI M b2 (Int32.toNatClampNeg p0)), .int p1]) (fun l D dA ht => s_X5_has l D dA ht _ _ _ _ h) wm_1_204 (by decide +kernel) wm_1_203 wm_1_1 (by decide +kernel : plainY yX5_has 2) dX4_haveLink_7 (by decide) (Nat.le_of_ble_eq_true rfl) (Or.inl ⟨rfl, rfl⟩) ?_
  intro M9 v9 h
  obtain ⟨x4, rfl, h⟩ := h
  obtain ⟨hM9, h⟩ := h
  rw [hM9]
  show G X 3 M 0 0 10 [(0, .ref a0), (1, .int p0), (2, .int p1)] [.int x4]
  exact hR.2.2.1 rfl _ _ _ _ _ _ dX4_haveLink_10 ⟨h.1, ⟨_, rfl, rfl, h.2⟩⟩

def w_X4_treeOf (M : Mem) (a0 : Nat) (p0 : Int32) (post : Int32 → Prop) : Prop :=
  ∀ x1, x1 = 1 <<< (p0 &&& 31) → Lp (fun (K4 : Int32 × Int32 → Prop) (z : Int32 × Int32) => ∀ (x2 : Int32) (x3 : Int32), z = (x2, x3) → ((6 ≤ x3 → post x2) ∧ (¬ (6 ≤ x3) → Lp (fun (K7 : Int32 × Int32 → Prop) (z : Int32 × Int32) => ∀ (x5 : Int32) (x6 : Int32), z = (x5, x6) → ((6 ≤ x6 → ∀ x8, x8 = x3 + 1 → K4 (x5, x8)) ∧ (¬ (6 ≤ x6) → w_X5_has M x5 x6 (fun x9 => ∀ J11 : Int32 → Prop, (∀ (x10 : Int32), (∀ x12, x12 = x6 + 1 → K7 (x10, x12)) → J11 x10) → ((x9 = 0 → J11 x5) ∧ (¬ (x9 = 0) → gT M a0 = some (4, 0) ∧ ∃ b14, gR M a0 0 = some b14 ∧ inA M b14 10 x6 ∧ ∀ x16, x16 = x5 ||| (gI M b14 (Int32.toNatClampNeg x6)) → J11 x16)))))) (x2, 0)))) (x1, 1)
set_option maxRecDepth 100000 in
set_option maxHeartbeats 8000000 in
theorem s_X4_treeOf (l : Launch) (D : va_G) (dA : Nat → ClassId) (htr : l.stackTraces = false) (M : Mem) (a0 : Nat) (p0 : Int32) (post : Int32 → Prop) (h : w_X4_treeOf M a0 p0 post) : CtN l D dA yX4_treeOf cX4_treeOf 5 (some .int) 2 [.ref a0, .int p0] M 0 0 (pI (fun M' r => M' = M ∧ post r)) := by
  refine ct_ofN htr (by decide) (Nat.le_of_ble_eq_true rfl) ?_
  intro X hC hN hR
  show G X 5 M 0 0 0 [(0, .ref a0), (1, .int p0)] []
  unfold w_X4_treeOf at h
  refine g_iconst (v := 1) hC dX4_treeOf_0 (by decide) ?_
  refine g_iload_n hC 1 dX4_treeOf_1 rfl ?_
  refine g_ishl hC dX4_treeOf_2 ?_
  obtain ⟨x1, ex1⟩ : ∃ w, w = 1 <<< (p0 &&& 31) := ⟨_, rfl⟩
  replace h := h x1 ex1
  rw [← ex1]
  refine g_istore_n (lv' := [(2, .int x1), (0, .ref a0), (1, .int p0)]) hC dX4_treeOf_3 (by decide) rfl ?_
  refine g_iconst (v := 1) hC dX4_treeOf_4 (by decide) ?_
  refine g_istore_n (lv' := [(3, .int 1), (2, .int x1), (0, .ref a0), (1, .int p0)]) hC dX4_treeOf_5 (by decide) rfl ?_
  refine g_sub [2, 3, 1, 0] (lv' := [(0, .ref a0), (1, .int p0), (2, .int x1), (3, .int 1)]) rfl ?_
  refine Lp_use (fun (z21 : Int32 × Int32) => G X 5 M 0 0 6 [(0, .ref a0), (1, .int p0), (2, .int z21.1), (3, .int z21.2)] []) h ?_
  intro K4 z hK_K4 h
  obtain ⟨x2, x3⟩ := z
  replace h := h _ _ rfl
  show G X 5 M 0 0 6 [(0, .ref a0), (1, .int p0), (2, .int x2), (3, .int x3)] []
  refine g_iload_n hC 3 dX4_treeOf_6 rfl ?_
  refine g_pc (pc' := 7) rfl ?_
  refine g_bipush (v := 6) hC dX4_treeOf_7 (by decide) ?_
  refine g_icmp_ge hC 53 dX4_treeOf_9 (by decide) (fun c20 => ?_) (fun c20 => ?_)
  · replace h := h.1 c20
    refine g_iload_n hC 2 dX4_treeOf_53 rfl ?_
    exact hR.2.1 rfl _ _ _ _ _ _ dX4_treeOf_54 ⟨_, rfl, rfl, h⟩
  · replace h := h.2 c20
    refine g_iconst (v := 0) hC dX4_treeOf_12 (by decide) ?_
    refine g_istore (lv' := [(4, .int 0), (0, .ref a0), (1, .int p0), (2, .int x2), (3, .int x3)]) hC dX4_treeOf_13 (by decide) rfl ?_
    refine g_sub [1, 2, 3, 4, 0] (lv' := [(0, .ref a0), (1, .int p0), (2, .int x2), (3, .int x3), (4, .int 0)]) rfl ?_
    refine Lp_use (fun (z19 : Int32 × Int32) => G X 5 M 0 0 15 [(0, .ref a0), (1, .int p0), (2, .int z19.1), (3, .int x3), (4, .int z19.2)] []) h ?_
    intro K7 z hK_K7 h
    obtain ⟨x5, x6⟩ := z
    replace h := h _ _ rfl
    show G X 5 M 0 0 15 [(0, .ref a0), (1, .int p0), (2, .int x5), (3, .int x3), (4, .int x6)] []
    refine g_iload hC 4 dX4_treeOf_15 rfl ?_
    refine g_bipush (v := 6) hC dX4_treeOf_17 (by decide) ?_
    refine g_icmp_ge hC 47 dX4_treeOf_19 (by decide) (fun c18 => ?_) (fun c18 => ?_)
    · replace h := h.1 c18
      obtain ⟨x8, ex8⟩ : ∃ w, w = x3 + 1 := ⟨_, rfl⟩
      replace h := h x8 ex8
      refine g_iinc (v := x8) (lv' := [(3, .int x8), (0, .ref a0), (1, .int p0), (2, .int x5), (4, .int x6)]) hC 3 dX4_treeOf_47 rfl (by rw [ex8]; rfl) (by decide) rfl ?_
      refine g_pc (pc' := 50) rfl ?_
      refine g_goto hC 6 dX4_treeOf_50 (by decide) ?_
      refine g_sub [1, 2, 3, 0] (lv' := [(0, .ref a0), (1, .int p0), (2, .int x5), (3, .int x8)]) rfl ?_
      exact hK_K4 _ h
    · replace h := h.2 c18
      refine g_iload_n hC 2 dX4_treeOf_22 rfl ?_
      refine g_pc (pc' := 23) rfl ?_
      refine g_iload hC 4 dX4_treeOf_23 rfl ?_
      refine g_callSN hC (As := [.int x5, .int x6]) (fun l D dA ht => s_X5_has l D dA ht _ _ _ _ h) wm_1_204 (by decide +kernel) wm_1_203 wm_1_1 (by decide +kernel : plainY yX5_has 2) dX4_treeOf_25 (by decide) (Nat.le_of_ble_eq_true rfl) (Or.inl ⟨rfl, rfl⟩) ?_
      intro M9 v9 h
      obtain ⟨x9, rfl, h⟩ := h
      obtain ⟨hM9, h⟩ := h
      rw [hM9]
      show G X 5 M 0 0 28 [(0, .ref a0), (1, .int p0), (2, .int x5), (3, .int x3), (4, .int x6)] [.int x9]
      replace h := h (fun (x10 : Int32) => G X 5 M 0 0 41 [(0, .ref a0), (1, .int p0), (2, .int x10), (3, .int x3), (4, .int x6)] []) (by
        intro x10 h
        show G X 5 M 0 0 41 [(0, .ref a0), (1, .int p0), (2, .int x10), (3, .int x3), (4, .int x6)] []
        obtain ⟨x12, ex12⟩ : ∃ w, w = x6 + 1 := ⟨_, rfl⟩
        replace h := h x12 ex12
        refine g_iinc (v := x12) (lv' := [(4, .int x12), (0, .ref a0), (1, .int p0), (2, .int x10), (3, .int x3)]) hC 4 dX4_treeOf_41 rfl (by rw [ex12]; rfl) (by decide) rfl ?_
        refine g_goto hC 15 dX4_treeOf_44 (by decide) ?_
        refine g_sub [1, 2, 3, 4, 0] (lv' := [(0, .ref a0), (1, .int p0), (2, .int x10), (3, .int x3), (4, .int x12)]) rfl ?_
        exact hK_K7 _ h)
      refine g_if_eq hC 41 dX4_treeOf_28 (by decide) (fun c17 => ?_) (fun c17 => ?_)
      · replace h := h.1 c17
        exact h
      · replace h := h.2 c17
        refine g_iload_n hC 2 dX4_treeOf_31 rfl ?_
        refine g_aload_n (r := (some a0)) hC 0 dX4_treeOf_32 rfl ?_
        obtain ⟨hc13, h⟩ := h
        obtain ⟨b14, eb14, h⟩ := h
        refine g_getA hC kc4 0 (by decide) wm_1_47 dX4_treeOf_33 rfl hc13 eb14 ?_
        refine g_iload hC 4 dX4_treeOf_36 rfl ?_
        obtain ⟨hc15, h⟩ := h
        refine g_ialdA hC dX4_treeOf_38 hc15 ?_
        refine g_pc (pc' := 39) rfl ?_
        refine g_ior hC dX4_treeOf_39 ?_
        obtain ⟨x16, ex16⟩ : ∃ w, w = x5 ||| (gI M b14 (Int32.toNatClampNeg x6)) := ⟨_, rfl⟩
        replace h := h x16 ex16
        rw [← ex16]
        refine g_istore_n (lv' := [(2, .int x16), (0, .ref a0), (1, .int p0), (3, .int x3), (4, .int x6)]) hC dX4_treeOf_40 (by decide) rfl ?_
        refine g_sub [1, 2, 0, 3, 4] (lv' := [(0, .ref a0), (1, .int p0), (2, .int x16), (3, .int x3), (4, .int x6)]) rfl ?_
        exact h

def w_J_bitCount (M : Mem) (p0 : Int32) (post : Int32 → Prop) : Prop :=
  ∀ x1, x1 = p0 - (((p0.toUInt32 >>> (Int32.toUInt32 1 &&& Int32.toUInt32 31)).toInt32) &&& 1431655765) → ∀ x2, x2 = (x1 &&& 858993459) + (((x1.toUInt32 >>> (Int32.toUInt32 2 &&& Int32.toUInt32 31)).toInt32) &&& 858993459) → ∀ x3, x3 = (x2 + ((x2.toUInt32 >>> (Int32.toUInt32 4 &&& Int32.toUInt32 31)).toInt32)) &&& 252645135 → ∀ x4, x4 = x3 + ((x3.toUInt32 >>> (Int32.toUInt32 8 &&& Int32.toUInt32 31)).toInt32) → ∀ x5, x5 = x4 + ((x4.toUInt32 >>> (Int32.toUInt32 16 &&& Int32.toUInt32 31)).toInt32) → post (x5 &&& 63)
set_option maxRecDepth 100000 in
set_option maxHeartbeats 8000000 in
theorem s_J_bitCount (l : Launch) (D : va_G) (dA : Nat → ClassId) (htr : l.stackTraces = false) (M : Mem) (p0 : Int32) (post : Int32 → Prop) (h : w_J_bitCount M p0 post) : CtN l D dA yJ6_bitCount_0f7a4 cJ6_bitCount_0f7a4 1 (some .int) 1 [.int p0] M 0 0 (pI (fun M' r => M' = M ∧ post r)) := by
  refine ct_ofN htr (by decide) (Nat.le_of_ble_eq_true rfl) ?_
  intro X hC hN hR
  show G X 1 M 0 0 0 [(0, .int p0)] []
  unfold w_J_bitCount at h
  refine g_iload_n hC 0 dJ6_bitCount_0f7a4_0 rfl ?_
  refine g_iload_n hC 0 dJ6_bitCount_0f7a4_1 rfl ?_
  refine g_iconst (v := 1) hC dJ6_bitCount_0f7a4_2 (by decide) ?_
  refine g_iushr hC dJ6_bitCount_0f7a4_3 ?_
  refine g_ldcw hC wm_3_33 dJ6_bitCount_0f7a4_4 ?_
  refine g_iand hC dJ6_bitCount_0f7a4_7 ?_
  refine g_isub hC dJ6_bitCount_0f7a4_8 ?_
  obtain ⟨x1, ex1⟩ : ∃ w, w = p0 - (((p0.toUInt32 >>> (Int32.toUInt32 1 &&& Int32.toUInt32 31)).toInt32) &&& 1431655765) := ⟨_, rfl⟩
  replace h := h x1 ex1
  rw [← ex1]
  refine g_pc (pc' := 9) rfl ?_
  refine g_istore_n (lv' := [(0, .int x1)]) hC dJ6_bitCount_0f7a4_9 (by decide) rfl ?_
  refine g_iload_n hC 0 dJ6_bitCount_0f7a4_10 rfl ?_
  refine g_ldcw hC wm_3_34 dJ6_bitCount_0f7a4_11 ?_
  refine g_iand hC dJ6_bitCount_0f7a4_14 ?_
  refine g_iload_n hC 0 dJ6_bitCount_0f7a4_15 rfl ?_
  refine g_iconst (v := 2) hC dJ6_bitCount_0f7a4_16 (by decide) ?_
  refine g_iushr hC dJ6_bitCount_0f7a4_17 ?_
  refine g_ldcw hC wm_3_34 dJ6_bitCount_0f7a4_18 ?_
  refine g_pc (pc' := 21) rfl ?_
  refine g_iand hC dJ6_bitCount_0f7a4_21 ?_
  refine g_iadd hC dJ6_bitCount_0f7a4_22 ?_
  obtain ⟨x2, ex2⟩ : ∃ w, w = (x1 &&& 858993459) + (((x1.toUInt32 >>> (Int32.toUInt32 2 &&& Int32.toUInt32 31)).toInt32) &&& 858993459) := ⟨_, rfl⟩
  replace h := h x2 ex2
  rw [← ex2]
  refine g_istore_n (lv' := [(0, .int x2)]) hC dJ6_bitCount_0f7a4_23 (by decide) rfl ?_
  refine g_iload_n hC 0 dJ6_bitCount_0f7a4_24 rfl ?_
  refine g_iload_n hC 0 dJ6_bitCount_0f7a4_25 rfl ?_
  refine g_iconst (v := 4) hC dJ6_bitCount_0f7a4_26 (by decide) ?_
  refine g_iushr hC dJ6_bitCount_0f7a4_27 ?_
  refine g_iadd hC dJ6_bitCount_0f7a4_28 ?_
  refine g_pc (pc' := 29) rfl ?_
  refine g_ldcw hC wm_3_35 dJ6_bitCount_0f7a4_29 ?_
  refine g_iand hC dJ6_bitCount_0f7a4_32 ?_
  obtain ⟨x3, ex3⟩ : ∃ w, w = (x2 + ((x2.toUInt32 >>> (Int32.toUInt32 4 &&& Int32.toUInt32 31)).toInt32)) &&& 252645135 := ⟨_, rfl⟩
  replace h := h x3 ex3
  rw [← ex3]
  refine g_istore_n (lv' := [(0, .int x3)]) hC dJ6_bitCount_0f7a4_33 (by decide) rfl ?_
  refine g_iload_n hC 0 dJ6_bitCount_0f7a4_34 rfl ?_
  refine g_iload_n hC 0 dJ6_bitCount_0f7a4_35 rfl ?_
  refine g_bipush (v := 8) hC dJ6_bitCount_0f7a4_36 (by decide) ?_
  refine g_iushr hC dJ6_bitCount_0f7a4_38 ?_
  refine g_iadd hC dJ6_bitCount_0f7a4_39 ?_
  obtain ⟨x4, ex4⟩ : ∃ w, w = x3 + ((x3.toUInt32 >>> (Int32.toUInt32 8 &&& Int32.toUInt32 31)).toInt32) := ⟨_, rfl⟩
  replace h := h x4 ex4
  rw [← ex4]
  refine g_pc (pc' := 40) rfl ?_
  refine g_istore_n (lv' := [(0, .int x4)]) hC dJ6_bitCount_0f7a4_40 (by decide) rfl ?_
  refine g_iload_n hC 0 dJ6_bitCount_0f7a4_41 rfl ?_
  refine g_iload_n hC 0 dJ6_bitCount_0f7a4_42 rfl ?_
  refine g_bipush (v := 16) hC dJ6_bitCount_0f7a4_43 (by decide) ?_
  refine g_iushr hC dJ6_bitCount_0f7a4_45 ?_
  refine g_iadd hC dJ6_bitCount_0f7a4_46 ?_
  obtain ⟨x5, ex5⟩ : ∃ w, w = x4 + ((x4.toUInt32 >>> (Int32.toUInt32 16 &&& Int32.toUInt32 31)).toInt32) := ⟨_, rfl⟩
  replace h := h x5 ex5
  rw [← ex5]
  refine g_istore_n (lv' := [(0, .int x5)]) hC dJ6_bitCount_0f7a4_47 (by decide) rfl ?_
  refine g_iload_n hC 0 dJ6_bitCount_0f7a4_48 rfl ?_
  refine g_pc (pc' := 49) rfl ?_
  refine g_bipush (v := 63) hC dJ6_bitCount_0f7a4_49 (by decide) ?_
  refine g_iand hC dJ6_bitCount_0f7a4_51 ?_
  exact hR.2.1 rfl _ _ _ _ _ _ dJ6_bitCount_0f7a4_52 ⟨_, rfl, rfl, h⟩

def w_X4_linksTowards (M : Mem) (a0 : Nat) (p0 : Int32) (p1 : Int32) (post : Int32 → Prop) : Prop :=
  ∀ x1, x1 = p1 ||| (1 <<< (p0 &&& 31)) → gT M a0 = some (4, 0) ∧ w_X4_treeOf M a0 p0 (fun x3 => Lp (fun (K6 : Int32 × Int32 → Prop) (z : Int32 × Int32) => ∀ (x4 : Int32) (x5 : Int32), z = (x4, x5) → ((6 ≤ x5 → w_J_bitCount M x4 (fun x7 => post (x7 - 1))) ∧ (¬ (6 ≤ x5) → Lp (fun (K10 : Int32 × Int32 → Prop) (z : Int32 × Int32) => ∀ (x8 : Int32) (x9 : Int32), z = (x8, x9) → ((6 ≤ x9 → ∀ x11, x11 = x5 + 1 → K6 (x8, x11)) ∧ (¬ (6 ≤ x9) → w_X5_has M (x8 &&& (x1 ^^^ ((-1)))) x9 (fun x12 => ∀ J14 : Int32 → Prop, (∀ (x13 : Int32), (∀ x15, x15 = x9 + 1 → K10 (x13, x15)) → J14 x13) → ((x12 = 0 → J14 x8) ∧ (¬ (x12 = 0) → gT M a0 = some (4, 0) ∧ ∃ b17, gR M a0 0 = some b17 ∧ inA M b17 10 x9 ∧ w_J_bitCount M ((gI M b17 (Int32.toNatClampNeg x9)) &&& x8) (fun x19 => (x19 = 1 → ∀ x20, x20 = x8 &&& ((1 <<< (x9 &&& 31)) ^^^ ((-1))) → J14 x20) ∧ (¬ (x19 = 1) → J14 x8)))))))) (x4, 0)))) (x3, 1))
set_option maxRecDepth 100000 in
set_option maxHeartbeats 8000000 in
theorem s_X4_linksTowards (l : Launch) (D : va_G) (dA : Nat → ClassId) (htr : l.stackTraces = false) (M : Mem) (a0 : Nat) (p0 : Int32) (p1 : Int32) (post : Int32 → Prop) (h : w_X4_linksTowards M a0 p0 p1 post) : CtN l D dA yX4_linksTowards cX4_linksTowards 7 (some .int) 3 [.ref a0, .int p0, .int p1] M 0 0 (pI (fun M' r => M' = M ∧ post r)) := by
  refine ct_ofN htr (by decide) (Nat.le_of_ble_eq_true rfl) ?_
  intro X hC hN hR
  show G X 7 M 0 0 0 [(0, .ref a0), (1, .int p0), (2, .int p1)] []
  unfold w_X4_linksTowards at h
  refine g_iload_n hC 2 dX4_linksTowards_0 rfl ?_
  refine g_iconst (v := 1) hC dX4_linksTowards_1 (by decide) ?_
  refine g_iload_n hC 1 dX4_linksTowards_2 rfl ?_
  refine g_ishl hC dX4_linksTowards_3 ?_
  refine g_ior hC dX4_linksTowards_4 ?_
  obtain ⟨x1, ex1⟩ : ∃ w, w = p1 ||| (1 <<< (p0 &&& 31)) := ⟨_, rfl⟩
  replace h := h x1 ex1
  rw [← ex1]
  refine g_istore_n (lv' := [(3, .int x1), (0, .ref a0), (1, .int p0), (2, .int p1)]) hC dX4_linksTowards_5 (by decide) rfl ?_
  refine g_aload_n (r := (some a0)) hC 1 dX4_linksTowards_6 rfl ?_
  refine g_pc (pc' := 7) rfl ?_
  refine g_iload_n hC 2 dX4_linksTowards_7 rfl ?_
  obtain ⟨hc2, h⟩ := h
  refine g_callV hC (As := [.int p0]) (fun l D dA ht => s_X4_treeOf l D dA ht _ _ _ _ h) wm_1_201 wm_3_80 wm_1_199 wm_1_200 wm_1_2 (by decide +kernel : plainY yX4_treeOf 1) kc4.1 kc4.2.1 dX4_linksTowards_8 (by decide) (Nat.le_of_ble_eq_true rfl) hc2 (Or.inl ⟨rfl, rfl⟩) ?_
  intro M9 v9 h
  obtain ⟨x3, rfl, h⟩ := h
  obtain ⟨hM9, h⟩ := h
  rw [hM9]
  show G X 7 M 0 0 11 [(3, .int x1), (0, .ref a0), (1, .int p0), (2, .int p1)] [.int x3]
  refine g_istore (lv' := [(4, .int x3), (3, .int x1), (0, .ref a0), (1, .int p0), (2, .int p1)]) hC dX4_linksTowards_11 (by decide) rfl ?_
  refine g_iconst (v := 1) hC dX4_linksTowards_13 (by decide) ?_
  refine g_istore (lv' := [(5, .int 1), (4, .int x3), (3, .int x1), (0, .ref a0), (1, .int p0), (2, .int p1)]) hC dX4_linksTowards_14 (by decide) rfl ?_
  refine g_sub [3, 4, 5, 2, 1, 0] (lv' := [(0, .ref a0), (1, .int p0), (2, .int p1), (3, .int x1), (4, .int x3), (5, .int 1)]) rfl ?_
  refine Lp_use (fun (z26 : Int32 × Int32) => G X 7 M 0 0 16 [(0, .ref a0), (1, .int p0), (2, .int p1), (3, .int x1), (4, .int z26.1), (5, .int z26.2)] []) h ?_
  intro K6 z hK_K6 h
  obtain ⟨x4, x5⟩ := z
  replace h := h _ _ rfl
  show G X 7 M 0 0 16 [(0, .ref a0), (1, .int p0), (2, .int p1), (3, .int x1), (4, .int x4), (5, .int x5)] []
  refine g_iload hC 5 dX4_linksTowards_16 rfl ?_
  refine g_bipush (v := 6) hC dX4_linksTowards_18 (by decide) ?_
  refine g_icmp_ge hC 87 dX4_linksTowards_20 (by decide) (fun c25 => ?_) (fun c25 => ?_)
  · replace h := h.1 c25
    refine g_pc (pc' := 87) rfl ?_
    refine g_iload hC 4 dX4_linksTowards_87 rfl ?_
    refine g_callS hC (As := [.int x4]) (fun l D dA ht => s_J_bitCount l D dA ht _ _ _ h) wm_3_32 wm_3_81 wm_3_31 wm_1_15 (by decide +kernel : plainY yJ6_bitCount_0f7a4 1) dX4_linksTowards_89 (by decide) (Nat.le_of_ble_eq_true rfl) (Or.inl ⟨rfl, rfl⟩) ?_
    intro M9 v9 h
    obtain ⟨x7, rfl, h⟩ := h
    obtain ⟨hM9, h⟩ := h
    rw [hM9]
    show G X 7 M 0 0 92 [(0, .ref a0), (1, .int p0), (2, .int p1), (3, .int x1), (4, .int x4), (5, .int x5)] [.int x7]
    refine g_iconst (v := 1) hC dX4_linksTowards_92 (by decide) ?_
    refine g_isub hC dX4_linksTowards_93 ?_
    exact hR.2.1 rfl _ _ _ _ _ _ dX4_linksTowards_94 ⟨_, rfl, rfl, h⟩
  · replace h := h.2 c25
    refine g_pc (pc' := 23) rfl ?_
    refine g_iconst (v := 0) hC dX4_linksTowards_23 (by decide) ?_
    refine g_istore (lv' := [(6, .int 0), (0, .ref a0), (1, .int p0), (2, .int p1), (3, .int x1), (4, .int x4), (5, .int x5)]) hC dX4_linksTowards_24 (by decide) rfl ?_
    refine g_sub [1, 2, 3, 4, 5, 6, 0] (lv' := [(0, .ref a0), (1, .int p0), (2, .int p1), (3, .int x1), (4, .int x4), (5, .int x5), (6, .int 0)]) rfl ?_
    refine Lp_use (fun (z24 : Int32 × Int32) => G X 7 M 0 0 26 [(0, .ref a0), (1, .int p0), (2, .int p1), (3, .int x1), (4, .int z24.1), (5, .int x5), (6, .int z24.2)] []) h ?_
    intro K10 z hK_K10 h
    obtain ⟨x8, x9⟩ := z
    replace h := h _ _ rfl
    show G X 7 M 0 0 26 [(0, .ref a0), (1, .int p0), (2, .int p1), (3, .int x1), (4, .int x8), (5, .int x5), (6, .int x9)] []
    refine g_iload hC 6 dX4_linksTowards_26 rfl ?_
    refine g_bipush (v := 6) hC dX4_linksTowards_28 (by decide) ?_
    refine g_icmp_ge hC 81 dX4_linksTowards_30 (by decide) (fun c23 => ?_) (fun c23 => ?_)
    · replace h := h.1 c23
      obtain ⟨x11, ex11⟩ : ∃ w, w = x5 + 1 := ⟨_, rfl⟩
      replace h := h x11 ex11
      refine g_iinc (v := x11) (lv' := [(5, .int x11), (0, .ref a0), (1, .int p0), (2, .int p1), (3, .int x1), (4, .int x8), (6, .int x9)]) hC 5 dX4_linksTowards_81 rfl (by rw [ex11]; rfl) (by decide) rfl ?_
      refine g_goto hC 16 dX4_linksTowards_84 (by decide) ?_
      refine g_sub [1, 2, 3, 4, 5, 0] (lv' := [(0, .ref a0), (1, .int p0), (2, .int p1), (3, .int x1), (4, .int x8), (5, .int x11)]) rfl ?_
      exact hK_K6 _ h
    · replace h := h.2 c23
      refine g_iload hC 4 dX4_linksTowards_33 rfl ?_
      refine g_iload_n hC 3 dX4_linksTowards_35 rfl ?_
      refine g_iconst (v := (-1)) hC dX4_linksTowards_36 (by decide) ?_
      refine g_pc (pc' := 37) rfl ?_
      refine g_ixor hC dX4_linksTowards_37 ?_
      refine g_iand hC dX4_linksTowards_38 ?_
      refine g_iload hC 6 dX4_linksTowards_39 rfl ?_
      refine g_callSN hC (As := [.int (x8 &&& (x1 ^^^ ((-1)))), .int x9]) (fun l D dA ht => s_X5_has l D dA ht _ _ _ _ h) wm_1_204 (by decide +kernel) wm_1_203 wm_1_1 (by decide +kernel : plainY yX5_has 2) dX4_linksTowards_41 (by decide) (Nat.le_of_ble_eq_true rfl) (Or.inl ⟨rfl, rfl⟩) ?_
      intro M9 v9 h
      obtain ⟨x12, rfl, h⟩ := h
      obtain ⟨hM9, h⟩ := h
      rw [hM9]
      show G X 7 M 0 0 44 [(0, .ref a0), (1, .int p0), (2, .int p1), (3, .int x1), (4, .int x8), (5, .int x5), (6, .int x9)] [.int x12]
      replace h := h (fun (x13 : Int32) => G X 7 M 0 0 75 [(0, .ref a0), (1, .int p0), (2, .int p1), (3, .int x1), (4, .int x13), (5, .int x5), (6, .int x9)] []) (by
        intro x13 h
        show G X 7 M 0 0 75 [(0, .ref a0), (1, .int p0), (2, .int p1), (3, .int x1), (4, .int x13), (5, .int x5), (6, .int x9)] []
        obtain ⟨x15, ex15⟩ : ∃ w, w = x9 + 1 := ⟨_, rfl⟩
        replace h := h x15 ex15
        refine g_iinc (v := x15) (lv' := [(6, .int x15), (0, .ref a0), (1, .int p0), (2, .int p1), (3, .int x1), (4, .int x13), (5, .int x5)]) hC 6 dX4_linksTowards_75 rfl (by rw [ex15]; rfl) (by decide) rfl ?_
        refine g_goto hC 26 dX4_linksTowards_78 (by decide) ?_
        refine g_sub [1, 2, 3, 4, 5, 6, 0] (lv' := [(0, .ref a0), (1, .int p0), (2, .int p1), (3, .int x1), (4, .int x13), (5, .int x5), (6, .int x15)]) rfl ?_
        exact hK_K10 _ h)
      refine g_if_eq hC 75 dX4_linksTowards_44 (by decide) (fun c22 => ?_) (fun c22 => ?_)
      · replace h := h.1 c22
        exact h
      · replace h := h.2 c22
        refine g_aload_n (r := (some a0)) hC 0 dX4_linksTowards_47 rfl ?_
        obtain ⟨hc16, h⟩ := h
        obtain ⟨b17, eb17, h⟩ := h
        refine g_getA hC kc4 0 (by decide) wm_1_47 dX4_linksTowards_48 rfl hc16 eb17 ?_
        refine g_iload hC 6 dX4_linksTowards_51 rfl ?_
        obtain ⟨hc18, h⟩ := h
        refine g_pc (pc' := 53) rfl ?_
        refine g_ialdA hC dX4_linksTowards_53 hc18 ?_
        refine g_iload hC 4 dX4_linksTowards_54 rfl ?_
        refine g_iand hC dX4_linksTowards_56 ?_
        refine g_callS hC (As := [.int ((gI M b17 (Int32.toNatClampNeg x9)) &&& x8)]) (fun l D dA ht => s_J_bitCount l D dA ht _ _ _ h) wm_3_32 wm_3_81 wm_3_31 wm_1_15 (by decide +kernel : plainY yJ6_bitCount_0f7a4 1) dX4_linksTowards_57 (by decide) (Nat.le_of_ble_eq_true rfl) (Or.inl ⟨rfl, rfl⟩) ?_
        intro M9 v9 h
        obtain ⟨x19, rfl, h⟩ := h
        obtain ⟨hM9, h⟩ := h
        rw [hM9]
        show G X 7 M 0 0 60 [(0, .ref a0), (1, .int p0), (2, .int p1), (3, .int x1), (4, .int x8), (5, .int x5), (6, .int x9)] [.int x19]
        refine g_iconst (v := 1) hC dX4_linksTowards_60 (by decide) ?_
        refine g_icmp_ne hC 75 dX4_linksTowards_61 (by decide) (fun c21 => ?_) (fun c21 => ?_)
        · replace h := h.2 c21
          exact h
        · replace h := h.1 c21
          refine g_iload hC 4 dX4_linksTowards_64 rfl ?_
          refine g_iconst (v := 1) hC dX4_linksTowards_66 (by decide) ?_
          refine g_pc (pc' := 67) rfl ?_
          refine g_iload hC 6 dX4_linksTowards_67 rfl ?_
          refine g_ishl hC dX4_linksTowards_69 ?_
          refine g_iconst (v := (-1)) hC dX4_linksTowards_70 (by decide) ?_
          refine g_ixor hC dX4_linksTowards_71 ?_
          refine g_iand hC dX4_linksTowards_72 ?_
          obtain ⟨x20, ex20⟩ : ∃ w, w = x8 &&& ((1 <<< (x9 &&& 31)) ^^^ ((-1))) := ⟨_, rfl⟩
          replace h := h x20 ex20
          rw [← ex20]
          refine g_istore (lv' := [(4, .int x20), (0, .ref a0), (1, .int p0), (2, .int p1), (3, .int x1), (5, .int x5), (6, .int x9)]) hC dX4_linksTowards_73 (by decide) rfl ?_
          refine g_sub [1, 2, 3, 4, 0, 5, 6] (lv' := [(0, .ref a0), (1, .int p0), (2, .int p1), (3, .int x1), (4, .int x20), (5, .int x5), (6, .int x9)]) rfl ?_
          exact h

def w_X4_connect (M : Mem) (a0 : Nat) (p0 : Int32) (p1 : Int32) (post : Mem → Prop) : Prop :=
  gT M a0 = some (4, 0) ∧ ∃ b2, gR M a0 0 = some b2 ∧ inA M b2 10 p0 ∧ inA M b2 10 p0 ∧ ∀ M4, M4 = sI M b2 (Int32.toNatClampNeg p0) ((gI M b2 (Int32.toNatClampNeg p0)) ||| (1 <<< (p1 &&& 31))) → gT M4 a0 = some (4, 0) ∧ ∃ b7, gR M4 a0 0 = some b7 ∧ inA M4 b7 10 p1 ∧ inA M4 b7 10 p1 ∧ ∀ M9, M9 = sI M4 b7 (Int32.toNatClampNeg p1) ((gI M4 b7 (Int32.toNatClampNeg p1)) ||| (1 <<< (p0 &&& 31))) → post M9
set_option maxRecDepth 100000 in
set_option maxHeartbeats 8000000 in
theorem s_X4_connect (l : Launch) (D : va_G) (dA : Nat → ClassId) (htr : l.stackTraces = false) (M : Mem) (a0 : Nat) (p0 : Int32) (p1 : Int32) (post : Mem → Prop) (h : w_X4_connect M a0 p0 p1 post) : CtN l D dA yX4_connect cX4_connect 3 (none) 1 [.ref a0, .int p0, .int p1] M 0 0 (pV post) := by
  refine ct_ofN htr (by decide) (Nat.le_of_ble_eq_true rfl) ?_
  intro X hC hN hR
  show G X 3 M 0 0 0 [(0, .ref a0), (1, .int p0), (2, .int p1)] []
  unfold w_X4_connect at h
  refine g_aload_n (r := (some a0)) hC 0 dX4_connect_0 rfl ?_
  obtain ⟨hc1, h⟩ := h
  obtain ⟨b2, eb2, h⟩ := h
  refine g_getA hC kc4 0 (by decide) wm_1_47 dX4_connect_1 rfl hc1 eb2 ?_
  refine g_iload_n hC 1 dX4_connect_4 rfl ?_
  refine g_dup2 hC dX4_connect_5 rfl rfl ?_
  obtain ⟨hc3, h⟩ := h
  refine g_ialdA hC dX4_connect_6 hc3 ?_
  refine g_iconst (v := 1) hC dX4_connect_7 (by decide) ?_
  refine g_iload_n hC 2 dX4_connect_8 rfl ?_
  refine g_pc (pc' := 9) rfl ?_
  refine g_ishl hC dX4_connect_9 ?_
  refine g_ior hC dX4_connect_10 ?_
  obtain ⟨hc5, h⟩ := h
  refine g_iastA hC dX4_connect_11 hc5 ?_
  obtain ⟨M4, eM4⟩ : ∃ w, w = sI M b2 (Int32.toNatClampNeg p0) ((gI M b2 (Int32.toNatClampNeg p0)) ||| (1 <<< (p1 &&& 31))) := ⟨_, rfl⟩
  replace h := h M4 eM4
  rw [← eM4]
  refine g_aload_n (r := (some a0)) hC 0 dX4_connect_12 rfl ?_
  obtain ⟨hc6, h⟩ := h
  obtain ⟨b7, eb7, h⟩ := h
  refine g_getA hC kc4 0 (by decide) wm_1_47 dX4_connect_13 rfl hc6 eb7 ?_
  refine g_iload_n hC 2 dX4_connect_16 rfl ?_
  refine g_dup2 hC dX4_connect_17 rfl rfl ?_
  obtain ⟨hc8, h⟩ := h
  refine g_ialdA hC dX4_connect_18 hc8 ?_
  refine g_pc (pc' := 19) rfl ?_
  refine g_iconst (v := 1) hC dX4_connect_19 (by decide) ?_
  refine g_iload_n hC 1 dX4_connect_20 rfl ?_
  refine g_ishl hC dX4_connect_21 ?_
  refine g_ior hC dX4_connect_22 ?_
  obtain ⟨hc10, h⟩ := h
  refine g_iastA hC dX4_connect_23 hc10 ?_
  obtain ⟨M9, eM9⟩ : ∃ w, w = sI M4 b7 (Int32.toNatClampNeg p1) ((gI M4 b7 (Int32.toNatClampNeg p1)) ||| (1 <<< (p0 &&& 31))) := ⟨_, rfl⟩
  replace h := h M9 eM9
  rw [← eM9]
  exact hR.1 rfl _ _ _ _ _ dX4_connect_24 ⟨rfl, h⟩

def w_X4_take (M : Mem) (a0 : Nat) (p0 : Int32) (p1 : Int32) (post : Mem → Option Nat → Prop) : Prop :=
  gT M a0 = some (4, 0) ∧ ∃ b2, gR M a0 1 = some b2 ∧ inA M b2 14 ((p0 * 6) + p1) ∧ ∃ b4, gR M b2 (Int32.toNatClampNeg ((p0 * 6) + p1)) = some b4 ∧ gT M b4 = some (2, 0) ∧ w_X2_takeFirst M b4 (fun M6 r7 => ∀ J9 : Mem → Prop, (∀ (M8 : Mem), (post M8 r7) → J9 M8) → ((r7 = none → J9 M6) ∧ (∀ b10, r7 = some b10 → gT M6 a0 = some (4, 0) ∧ gT M6 a0 = some (4, 0) ∧ ∀ M13, M13 = sI M6 a0 2 ((gI M6 a0 2) - 1) → J9 M13)))
set_option maxRecDepth 100000 in
set_option maxHeartbeats 8000000 in
theorem s_X4_take (l : Launch) (D : va_G) (dA : Nat → ClassId) (htr : l.stackTraces = false) (M : Mem) (a0 : Nat) (p0 : Int32) (p1 : Int32) (post : Mem → Option Nat → Prop) (h : w_X4_take M a0 p0 p1 post) : CtN l D dA yX4_take cX4_take 4 (some (.object "ChatRelay$Line")) 2 [.ref a0, .int p0, .int p1] M 0 0 (pR post) := by
  refine ct_ofN htr (by decide) (Nat.le_of_ble_eq_true rfl) ?_
  intro X hC hN hR
  show G X 4 M 0 0 0 [(0, .ref a0), (1, .int p0), (2, .int p1)] []
  unfold w_X4_take at h
  refine g_aload_n (r := (some a0)) hC 0 dX4_take_0 rfl ?_
  obtain ⟨hc1, h⟩ := h
  obtain ⟨b2, eb2, h⟩ := h
  refine g_getA hC kc4 1 (by decide) wm_1_48 dX4_take_1 rfl hc1 eb2 ?_
  refine g_iload_n hC 1 dX4_take_4 rfl ?_
  refine g_bipush (v := 6) hC dX4_take_5 (by decide) ?_
  refine g_imul hC dX4_take_7 ?_
  refine g_iload_n hC 2 dX4_take_8 rfl ?_
  refine g_iadd hC dX4_take_9 ?_
  obtain ⟨hc3, h⟩ := h
  obtain ⟨b4, eb4, h⟩ := h
  refine g_pc (pc' := 10) rfl ?_
  refine g_aaldA hC (by decide) dX4_take_10 hc3 eb4 ?_
  obtain ⟨hc5, h⟩ := h
  refine g_callV hC (As := []) (fun l D dA ht => s_X2_takeFirst l D dA ht _ _ _ h) wm_1_193 wm_1_190 wm_1_191 wm_1_192 wm_1_3 (by decide +kernel : plainY yX2_takeFirst 0) kc2.1 kc2.2.1 dX4_take_11 (by decide) (Nat.le_of_ble_eq_true rfl) hc5 (Or.inl ⟨rfl, rfl⟩) ?_
  intro M9 v9 h
  obtain ⟨r7, rfl, h⟩ := h
  generalize M9 = M6 at h ⊢
  show G X 4 M6 0 0 14 [(0, .ref a0), (1, .int p0), (2, .int p1)] [va_rf r7]
  refine g_astore_n (r := r7) (lv' := [(3, va_rf r7), (0, .ref a0), (1, .int p0), (2, .int p1)]) hC dX4_take_14 (by decide) rfl ?_
  refine g_aload_n (r := r7) hC 0 dX4_take_15 rfl ?_
  replace h := h (fun (M8 : Mem) => G X 4 M8 0 0 29 [(0, .ref a0), (1, .int p0), (2, .int p1), (3, va_rf r7)] []) (by
    intro M8 h
    show G X 4 M8 0 0 29 [(0, .ref a0), (1, .int p0), (2, .int p1), (3, va_rf r7)] []
    refine g_aload_n (r := r7) hC 3 dX4_take_29 rfl ?_
    exact hR.2.2.2 _ rfl _ _ _ _ _ r7 dX4_take_30 ⟨_, rfl, h⟩)
  refine g_ifnull hC 29 dX4_take_16 (by decide) (fun eb10 => ?_) (fun b10 eb10 => ?_)
  · replace h := h.1 eb10
    subst eb10
    refine g_sub [1, 2, 3, 0] (lv' := [(0, .ref a0), (1, .int p0), (2, .int p1), (3, va_rf none)]) rfl ?_
    exact h
  · replace h := h.2 b10 eb10
    subst eb10
    refine g_aload_n (r := (some a0)) hC 1 dX4_take_19 rfl ?_
    refine g_dup hC dX4_take_20 rfl ?_
    obtain ⟨hc11, h⟩ := h
    refine g_getI hC kc4 2 (by decide) wm_1_49 dX4_take_21 rfl hc11 ?_
    refine g_pc (pc' := 24) rfl ?_
    refine g_iconst (v := 1) hC dX4_take_24 (by decide) ?_
    refine g_isub hC dX4_take_25 ?_
    obtain ⟨hc12, h⟩ := h
    refine g_putI hC kc4 2 (by decide) wm_1_49 dX4_take_26 rfl rfl (Or.inl rfl) hc12 ?_
    obtain ⟨M13, eM13⟩ : ∃ w, w = sI M6 a0 2 ((gI M6 a0 2) - 1) := ⟨_, rfl⟩
    replace h := h M13 eM13
    rw [← eM13]
    refine g_sub [1, 2, 3, 0] (lv' := [(0, .ref a0), (1, .int p0), (2, .int p1), (3, .ref b10)]) rfl ?_
    exact h

def w_X4_keepSpare (M : Mem) (a0 : Nat) (b0 : Nat) (post : Mem → Prop) : Prop :=
  gT M a0 = some (4, 0) ∧ ∀ r2, gR M a0 3 = r2 → gT M b0 = some (1, 0) ∧ ∀ M4, M4 = sR M b0 7 r2 → gT M4 a0 = some (4, 0) ∧ ∀ M6, M6 = sR M4 a0 3 ((some b0)) → post M6
set_option maxRecDepth 100000 in
set_option maxHeartbeats 8000000 in
theorem s_X4_keepSpare (l : Launch) (D : va_G) (dA : Nat → ClassId) (htr : l.stackTraces = false) (M : Mem) (a0 : Nat) (b0 : Nat) (post : Mem → Prop) (h : w_X4_keepSpare M a0 b0 post) : CtN l D dA yX4_keepSpare cX4_keepSpare 2 (none) 1 [.ref a0, .ref b0] M 0 0 (pV post) := by
  refine ct_ofN htr (by decide) (Nat.le_of_ble_eq_true rfl) ?_
  intro X hC hN hR
  show G X 2 M 0 0 0 [(0, .ref a0), (1, .ref b0)] []
  unfold w_X4_keepSpare at h
  refine g_aload_n (r := (some b0)) hC 1 dX4_keepSpare_0 rfl ?_
  refine g_aload_n (r := (some a0)) hC 0 dX4_keepSpare_1 rfl ?_
  obtain ⟨hc1, h⟩ := h
  obtain ⟨r2, er2⟩ : ∃ w, gR M a0 3 = w := ⟨_, rfl⟩
  replace h := h r2 er2
  refine g_getR hC kc4 3 (by decide) wm_1_51 dX4_keepSpare_2 rfl hc1 er2 ?_
  obtain ⟨hc3, h⟩ := h
  refine g_putR (r := r2) hC kc1 7 (by decide) wm_1_89 dX4_keepSpare_5 rfl (nar_o _) (Or.inl rfl) hc3 ?_
  obtain ⟨M4, eM4⟩ : ∃ w, w = sR M b0 7 r2 := ⟨_, rfl⟩
  replace h := h M4 eM4
  rw [← eM4]
  refine g_aload_n (r := (some a0)) hC 0 dX4_keepSpare_8 rfl ?_
  refine g_aload_n (r := (some b0)) hC 1 dX4_keepSpare_9 rfl ?_
  obtain ⟨hc5, h⟩ := h
  refine g_putR (r := (some b0)) hC kc4 3 (by decide) wm_1_51 dX4_keepSpare_10 rfl (nar_o _) (Or.inl rfl) hc5 ?_
  obtain ⟨M6, eM6⟩ : ∃ w, w = sR M4 a0 3 ((some b0)) := ⟨_, rfl⟩
  replace h := h M6 eM6
  rw [← eM6]
  refine g_pc (pc' := 13) rfl ?_
  exact hR.1 rfl _ _ _ _ _ dX4_keepSpare_13 ⟨rfl, h⟩

def w_X4_loseLines (M : Mem) (a0 : Nat) (p0 : Int32) (p1 : Int32) (post : Mem → Prop) : Prop :=
  gT M a0 = some (4, 0) ∧ w_X4_take M a0 p0 p1 (fun M2 r3 => Lp (fun (K7 : Option Nat × Int32 × Mem → Prop) (z : Option Nat × Int32 × Mem) => ∀ (r4 : Option Nat) (x5 : Int32) (M6 : Mem), z = (r4, x5, M6) → (∀ J8 : Prop, ((post M6) → J8) → ((150000 ≤ x5 → J8) ∧ (¬ (150000 ≤ x5) → (r4 = none → J8) ∧ (∀ b9, r4 = some b9 → gT M6 a0 = some (4, 0) ∧ w_X4_keepSpare M6 a0 b9 (fun M11 => gT M11 a0 = some (4, 0) ∧ w_X4_take M11 a0 p0 p1 (fun M13 r14 => ∀ x15, x15 = x5 + 1 → K7 (r14, x15, M13)))))))) (r3, 0, M2))
set_option maxRecDepth 100000 in
set_option maxHeartbeats 8000000 in
theorem s_X4_loseLines (l : Launch) (D : va_G) (dA : Nat → ClassId) (htr : l.stackTraces = false) (M : Mem) (a0 : Nat) (p0 : Int32) (p1 : Int32) (post : Mem → Prop) (h : w_X4_loseLines M a0 p0 p1 post) : CtN l D dA yX4_loseLines cX4_loseLines 5 (none) 3 [.ref a0, .int p0, .int p1] M 0 0 (pV post) := by
  refine ct_ofN htr (by decide) (Nat.le_of_ble_eq_true rfl) ?_
  intro X hC hN hR
  show G X 5 M 0 0 0 [(0, .ref a0), (1, .int p0), (2, .int p1)] []
  unfold w_X4_loseLines at h
  refine g_aload_n (r := (some a0)) hC 0 dX4_loseLines_0 rfl ?_
  refine g_iload_n hC 1 dX4_loseLines_1 rfl ?_
  refine g_iload_n hC 2 dX4_loseLines_2 rfl ?_
  obtain ⟨hc1, h⟩ := h
  refine g_callV hC (As := [.int p0, .int p1]) (fun l D dA ht => s_X4_take l D dA ht _ _ _ _ _ h) wm_1_189 wm_2_183 wm_1_187 wm_1_188 wm_1_2 (by decide +kernel : plainY yX4_take 2) kc4.1 kc4.2.1 dX4_loseLines_3 (by decide) (Nat.le_of_ble_eq_true rfl) hc1 (Or.inl ⟨rfl, rfl⟩) ?_
  intro M9 v9 h
  obtain ⟨r3, rfl, h⟩ := h
  generalize M9 = M2 at h ⊢
  show G X 5 M2 0 0 6 [(0, .ref a0), (1, .int p0), (2, .int p1)] [va_rf r3]
  refine g_astore_n (r := r3) (lv' := [(3, va_rf r3), (0, .ref a0), (1, .int p0), (2, .int p1)]) hC dX4_loseLines_6 (by decide) rfl ?_
  refine g_iconst (v := 0) hC dX4_loseLines_7 (by decide) ?_
  refine g_istore (lv' := [(4, .int 0), (3, va_rf r3), (0, .ref a0), (1, .int p0), (2, .int p1)]) hC dX4_loseLines_8 (by decide) (by cases r3 <;> rfl) ?_
  refine g_sub [2, 3, 4, 1, 0] (lv' := [(0, .ref a0), (1, .int p0), (2, .int p1), (3, va_rf r3), (4, .int 0)]) rfl ?_
  refine Lp_use (fun (z17 : Option Nat × Int32 × Mem) => G X 5 z17.2.2 0 0 10 [(0, .ref a0), (1, .int p0), (2, .int p1), (3, va_rf z17.1), (4, .int z17.2.1)] []) h ?_
  intro K7 z hK_K7 h
  obtain ⟨r4, x5, M6⟩ := z
  replace h := h _ _ _ rfl
  show G X 5 M6 0 0 10 [(0, .ref a0), (1, .int p0), (2, .int p1), (3, va_rf r4), (4, .int x5)] []
  refine g_pc (pc' := 10) rfl ?_
  refine g_iload hC 4 dX4_loseLines_10 rfl ?_
  refine g_ldc hC wm_1_223 dX4_loseLines_12 ?_
  replace h := h (G X 5 M6 0 0 39 [(0, .ref a0), (1, .int p0), (2, .int p1), (3, va_rf r4), (4, .int x5)] []) (by
    intro h
    exact hR.1 rfl _ _ _ _ _ dX4_loseLines_39 ⟨rfl, h⟩)
  refine g_icmp_ge hC 39 dX4_loseLines_14 (by decide) (fun c16 => ?_) (fun c16 => ?_)
  · replace h := h.1 c16
    exact h
  · replace h := h.2 c16
    refine g_aload_n (r := r4) hC 3 dX4_loseLines_17 rfl ?_
    refine g_ifnull hC 39 dX4_loseLines_18 (by decide) (fun eb9 => ?_) (fun b9 eb9 => ?_)
    · replace h := h.1 eb9
      subst eb9
      exact h
    · replace h := h.2 b9 eb9
      subst eb9
      refine g_aload_n (r := (some a0)) hC 0 dX4_loseLines_21 rfl ?_
      refine g_aload_n (r := (some b9)) hC 3 dX4_loseLines_22 rfl ?_
      obtain ⟨hc10, h⟩ := h
      refine g_callV hC (As := [.ref b9]) (fun l D dA ht => s_X4_keepSpare l D dA ht _ _ _ _ h) wm_2_45 wm_2_184 wm_2_43 wm_2_44 wm_1_2 (by decide +kernel : plainY yX4_keepSpare 1) kc4.1 kc4.2.1 dX4_loseLines_23 (by decide) (Nat.le_of_ble_eq_true rfl) hc10 (Or.inl ⟨rfl, rfl⟩) ?_
      intro M9 v9 h
      obtain ⟨rfl, h⟩ := h
      generalize M9 = M11 at h ⊢
      show G X 5 M11 0 0 26 [(0, .ref a0), (1, .int p0), (2, .int p1), (3, .ref b9), (4, .int x5)] []
      refine g_pc (pc' := 26) rfl ?_
      refine g_aload_n (r := (some a0)) hC 0 dX4_loseLines_26 rfl ?_
      refine g_iload_n hC 1 dX4_loseLines_27 rfl ?_
      refine g_iload_n hC 2 dX4_loseLines_28 rfl ?_
      obtain ⟨hc12, h⟩ := h
      refine g_callV hC (As := [.int p0, .int p1]) (fun l D dA ht => s_X4_take l D dA ht _ _ _ _ _ h) wm_1_189 wm_2_183 wm_1_187 wm_1_188 wm_1_2 (by decide +kernel : plainY yX4_take 2) kc4.1 kc4.2.1 dX4_loseLines_29 (by decide) (Nat.le_of_ble_eq_true rfl) hc12 (Or.inl ⟨rfl, rfl⟩) ?_
      intro M9 v9 h
      obtain ⟨r14, rfl, h⟩ := h
      generalize M9 = M13 at h ⊢
      show G X 5 M13 0 0 32 [(0, .ref a0), (1, .int p0), (2, .int p1), (3, .ref b9), (4, .int x5)] [va_rf r14]
      refine g_astore_n (r := r14) (lv' := [(3, va_rf r14), (0, .ref a0), (1, .int p0), (2, .int p1), (4, .int x5)]) hC dX4_loseLines_32 (by decide) rfl ?_
      obtain ⟨x15, ex15⟩ : ∃ w, w = x5 + 1 := ⟨_, rfl⟩
      replace h := h x15 ex15
      refine g_iinc (v := x15) (lv' := [(4, .int x15), (3, va_rf r14), (0, .ref a0), (1, .int p0), (2, .int p1)]) hC 4 dX4_loseLines_33 rfl (by rw [ex15]; rfl) (by decide) (by cases r14 <;> rfl) ?_
      refine g_goto hC 10 dX4_loseLines_36 (by decide) ?_
      refine g_sub [2, 3, 4, 1, 0] (lv' := [(0, .ref a0), (1, .int p0), (2, .int p1), (3, va_rf r14), (4, .int x15)]) rfl ?_
      exact hK_K7 _ h

def w_X4_cut (M : Mem) (a0 : Nat) (p0 : Int32) (p1 : Int32) (post : Mem → Prop) : Prop :=
  gT M a0 = some (4, 0) ∧ ∃ b2, gR M a0 0 = some b2 ∧ inA M b2 10 p0 ∧ inA M b2 10 p0 ∧ ∀ M4, M4 = sI M b2 (Int32.toNatClampNeg p0) ((gI M b2 (Int32.toNatClampNeg p0)) &&& ((1 <<< (p1 &&& 31)) ^^^ ((-1)))) → gT M4 a0 = some (4, 0) ∧ ∃ b7, gR M4 a0 0 = some b7 ∧ inA M4 b7 10 p1 ∧ inA M4 b7 10 p1 ∧ ∀ M9, M9 = sI M4 b7 (Int32.toNatClampNeg p1) ((gI M4 b7 (Int32.toNatClampNeg p1)) &&& ((1 <<< (p0 &&& 31)) ^^^ ((-1)))) → gT M9 a0 = some (4, 0) ∧ w_X4_loseLines M9 a0 p0 p1 (fun M12 => gT M12 a0 = some (4, 0) ∧ w_X4_loseLines M12 a0 p1 p0 (fun M14 => post M14))
set_option maxRecDepth 100000 in
set_option maxHeartbeats 8000000 in
theorem s_X4_cut (l : Launch) (D : va_G) (dA : Nat → ClassId) (htr : l.stackTraces = false) (M : Mem) (a0 : Nat) (p0 : Int32) (p1 : Int32) (post : Mem → Prop) (h : w_X4_cut M a0 p0 p1 post) : CtN l D dA yX4_cut cX4_cut 3 (none) 4 [.ref a0, .int p0, .int p1] M 0 0 (pV post) := by
  refine ct_ofN htr (by decide) (Nat.le_of_ble_eq_true rfl) ?_
  intro X hC hN hR
  show G X 3 M 0 0 0 [(0, .ref a0), (1, .int p0), (2, .int p1)] []
  unfold w_X4_cut at h
  refine g_aload_n (r := (some a0)) hC 0 dX4_cut_0 rfl ?_
  obtain ⟨hc1, h⟩ := h
  obtain ⟨b2, eb2, h⟩ := h
  refine g_getA hC kc4 0 (by decide) wm_1_47 dX4_cut_1 rfl hc1 eb2 ?_
  refine g_iload_n hC 1 dX4_cut_4 rfl ?_
  refine g_dup2 hC dX4_cut_5 rfl rfl ?_
  obtain ⟨hc3, h⟩ := h
  refine g_ialdA hC dX4_cut_6 hc3 ?_
  refine g_iconst (v := 1) hC dX4_cut_7 (by decide) ?_
  refine g_iload_n hC 2 dX4_cut_8 rfl ?_
  refine g_pc (pc' := 9) rfl ?_
  refine g_ishl hC dX4_cut_9 ?_
  refine g_iconst (v := (-1)) hC dX4_cut_10 (by decide) ?_
  refine g_ixor hC dX4_cut_11 ?_
  refine g_iand hC dX4_cut_12 ?_
  obtain ⟨hc5, h⟩ := h
  refine g_iastA hC dX4_cut_13 hc5 ?_
  obtain ⟨M4, eM4⟩ : ∃ w, w = sI M b2 (Int32.toNatClampNeg p0) ((gI M b2 (Int32.toNatClampNeg p0)) &&& ((1 <<< (p1 &&& 31)) ^^^ ((-1)))) := ⟨_, rfl⟩
  replace h := h M4 eM4
  rw [← eM4]
  refine g_aload_n (r := (some a0)) hC 0 dX4_cut_14 rfl ?_
  obtain ⟨hc6, h⟩ := h
  obtain ⟨b7, eb7, h⟩ := h
  refine g_getA hC kc4 0 (by decide) wm_1_47 dX4_cut_15 rfl hc6 eb7 ?_
  refine g_iload_n hC 2 dX4_cut_18 rfl ?_
  refine g_pc (pc' := 19) rfl ?_
  refine g_dup2 hC dX4_cut_19 rfl rfl ?_
  obtain ⟨hc8, h⟩ := h
  refine g_ialdA hC dX4_cut_20 hc8 ?_
  refine g_iconst (v := 1) hC dX4_cut_21 (by decide) ?_
  refine g_iload_n hC 1 dX4_cut_22 rfl ?_
  refine g_ishl hC dX4_cut_23 ?_
  refine g_iconst (v := (-1)) hC dX4_cut_24 (by decide) ?_
  refine g_ixor hC dX4_cut_25 ?_
  refine g_iand hC dX4_cut_26 ?_
  obtain ⟨hc10, h⟩ := h
  refine g_pc (pc' := 27) rfl ?_
  refine g_iastA hC dX4_cut_27 hc10 ?_
  obtain ⟨M9, eM9⟩ : ∃ w, w = sI M4 b7 (Int32.toNatClampNeg p1) ((gI M4 b7 (Int32.toNatClampNeg p1)) &&& ((1 <<< (p0 &&& 31)) ^^^ ((-1)))) := ⟨_, rfl⟩
  replace h := h M9 eM9
  rw [← eM9]
  refine g_aload_n (r := (some a0)) hC 0 dX4_cut_28 rfl ?_
  refine g_iload_n hC 1 dX4_cut_29 rfl ?_
  refine g_iload_n hC 2 dX4_cut_30 rfl ?_
  obtain ⟨hc11, h⟩ := h
  refine g_callV hC (As := [.int p0, .int p1]) (fun l D dA ht => s_X4_loseLines l D dA ht _ _ _ _ _ h) wm_2_182 wm_2_179 wm_2_180 wm_2_181 wm_1_2 (by decide +kernel : plainY yX4_loseLines 2) kc4.1 kc4.2.1 dX4_cut_31 (by decide) (Nat.le_of_ble_eq_true rfl) hc11 (Or.inl ⟨rfl, rfl⟩) ?_
  intro M9 v9 h
  obtain ⟨rfl, h⟩ := h
  generalize M9 = M12 at h ⊢
  show G X 3 M12 0 0 34 [(0, .ref a0), (1, .int p0), (2, .int p1)] []
  refine g_aload_n (r := (some a0)) hC 0 dX4_cut_34 rfl ?_
  refine g_iload_n hC 2 dX4_cut_35 rfl ?_
  refine g_iload_n hC 1 dX4_cut_36 rfl ?_
  refine g_pc (pc' := 37) rfl ?_
  obtain ⟨hc13, h⟩ := h
  refine g_callV hC (As := [.int p1, .int p0]) (fun l D dA ht => s_X4_loseLines l D dA ht _ _ _ _ _ h) wm_2_182 wm_2_179 wm_2_180 wm_2_181 wm_1_2 (by decide +kernel : plainY yX4_loseLines 2) kc4.1 kc4.2.1 dX4_cut_37 (by decide) (Nat.le_of_ble_eq_true rfl) hc13 (Or.inl ⟨rfl, rfl⟩) ?_
  intro M9 v9 h
  obtain ⟨rfl, h⟩ := h
  generalize M9 = M14 at h ⊢
  show G X 3 M14 0 0 40 [(0, .ref a0), (1, .int p0), (2, .int p1)] []
  exact hR.1 rfl _ _ _ _ _ dX4_cut_40 ⟨rfl, h⟩

def w_X4_put (mc ms : Nat) (M : Mem) (a0 : Nat) (p0 : Int32) (p1 : Int32) (b2 : Nat) (post : Mem → Prop) : Prop :=
  gT M a0 = some (4, 0) ∧ ∀ r2, gR M a0 3 = r2 → ∀ J7 : Option Nat → Mem → Nat → Nat → Prop, (∀ (r3 : Option Nat) (M4 : Mem) (k5 : Nat) (n6 : Nat), (∃ b8, r3 = some b8 ∧ gT M4 b8 = some (1, 0) ∧ w_X1_copyFrom M4 b8 b2 (fun M10 => gT M10 a0 = some (4, 0) ∧ ∃ b12, gR M10 a0 1 = some b12 ∧ inA M10 b12 14 ((p0 * 6) + p1) ∧ ∃ b14, gR M10 b12 (Int32.toNatClampNeg ((p0 * 6) + p1)) = some b14 ∧ gT M10 b14 = some (2, 0) ∧ w_X2_append M10 b14 b8 (fun M16 => gT M16 a0 = some (4, 0) ∧ gT M16 a0 = some (4, 0) ∧ ∀ M19, M19 = sI M16 a0 2 ((gI M16 a0 2) + 1) → post M19))) → J7 r3 M4 k5 n6) → ((r2 = none → gT M a0 = some (4, 0) ∧ (150000 ≤ (gI M a0 4) → post M) ∧ (¬ (150000 ≤ (gI M a0 4)) → gT M a0 = some (4, 0) ∧ gT M a0 = some (4, 0) ∧ ∀ M24, M24 = sI M a0 4 ((gI M a0 4) + 1) → (0 + 1 ≤ mc ∧ 0 + 8 ≤ ms) ∧ ∀ q25, gT M24 q25 = none → ∀ M26, M26 = sN M24 q25 (1, 0) → w_X1_init M26 q25 (fun M28 => J7 ((some q25)) M28 (0 + 1) (0 + 8)))) ∧ (∀ b20, r2 = some b20 → gT M b20 = some (1, 0) ∧ ∀ r31, gR M b20 7 = r31 → gT M a0 = some (4, 0) ∧ ∀ M33, M33 = sR M a0 3 r31 → J7 ((some b20)) M33 0 0))
set_option maxRecDepth 100000 in
set_option maxHeartbeats 8000000 in
theorem s_X4_put (l : Launch) (D : va_G) (dA : Nat → ClassId) (htr : l.stackTraces = false) (mc ms : Nat) (M : Mem) (a0 : Nat) (p0 : Int32) (p1 : Int32) (b2 : Nat) (post : Mem → Prop) (h : w_X4_put mc ms M a0 p0 p1 b2 post) : CtN l D dA yX4_put cX4_put 5 (none) 3 [.ref a0, .int p0, .int p1, .ref b2] M mc ms (pV post) := by
  refine ct_ofN htr (by decide) (Nat.le_of_ble_eq_true rfl) ?_
  intro X hC hN hR
  show G X 5 M 0 0 0 [(0, .ref a0), (1, .int p0), (2, .int p1), (3, .ref b2)] []
  unfold w_X4_put at h
  refine g_aload_n (r := (some a0)) hC 0 dX4_put_0 rfl ?_
  obtain ⟨hc1, h⟩ := h
  obtain ⟨r2, er2⟩ : ∃ w, gR M a0 3 = w := ⟨_, rfl⟩
  replace h := h r2 er2
  refine g_getR hC kc4 3 (by decide) wm_1_51 dX4_put_1 rfl hc1 er2 ?_
  refine g_astore (r := r2) (lv' := [(4, va_rf r2), (0, .ref a0), (1, .int p0), (2, .int p1), (3, .ref b2)]) hC dX4_put_4 (by decide) rfl ?_
  refine g_aload (r := r2) hC 0 dX4_put_6 rfl ?_
  replace h := h (fun (r3 : Option Nat) (M4 : Mem) (k5 : Nat) (n6 : Nat) => G X 5 M4 k5 n6 55 [(0, .ref a0), (1, .int p0), (2, .int p1), (3, .ref b2), (4, va_rf r3)] []) (by
    intro r3 M4 k5 n6 h
    show G X 5 M4 k5 n6 55 [(0, .ref a0), (1, .int p0), (2, .int p1), (3, .ref b2), (4, va_rf r3)] []
    refine g_aload (r := r3) hC 4 dX4_put_55 rfl ?_
    refine g_aload_n (r := (some b2)) hC 3 dX4_put_57 rfl ?_
    obtain ⟨b8, eb8, h⟩ := h
    subst eb8
    obtain ⟨hc9, h⟩ := h
    refine g_callV hC (As := [.ref b2]) (fun l D dA ht => s_X1_copyFrom l D dA ht _ _ _ _ h) wm_1_229 wm_1_226 wm_1_227 wm_1_228 wm_1_4 (by decide +kernel : plainY yX1_copyFrom 1) kc1.1 kc1.2.1 dX4_put_58 (by decide) (Nat.le_of_ble_eq_true rfl) hc9 (Or.inl ⟨rfl, rfl⟩) ?_
    intro M9 v9 h
    obtain ⟨rfl, h⟩ := h
    generalize M9 = M10 at h ⊢
    show G X 5 M10 k5 n6 61 [(0, .ref a0), (1, .int p0), (2, .int p1), (3, .ref b2), (4, .ref b8)] []
    refine g_pc (pc' := 61) rfl ?_
    refine g_aload_n (r := (some a0)) hC 0 dX4_put_61 rfl ?_
    obtain ⟨hc11, h⟩ := h
    obtain ⟨b12, eb12, h⟩ := h
    refine g_getA hC kc4 1 (by decide) wm_1_48 dX4_put_62 rfl hc11 eb12 ?_
    refine g_iload_n hC 1 dX4_put_65 rfl ?_
    refine g_bipush (v := 6) hC dX4_put_66 (by decide) ?_
    refine g_imul hC dX4_put_68 ?_
    refine g_iload_n hC 2 dX4_put_69 rfl ?_
    refine g_iadd hC dX4_put_70 ?_
    obtain ⟨hc13, h⟩ := h
    obtain ⟨b14, eb14, h⟩ := h
    refine g_aaldA hC (by decide) dX4_put_71 hc13 eb14 ?_
    refine g_pc (pc' := 72) rfl ?_
    refine g_aload (r := (some b8)) hC 4 dX4_put_72 rfl ?_
    obtain ⟨hc15, h⟩ := h
    refine g_callV hC (As := [.ref b8]) (fun l D dA ht => s_X2_append l D dA ht _ _ _ _ h) wm_1_233 wm_1_230 wm_1_231 wm_1_232 wm_1_3 (by decide +kernel : plainY yX2_append 1) kc2.1 kc2.2.1 dX4_put_74 (by decide) (Nat.le_of_ble_eq_true rfl) hc15 (Or.inl ⟨rfl, rfl⟩) ?_
    intro M9 v9 h
    obtain ⟨rfl, h⟩ := h
    generalize M9 = M16 at h ⊢
    show G X 5 M16 k5 n6 77 [(0, .ref a0), (1, .int p0), (2, .int p1), (3, .ref b2), (4, .ref b8)] []
    refine g_aload_n (r := (some a0)) hC 0 dX4_put_77 rfl ?_
    refine g_dup hC dX4_put_78 rfl ?_
    obtain ⟨hc17, h⟩ := h
    refine g_getI hC kc4 2 (by decide) wm_1_49 dX4_put_79 rfl hc17 ?_
    refine g_iconst (v := 1) hC dX4_put_82 (by decide) ?_
    refine g_iadd hC dX4_put_83 ?_
    obtain ⟨hc18, h⟩ := h
    refine g_putI hC kc4 2 (by decide) wm_1_49 dX4_put_84 rfl rfl (Or.inl rfl) hc18 ?_
    obtain ⟨M19, eM19⟩ : ∃ w, w = sI M16 a0 2 ((gI M16 a0 2) + 1) := ⟨_, rfl⟩
    replace h := h M19 eM19
    rw [← eM19]
    refine g_pc (pc' := 87) rfl ?_
    exact hR.1 rfl _ _ _ _ _ dX4_put_87 ⟨rfl, h⟩)
  refine g_ifnull hC 23 dX4_put_8 (by decide) (fun eb20 => ?_) (fun b20 eb20 => ?_)
  · replace h := h.1 eb20
    subst eb20
    refine g_aload_n (r := (some a0)) hC 1 dX4_put_23 rfl ?_
    obtain ⟨hc21, h⟩ := h
    refine g_getI hC kc4 4 (by decide) wm_1_52 dX4_put_24 rfl hc21 ?_
    refine g_pc (pc' := 27) rfl ?_
    refine g_ldc hC wm_1_223 dX4_put_27 ?_
    refine g_icmp_ge hC 54 dX4_put_29 (by decide) (fun c29 => ?_) (fun c29 => ?_)
    · replace h := h.1 c29
      exact hR.1 rfl _ _ _ _ _ dX4_put_54 ⟨rfl, h⟩
    · replace h := h.2 c29
      refine g_aload_n (r := (some a0)) hC 1 dX4_put_32 rfl ?_
      refine g_dup hC dX4_put_33 rfl ?_
      obtain ⟨hc22, h⟩ := h
      refine g_getI hC kc4 4 (by decide) wm_1_52 dX4_put_34 rfl hc22 ?_
      refine g_iconst (v := 1) hC dX4_put_37 (by decide) ?_
      refine g_iadd hC dX4_put_38 ?_
      obtain ⟨hc23, h⟩ := h
      refine g_putI hC kc4 4 (by decide) wm_1_52 dX4_put_39 rfl rfl (Or.inl rfl) hc23 ?_
      obtain ⟨M24, eM24⟩ : ∃ w, w = sI M a0 4 ((gI M a0 4) + 1) := ⟨_, rfl⟩
      replace h := h M24 eM24
      rw [← eM24]
      obtain ⟨hc27, h⟩ := h
      refine g_pc (pc' := 42) rfl ?_
      refine g_newK hC kc1 wm_1_224 wm_1_65 wm_1_4 dX4_put_42 hc27 (fun q25 hqq25 => ?_)
      obtain ⟨M26, eM26⟩ : ∃ w, w = sN M24 q25 (1, 0) := ⟨_, rfl⟩
      replace h := h q25 hqq25 M26 eM26
      rw [← eM26]
      refine g_dup hC dX4_put_45 rfl ?_
      refine g_callIN hC (As := []) (fun l D dA ht => s_X1_init l D dA ht _ _ _ h) rfl wm_1_68 (by decide +kernel) wm_1_67 wm_1_4 (by decide +kernel : plainY yX1_init 0) dX4_put_46 (by decide) (Nat.le_of_ble_eq_true rfl) (Or.inl ⟨rfl, rfl⟩) ?_
      intro M9 v9 h
      obtain ⟨rfl, h⟩ := h
      generalize M9 = M28 at h ⊢
      show G X 5 M28 (0 + 1) (0 + 8) 49 [(4, va_rf none), (0, .ref a0), (1, .int p0), (2, .int p1), (3, .ref b2)] [.ref q25]
      refine g_astore (r := (some q25)) (lv' := [(4, .ref q25), (0, .ref a0), (1, .int p0), (2, .int p1), (3, .ref b2)]) hC dX4_put_49 (by decide) rfl ?_
      refine g_goto hC 55 dX4_put_51 (by decide) ?_
      refine g_sub [1, 2, 3, 4, 0] (lv' := [(0, .ref a0), (1, .int p0), (2, .int p1), (3, .ref b2), (4, .ref q25)]) rfl ?_
      exact h
  · replace h := h.2 b20 eb20
    subst eb20
    refine g_aload_n (r := (some a0)) hC 1 dX4_put_11 rfl ?_
    refine g_aload (r := (some b20)) hC 0 dX4_put_12 rfl ?_
    obtain ⟨hc30, h⟩ := h
    obtain ⟨r31, er31⟩ : ∃ w, gR M b20 7 = w := ⟨_, rfl⟩
    replace h := h r31 er31
    refine g_pc (pc' := 14) rfl ?_
    refine g_getR hC kc1 7 (by decide) wm_1_89 dX4_put_14 rfl hc30 er31 ?_
    obtain ⟨hc32, h⟩ := h
    refine g_putR (r := r31) hC kc4 3 (by decide) wm_1_51 dX4_put_17 rfl (nar_o _) (Or.inl rfl) hc32 ?_
    obtain ⟨M33, eM33⟩ : ∃ w, w = sR M a0 3 r31 := ⟨_, rfl⟩
    replace h := h M33 eM33
    rw [← eM33]
    refine g_goto hC 55 dX4_put_20 (by decide) ?_
    refine g_sub [1, 2, 3, 4, 0] (lv' := [(0, .ref a0), (1, .int p0), (2, .int p1), (3, .ref b2), (4, .ref b20)]) rfl ?_
    exact h

def w_X4_spread (mc ms : Nat) (M : Mem) (a0 : Nat) (p0 : Int32) (p1 : Int32) (b2 : Nat) (post : Mem → Prop) : Prop :=
  Lp (fun (K5 : Int32 × Mem × Nat × Nat → Prop) (z : Int32 × Mem × Nat × Nat) => ∀ (x1 : Int32) (M2 : Mem) (k3 : Nat) (n4 : Nat), z = (x1, M2, k3, n4) → ((6 ≤ x1 → post M2) ∧ (¬ (6 ≤ x1) → ∀ J9 : Mem → Nat → Nat → Prop, (∀ (M6 : Mem) (k7 : Nat) (n8 : Nat), (∀ x10, x10 = x1 + 1 → K5 (x10, M6, k7, n8)) → J9 M6 k7 n8) → ((x1 = p1 → J9 M2 k3 n4) ∧ (¬ (x1 = p1) → gT M2 a0 = some (4, 0) ∧ w_X4_haveLink M2 a0 p0 x1 (fun x12 => (x12 = 0 → J9 M2 k3 n4) ∧ (¬ (x12 = 0) → gT M2 a0 = some (4, 0) ∧ ∃ c14 s15, (k3 + c14 ≤ mc ∧ n4 + s15 ≤ ms) ∧ w_X4_put c14 s15 M2 a0 p0 x1 b2 (fun M16 => J9 M16 (k3 + c14) (n4 + s15))))))))) (0, M, 0, 0)
set_option maxRecDepth 100000 in
set_option maxHeartbeats 8000000 in
theorem s_X4_spread (l : Launch) (D : va_G) (dA : Nat → ClassId) (htr : l.stackTraces = false) (mc ms : Nat) (M : Mem) (a0 : Nat) (p0 : Int32) (p1 : Int32) (b2 : Nat) (post : Mem → Prop) (h : w_X4_spread mc ms M a0 p0 p1 b2 post) : CtN l D dA yX4_spread cX4_spread 5 (none) 4 [.ref a0, .int p0, .int p1, .ref b2] M mc ms (pV post) := by
  refine ct_ofN htr (by decide) (Nat.le_of_ble_eq_true rfl) ?_
  intro X hC hN hR
  show G X 5 M 0 0 0 [(0, .ref a0), (1, .int p0), (2, .int p1), (3, .ref b2)] []
  unfold w_X4_spread at h
  refine g_iconst (v := 0) hC dX4_spread_0 (by decide) ?_
  refine g_istore (lv' := [(4, .int 0), (0, .ref a0), (1, .int p0), (2, .int p1), (3, .ref b2)]) hC dX4_spread_1 (by decide) rfl ?_
  refine g_sub [1, 2, 3, 4, 0] (lv' := [(0, .ref a0), (1, .int p0), (2, .int p1), (3, .ref b2), (4, .int 0)]) rfl ?_
  refine Lp_use (fun (z20 : Int32 × Mem × Nat × Nat) => G X 5 z20.2.1 z20.2.2.1 z20.2.2.2 3 [(0, .ref a0), (1, .int p0), (2, .int p1), (3, .ref b2), (4, .int z20.1)] []) h ?_
  intro K5 z hK_K5 h
  obtain ⟨x1, M2, k3, n4⟩ := z
  replace h := h _ _ _ _ rfl
  show G X 5 M2 k3 n4 3 [(0, .ref a0), (1, .int p0), (2, .int p1), (3, .ref b2), (4, .int x1)] []
  refine g_iload hC 4 dX4_spread_3 rfl ?_
  refine g_bipush (v := 6) hC dX4_spread_5 (by decide) ?_
  refine g_icmp_ge hC 40 dX4_spread_7 (by decide) (fun c19 => ?_) (fun c19 => ?_)
  · replace h := h.1 c19
    exact hR.1 rfl _ _ _ _ _ dX4_spread_40 ⟨rfl, h⟩
  · replace h := h.2 c19
    refine g_iload hC 4 dX4_spread_10 rfl ?_
    refine g_iload_n hC 2 dX4_spread_12 rfl ?_
    replace h := h (fun (M6 : Mem) (k7 : Nat) (n8 : Nat) => G X 5 M6 k7 n8 34 [(0, .ref a0), (1, .int p0), (2, .int p1), (3, .ref b2), (4, .int x1)] []) (by
      intro M6 k7 n8 h
      show G X 5 M6 k7 n8 34 [(0, .ref a0), (1, .int p0), (2, .int p1), (3, .ref b2), (4, .int x1)] []
      obtain ⟨x10, ex10⟩ : ∃ w, w = x1 + 1 := ⟨_, rfl⟩
      replace h := h x10 ex10
      refine g_pc (pc' := 34) rfl ?_
      refine g_iinc (v := x10) (lv' := [(4, .int x10), (0, .ref a0), (1, .int p0), (2, .int p1), (3, .ref b2)]) hC 4 dX4_spread_34 rfl (by rw [ex10]; rfl) (by decide) rfl ?_
      refine g_goto hC 3 dX4_spread_37 (by decide) ?_
      refine g_sub [1, 2, 3, 4, 0] (lv' := [(0, .ref a0), (1, .int p0), (2, .int p1), (3, .ref b2), (4, .int x10)]) rfl ?_
      exact hK_K5 _ h)
    refine g_pc (pc' := 13) rfl ?_
    refine g_icmp_eq hC 34 dX4_spread_13 (by decide) (fun c18 => ?_) (fun c18 => ?_)
    · replace h := h.1 c18
      exact h
    · replace h := h.2 c18
      refine g_aload_n (r := (some a0)) hC 0 dX4_spread_16 rfl ?_
      refine g_iload_n hC 1 dX4_spread_17 rfl ?_
      refine g_iload hC 4 dX4_spread_18 rfl ?_
      obtain ⟨hc11, h⟩ := h
      refine g_callV hC (As := [.int p0, .int x1]) (fun l D dA ht => s_X4_haveLink l D dA ht _ _ _ _ _ h) wm_2_9 wm_2_6 wm_2_7 wm_2_8 wm_1_2 (by decide +kernel : plainY yX4_haveLink 2) kc4.1 kc4.2.1 dX4_spread_20 (by decide) (Nat.le_of_ble_eq_true rfl) hc11 (Or.inl ⟨rfl, rfl⟩) ?_
      intro M9 v9 h
      obtain ⟨x12, rfl, h⟩ := h
      obtain ⟨hM9, h⟩ := h
      rw [hM9]
      show G X 5 M2 k3 n4 23 [(0, .ref a0), (1, .int p0), (2, .int p1), (3, .ref b2), (4, .int x1)] [.int x12]
      refine g_if_eq hC 34 dX4_spread_23 (by decide) (fun c17 => ?_) (fun c17 => ?_)
      · replace h := h.1 c17
        exact h
      · replace h := h.2 c17
        refine g_aload_n (r := (some a0)) hC 0 dX4_spread_26 rfl ?_
        refine g_iload_n hC 1 dX4_spread_27 rfl ?_
        refine g_pc (pc' := 28) rfl ?_
        refine g_iload hC 4 dX4_spread_28 rfl ?_
        refine g_aload_n (r := (some b2)) hC 3 dX4_spread_30 rfl ?_
        obtain ⟨hc13, h⟩ := h
        obtain ⟨c14, s15, hc14, h⟩ := h
        refine g_callV hC (As := [.int p0, .int x1, .ref b2]) (fun l D dA ht => s_X4_put l D dA ht _ _ _ _ _ _ _ _ h) wm_1_222 wm_2_10 wm_1_220 wm_1_221 wm_1_2 (by decide +kernel : plainY yX4_put 3) kc4.1 kc4.2.1 dX4_spread_31 (by decide) (Nat.le_of_ble_eq_true rfl) hc13 (Or.inr hc14) ?_
        intro M9 v9 h
        obtain ⟨rfl, h⟩ := h
        generalize M9 = M16 at h ⊢
        show G X 5 M16 (k3 + c14) (n4 + s15) 34 [(0, .ref a0), (1, .int p0), (2, .int p1), (3, .ref b2), (4, .int x1)] []
        exact h
end
