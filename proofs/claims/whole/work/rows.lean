section
-- ===== PART A: goes FIRST, ahead of the names: the tables' words, and 'selects' of the private methods out of them =====
/-- a private method of a class that the tables say can be made, by its rows of tables_1 -/
def lw_okq (q : MethodName × Nat) : Prop := (q.1.cls ≠ "java/lang/invoke/MethodHandle" ∧ q.1.cls ≠ "java/lang/invoke/VarHandle") ∧ Cond.instantiable q.1.cls q.2 ∈ tables_1 ∧ Cond.privateMethod q.1 ∈ tables_1 ∧ Cond.instanceMethod q.1 ∈ tables_1
theorem lw_p0 : lw_okq (⟨"SnowBalls", "hasLawn", "()Z"⟩, 12) := ⟨⟨by decide +kernel, by decide +kernel⟩, List.mem_of_getElem? (i := 14) (by decide +kernel), List.mem_of_getElem? (i := 223) (by decide +kernel), List.mem_of_getElem? (i := 224) (by decide +kernel)⟩
theorem lw_p1 : lw_okq (⟨"SnowBalls", "isBall", "(I)Z"⟩, 12) := ⟨⟨by decide +kernel, by decide +kernel⟩, List.mem_of_getElem? (i := 14) (by decide +kernel), List.mem_of_getElem? (i := 267) (by decide +kernel), List.mem_of_getElem? (i := 268) (by decide +kernel)⟩
theorem lw_p2 : lw_okq (⟨"SnowBalls$Lawn", "lower", "(II)V"⟩, 6) := ⟨⟨by decide +kernel, by decide +kernel⟩, List.mem_of_getElem? (i := 22) (by decide +kernel), List.mem_of_getElem? (i := 393) (by decide +kernel), List.mem_of_getElem? (i := 394) (by decide +kernel)⟩
theorem lw_p3 : lw_okq (⟨"SnowBalls", "maySearch", "(I)Z"⟩, 12) := ⟨⟨by decide +kernel, by decide +kernel⟩, List.mem_of_getElem? (i := 14) (by decide +kernel), List.mem_of_getElem? (i := 401) (by decide +kernel), List.mem_of_getElem? (i := 402) (by decide +kernel)⟩
theorem lw_p4 : lw_okq (⟨"SnowBalls$Lawn", "couldStack", "(I)Z"⟩, 6) := ⟨⟨by decide +kernel, by decide +kernel⟩, List.mem_of_getElem? (i := 22) (by decide +kernel), List.mem_of_getElem? (i := 455) (by decide +kernel), List.mem_of_getElem? (i := 456) (by decide +kernel)⟩
theorem lw_p5 : lw_okq (⟨"SnowBalls$Lawn", "couldJoin", "(II)Z"⟩, 6) := ⟨⟨by decide +kernel, by decide +kernel⟩, List.mem_of_getElem? (i := 22) (by decide +kernel), List.mem_of_getElem? (i := 462) (by decide +kernel), List.mem_of_getElem? (i := 463) (by decide +kernel)⟩
theorem lw_p6 : lw_okq (⟨"SnowBalls", "digestOfPlaces", "(J)J"⟩, 12) := ⟨⟨by decide +kernel, by decide +kernel⟩, List.mem_of_getElem? (i := 14) (by decide +kernel), List.mem_of_getElem? (i := 530) (by decide +kernel), List.mem_of_getElem? (i := 531) (by decide +kernel)⟩
theorem lw_p7 : lw_okq (⟨"SnowBalls", "digestOfBalls", "(J)J"⟩, 12) := ⟨⟨by decide +kernel, by decide +kernel⟩, List.mem_of_getElem? (i := 14) (by decide +kernel), List.mem_of_getElem? (i := 539) (by decide +kernel), List.mem_of_getElem? (i := 540) (by decide +kernel)⟩
theorem lw_p8 : lw_okq (⟨"SnowBallsModel", "readLawn", "()V"⟩, 39) := ⟨⟨by decide +kernel, by decide +kernel⟩, List.mem_of_getElem? (i := 548) (by decide +kernel), List.mem_of_getElem? (i := 688) (by decide +kernel), List.mem_of_getElem? (i := 689) (by decide +kernel)⟩
theorem lw_p9 : lw_okq (⟨"SnowBallsModel", "depthAll", "()I"⟩, 39) := ⟨⟨by decide +kernel, by decide +kernel⟩, List.mem_of_getElem? (i := 548) (by decide +kernel), List.mem_of_getElem? (i := 696) (by decide +kernel), List.mem_of_getElem? (i := 697) (by decide +kernel)⟩
theorem lw_p10 : lw_okq (⟨"SnowBallsModel", "standsOn", "(I)I"⟩, 39) := ⟨⟨by decide +kernel, by decide +kernel⟩, List.mem_of_getElem? (i := 548) (by decide +kernel), List.mem_of_getElem? (i := 707) (by decide +kernel), List.mem_of_getElem? (i := 708) (by decide +kernel)⟩
theorem lw_p11 : lw_okq (⟨"SnowBallsModel", "heightOf", "(I)I"⟩, 39) := ⟨⟨by decide +kernel, by decide +kernel⟩, List.mem_of_getElem? (i := 548) (by decide +kernel), List.mem_of_getElem? (i := 711) (by decide +kernel), List.mem_of_getElem? (i := 712) (by decide +kernel)⟩
theorem lw_p12 : lw_okq (⟨"SnowBallsModel", "lay", "(III)V"⟩, 39) := ⟨⟨by decide +kernel, by decide +kernel⟩, List.mem_of_getElem? (i := 548) (by decide +kernel), List.mem_of_getElem? (i := 726) (by decide +kernel), List.mem_of_getElem? (i := 727) (by decide +kernel)⟩
theorem lw_p13 : lw_okq (⟨"SnowBallsModel", "isBall", "(I)Z"⟩, 39) := ⟨⟨by decide +kernel, by decide +kernel⟩, List.mem_of_getElem? (i := 548) (by decide +kernel), List.mem_of_getElem? (i := 734) (by decide +kernel), List.mem_of_getElem? (i := 735) (by decide +kernel)⟩
theorem lw_p14 : lw_okq (⟨"SnowBallsModel", "ballNow", "(II)I"⟩, 39) := ⟨⟨by decide +kernel, by decide +kernel⟩, List.mem_of_getElem? (i := 548) (by decide +kernel), List.mem_of_getElem? (i := 738) (by decide +kernel), List.mem_of_getElem? (i := 739) (by decide +kernel)⟩
theorem lw_p15 : lw_okq (⟨"SnowBallsModel", "weighs", "(I)I"⟩, 39) := ⟨⟨by decide +kernel, by decide +kernel⟩, List.mem_of_getElem? (i := 548) (by decide +kernel), List.mem_of_getElem? (i := 742) (by decide +kernel), List.mem_of_getElem? (i := 743) (by decide +kernel)⟩
def lw_privs_1 : List (MethodName × Nat) := [(⟨"SnowBalls", "hasLawn", "()Z"⟩, 12), (⟨"SnowBalls", "isBall", "(I)Z"⟩, 12), (⟨"SnowBalls$Lawn", "lower", "(II)V"⟩, 6), (⟨"SnowBalls", "maySearch", "(I)Z"⟩, 12), (⟨"SnowBalls$Lawn", "couldStack", "(I)Z"⟩, 6), (⟨"SnowBalls$Lawn", "couldJoin", "(II)Z"⟩, 6), (⟨"SnowBalls", "digestOfPlaces", "(J)J"⟩, 12), (⟨"SnowBalls", "digestOfBalls", "(J)J"⟩, 12), (⟨"SnowBallsModel", "readLawn", "()V"⟩, 39), (⟨"SnowBallsModel", "depthAll", "()I"⟩, 39), (⟨"SnowBallsModel", "standsOn", "(I)I"⟩, 39), (⟨"SnowBallsModel", "heightOf", "(I)I"⟩, 39), (⟨"SnowBallsModel", "lay", "(III)V"⟩, 39), (⟨"SnowBallsModel", "isBall", "(I)Z"⟩, 39), (⟨"SnowBallsModel", "ballNow", "(II)I"⟩, 39), (⟨"SnowBallsModel", "weighs", "(I)I"⟩, 39)]
theorem lw_r1 : ∀ q ∈ lw_privs_1, lw_okq q := List.forall_mem_cons.mpr ⟨lw_p0, List.forall_mem_cons.mpr ⟨lw_p1, List.forall_mem_cons.mpr ⟨lw_p2, List.forall_mem_cons.mpr ⟨lw_p3, List.forall_mem_cons.mpr ⟨lw_p4, List.forall_mem_cons.mpr ⟨lw_p5, List.forall_mem_cons.mpr ⟨lw_p6, List.forall_mem_cons.mpr ⟨lw_p7, List.forall_mem_cons.mpr ⟨lw_p8, List.forall_mem_cons.mpr ⟨lw_p9, List.forall_mem_cons.mpr ⟨lw_p10, List.forall_mem_cons.mpr ⟨lw_p11, List.forall_mem_cons.mpr ⟨lw_p12, List.forall_mem_cons.mpr ⟨lw_p13, List.forall_mem_cons.mpr ⟨lw_p14, List.forall_mem_cons.mpr ⟨lw_p15, fun _ h => absurd h List.not_mem_nil⟩⟩⟩⟩⟩⟩⟩⟩⟩⟩⟩⟩⟩⟩⟩⟩
theorem lw_p16 : lw_okq (⟨"SnowBallsModel", "breadth", "(I)I"⟩, 39) := ⟨⟨by decide +kernel, by decide +kernel⟩, List.mem_of_getElem? (i := 548) (by decide +kernel), List.mem_of_getElem? (i := 746) (by decide +kernel), List.mem_of_getElem? (i := 747) (by decide +kernel)⟩
theorem lw_p17 : lw_okq (⟨"SnowBallsModel", "mayRoll", "(II)Z"⟩, 39) := ⟨⟨by decide +kernel, by decide +kernel⟩, List.mem_of_getElem? (i := 548) (by decide +kernel), List.mem_of_getElem? (i := 758) (by decide +kernel), List.mem_of_getElem? (i := 759) (by decide +kernel)⟩
theorem lw_p18 : lw_okq (⟨"SnowBallsModel", "isFree", "(I)Z"⟩, 39) := ⟨⟨by decide +kernel, by decide +kernel⟩, List.mem_of_getElem? (i := 548) (by decide +kernel), List.mem_of_getElem? (i := 762) (by decide +kernel), List.mem_of_getElem? (i := 763) (by decide +kernel)⟩
theorem lw_p19 : lw_okq (⟨"SnowBallsModel", "above", "(I)I"⟩, 39) := ⟨⟨by decide +kernel, by decide +kernel⟩, List.mem_of_getElem? (i := 548) (by decide +kernel), List.mem_of_getElem? (i := 766) (by decide +kernel), List.mem_of_getElem? (i := 767) (by decide +kernel)⟩
theorem lw_p20 : lw_okq (⟨"SnowBallsModel", "doRoll", "(II)V"⟩, 39) := ⟨⟨by decide +kernel, by decide +kernel⟩, List.mem_of_getElem? (i := 548) (by decide +kernel), List.mem_of_getElem? (i := 777) (by decide +kernel), List.mem_of_getElem? (i := 778) (by decide +kernel)⟩
theorem lw_p21 : lw_okq (⟨"SnowBallsModel", "mayLift", "(II)Z"⟩, 39) := ⟨⟨by decide +kernel, by decide +kernel⟩, List.mem_of_getElem? (i := 548) (by decide +kernel), List.mem_of_getElem? (i := 785) (by decide +kernel), List.mem_of_getElem? (i := 786) (by decide +kernel)⟩
theorem lw_p22 : lw_okq (⟨"SnowBallsModel", "standMany", "(I)I"⟩, 39) := ⟨⟨by decide +kernel, by decide +kernel⟩, List.mem_of_getElem? (i := 548) (by decide +kernel), List.mem_of_getElem? (i := 792) (by decide +kernel), List.mem_of_getElem? (i := 793) (by decide +kernel)⟩
theorem lw_p23 : lw_okq (⟨"SnowBallsModel", "goAway", "(I)V"⟩, 39) := ⟨⟨by decide +kernel, by decide +kernel⟩, List.mem_of_getElem? (i := 548) (by decide +kernel), List.mem_of_getElem? (i := 803) (by decide +kernel), List.mem_of_getElem? (i := 804) (by decide +kernel)⟩
theorem lw_p24 : lw_okq (⟨"SnowBallsModel", "layLargest", "(II)V"⟩, 39) := ⟨⟨by decide +kernel, by decide +kernel⟩, List.mem_of_getElem? (i := 548) (by decide +kernel), List.mem_of_getElem? (i := 811) (by decide +kernel), List.mem_of_getElem? (i := 812) (by decide +kernel)⟩
theorem lw_p25 : lw_okq (⟨"SnowBallsModel", "save", "(I)V"⟩, 39) := ⟨⟨by decide +kernel, by decide +kernel⟩, List.mem_of_getElem? (i := 548) (by decide +kernel), List.mem_of_getElem? (i := 815) (by decide +kernel), List.mem_of_getElem? (i := 816) (by decide +kernel)⟩
theorem lw_p26 : lw_okq (⟨"SnowBallsModel", "rollsBy", "(III)Z"⟩, 39) := ⟨⟨by decide +kernel, by decide +kernel⟩, List.mem_of_getElem? (i := 548) (by decide +kernel), List.mem_of_getElem? (i := 822) (by decide +kernel), List.mem_of_getElem? (i := 823) (by decide +kernel)⟩
theorem lw_p27 : lw_okq (⟨"SnowBallsModel", "back", "(I)V"⟩, 39) := ⟨⟨by decide +kernel, by decide +kernel⟩, List.mem_of_getElem? (i := 548) (by decide +kernel), List.mem_of_getElem? (i := 826) (by decide +kernel), List.mem_of_getElem? (i := 827) (by decide +kernel)⟩
theorem lw_p28 : lw_okq (⟨"SnowBallsModel", "comesNow", "(II)I"⟩, 39) := ⟨⟨by decide +kernel, by decide +kernel⟩, List.mem_of_getElem? (i := 548) (by decide +kernel), List.mem_of_getElem? (i := 834) (by decide +kernel), List.mem_of_getElem? (i := 835) (by decide +kernel)⟩
theorem lw_p29 : lw_okq (⟨"SnowBallsModel", "highestNow", "(I)I"⟩, 39) := ⟨⟨by decide +kernel, by decide +kernel⟩, List.mem_of_getElem? (i := 548) (by decide +kernel), List.mem_of_getElem? (i := 842) (by decide +kernel), List.mem_of_getElem? (i := 843) (by decide +kernel)⟩
theorem lw_p30 : lw_okq (⟨"SnowBallsModel", "mayStand", "(III)Z"⟩, 39) := ⟨⟨by decide +kernel, by decide +kernel⟩, List.mem_of_getElem? (i := 548) (by decide +kernel), List.mem_of_getElem? (i := 846) (by decide +kernel), List.mem_of_getElem? (i := 847) (by decide +kernel)⟩
theorem lw_p31 : lw_okq (⟨"SnowBallsModel", "lastsNow", "(I)I"⟩, 39) := ⟨⟨by decide +kernel, by decide +kernel⟩, List.mem_of_getElem? (i := 548) (by decide +kernel), List.mem_of_getElem? (i := 854) (by decide +kernel), List.mem_of_getElem? (i := 855) (by decide +kernel)⟩
def lw_privs_2 : List (MethodName × Nat) := [(⟨"SnowBallsModel", "breadth", "(I)I"⟩, 39), (⟨"SnowBallsModel", "mayRoll", "(II)Z"⟩, 39), (⟨"SnowBallsModel", "isFree", "(I)Z"⟩, 39), (⟨"SnowBallsModel", "above", "(I)I"⟩, 39), (⟨"SnowBallsModel", "doRoll", "(II)V"⟩, 39), (⟨"SnowBallsModel", "mayLift", "(II)Z"⟩, 39), (⟨"SnowBallsModel", "standMany", "(I)I"⟩, 39), (⟨"SnowBallsModel", "goAway", "(I)V"⟩, 39), (⟨"SnowBallsModel", "layLargest", "(II)V"⟩, 39), (⟨"SnowBallsModel", "save", "(I)V"⟩, 39), (⟨"SnowBallsModel", "rollsBy", "(III)Z"⟩, 39), (⟨"SnowBallsModel", "back", "(I)V"⟩, 39), (⟨"SnowBallsModel", "comesNow", "(II)I"⟩, 39), (⟨"SnowBallsModel", "highestNow", "(I)I"⟩, 39), (⟨"SnowBallsModel", "mayStand", "(III)Z"⟩, 39), (⟨"SnowBallsModel", "lastsNow", "(I)I"⟩, 39)]
theorem lw_r2 : ∀ q ∈ lw_privs_2, lw_okq q := List.forall_mem_cons.mpr ⟨lw_p16, List.forall_mem_cons.mpr ⟨lw_p17, List.forall_mem_cons.mpr ⟨lw_p18, List.forall_mem_cons.mpr ⟨lw_p19, List.forall_mem_cons.mpr ⟨lw_p20, List.forall_mem_cons.mpr ⟨lw_p21, List.forall_mem_cons.mpr ⟨lw_p22, List.forall_mem_cons.mpr ⟨lw_p23, List.forall_mem_cons.mpr ⟨lw_p24, List.forall_mem_cons.mpr ⟨lw_p25, List.forall_mem_cons.mpr ⟨lw_p26, List.forall_mem_cons.mpr ⟨lw_p27, List.forall_mem_cons.mpr ⟨lw_p28, List.forall_mem_cons.mpr ⟨lw_p29, List.forall_mem_cons.mpr ⟨lw_p30, List.forall_mem_cons.mpr ⟨lw_p31, fun _ h => absurd h List.not_mem_nil⟩⟩⟩⟩⟩⟩⟩⟩⟩⟩⟩⟩⟩⟩⟩⟩
theorem lw_p32 : lw_okq (⟨"SnowBallsModel", "bookNow", "(IIII)I"⟩, 39) := ⟨⟨by decide +kernel, by decide +kernel⟩, List.mem_of_getElem? (i := 548) (by decide +kernel), List.mem_of_getElem? (i := 862) (by decide +kernel), List.mem_of_getElem? (i := 863) (by decide +kernel)⟩
theorem lw_p33 : lw_okq (⟨"SnowBallsModel", "gamesNow", "(III)I"⟩, 39) := ⟨⟨by decide +kernel, by decide +kernel⟩, List.mem_of_getElem? (i := 548) (by decide +kernel), List.mem_of_getElem? (i := 870) (by decide +kernel), List.mem_of_getElem? (i := 871) (by decide +kernel)⟩
theorem lw_p34 : lw_okq (⟨"SnowBallsModel", "draw", "(I)I"⟩, 39) := ⟨⟨by decide +kernel, by decide +kernel⟩, List.mem_of_getElem? (i := 548) (by decide +kernel), List.mem_of_getElem? (i := 874) (by decide +kernel), List.mem_of_getElem? (i := 875) (by decide +kernel)⟩
theorem lw_p35 : lw_okq (⟨"SnowBallsModel", "sizeAll", "()I"⟩, 39) := ⟨⟨by decide +kernel, by decide +kernel⟩, List.mem_of_getElem? (i := 548) (by decide +kernel), List.mem_of_getElem? (i := 882) (by decide +kernel), List.mem_of_getElem? (i := 883) (by decide +kernel)⟩
theorem lw_p36 : lw_okq (⟨"SnowBallsModel", "howMany", "(I)I"⟩, 39) := ⟨⟨by decide +kernel, by decide +kernel⟩, List.mem_of_getElem? (i := 548) (by decide +kernel), List.mem_of_getElem? (i := 898) (by decide +kernel), List.mem_of_getElem? (i := 899) (by decide +kernel)⟩
theorem lw_p37 : lw_okq (⟨"SnowBallsModel", "goneMany", "()I"⟩, 39) := ⟨⟨by decide +kernel, by decide +kernel⟩, List.mem_of_getElem? (i := 548) (by decide +kernel), List.mem_of_getElem? (i := 902) (by decide +kernel), List.mem_of_getElem? (i := 903) (by decide +kernel)⟩
theorem lw_p38 : lw_okq (⟨"SnowBallsModel", "greenMany", "()I"⟩, 39) := ⟨⟨by decide +kernel, by decide +kernel⟩, List.mem_of_getElem? (i := 548) (by decide +kernel), List.mem_of_getElem? (i := 906) (by decide +kernel), List.mem_of_getElem? (i := 907) (by decide +kernel)⟩
theorem lw_p39 : lw_okq (⟨"SnowBallsModel", "mix", "(J)V"⟩, 39) := ⟨⟨by decide +kernel, by decide +kernel⟩, List.mem_of_getElem? (i := 548) (by decide +kernel), List.mem_of_getElem? (i := 915) (by decide +kernel), List.mem_of_getElem? (i := 916) (by decide +kernel)⟩
def lw_privs_3 : List (MethodName × Nat) := [(⟨"SnowBallsModel", "bookNow", "(IIII)I"⟩, 39), (⟨"SnowBallsModel", "gamesNow", "(III)I"⟩, 39), (⟨"SnowBallsModel", "draw", "(I)I"⟩, 39), (⟨"SnowBallsModel", "sizeAll", "()I"⟩, 39), (⟨"SnowBallsModel", "howMany", "(I)I"⟩, 39), (⟨"SnowBallsModel", "goneMany", "()I"⟩, 39), (⟨"SnowBallsModel", "greenMany", "()I"⟩, 39), (⟨"SnowBallsModel", "mix", "(J)V"⟩, 39)]
theorem lw_r3 : ∀ q ∈ lw_privs_3, lw_okq q := List.forall_mem_cons.mpr ⟨lw_p32, List.forall_mem_cons.mpr ⟨lw_p33, List.forall_mem_cons.mpr ⟨lw_p34, List.forall_mem_cons.mpr ⟨lw_p35, List.forall_mem_cons.mpr ⟨lw_p36, List.forall_mem_cons.mpr ⟨lw_p37, List.forall_mem_cons.mpr ⟨lw_p38, List.forall_mem_cons.mpr ⟨lw_p39, fun _ h => absurd h List.not_mem_nil⟩⟩⟩⟩⟩⟩⟩⟩
def lw_privs : List (MethodName × Nat) := lw_privs_1 ++ (lw_privs_2 ++ (lw_privs_3))
def lw_tbl : List Cond := k2_sels lw_privs ++ tables_1
theorem lw_privs_ok : ∀ q ∈ lw_privs, lw_okq q := by
  show ∀ q ∈ lw_privs_1 ++ (lw_privs_2 ++ (lw_privs_3)), lw_okq q
  exact List.forall_mem_append.mpr ⟨lw_r1, List.forall_mem_append.mpr ⟨lw_r2, lw_r3⟩⟩
-- ===== end of PART A; then your names; then what follows =====
end
section
/-! ===== BEGIN printed: names, fields, word lists, decode rows ===== -/
def RX0 : String := "SnowBalls$Arrival"
def TX0 : u_T := fun k => match k with
  | 0 => ("SnowBalls$Arrival", "fewest", "I", false)
  | _ => ("SnowBalls$Arrival", "target", "I", false)
def tyX0 : Nat → FieldType := fun k => match k with
  | 0 => .int
  | _ => .int
abbrev wsX00 : List Cond := u_ws RX0 TX0 2
theorem nmX0 : ∀ a, a < 2 → ∀ b, b < 2 → a ≠ b → (TX0 a).2.1 ≠ (TX0 b).2.1 := by decide +kernel
theorem tyX0_ok : ∀ k, k < 2 → parseFieldDescriptor (TX0 k).2.2.1 = some (tyX0 k) := by decide +kernel
abbrev cX0_init : ByteArray := prog_2_method_1_code
def yX0_init : MethodName := ⟨RX0, "<init>", "()V"⟩
abbrev cX0_begin : ByteArray := prog_2_method_2_code
def yX0_begin : MethodName := ⟨RX0, "begin", "(I)V"⟩
abbrev cX0_meet : ByteArray := prog_2_method_3_code
def yX0_meet : MethodName := ⟨RX0, "meet", "(LSnowBalls$Ball;II)V"⟩
def RX1 : String := "SnowBalls$Ball"
def TX1 : u_T := fun k => match k with
  | 0 => ("SnowBalls$Ball", "kind", "LSnowBalls$Kind;", false)
  | 1 => ("SnowBalls$Ball", "size", "I", false)
  | 2 => ("SnowBalls$Ball", "place", "I", false)
  | 3 => ("SnowBalls$Ball", "on", "I", false)
  | _ => ("SnowBalls$Ball", "axis", "I", false)
def tyX1 : Nat → FieldType := fun k => match k with
  | 0 => .object "SnowBalls$Kind"
  | 1 => .int
  | 2 => .int
  | 3 => .int
  | _ => .int
abbrev wsX10 : List Cond := u_ws RX1 TX1 5
theorem nmX1 : ∀ a, a < 5 → ∀ b, b < 5 → a ≠ b → (TX1 a).2.1 ≠ (TX1 b).2.1 := by decide +kernel
theorem tyX1_ok : ∀ k, k < 5 → parseFieldDescriptor (TX1 k).2.2.1 = some (tyX1 k) := by decide +kernel
abbrev cX1_init : ByteArray := prog_3_method_1_code
def yX1_init : MethodName := ⟨RX1, "<init>", "()V"⟩
abbrev cX1_begin : ByteArray := prog_3_method_2_code
def yX1_begin : MethodName := ⟨RX1, "begin", "(LSnowBalls$Kind;I)V"⟩
abbrev cX1_copyFrom : ByteArray := prog_3_method_3_code
def yX1_copyFrom : MethodName := ⟨RX1, "copyFrom", "(LSnowBalls$Ball;)V"⟩
abbrev cX1_isGone : ByteArray := prog_3_method_4_code
def yX1_isGone : MethodName := ⟨RX1, "isGone", "()Z"⟩
abbrev cX1_weight : ByteArray := prog_3_method_5_code
def yX1_weight : MethodName := ⟨RX1, "weight", "()I"⟩
abbrev cX1_keepsTo : ByteArray := prog_3_method_6_code
def yX1_keepsTo : MethodName := ⟨RX1, "keepsTo", "(I)Z"⟩
abbrev cX1_leave : ByteArray := prog_3_method_7_code
def yX1_leave : MethodName := ⟨RX1, "leave", "()V"⟩
def RX2 : String := "SnowBalls$Kind"
def TX2 : u_T := fun k => match k with
  | _ => ("", "", "", false)
def tyX2 : Nat → FieldType := fun k => match k with
  | _ => .int
abbrev wsX20 : List Cond := u_ws RX2 TX2 0
theorem nmX2 : ∀ a, a < 0 → ∀ b, b < 0 → a ≠ b → (TX2 a).2.1 ≠ (TX2 b).2.1 := by decide +kernel
theorem tyX2_ok : ∀ k, k < 0 → parseFieldDescriptor (TX2 k).2.2.1 = some (tyX2 k) := by decide +kernel
abbrev cX2_isA : ByteArray := prog_4_method_4_code
def yX2_isA : MethodName := ⟨RX2, "isA", "(LSnowBalls$Kind;)Z"⟩
abbrev cX2_weight : ByteArray := prog_4_method_5_code
def yX2_weight : MethodName := ⟨RX2, "weight", "(I)I"⟩
abbrev cX2_breadth : ByteArray := prog_4_method_6_code
def yX2_breadth : MethodName := ⟨RX2, "breadth", "(I)I"⟩
abbrev cX2_takes : ByteArray := prog_4_method_7_code
def yX2_takes : MethodName := ⟨RX2, "takes", "(III)I"⟩
abbrev cX2_melts : ByteArray := prog_4_method_8_code
def yX2_melts : MethodName := ⟨RX2, "melts", "(I)I"⟩
abbrev cX2_crumbles : ByteArray := prog_4_method_9_code
def yX2_crumbles : MethodName := ⟨RX2, "crumbles", "(I)Z"⟩
abbrev cX2_sticks : ByteArray := prog_4_method_10_code
def yX2_sticks : MethodName := ⟨RX2, "sticks", "()Z"⟩
def RX3 : String := "SnowBalls$Largest"
def TX3 : u_T := fun k => match k with
  | 0 => ("SnowBalls$Largest", "size", "I", false)
  | 1 => ("SnowBalls$Largest", "firstSide", "I", false)
  | _ => ("SnowBalls$Largest", "fewest", "I", false)
def tyX3 : Nat → FieldType := fun k => match k with
  | 0 => .int
  | 1 => .int
  | _ => .int
abbrev wsX30 : List Cond := u_ws RX3 TX3 3
theorem nmX3 : ∀ a, a < 3 → ∀ b, b < 3 → a ≠ b → (TX3 a).2.1 ≠ (TX3 b).2.1 := by decide +kernel
theorem tyX3_ok : ∀ k, k < 3 → parseFieldDescriptor (TX3 k).2.2.1 = some (tyX3 k) := by decide +kernel
abbrev cX3_init : ByteArray := prog_5_method_1_code
def yX3_init : MethodName := ⟨RX3, "<init>", "()V"⟩
abbrev cX3_begin : ByteArray := prog_5_method_2_code
def yX3_begin : MethodName := ⟨RX3, "begin", "()V"⟩
abbrev cX3_meet : ByteArray := prog_5_method_3_code
def yX3_meet : MethodName := ⟨RX3, "meet", "(LSnowBalls$Ball;II)V"⟩
def RX4 : String := "SnowBalls$Lawn"
def TX4 : u_T := fun k => match k with
  | 0 => ("SnowBalls$Lawn", "depths", "[I", true)
  | 1 => ("SnowBalls$Lawn", "balls", "[LSnowBalls$Ball;", true)
  | 2 => ("SnowBalls$Lawn", "ballCount", "I", false)
  | 3 => ("SnowBalls$Lawn", "wetness", "I", false)
  | 4 => ("SnowBalls$Lawn", "strength", "I", false)
  | _ => ("SnowBalls$Lawn", "days", "I", false)
def tyX4 : Nat → FieldType := fun k => match k with
  | 0 => .array .int
  | 1 => .array (.object "SnowBalls$Ball")
  | 2 => .int
  | 3 => .int
  | 4 => .int
  | _ => .int
abbrev wsX40 : List Cond := u_ws RX4 TX4 6
theorem nmX4 : ∀ a, a < 6 → ∀ b, b < 6 → a ≠ b → (TX4 a).2.1 ≠ (TX4 b).2.1 := by decide +kernel
theorem tyX4_ok : ∀ k, k < 6 → parseFieldDescriptor (TX4 k).2.2.1 = some (tyX4 k) := by decide +kernel
abbrev cX4_init : ByteArray := prog_6_method_1_code
def yX4_init : MethodName := ⟨RX4, "<init>", "()V"⟩
abbrev cX4_clear : ByteArray := prog_6_method_2_code
def yX4_clear : MethodName := ⟨RX4, "clear", "()V"⟩
abbrev cX4_copyFrom : ByteArray := prog_6_method_3_code
def yX4_copyFrom : MethodName := ⟨RX4, "copyFrom", "(LSnowBalls$Lawn;)V"⟩
abbrev cX4_allDepths : ByteArray := prog_6_method_4_code
def yX4_allDepths : MethodName := ⟨RX4, "allDepths", "()I"⟩
abbrev cX4_greenPlaces : ByteArray := prog_6_method_5_code
def yX4_greenPlaces : MethodName := ⟨RX4, "greenPlaces", "()I"⟩
abbrev cX4_allSizes : ByteArray := prog_6_method_6_code
def yX4_allSizes : MethodName := ⟨RX4, "allSizes", "()I"⟩
abbrev cX4_goneBalls : ByteArray := prog_6_method_7_code
def yX4_goneBalls : MethodName := ⟨RX4, "goneBalls", "()I"⟩
abbrev cX4_lowestAt : ByteArray := prog_6_method_8_code
def yX4_lowestAt : MethodName := ⟨RX4, "lowestAt", "(I)I"⟩
abbrev cX4_manyAt : ByteArray := prog_6_method_9_code
def yX4_manyAt : MethodName := ⟨RX4, "manyAt", "(I)I"⟩
abbrev cX4_heightAt : ByteArray := prog_6_method_10_code
def yX4_heightAt : MethodName := ⟨RX4, "heightAt", "(I)I"⟩
abbrev cX4_isFree : ByteArray := prog_6_method_11_code
def yX4_isFree : MethodName := ⟨RX4, "isFree", "(I)Z"⟩
abbrev cX4_isTopped : ByteArray := prog_6_method_12_code
def yX4_isTopped : MethodName := ⟨RX4, "isTopped", "(I)Z"⟩
abbrev cX4_standsAlone : ByteArray := prog_6_method_13_code
def yX4_standsAlone : MethodName := ⟨RX4, "standsAlone", "(I)Z"⟩
abbrev cX4_canRoll : ByteArray := prog_6_method_14_code
def yX4_canRoll : MethodName := ⟨RX4, "canRoll", "(II)Z"⟩
abbrev cX4_push : ByteArray := prog_6_method_15_code
def yX4_push : MethodName := ⟨RX4, "push", "(II)I"⟩
abbrev cX4_canLift : ByteArray := prog_6_method_16_code
def yX4_canLift : MethodName := ⟨RX4, "canLift", "(II)Z"⟩
abbrev cX4_raise : ByteArray := prog_6_method_17_code
def yX4_raise : MethodName := ⟨RX4, "raise", "(II)I"⟩
abbrev cX4_melt : ByteArray := prog_6_method_18_code
def yX4_melt : MethodName := ⟨RX4, "melt", "(I)I"⟩
abbrev cX4_lower : ByteArray := prog_6_method_19_code
def yX4_lower : MethodName := ⟨RX4, "lower", "(II)V"⟩
abbrev cX4_daysToFirstGone : ByteArray := prog_6_method_20_code
def yX4_daysToFirstGone : MethodName := ⟨RX4, "daysToFirstGone", "(I)I"⟩
abbrev cX4_highestThree : ByteArray := prog_6_method_21_code
def yX4_highestThree : MethodName := ⟨RX4, "highestThree", "()I"⟩
abbrev cX4_heightOfAll : ByteArray := prog_6_method_22_code
def yX4_heightOfAll : MethodName := ⟨RX4, "heightOfAll", "(I)I"⟩
abbrev cX4_couldStack : ByteArray := prog_6_method_23_code
def yX4_couldStack : MethodName := ⟨RX4, "couldStack", "(I)Z"⟩
abbrev cX4_couldJoin : ByteArray := prog_6_method_24_code
def yX4_couldJoin : MethodName := ⟨RX4, "couldJoin", "(II)Z"⟩
abbrev cX4_isIn : ByteArray := prog_6_method_25_code
def yX4_isIn : MethodName := ⟨RX4, "isIn", "(II)Z"⟩
def RX5 : String := "SnowBalls$Search"
def TX5 : u_T := fun k => match k with
  | _ => ("", "", "", false)
def tyX5 : Nat → FieldType := fun k => match k with
  | _ => .int
abbrev wsX50 : List Cond := u_ws RX5 TX5 0
theorem nmX5 : ∀ a, a < 0 → ∀ b, b < 0 → a ≠ b → (TX5 a).2.1 ≠ (TX5 b).2.1 := by decide +kernel
theorem tyX5_ok : ∀ k, k < 0 → parseFieldDescriptor (TX5 k).2.2.1 = some (tyX5 k) := by decide +kernel
abbrev cX5_init : ByteArray := prog_7_method_1_code
def yX5_init : MethodName := ⟨RX5, "<init>", "()V"⟩
def RX6 : String := "SnowBalls$Ways"
def TX6 : u_T := fun k => match k with
  | 0 => ("SnowBalls$Ways", "ways", "I", false)
  | 1 => ("SnowBalls$Ways", "rolls", "I", false)
  | _ => ("SnowBalls$Ways", "size", "I", false)
def tyX6 : Nat → FieldType := fun k => match k with
  | 0 => .int
  | 1 => .int
  | _ => .int
abbrev wsX60 : List Cond := u_ws RX6 TX6 3
theorem nmX6 : ∀ a, a < 3 → ∀ b, b < 3 → a ≠ b → (TX6 a).2.1 ≠ (TX6 b).2.1 := by decide +kernel
theorem tyX6_ok : ∀ k, k < 3 → parseFieldDescriptor (TX6 k).2.2.1 = some (tyX6 k) := by decide +kernel
abbrev cX6_init : ByteArray := prog_8_method_1_code
def yX6_init : MethodName := ⟨RX6, "<init>", "()V"⟩
abbrev cX6_begin : ByteArray := prog_8_method_2_code
def yX6_begin : MethodName := ⟨RX6, "begin", "(II)V"⟩
abbrev cX6_meet : ByteArray := prog_8_method_3_code
def yX6_meet : MethodName := ⟨RX6, "meet", "(LSnowBalls$Ball;II)V"⟩
def RX7 : String := "SnowBalls"
def TX7 : u_T := fun k => match k with
  | 0 => ("SnowBalls", "page", "[C", true)
  | 1 => ("SnowBalls", "now", "LSnowBalls$Lawn;", true)
  | 2 => ("SnowBalls", "kept", "LSnowBalls$Lawn;", true)
  | 3 => ("SnowBalls", "trial", "LSnowBalls$Lawn;", true)
  | 4 => ("SnowBalls", "largestSearch", "LSnowBalls$Largest;", true)
  | 5 => ("SnowBalls", "arrivalSearch", "LSnowBalls$Arrival;", true)
  | 6 => ("SnowBalls", "waysSearch", "LSnowBalls$Ways;", true)
  | 7 => ("SnowBalls", "letters", "I", false)
  | 8 => ("SnowBalls", "lawnsRead", "I", false)
  | 9 => ("SnowBalls", "searches", "I", false)
  | 10 => ("SnowBalls", "books", "I", false)
  | _ => ("SnowBalls", "hasImage", "Z", false)
def tyX7 : Nat → FieldType := fun k => match k with
  | 0 => .array .char
  | 1 => .object "SnowBalls$Lawn"
  | 2 => .object "SnowBalls$Lawn"
  | 3 => .object "SnowBalls$Lawn"
  | 4 => .object "SnowBalls$Largest"
  | 5 => .object "SnowBalls$Arrival"
  | 6 => .object "SnowBalls$Ways"
  | 7 => .int
  | 8 => .int
  | 9 => .int
  | 10 => .int
  | _ => .boolean
abbrev wsX70 : List Cond := u_ws RX7 TX7 12
theorem nmX7 : ∀ a, a < 12 → ∀ b, b < 12 → a ≠ b → (TX7 a).2.1 ≠ (TX7 b).2.1 := by decide +kernel
theorem tyX7_ok : ∀ k, k < 12 → parseFieldDescriptor (TX7 k).2.2.1 = some (tyX7 k) := by decide +kernel
abbrev cX7_init : ByteArray := prog_1_method_1_code
def yX7_init : MethodName := ⟨RX7, "<init>", "()V"⟩
abbrev cX7_letter : ByteArray := prog_1_method_2_code
def yX7_letter : MethodName := ⟨RX7, "letter", "(I)I"⟩
abbrev cX7_blank : ByteArray := prog_1_method_3_code
def yX7_blank : MethodName := ⟨RX7, "blank", "()I"⟩
abbrev cX7_fault : ByteArray := prog_1_method_4_code
def yX7_fault : MethodName := ⟨RX7, "fault", "()I"⟩
abbrev cX7_lawn : ByteArray := prog_1_method_5_code
def yX7_lawn : MethodName := ⟨RX7, "lawn", "()I"⟩
abbrev cX7_place : ByteArray := prog_1_method_6_code
def yX7_place : MethodName := ⟨RX7, "place", "(II)I"⟩
abbrev cX7_strength : ByteArray := prog_1_method_7_code
def yX7_strength : MethodName := ⟨RX7, "strength", "(I)I"⟩
abbrev cX7_ball : ByteArray := prog_1_method_8_code
def yX7_ball : MethodName := ⟨RX7, "ball", "(II)I"⟩
abbrev cX7_about : ByteArray := prog_1_method_9_code
def yX7_about : MethodName := ⟨RX7, "about", "(II)I"⟩
abbrev cX7_as : ByteArray := prog_1_method_10_code
def yX7_as : MethodName := ⟨RX7, "as", "(II)I"⟩
abbrev cX7_may : ByteArray := prog_1_method_11_code
def yX7_may : MethodName := ⟨RX7, "may", "(II)I"⟩
abbrev cX7_roll : ByteArray := prog_1_method_12_code
def yX7_roll : MethodName := ⟨RX7, "roll", "(II)I"⟩
abbrev cX7_lift : ByteArray := prog_1_method_13_code
def yX7_lift : MethodName := ⟨RX7, "lift", "(II)I"⟩
abbrev cX7_day : ByteArray := prog_1_method_14_code
def yX7_day : MethodName := ⟨RX7, "day", "(I)I"⟩
abbrev cX7_largest : ByteArray := prog_1_method_15_code
def yX7_largest : MethodName := ⟨RX7, "largest", "(III)I"⟩
abbrev cX7_comes : ByteArray := prog_1_method_16_code
def yX7_comes : MethodName := ⟨RX7, "comes", "(II)I"⟩
abbrev cX7_highest : ByteArray := prog_1_method_17_code
def yX7_highest : MethodName := ⟨RX7, "highest", "(I)I"⟩
abbrev cX7_lasts : ByteArray := prog_1_method_18_code
def yX7_lasts : MethodName := ⟨RX7, "lasts", "(I)I"⟩
abbrev cX7_book : ByteArray := prog_1_method_19_code
def yX7_book : MethodName := ⟨RX7, "book", "(IIII)I"⟩
abbrev cX7_games : ByteArray := prog_1_method_20_code
def yX7_games : MethodName := ⟨RX7, "games", "(III)I"⟩
abbrev cX7_image : ByteArray := prog_1_method_21_code
def yX7_image : MethodName := ⟨RX7, "image", "()I"⟩
abbrev cX7_restore : ByteArray := prog_1_method_22_code
def yX7_restore : MethodName := ⟨RX7, "restore", "()I"⟩
abbrev cX7_count : ByteArray := prog_1_method_23_code
def yX7_count : MethodName := ⟨RX7, "count", "(I)I"⟩
abbrev cX7_digest : ByteArray := prog_1_method_24_code
def yX7_digest : MethodName := ⟨RX7, "digest", "()J"⟩
abbrev cX7_digestOfPlaces : ByteArray := prog_1_method_25_code
def yX7_digestOfPlaces : MethodName := ⟨RX7, "digestOfPlaces", "(J)J"⟩
abbrev cX7_digestOfBalls : ByteArray := prog_1_method_26_code
def yX7_digestOfBalls : MethodName := ⟨RX7, "digestOfBalls", "(J)J"⟩
abbrev cX7_mixed : ByteArray := prog_1_method_27_code
def yX7_mixed : MethodName := ⟨RX7, "mixed", "(JJ)J"⟩
abbrev cX7_hasLawn : ByteArray := prog_1_method_28_code
def yX7_hasLawn : MethodName := ⟨RX7, "hasLawn", "()Z"⟩
abbrev cX7_isBall : ByteArray := prog_1_method_29_code
def yX7_isBall : MethodName := ⟨RX7, "isBall", "(I)Z"⟩
abbrev cX7_maySearch : ByteArray := prog_1_method_30_code
def yX7_maySearch : MethodName := ⟨RX7, "maySearch", "(I)Z"⟩
abbrev cX7_isPlace : ByteArray := prog_1_method_31_code
def yX7_isPlace : MethodName := ⟨RX7, "isPlace", "(I)Z"⟩
abbrev cX7_isKind : ByteArray := prog_1_method_32_code
def yX7_isKind : MethodName := ⟨RX7, "isKind", "(I)Z"⟩
abbrev cX7_isSide : ByteArray := prog_1_method_33_code
def yX7_isSide : MethodName := ⟨RX7, "isSide", "(I)Z"⟩
abbrev cX7_isOutside : ByteArray := prog_1_method_34_code
def yX7_isOutside : MethodName := ⟨RX7, "isOutside", "(III)Z"⟩
abbrev cX7_belongsAt : ByteArray := prog_1_method_35_code
def yX7_belongsAt : MethodName := ⟨RX7, "belongsAt", "(IC)Z"⟩
abbrev cX7_letterOf : ByteArray := prog_1_method_36_code
def yX7_letterOf : MethodName := ⟨RX7, "letterOf", "(I)I"⟩
abbrev cX7_beside : ByteArray := prog_1_method_37_code
def yX7_beside : MethodName := ⟨RX7, "beside", "(II)I"⟩
abbrev cX7_areBeside : ByteArray := prog_1_method_38_code
def yX7_areBeside : MethodName := ⟨RX7, "areBeside", "(II)Z"⟩
abbrev cX7_axisOf : ByteArray := prog_1_method_39_code
def yX7_axisOf : MethodName := ⟨RX7, "axisOf", "(I)I"⟩
abbrev cX7_rootOf : ByteArray := prog_1_method_40_code
def yX7_rootOf : MethodName := ⟨RX7, "rootOf", "(I)I"⟩
abbrev cX7_nextSeed : ByteArray := prog_1_method_41_code
def yX7_nextSeed : MethodName := ⟨RX7, "nextSeed", "(J)J"⟩
abbrev cX7_drawOf : ByteArray := prog_1_method_42_code
def yX7_drawOf : MethodName := ⟨RX7, "drawOf", "(JI)I"⟩
abbrev cX7_explore : ByteArray := prog_1_method_43_code
def yX7_explore : MethodName := ⟨RX7, "explore", "(LSnowBalls$Lawn;ILSnowBalls$Search;III)V"⟩
def RX8 : String := "SnowBallsModel"
def TX8 : u_T := fun k => match k with
  | 0 => ("SnowBallsModel", "isLawn", "Z", false)
  | 1 => ("SnowBallsModel", "lawns", "I", false)
  | 2 => ("SnowBallsModel", "depthOf", "[I", true)
  | 3 => ("SnowBallsModel", "wetness", "I", false)
  | 4 => ("SnowBallsModel", "strength", "I", false)
  | 5 => ("SnowBallsModel", "days", "I", false)
  | 6 => ("SnowBallsModel", "balls", "I", false)
  | 7 => ("SnowBallsModel", "kindOf", "[I", true)
  | 8 => ("SnowBallsModel", "sizeOf", "[I", true)
  | 9 => ("SnowBallsModel", "placeOf", "[I", true)
  | 10 => ("SnowBallsModel", "onOf", "[I", true)
  | 11 => ("SnowBallsModel", "sticksOf", "[I", true)
  | 12 => ("SnowBallsModel", "asks", "I", false)
  | 13 => ("SnowBallsModel", "books", "I", false)
  | 14 => ("SnowBallsModel", "pageLength", "I", false)
  | 15 => ("SnowBallsModel", "page", "[B", true)
  | 16 => ("SnowBallsModel", "faultAt", "I", false)
  | 17 => ("SnowBallsModel", "savedDepth", "[I", true)
  | 18 => ("SnowBallsModel", "savedSize", "I", false)
  | 19 => ("SnowBallsModel", "savedPlace", "I", false)
  | 20 => ("SnowBallsModel", "savedSticks", "I", false)
  | 21 => ("SnowBallsModel", "bestSize", "I", false)
  | 22 => ("SnowBallsModel", "bestFirst", "I", false)
  | 23 => ("SnowBallsModel", "seedNow", "J", false)
  | 24 => ("SnowBallsModel", "gameSize", "[I", true)
  | 25 => ("SnowBallsModel", "gamePlace", "[I", true)
  | 26 => ("SnowBallsModel", "gameSticks", "[I", true)
  | 27 => ("SnowBallsModel", "gameDepth", "[I", true)
  | 28 => ("SnowBallsModel", "isKept", "Z", false)
  | 29 => ("SnowBallsModel", "keptLawn", "I", false)
  | 30 => ("SnowBallsModel", "keptBalls", "I", false)
  | 31 => ("SnowBallsModel", "keptStrength", "I", false)
  | 32 => ("SnowBallsModel", "keptDays", "I", false)
  | 33 => ("SnowBallsModel", "keptDepth", "[I", true)
  | 34 => ("SnowBallsModel", "keptSize", "[I", true)
  | 35 => ("SnowBallsModel", "keptPlace", "[I", true)
  | 36 => ("SnowBallsModel", "keptOn", "[I", true)
  | 37 => ("SnowBallsModel", "keptSticks", "[I", true)
  | _ => ("SnowBallsModel", "h", "J", false)
def tyX8 : Nat → FieldType := fun k => match k with
  | 0 => .boolean
  | 1 => .int
  | 2 => .array .int
  | 3 => .int
  | 4 => .int
  | 5 => .int
  | 6 => .int
  | 7 => .array .int
  | 8 => .array .int
  | 9 => .array .int
  | 10 => .array .int
  | 11 => .array .int
  | 12 => .int
  | 13 => .int
  | 14 => .int
  | 15 => .array .byte
  | 16 => .int
  | 17 => .array .int
  | 18 => .int
  | 19 => .int
  | 20 => .int
  | 21 => .int
  | 22 => .int
  | 23 => .long
  | 24 => .array .int
  | 25 => .array .int
  | 26 => .array .int
  | 27 => .array .int
  | 28 => .boolean
  | 29 => .int
  | 30 => .int
  | 31 => .int
  | 32 => .int
  | 33 => .array .int
  | 34 => .array .int
  | 35 => .array .int
  | 36 => .array .int
  | 37 => .array .int
  | _ => .long
abbrev wsX80 : List Cond := u_ws RX8 TX8 39
theorem nmX8 : ∀ a, a < 39 → ∀ b, b < 39 → a ≠ b → (TX8 a).2.1 ≠ (TX8 b).2.1 := by decide +kernel
theorem tyX8_ok : ∀ k, k < 39 → parseFieldDescriptor (TX8 k).2.2.1 = some (tyX8 k) := by decide +kernel
abbrev cX8_init : ByteArray := prog_10_method_1_code
def yX8_init : MethodName := ⟨RX8, "<init>", "()V"⟩
abbrev cX8_within : ByteArray := prog_10_method_3_code
def yX8_within : MethodName := ⟨RX8, "within", "(III)Z"⟩
abbrev cX8_letter : ByteArray := prog_10_method_4_code
def yX8_letter : MethodName := ⟨RX8, "letter", "(I)I"⟩
abbrev cX8_blank : ByteArray := prog_10_method_5_code
def yX8_blank : MethodName := ⟨RX8, "blank", "()I"⟩
abbrev cX8_readLawn : ByteArray := prog_10_method_6_code
def yX8_readLawn : MethodName := ⟨RX8, "readLawn", "()V"⟩
abbrev cX8_fault : ByteArray := prog_10_method_7_code
def yX8_fault : MethodName := ⟨RX8, "fault", "()I"⟩
abbrev cX8_lawn : ByteArray := prog_10_method_8_code
def yX8_lawn : MethodName := ⟨RX8, "lawn", "()I"⟩
abbrev cX8_depthAll : ByteArray := prog_10_method_9_code
def yX8_depthAll : MethodName := ⟨RX8, "depthAll", "()I"⟩
abbrev cX8_isPlace : ByteArray := prog_10_method_10_code
def yX8_isPlace : MethodName := ⟨RX8, "isPlace", "(I)Z"⟩
abbrev cX8_standsOn : ByteArray := prog_10_method_11_code
def yX8_standsOn : MethodName := ⟨RX8, "standsOn", "(I)I"⟩
abbrev cX8_root : ByteArray := prog_10_method_12_code
def yX8_root : MethodName := ⟨RX8, "root", "(I)I"⟩
abbrev cX8_heightOf : ByteArray := prog_10_method_13_code
def yX8_heightOf : MethodName := ⟨RX8, "heightOf", "(I)I"⟩
abbrev cX8_place : ByteArray := prog_10_method_14_code
def yX8_place : MethodName := ⟨RX8, "place", "(II)I"⟩
abbrev cX8_strength : ByteArray := prog_10_method_15_code
def yX8_strength : MethodName := ⟨RX8, "strength", "(I)I"⟩
abbrev cX8_isBall : ByteArray := prog_10_method_16_code
def yX8_isBall : MethodName := ⟨RX8, "isBall", "(I)Z"⟩
abbrev cX8_ball : ByteArray := prog_10_method_17_code
def yX8_ball : MethodName := ⟨RX8, "ball", "(II)I"⟩
abbrev cX8_lay : ByteArray := prog_10_method_18_code
def yX8_lay : MethodName := ⟨RX8, "lay", "(III)V"⟩
abbrev cX8_weighs : ByteArray := prog_10_method_19_code
def yX8_weighs : MethodName := ⟨RX8, "weighs", "(I)I"⟩
abbrev cX8_breadth : ByteArray := prog_10_method_20_code
def yX8_breadth : MethodName := ⟨RX8, "breadth", "(I)I"⟩
abbrev cX8_ballNow : ByteArray := prog_10_method_21_code
def yX8_ballNow : MethodName := ⟨RX8, "ballNow", "(II)I"⟩
abbrev cX8_about : ByteArray := prog_10_method_22_code
def yX8_about : MethodName := ⟨RX8, "about", "(II)I"⟩
abbrev cX8_as : ByteArray := prog_10_method_23_code
def yX8_as : MethodName := ⟨RX8, "as", "(II)I"⟩
abbrev cX8_beside : ByteArray := prog_10_method_24_code
def yX8_beside : MethodName := ⟨RX8, "beside", "(II)I"⟩
abbrev cX8_above : ByteArray := prog_10_method_25_code
def yX8_above : MethodName := ⟨RX8, "above", "(I)I"⟩
abbrev cX8_isFree : ByteArray := prog_10_method_26_code
def yX8_isFree : MethodName := ⟨RX8, "isFree", "(I)Z"⟩
abbrev cX8_mayRoll : ByteArray := prog_10_method_27_code
def yX8_mayRoll : MethodName := ⟨RX8, "mayRoll", "(II)Z"⟩
abbrev cX8_doRoll : ByteArray := prog_10_method_28_code
def yX8_doRoll : MethodName := ⟨RX8, "doRoll", "(II)V"⟩
abbrev cX8_may : ByteArray := prog_10_method_29_code
def yX8_may : MethodName := ⟨RX8, "may", "(II)I"⟩
abbrev cX8_roll : ByteArray := prog_10_method_30_code
def yX8_roll : MethodName := ⟨RX8, "roll", "(II)I"⟩
abbrev cX8_areBeside : ByteArray := prog_10_method_31_code
def yX8_areBeside : MethodName := ⟨RX8, "areBeside", "(II)Z"⟩
abbrev cX8_standMany : ByteArray := prog_10_method_32_code
def yX8_standMany : MethodName := ⟨RX8, "standMany", "(I)I"⟩
abbrev cX8_mayLift : ByteArray := prog_10_method_33_code
def yX8_mayLift : MethodName := ⟨RX8, "mayLift", "(II)Z"⟩
abbrev cX8_lift : ByteArray := prog_10_method_34_code
def yX8_lift : MethodName := ⟨RX8, "lift", "(II)I"⟩
abbrev cX8_loss : ByteArray := prog_10_method_35_code
def yX8_loss : MethodName := ⟨RX8, "loss", "(II)I"⟩
abbrev cX8_day : ByteArray := prog_10_method_36_code
def yX8_day : MethodName := ⟨RX8, "day", "(I)I"⟩
abbrev cX8_goAway : ByteArray := prog_10_method_37_code
def yX8_goAway : MethodName := ⟨RX8, "goAway", "(I)V"⟩
abbrev cX8_save : ByteArray := prog_10_method_38_code
def yX8_save : MethodName := ⟨RX8, "save", "(I)V"⟩
abbrev cX8_back : ByteArray := prog_10_method_39_code
def yX8_back : MethodName := ⟨RX8, "back", "(I)V"⟩
abbrev cX8_power : ByteArray := prog_10_method_40_code
def yX8_power : MethodName := ⟨RX8, "power", "(I)I"⟩
abbrev cX8_rollsBy : ByteArray := prog_10_method_41_code
def yX8_rollsBy : MethodName := ⟨RX8, "rollsBy", "(III)Z"⟩
abbrev cX8_layLargest : ByteArray := prog_10_method_42_code
def yX8_layLargest : MethodName := ⟨RX8, "layLargest", "(II)V"⟩
abbrev cX8_largest : ByteArray := prog_10_method_43_code
def yX8_largest : MethodName := ⟨RX8, "largest", "(III)I"⟩
abbrev cX8_comesNow : ByteArray := prog_10_method_44_code
def yX8_comesNow : MethodName := ⟨RX8, "comesNow", "(II)I"⟩
abbrev cX8_comes : ByteArray := prog_10_method_45_code
def yX8_comes : MethodName := ⟨RX8, "comes", "(II)I"⟩
abbrev cX8_mayStand : ByteArray := prog_10_method_46_code
def yX8_mayStand : MethodName := ⟨RX8, "mayStand", "(III)Z"⟩
abbrev cX8_highestNow : ByteArray := prog_10_method_47_code
def yX8_highestNow : MethodName := ⟨RX8, "highestNow", "(I)I"⟩
abbrev cX8_highest : ByteArray := prog_10_method_48_code
def yX8_highest : MethodName := ⟨RX8, "highest", "(I)I"⟩
abbrev cX8_lastsNow : ByteArray := prog_10_method_49_code
def yX8_lastsNow : MethodName := ⟨RX8, "lastsNow", "(I)I"⟩
abbrev cX8_lasts : ByteArray := prog_10_method_50_code
def yX8_lasts : MethodName := ⟨RX8, "lasts", "(I)I"⟩
abbrev cX8_bookNow : ByteArray := prog_10_method_51_code
def yX8_bookNow : MethodName := ⟨RX8, "bookNow", "(IIII)I"⟩
abbrev cX8_book : ByteArray := prog_10_method_52_code
def yX8_book : MethodName := ⟨RX8, "book", "(IIII)I"⟩
abbrev cX8_draw : ByteArray := prog_10_method_53_code
def yX8_draw : MethodName := ⟨RX8, "draw", "(I)I"⟩
abbrev cX8_sizeAll : ByteArray := prog_10_method_54_code
def yX8_sizeAll : MethodName := ⟨RX8, "sizeAll", "()I"⟩
abbrev cX8_gamesNow : ByteArray := prog_10_method_55_code
def yX8_gamesNow : MethodName := ⟨RX8, "gamesNow", "(III)I"⟩
abbrev cX8_games : ByteArray := prog_10_method_56_code
def yX8_games : MethodName := ⟨RX8, "games", "(III)I"⟩
abbrev cX8_image : ByteArray := prog_10_method_57_code
def yX8_image : MethodName := ⟨RX8, "image", "()I"⟩
abbrev cX8_restore : ByteArray := prog_10_method_58_code
def yX8_restore : MethodName := ⟨RX8, "restore", "()I"⟩
abbrev cX8_goneMany : ByteArray := prog_10_method_59_code
def yX8_goneMany : MethodName := ⟨RX8, "goneMany", "()I"⟩
abbrev cX8_greenMany : ByteArray := prog_10_method_60_code
def yX8_greenMany : MethodName := ⟨RX8, "greenMany", "()I"⟩
abbrev cX8_howMany : ByteArray := prog_10_method_61_code
def yX8_howMany : MethodName := ⟨RX8, "howMany", "(I)I"⟩
abbrev cX8_count : ByteArray := prog_10_method_62_code
def yX8_count : MethodName := ⟨RX8, "count", "(I)I"⟩
abbrev cX8_mix : ByteArray := prog_10_method_63_code
def yX8_mix : MethodName := ⟨RX8, "mix", "(J)V"⟩
abbrev cX8_digest : ByteArray := prog_10_method_64_code
def yX8_digest : MethodName := ⟨RX8, "digest", "()J"⟩
def RJx29ce0 : String := "java/lang/Enum"
def TJx29ce0 : u_T := fun k => match k with
  | _ => ("", "", "", false)
def tyJx29ce0 : Nat → FieldType := fun k => match k with
  | _ => .int
abbrev wsJx29ce00 : List Cond := u_ws RJx29ce0 TJx29ce0 0
theorem nmJx29ce0 : ∀ a, a < 0 → ∀ b, b < 0 → a ≠ b → (TJx29ce0 a).2.1 ≠ (TJx29ce0 b).2.1 := by decide +kernel
theorem tyJx29ce0_ok : ∀ k, k < 0 → parseFieldDescriptor (TJx29ce0 k).2.2.1 = some (tyJx29ce0 k) := by decide +kernel
def RJ6 : String := "java/lang/Integer"
def TJ6 : u_T := fun k => match k with
  | _ => ("", "", "", false)
def tyJ6 : Nat → FieldType := fun k => match k with
  | _ => .int
abbrev wsJ60 : List Cond := u_ws RJ6 TJ6 0
theorem nmJ6 : ∀ a, a < 0 → ∀ b, b < 0 → a ≠ b → (TJ6 a).2.1 ≠ (TJ6 b).2.1 := by decide +kernel
theorem tyJ6_ok : ∀ k, k < 0 → parseFieldDescriptor (TJ6 k).2.2.1 = some (tyJ6 k) := by decide +kernel
abbrev cJ6_bitCount_0f7a4 : ByteArray := prog_12_method_49_code
def yJ6_bitCount_0f7a4 : MethodName := ⟨RJ6, "bitCount", "(I)I"⟩
def RJ9 : String := "java/lang/Math"
def TJ9 : u_T := fun k => match k with
  | _ => ("", "", "", false)
def tyJ9 : Nat → FieldType := fun k => match k with
  | _ => .int
abbrev wsJ90 : List Cond := u_ws RJ9 TJ9 0
theorem nmJ9 : ∀ a, a < 0 → ∀ b, b < 0 → a ≠ b → (TJ9 a).2.1 ≠ (TJ9 b).2.1 := by decide +kernel
theorem tyJ9_ok : ∀ k, k < 0 → parseFieldDescriptor (TJ9 k).2.2.1 = some (tyJ9 k) := by decide +kernel
abbrev cJ9_min_7cf53 : ByteArray := prog_13_method_69_code
def yJ9_min_7cf53 : MethodName := ⟨RJ9, "min", "(II)I"⟩
def RL : String := "SnowBallsLaw"
abbrev cL_law : ByteArray := code
def yL_law : MethodName := ⟨RL, "law", "([I)Z"⟩
abbrev vwCl : List vw_C := [(RX0, TX0, 2), (RX1, TX1, 5), (RX3, TX3, 3), (RX4, TX4, 6), (RX6, TX6, 3), (RX7, TX7, 12), (RX8, TX8, 39)]
end
section
theorem dX0_init_0 : decode cX0_init 0 = .ok (.aload_n 0, 1) := by decide +kernel
theorem dX0_init_1 : decode cX0_init 1 = .ok (.invokespecial 3, 3) := by decide +kernel
theorem dX0_init_4 : decode cX0_init 4 = .ok (.return_, 1) := by decide +kernel
theorem dX0_begin_0 : decode cX0_begin 0 = .ok (.aload_n 0, 1) := by decide +kernel
theorem dX0_begin_1 : decode cX0_begin 1 = .ok (.iload_n 1, 1) := by decide +kernel
theorem dX0_begin_2 : decode cX0_begin 2 = .ok (.putfield 9, 3) := by decide +kernel
theorem dX0_begin_5 : decode cX0_begin 5 = .ok (.aload_n 0, 1) := by decide +kernel
theorem dX0_begin_6 : decode cX0_begin 6 = .ok (.iconst (-1), 1) := by decide +kernel
theorem dX0_begin_7 : decode cX0_begin 7 = .ok (.putfield 15, 3) := by decide +kernel
theorem dX0_begin_10 : decode cX0_begin 10 = .ok (.return_, 1) := by decide +kernel
theorem dX0_meet_0 : decode cX0_meet 0 = .ok (.aload_n 1, 1) := by decide +kernel
theorem dX0_meet_1 : decode cX0_meet 1 = .ok (.getfield 18, 3) := by decide +kernel
theorem dX0_meet_4 : decode cX0_meet 4 = .ok (.aload_n 0, 1) := by decide +kernel
theorem dX0_meet_5 : decode cX0_meet 5 = .ok (.getfield 9, 3) := by decide +kernel
theorem dX0_meet_8 : decode cX0_meet 8 = .ok (.if_icmp .eq 4, 3) := by decide +kernel
theorem dX0_meet_11 : decode cX0_meet 11 = .ok (.return_, 1) := by decide +kernel
theorem dX0_meet_12 : decode cX0_meet 12 = .ok (.aload_n 0, 1) := by decide +kernel
theorem dX0_meet_13 : decode cX0_meet 13 = .ok (.getfield 15, 3) := by decide +kernel
theorem dX0_meet_16 : decode cX0_meet 16 = .ok (.iconst (-1), 1) := by decide +kernel
theorem dX0_meet_17 : decode cX0_meet 17 = .ok (.if_icmp .eq 11, 3) := by decide +kernel
theorem dX0_meet_20 : decode cX0_meet 20 = .ok (.iload_n 2, 1) := by decide +kernel
theorem dX0_meet_21 : decode cX0_meet 21 = .ok (.aload_n 0, 1) := by decide +kernel
theorem dX0_meet_22 : decode cX0_meet 22 = .ok (.getfield 15, 3) := by decide +kernel
theorem dX0_meet_25 : decode cX0_meet 25 = .ok (.if_icmp .ge 8, 3) := by decide +kernel
theorem dX0_meet_28 : decode cX0_meet 28 = .ok (.aload_n 0, 1) := by decide +kernel
theorem dX0_meet_29 : decode cX0_meet 29 = .ok (.iload_n 2, 1) := by decide +kernel
theorem dX0_meet_30 : decode cX0_meet 30 = .ok (.putfield 15, 3) := by decide +kernel
theorem dX0_meet_33 : decode cX0_meet 33 = .ok (.return_, 1) := by decide +kernel
theorem dX1_init_0 : decode cX1_init 0 = .ok (.aload_n 0, 1) := by decide +kernel
theorem dX1_init_1 : decode cX1_init 1 = .ok (.invokespecial 3, 3) := by decide +kernel
theorem dX1_init_4 : decode cX1_init 4 = .ok (.aload_n 0, 1) := by decide +kernel
theorem dX1_init_5 : decode cX1_init 5 = .ok (.getstatic 9, 3) := by decide +kernel
theorem dX1_init_8 : decode cX1_init 8 = .ok (.putfield 15, 3) := by decide +kernel
theorem dX1_init_11 : decode cX1_init 11 = .ok (.aload_n 0, 1) := by decide +kernel
theorem dX1_init_12 : decode cX1_init 12 = .ok (.iconst 0, 1) := by decide +kernel
theorem dX1_init_13 : decode cX1_init 13 = .ok (.putfield 20, 3) := by decide +kernel
theorem dX1_init_16 : decode cX1_init 16 = .ok (.aload_n 0, 1) := by decide +kernel
theorem dX1_init_17 : decode cX1_init 17 = .ok (.iconst (-1), 1) := by decide +kernel
theorem dX1_init_18 : decode cX1_init 18 = .ok (.putfield 24, 3) := by decide +kernel
theorem dX1_init_21 : decode cX1_init 21 = .ok (.aload_n 0, 1) := by decide +kernel
theorem dX1_init_22 : decode cX1_init 22 = .ok (.iconst (-1), 1) := by decide +kernel
theorem dX1_init_23 : decode cX1_init 23 = .ok (.putfield 27, 3) := by decide +kernel
theorem dX1_init_26 : decode cX1_init 26 = .ok (.aload_n 0, 1) := by decide +kernel
theorem dX1_init_27 : decode cX1_init 27 = .ok (.iconst (-1), 1) := by decide +kernel
theorem dX1_init_28 : decode cX1_init 28 = .ok (.putfield 30, 3) := by decide +kernel
theorem dX1_init_31 : decode cX1_init 31 = .ok (.return_, 1) := by decide +kernel
theorem dX1_begin_0 : decode cX1_begin 0 = .ok (.aload_n 0, 1) := by decide +kernel
theorem dX1_begin_1 : decode cX1_begin 1 = .ok (.aload_n 1, 1) := by decide +kernel
theorem dX1_begin_2 : decode cX1_begin 2 = .ok (.putfield 15, 3) := by decide +kernel
theorem dX1_begin_5 : decode cX1_begin 5 = .ok (.aload_n 0, 1) := by decide +kernel
theorem dX1_begin_6 : decode cX1_begin 6 = .ok (.iconst 1, 1) := by decide +kernel
theorem dX1_begin_7 : decode cX1_begin 7 = .ok (.putfield 20, 3) := by decide +kernel
theorem dX1_begin_10 : decode cX1_begin 10 = .ok (.aload_n 0, 1) := by decide +kernel
theorem dX1_begin_11 : decode cX1_begin 11 = .ok (.iload_n 2, 1) := by decide +kernel
theorem dX1_begin_12 : decode cX1_begin 12 = .ok (.putfield 24, 3) := by decide +kernel
theorem dX1_begin_15 : decode cX1_begin 15 = .ok (.aload_n 0, 1) := by decide +kernel
theorem dX1_begin_16 : decode cX1_begin 16 = .ok (.iconst (-1), 1) := by decide +kernel
theorem dX1_begin_17 : decode cX1_begin 17 = .ok (.putfield 27, 3) := by decide +kernel
theorem dX1_begin_20 : decode cX1_begin 20 = .ok (.aload_n 0, 1) := by decide +kernel
theorem dX1_begin_21 : decode cX1_begin 21 = .ok (.iconst (-1), 1) := by decide +kernel
theorem dX1_begin_22 : decode cX1_begin 22 = .ok (.putfield 30, 3) := by decide +kernel
theorem dX1_begin_25 : decode cX1_begin 25 = .ok (.return_, 1) := by decide +kernel
theorem dX1_copyFrom_0 : decode cX1_copyFrom 0 = .ok (.aload_n 0, 1) := by decide +kernel
theorem dX1_copyFrom_1 : decode cX1_copyFrom 1 = .ok (.aload_n 1, 1) := by decide +kernel
theorem dX1_copyFrom_2 : decode cX1_copyFrom 2 = .ok (.getfield 15, 3) := by decide +kernel
theorem dX1_copyFrom_5 : decode cX1_copyFrom 5 = .ok (.putfield 15, 3) := by decide +kernel
theorem dX1_copyFrom_8 : decode cX1_copyFrom 8 = .ok (.aload_n 0, 1) := by decide +kernel
theorem dX1_copyFrom_9 : decode cX1_copyFrom 9 = .ok (.aload_n 1, 1) := by decide +kernel
theorem dX1_copyFrom_10 : decode cX1_copyFrom 10 = .ok (.getfield 20, 3) := by decide +kernel
theorem dX1_copyFrom_13 : decode cX1_copyFrom 13 = .ok (.putfield 20, 3) := by decide +kernel
theorem dX1_copyFrom_16 : decode cX1_copyFrom 16 = .ok (.aload_n 0, 1) := by decide +kernel
theorem dX1_copyFrom_17 : decode cX1_copyFrom 17 = .ok (.aload_n 1, 1) := by decide +kernel
theorem dX1_copyFrom_18 : decode cX1_copyFrom 18 = .ok (.getfield 24, 3) := by decide +kernel
theorem dX1_copyFrom_21 : decode cX1_copyFrom 21 = .ok (.putfield 24, 3) := by decide +kernel
theorem dX1_copyFrom_24 : decode cX1_copyFrom 24 = .ok (.aload_n 0, 1) := by decide +kernel
theorem dX1_copyFrom_25 : decode cX1_copyFrom 25 = .ok (.aload_n 1, 1) := by decide +kernel
theorem dX1_copyFrom_26 : decode cX1_copyFrom 26 = .ok (.getfield 27, 3) := by decide +kernel
theorem dX1_copyFrom_29 : decode cX1_copyFrom 29 = .ok (.putfield 27, 3) := by decide +kernel
theorem dX1_copyFrom_32 : decode cX1_copyFrom 32 = .ok (.aload_n 0, 1) := by decide +kernel
theorem dX1_copyFrom_33 : decode cX1_copyFrom 33 = .ok (.aload_n 1, 1) := by decide +kernel
theorem dX1_copyFrom_34 : decode cX1_copyFrom 34 = .ok (.getfield 30, 3) := by decide +kernel
theorem dX1_copyFrom_37 : decode cX1_copyFrom 37 = .ok (.putfield 30, 3) := by decide +kernel
theorem dX1_copyFrom_40 : decode cX1_copyFrom 40 = .ok (.return_, 1) := by decide +kernel
theorem dX1_isGone_0 : decode cX1_isGone 0 = .ok (.aload_n 0, 1) := by decide +kernel
theorem dX1_isGone_1 : decode cX1_isGone 1 = .ok (.getfield 20, 3) := by decide +kernel
theorem dX1_isGone_4 : decode cX1_isGone 4 = .ok (.ifCond .gt 7, 3) := by decide +kernel
theorem dX1_isGone_7 : decode cX1_isGone 7 = .ok (.iconst 1, 1) := by decide +kernel
theorem dX1_isGone_8 : decode cX1_isGone 8 = .ok (.goto 4, 3) := by decide +kernel
theorem dX1_isGone_11 : decode cX1_isGone 11 = .ok (.iconst 0, 1) := by decide +kernel
theorem dX1_isGone_12 : decode cX1_isGone 12 = .ok (.ireturn, 1) := by decide +kernel
theorem dX1_weight_0 : decode cX1_weight 0 = .ok (.aload_n 0, 1) := by decide +kernel
theorem dX1_weight_1 : decode cX1_weight 1 = .ok (.getfield 15, 3) := by decide +kernel
theorem dX1_weight_4 : decode cX1_weight 4 = .ok (.aload_n 0, 1) := by decide +kernel
theorem dX1_weight_5 : decode cX1_weight 5 = .ok (.getfield 20, 3) := by decide +kernel
theorem dX1_weight_8 : decode cX1_weight 8 = .ok (.invokevirtual 33, 3) := by decide +kernel
theorem dX1_weight_11 : decode cX1_weight 11 = .ok (.ireturn, 1) := by decide +kernel
theorem dX1_keepsTo_0 : decode cX1_keepsTo 0 = .ok (.aload_n 0, 1) := by decide +kernel
theorem dX1_keepsTo_1 : decode cX1_keepsTo 1 = .ok (.getfield 30, 3) := by decide +kernel
theorem dX1_keepsTo_4 : decode cX1_keepsTo 4 = .ok (.iconst (-1), 1) := by decide +kernel
theorem dX1_keepsTo_5 : decode cX1_keepsTo 5 = .ok (.if_icmp .eq 14, 3) := by decide +kernel
theorem dX1_keepsTo_8 : decode cX1_keepsTo 8 = .ok (.aload_n 0, 1) := by decide +kernel
theorem dX1_keepsTo_9 : decode cX1_keepsTo 9 = .ok (.getfield 30, 3) := by decide +kernel
theorem dX1_keepsTo_12 : decode cX1_keepsTo 12 = .ok (.iload_n 1, 1) := by decide +kernel
theorem dX1_keepsTo_13 : decode cX1_keepsTo 13 = .ok (.invokestatic 37, 3) := by decide +kernel
theorem dX1_keepsTo_16 : decode cX1_keepsTo 16 = .ok (.if_icmp .ne 7, 3) := by decide +kernel
theorem dX1_keepsTo_19 : decode cX1_keepsTo 19 = .ok (.iconst 1, 1) := by decide +kernel
theorem dX1_keepsTo_20 : decode cX1_keepsTo 20 = .ok (.goto 4, 3) := by decide +kernel
theorem dX1_keepsTo_23 : decode cX1_keepsTo 23 = .ok (.iconst 0, 1) := by decide +kernel
theorem dX1_keepsTo_24 : decode cX1_keepsTo 24 = .ok (.ireturn, 1) := by decide +kernel
theorem dX1_leave_0 : decode cX1_leave 0 = .ok (.aload_n 0, 1) := by decide +kernel
theorem dX1_leave_1 : decode cX1_leave 1 = .ok (.iconst 0, 1) := by decide +kernel
theorem dX1_leave_2 : decode cX1_leave 2 = .ok (.putfield 20, 3) := by decide +kernel
theorem dX1_leave_5 : decode cX1_leave 5 = .ok (.aload_n 0, 1) := by decide +kernel
theorem dX1_leave_6 : decode cX1_leave 6 = .ok (.iconst (-1), 1) := by decide +kernel
theorem dX1_leave_7 : decode cX1_leave 7 = .ok (.putfield 24, 3) := by decide +kernel
theorem dX1_leave_10 : decode cX1_leave 10 = .ok (.aload_n 0, 1) := by decide +kernel
theorem dX1_leave_11 : decode cX1_leave 11 = .ok (.iconst (-1), 1) := by decide +kernel
theorem dX1_leave_12 : decode cX1_leave 12 = .ok (.putfield 27, 3) := by decide +kernel
theorem dX1_leave_15 : decode cX1_leave 15 = .ok (.return_, 1) := by decide +kernel
theorem dX2_isA_0 : decode cX2_isA 0 = .ok (.aload_n 1, 1) := by decide +kernel
theorem dX2_isA_1 : decode cX2_isA 1 = .ok (.aload_n 0, 1) := by decide +kernel
theorem dX2_isA_2 : decode cX2_isA 2 = .ok (.if_acmp .eq 24, 3) := by decide +kernel
theorem dX2_isA_5 : decode cX2_isA 5 = .ok (.aload_n 1, 1) := by decide +kernel
theorem dX2_isA_6 : decode cX2_isA 6 = .ok (.getstatic 3, 3) := by decide +kernel
theorem dX2_isA_9 : decode cX2_isA 9 = .ok (.if_acmp .eq 17, 3) := by decide +kernel
theorem dX2_isA_12 : decode cX2_isA 12 = .ok (.aload_n 0, 1) := by decide +kernel
theorem dX2_isA_13 : decode cX2_isA 13 = .ok (.getstatic 16, 3) := by decide +kernel
theorem dX2_isA_16 : decode cX2_isA 16 = .ok (.if_acmp .ne 14, 3) := by decide +kernel
theorem dX2_isA_19 : decode cX2_isA 19 = .ok (.aload_n 1, 1) := by decide +kernel
theorem dX2_isA_20 : decode cX2_isA 20 = .ok (.getstatic 13, 3) := by decide +kernel
theorem dX2_isA_23 : decode cX2_isA 23 = .ok (.if_acmp .ne 7, 3) := by decide +kernel
theorem dX2_isA_26 : decode cX2_isA 26 = .ok (.iconst 1, 1) := by decide +kernel
theorem dX2_isA_27 : decode cX2_isA 27 = .ok (.goto 4, 3) := by decide +kernel
theorem dX2_isA_30 : decode cX2_isA 30 = .ok (.iconst 0, 1) := by decide +kernel
theorem dX2_isA_31 : decode cX2_isA 31 = .ok (.ireturn, 1) := by decide +kernel
theorem dX2_weight_0 : decode cX2_weight 0 = .ok (.iload_n 1, 1) := by decide +kernel
theorem dX2_weight_1 : decode cX2_weight 1 = .ok (.aload_n 0, 1) := by decide +kernel
theorem dX2_weight_2 : decode cX2_weight 2 = .ok (.getfield 42, 3) := by decide +kernel
theorem dX2_weight_5 : decode cX2_weight 5 = .ok (.imul, 1) := by decide +kernel
theorem dX2_weight_6 : decode cX2_weight 6 = .ok (.ireturn, 1) := by decide +kernel
theorem dX2_breadth_0 : decode cX2_breadth 0 = .ok (.iconst 1, 1) := by decide +kernel
theorem dX2_breadth_1 : decode cX2_breadth 1 = .ok (.iload_n 1, 1) := by decide +kernel
theorem dX2_breadth_2 : decode cX2_breadth 2 = .ok (.bipush 8, 2) := by decide +kernel
theorem dX2_breadth_4 : decode cX2_breadth 4 = .ok (.idiv, 1) := by decide +kernel
theorem dX2_breadth_5 : decode cX2_breadth 5 = .ok (.iadd, 1) := by decide +kernel
theorem dX2_breadth_6 : decode cX2_breadth 6 = .ok (.aload_n 0, 1) := by decide +kernel
theorem dX2_breadth_7 : decode cX2_breadth 7 = .ok (.getfield 45, 3) := by decide +kernel
theorem dX2_breadth_10 : decode cX2_breadth 10 = .ok (.iadd, 1) := by decide +kernel
theorem dX2_breadth_11 : decode cX2_breadth 11 = .ok (.ireturn, 1) := by decide +kernel
theorem dX2_takes_0 : decode cX2_takes 0 = .ok (.aload_n 0, 1) := by decide +kernel
theorem dX2_takes_1 : decode cX2_takes 1 = .ok (.iload_n 1, 1) := by decide +kernel
theorem dX2_takes_2 : decode cX2_takes 2 = .ok (.invokevirtual 57, 3) := by decide +kernel
theorem dX2_takes_5 : decode cX2_takes 5 = .ok (.iload_n 2, 1) := by decide +kernel
theorem dX2_takes_6 : decode cX2_takes 6 = .ok (.invokestatic 61, 3) := by decide +kernel
theorem dX2_takes_9 : decode cX2_takes 9 = .ok (.istore 4, 2) := by decide +kernel
theorem dX2_takes_11 : decode cX2_takes 11 = .ok (.iload_n 3, 1) := by decide +kernel
theorem dX2_takes_12 : decode cX2_takes 12 = .ok (.aload_n 0, 1) := by decide +kernel
theorem dX2_takes_13 : decode cX2_takes 13 = .ok (.getfield 48, 3) := by decide +kernel
theorem dX2_takes_16 : decode cX2_takes 16 = .ok (.if_icmp .ge 12, 3) := by decide +kernel
theorem dX2_takes_19 : decode cX2_takes 19 = .ok (.iload 4, 2) := by decide +kernel
theorem dX2_takes_21 : decode cX2_takes 21 = .ok (.iconst 1, 1) := by decide +kernel
theorem dX2_takes_22 : decode cX2_takes 22 = .ok (.iadd, 1) := by decide +kernel
theorem dX2_takes_23 : decode cX2_takes 23 = .ok (.iconst 2, 1) := by decide +kernel
theorem dX2_takes_24 : decode cX2_takes 24 = .ok (.idiv, 1) := by decide +kernel
theorem dX2_takes_25 : decode cX2_takes 25 = .ok (.goto 5, 3) := by decide +kernel
theorem dX2_takes_28 : decode cX2_takes 28 = .ok (.iload 4, 2) := by decide +kernel
theorem dX2_takes_30 : decode cX2_takes 30 = .ok (.ireturn, 1) := by decide +kernel
theorem dX2_melts_0 : decode cX2_melts 0 = .ok (.iload_n 1, 1) := by decide +kernel
theorem dX2_melts_1 : decode cX2_melts 1 = .ok (.aload_n 0, 1) := by decide +kernel
theorem dX2_melts_2 : decode cX2_melts 2 = .ok (.getfield 51, 3) := by decide +kernel
theorem dX2_melts_5 : decode cX2_melts 5 = .ok (.imul, 1) := by decide +kernel
theorem dX2_melts_6 : decode cX2_melts 6 = .ok (.aload_n 0, 1) := by decide +kernel
theorem dX2_melts_7 : decode cX2_melts 7 = .ok (.getfield 54, 3) := by decide +kernel
theorem dX2_melts_10 : decode cX2_melts 10 = .ok (.iadd, 1) := by decide +kernel
theorem dX2_melts_11 : decode cX2_melts 11 = .ok (.ireturn, 1) := by decide +kernel
theorem dX2_crumbles_0 : decode cX2_crumbles 0 = .ok (.aload_n 0, 1) := by decide +kernel
theorem dX2_crumbles_1 : decode cX2_crumbles 1 = .ok (.getstatic 10, 3) := by decide +kernel
theorem dX2_crumbles_4 : decode cX2_crumbles 4 = .ok (.if_acmp .ne 13, 3) := by decide +kernel
theorem dX2_crumbles_7 : decode cX2_crumbles 7 = .ok (.iload_n 1, 1) := by decide +kernel
theorem dX2_crumbles_8 : decode cX2_crumbles 8 = .ok (.bipush 20, 2) := by decide +kernel
theorem dX2_crumbles_10 : decode cX2_crumbles 10 = .ok (.if_icmp .le 7, 3) := by decide +kernel
theorem dX2_crumbles_13 : decode cX2_crumbles 13 = .ok (.iconst 1, 1) := by decide +kernel
theorem dX2_crumbles_14 : decode cX2_crumbles 14 = .ok (.goto 4, 3) := by decide +kernel
theorem dX2_crumbles_17 : decode cX2_crumbles 17 = .ok (.iconst 0, 1) := by decide +kernel
theorem dX2_crumbles_18 : decode cX2_crumbles 18 = .ok (.ireturn, 1) := by decide +kernel
theorem dX2_sticks_0 : decode cX2_sticks 0 = .ok (.aload_n 0, 1) := by decide +kernel
theorem dX2_sticks_1 : decode cX2_sticks 1 = .ok (.getstatic 7, 3) := by decide +kernel
theorem dX2_sticks_4 : decode cX2_sticks 4 = .ok (.if_acmp .ne 7, 3) := by decide +kernel
theorem dX2_sticks_7 : decode cX2_sticks 7 = .ok (.iconst 1, 1) := by decide +kernel
theorem dX2_sticks_8 : decode cX2_sticks 8 = .ok (.goto 4, 3) := by decide +kernel
theorem dX2_sticks_11 : decode cX2_sticks 11 = .ok (.iconst 0, 1) := by decide +kernel
theorem dX2_sticks_12 : decode cX2_sticks 12 = .ok (.ireturn, 1) := by decide +kernel
theorem dX3_init_0 : decode cX3_init 0 = .ok (.aload_n 0, 1) := by decide +kernel
theorem dX3_init_1 : decode cX3_init 1 = .ok (.invokespecial 3, 3) := by decide +kernel
theorem dX3_init_4 : decode cX3_init 4 = .ok (.return_, 1) := by decide +kernel
theorem dX3_begin_0 : decode cX3_begin 0 = .ok (.aload_n 0, 1) := by decide +kernel
theorem dX3_begin_1 : decode cX3_begin 1 = .ok (.iconst 0, 1) := by decide +kernel
theorem dX3_begin_2 : decode cX3_begin 2 = .ok (.putfield 9, 3) := by decide +kernel
theorem dX3_begin_5 : decode cX3_begin 5 = .ok (.aload_n 0, 1) := by decide +kernel
theorem dX3_begin_6 : decode cX3_begin 6 = .ok (.iconst (-1), 1) := by decide +kernel
theorem dX3_begin_7 : decode cX3_begin 7 = .ok (.putfield 15, 3) := by decide +kernel
theorem dX3_begin_10 : decode cX3_begin 10 = .ok (.aload_n 0, 1) := by decide +kernel
theorem dX3_begin_11 : decode cX3_begin 11 = .ok (.iconst 0, 1) := by decide +kernel
theorem dX3_begin_12 : decode cX3_begin 12 = .ok (.putfield 18, 3) := by decide +kernel
theorem dX3_begin_15 : decode cX3_begin 15 = .ok (.return_, 1) := by decide +kernel
theorem dX3_meet_0 : decode cX3_meet 0 = .ok (.aload_n 1, 1) := by decide +kernel
theorem dX3_meet_1 : decode cX3_meet 1 = .ok (.getfield 21, 3) := by decide +kernel
theorem dX3_meet_4 : decode cX3_meet 4 = .ok (.aload_n 0, 1) := by decide +kernel
theorem dX3_meet_5 : decode cX3_meet 5 = .ok (.getfield 9, 3) := by decide +kernel
theorem dX3_meet_8 : decode cX3_meet 8 = .ok (.if_icmp .lt 22, 3) := by decide +kernel
theorem dX3_meet_11 : decode cX3_meet 11 = .ok (.aload_n 1, 1) := by decide +kernel
theorem dX3_meet_12 : decode cX3_meet 12 = .ok (.getfield 21, 3) := by decide +kernel
theorem dX3_meet_15 : decode cX3_meet 15 = .ok (.aload_n 0, 1) := by decide +kernel
theorem dX3_meet_16 : decode cX3_meet 16 = .ok (.getfield 9, 3) := by decide +kernel
theorem dX3_meet_19 : decode cX3_meet 19 = .ok (.if_icmp .ne 12, 3) := by decide +kernel
theorem dX3_meet_22 : decode cX3_meet 22 = .ok (.iload_n 2, 1) := by decide +kernel
theorem dX3_meet_23 : decode cX3_meet 23 = .ok (.aload_n 0, 1) := by decide +kernel
theorem dX3_meet_24 : decode cX3_meet 24 = .ok (.getfield 18, 3) := by decide +kernel
theorem dX3_meet_27 : decode cX3_meet 27 = .ok (.if_icmp .lt 4, 3) := by decide +kernel
theorem dX3_meet_30 : decode cX3_meet 30 = .ok (.return_, 1) := by decide +kernel
theorem dX3_meet_31 : decode cX3_meet 31 = .ok (.aload_n 0, 1) := by decide +kernel
theorem dX3_meet_32 : decode cX3_meet 32 = .ok (.aload_n 1, 1) := by decide +kernel
theorem dX3_meet_33 : decode cX3_meet 33 = .ok (.getfield 21, 3) := by decide +kernel
theorem dX3_meet_36 : decode cX3_meet 36 = .ok (.putfield 9, 3) := by decide +kernel
theorem dX3_meet_39 : decode cX3_meet 39 = .ok (.aload_n 0, 1) := by decide +kernel
theorem dX3_meet_40 : decode cX3_meet 40 = .ok (.iload_n 2, 1) := by decide +kernel
theorem dX3_meet_41 : decode cX3_meet 41 = .ok (.putfield 18, 3) := by decide +kernel
theorem dX3_meet_44 : decode cX3_meet 44 = .ok (.aload_n 0, 1) := by decide +kernel
theorem dX3_meet_45 : decode cX3_meet 45 = .ok (.iload_n 3, 1) := by decide +kernel
theorem dX3_meet_46 : decode cX3_meet 46 = .ok (.putfield 15, 3) := by decide +kernel
theorem dX3_meet_49 : decode cX3_meet 49 = .ok (.return_, 1) := by decide +kernel
theorem dX4_init_0 : decode cX4_init 0 = .ok (.aload_n 0, 1) := by decide +kernel
theorem dX4_init_1 : decode cX4_init 1 = .ok (.invokespecial 3, 3) := by decide +kernel
theorem dX4_init_4 : decode cX4_init 4 = .ok (.aload_n 0, 1) := by decide +kernel
theorem dX4_init_5 : decode cX4_init 5 = .ok (.bipush 20, 2) := by decide +kernel
theorem dX4_init_7 : decode cX4_init 7 = .ok (.newarray .int, 2) := by decide +kernel
theorem dX4_init_9 : decode cX4_init 9 = .ok (.putfield 9, 3) := by decide +kernel
theorem dX4_init_12 : decode cX4_init 12 = .ok (.aload_n 0, 1) := by decide +kernel
theorem dX4_init_13 : decode cX4_init 13 = .ok (.iconst 5, 1) := by decide +kernel
theorem dX4_init_14 : decode cX4_init 14 = .ok (.anewarray 15, 3) := by decide +kernel
theorem dX4_init_17 : decode cX4_init 17 = .ok (.putfield 17, 3) := by decide +kernel
theorem dX4_init_20 : decode cX4_init 20 = .ok (.iconst 0, 1) := by decide +kernel
theorem dX4_init_21 : decode cX4_init 21 = .ok (.istore_n 1, 1) := by decide +kernel
theorem dX4_init_22 : decode cX4_init 22 = .ok (.iload_n 1, 1) := by decide +kernel
theorem dX4_init_23 : decode cX4_init 23 = .ok (.aload_n 0, 1) := by decide +kernel
theorem dX4_init_24 : decode cX4_init 24 = .ok (.getfield 17, 3) := by decide +kernel
theorem dX4_init_27 : decode cX4_init 27 = .ok (.arraylength, 1) := by decide +kernel
theorem dX4_init_28 : decode cX4_init 28 = .ok (.if_icmp .ge 22, 3) := by decide +kernel
theorem dX4_init_31 : decode cX4_init 31 = .ok (.aload_n 0, 1) := by decide +kernel
theorem dX4_init_32 : decode cX4_init 32 = .ok (.getfield 17, 3) := by decide +kernel
theorem dX4_init_35 : decode cX4_init 35 = .ok (.iload_n 1, 1) := by decide +kernel
theorem dX4_init_36 : decode cX4_init 36 = .ok (.new 15, 3) := by decide +kernel
theorem dX4_init_39 : decode cX4_init 39 = .ok (.dup, 1) := by decide +kernel
theorem dX4_init_40 : decode cX4_init 40 = .ok (.invokespecial 21, 3) := by decide +kernel
theorem dX4_init_43 : decode cX4_init 43 = .ok (.aastore, 1) := by decide +kernel
theorem dX4_init_44 : decode cX4_init 44 = .ok (.iinc 1 1, 3) := by decide +kernel
theorem dX4_init_47 : decode cX4_init 47 = .ok (.goto (-25), 3) := by decide +kernel
theorem dX4_init_50 : decode cX4_init 50 = .ok (.aload_n 0, 1) := by decide +kernel
theorem dX4_init_51 : decode cX4_init 51 = .ok (.bipush 20, 2) := by decide +kernel
theorem dX4_init_53 : decode cX4_init 53 = .ok (.putfield 22, 3) := by decide +kernel
theorem dX4_init_56 : decode cX4_init 56 = .ok (.return_, 1) := by decide +kernel
theorem dX4_clear_0 : decode cX4_clear 0 = .ok (.aload_n 0, 1) := by decide +kernel
theorem dX4_clear_1 : decode cX4_clear 1 = .ok (.iconst 0, 1) := by decide +kernel
theorem dX4_clear_2 : decode cX4_clear 2 = .ok (.putfield 26, 3) := by decide +kernel
theorem dX4_clear_5 : decode cX4_clear 5 = .ok (.aload_n 0, 1) := by decide +kernel
theorem dX4_clear_6 : decode cX4_clear 6 = .ok (.iconst 0, 1) := by decide +kernel
theorem dX4_clear_7 : decode cX4_clear 7 = .ok (.putfield 29, 3) := by decide +kernel
theorem dX4_clear_10 : decode cX4_clear 10 = .ok (.aload_n 0, 1) := by decide +kernel
theorem dX4_clear_11 : decode cX4_clear 11 = .ok (.bipush 20, 2) := by decide +kernel
theorem dX4_clear_13 : decode cX4_clear 13 = .ok (.putfield 22, 3) := by decide +kernel
theorem dX4_clear_16 : decode cX4_clear 16 = .ok (.return_, 1) := by decide +kernel
theorem dX4_copyFrom_0 : decode cX4_copyFrom 0 = .ok (.iconst 0, 1) := by decide +kernel
theorem dX4_copyFrom_1 : decode cX4_copyFrom 1 = .ok (.istore_n 2, 1) := by decide +kernel
theorem dX4_copyFrom_2 : decode cX4_copyFrom 2 = .ok (.iload_n 2, 1) := by decide +kernel
theorem dX4_copyFrom_3 : decode cX4_copyFrom 3 = .ok (.bipush 20, 2) := by decide +kernel
theorem dX4_copyFrom_5 : decode cX4_copyFrom 5 = .ok (.if_icmp .ge 21, 3) := by decide +kernel
theorem dX4_copyFrom_8 : decode cX4_copyFrom 8 = .ok (.aload_n 0, 1) := by decide +kernel
theorem dX4_copyFrom_9 : decode cX4_copyFrom 9 = .ok (.getfield 9, 3) := by decide +kernel
theorem dX4_copyFrom_12 : decode cX4_copyFrom 12 = .ok (.iload_n 2, 1) := by decide +kernel
theorem dX4_copyFrom_13 : decode cX4_copyFrom 13 = .ok (.aload_n 1, 1) := by decide +kernel
theorem dX4_copyFrom_14 : decode cX4_copyFrom 14 = .ok (.getfield 9, 3) := by decide +kernel
theorem dX4_copyFrom_17 : decode cX4_copyFrom 17 = .ok (.iload_n 2, 1) := by decide +kernel
theorem dX4_copyFrom_18 : decode cX4_copyFrom 18 = .ok (.iaload, 1) := by decide +kernel
theorem dX4_copyFrom_19 : decode cX4_copyFrom 19 = .ok (.iastore, 1) := by decide +kernel
theorem dX4_copyFrom_20 : decode cX4_copyFrom 20 = .ok (.iinc 2 1, 3) := by decide +kernel
theorem dX4_copyFrom_23 : decode cX4_copyFrom 23 = .ok (.goto (-21), 3) := by decide +kernel
theorem dX4_copyFrom_26 : decode cX4_copyFrom 26 = .ok (.iconst 0, 1) := by decide +kernel
theorem dX4_copyFrom_27 : decode cX4_copyFrom 27 = .ok (.istore_n 2, 1) := by decide +kernel
theorem dX4_copyFrom_28 : decode cX4_copyFrom 28 = .ok (.iload_n 2, 1) := by decide +kernel
theorem dX4_copyFrom_29 : decode cX4_copyFrom 29 = .ok (.iconst 4, 1) := by decide +kernel
theorem dX4_copyFrom_30 : decode cX4_copyFrom 30 = .ok (.if_icmp .ge 24, 3) := by decide +kernel
theorem dX4_copyFrom_33 : decode cX4_copyFrom 33 = .ok (.aload_n 0, 1) := by decide +kernel
theorem dX4_copyFrom_34 : decode cX4_copyFrom 34 = .ok (.getfield 17, 3) := by decide +kernel
theorem dX4_copyFrom_37 : decode cX4_copyFrom 37 = .ok (.iload_n 2, 1) := by decide +kernel
theorem dX4_copyFrom_38 : decode cX4_copyFrom 38 = .ok (.aaload, 1) := by decide +kernel
theorem dX4_copyFrom_39 : decode cX4_copyFrom 39 = .ok (.aload_n 1, 1) := by decide +kernel
theorem dX4_copyFrom_40 : decode cX4_copyFrom 40 = .ok (.getfield 17, 3) := by decide +kernel
theorem dX4_copyFrom_43 : decode cX4_copyFrom 43 = .ok (.iload_n 2, 1) := by decide +kernel
theorem dX4_copyFrom_44 : decode cX4_copyFrom 44 = .ok (.aaload, 1) := by decide +kernel
theorem dX4_copyFrom_45 : decode cX4_copyFrom 45 = .ok (.invokevirtual 32, 3) := by decide +kernel
theorem dX4_copyFrom_48 : decode cX4_copyFrom 48 = .ok (.iinc 2 1, 3) := by decide +kernel
theorem dX4_copyFrom_51 : decode cX4_copyFrom 51 = .ok (.goto (-23), 3) := by decide +kernel
theorem dX4_copyFrom_54 : decode cX4_copyFrom 54 = .ok (.aload_n 0, 1) := by decide +kernel
theorem dX4_copyFrom_55 : decode cX4_copyFrom 55 = .ok (.aload_n 1, 1) := by decide +kernel
theorem dX4_copyFrom_56 : decode cX4_copyFrom 56 = .ok (.getfield 26, 3) := by decide +kernel
theorem dX4_copyFrom_59 : decode cX4_copyFrom 59 = .ok (.putfield 26, 3) := by decide +kernel
theorem dX4_copyFrom_62 : decode cX4_copyFrom 62 = .ok (.aload_n 0, 1) := by decide +kernel
theorem dX4_copyFrom_63 : decode cX4_copyFrom 63 = .ok (.aload_n 1, 1) := by decide +kernel
theorem dX4_copyFrom_64 : decode cX4_copyFrom 64 = .ok (.getfield 36, 3) := by decide +kernel
theorem dX4_copyFrom_67 : decode cX4_copyFrom 67 = .ok (.putfield 36, 3) := by decide +kernel
theorem dX4_copyFrom_70 : decode cX4_copyFrom 70 = .ok (.aload_n 0, 1) := by decide +kernel
theorem dX4_copyFrom_71 : decode cX4_copyFrom 71 = .ok (.aload_n 1, 1) := by decide +kernel
theorem dX4_copyFrom_72 : decode cX4_copyFrom 72 = .ok (.getfield 22, 3) := by decide +kernel
theorem dX4_copyFrom_75 : decode cX4_copyFrom 75 = .ok (.putfield 22, 3) := by decide +kernel
theorem dX4_copyFrom_78 : decode cX4_copyFrom 78 = .ok (.aload_n 0, 1) := by decide +kernel
theorem dX4_copyFrom_79 : decode cX4_copyFrom 79 = .ok (.aload_n 1, 1) := by decide +kernel
theorem dX4_copyFrom_80 : decode cX4_copyFrom 80 = .ok (.getfield 29, 3) := by decide +kernel
theorem dX4_copyFrom_83 : decode cX4_copyFrom 83 = .ok (.putfield 29, 3) := by decide +kernel
theorem dX4_copyFrom_86 : decode cX4_copyFrom 86 = .ok (.return_, 1) := by decide +kernel
theorem dX4_allDepths_0 : decode cX4_allDepths 0 = .ok (.iconst 0, 1) := by decide +kernel
theorem dX4_allDepths_1 : decode cX4_allDepths 1 = .ok (.istore_n 1, 1) := by decide +kernel
theorem dX4_allDepths_2 : decode cX4_allDepths 2 = .ok (.aload_n 0, 1) := by decide +kernel
theorem dX4_allDepths_3 : decode cX4_allDepths 3 = .ok (.getfield 9, 3) := by decide +kernel
theorem dX4_allDepths_6 : decode cX4_allDepths 6 = .ok (.astore_n 2, 1) := by decide +kernel
theorem dX4_allDepths_7 : decode cX4_allDepths 7 = .ok (.aload_n 2, 1) := by decide +kernel
theorem dX4_allDepths_8 : decode cX4_allDepths 8 = .ok (.arraylength, 1) := by decide +kernel
theorem dX4_allDepths_9 : decode cX4_allDepths 9 = .ok (.istore_n 3, 1) := by decide +kernel
theorem dX4_allDepths_10 : decode cX4_allDepths 10 = .ok (.iconst 0, 1) := by decide +kernel
theorem dX4_allDepths_11 : decode cX4_allDepths 11 = .ok (.istore 4, 2) := by decide +kernel
theorem dX4_allDepths_13 : decode cX4_allDepths 13 = .ok (.iload 4, 2) := by decide +kernel
theorem dX4_allDepths_15 : decode cX4_allDepths 15 = .ok (.iload_n 3, 1) := by decide +kernel
theorem dX4_allDepths_16 : decode cX4_allDepths 16 = .ok (.if_icmp .ge 20, 3) := by decide +kernel
theorem dX4_allDepths_19 : decode cX4_allDepths 19 = .ok (.aload_n 2, 1) := by decide +kernel
theorem dX4_allDepths_20 : decode cX4_allDepths 20 = .ok (.iload 4, 2) := by decide +kernel
theorem dX4_allDepths_22 : decode cX4_allDepths 22 = .ok (.iaload, 1) := by decide +kernel
theorem dX4_allDepths_23 : decode cX4_allDepths 23 = .ok (.istore 5, 2) := by decide +kernel
theorem dX4_allDepths_25 : decode cX4_allDepths 25 = .ok (.iload_n 1, 1) := by decide +kernel
theorem dX4_allDepths_26 : decode cX4_allDepths 26 = .ok (.iload 5, 2) := by decide +kernel
theorem dX4_allDepths_28 : decode cX4_allDepths 28 = .ok (.iadd, 1) := by decide +kernel
theorem dX4_allDepths_29 : decode cX4_allDepths 29 = .ok (.istore_n 1, 1) := by decide +kernel
theorem dX4_allDepths_30 : decode cX4_allDepths 30 = .ok (.iinc 4 1, 3) := by decide +kernel
theorem dX4_allDepths_33 : decode cX4_allDepths 33 = .ok (.goto (-20), 3) := by decide +kernel
theorem dX4_allDepths_36 : decode cX4_allDepths 36 = .ok (.iload_n 1, 1) := by decide +kernel
theorem dX4_allDepths_37 : decode cX4_allDepths 37 = .ok (.ireturn, 1) := by decide +kernel
theorem dX4_greenPlaces_0 : decode cX4_greenPlaces 0 = .ok (.iconst 0, 1) := by decide +kernel
theorem dX4_greenPlaces_1 : decode cX4_greenPlaces 1 = .ok (.istore_n 1, 1) := by decide +kernel
theorem dX4_greenPlaces_2 : decode cX4_greenPlaces 2 = .ok (.aload_n 0, 1) := by decide +kernel
theorem dX4_greenPlaces_3 : decode cX4_greenPlaces 3 = .ok (.getfield 9, 3) := by decide +kernel
theorem dX4_greenPlaces_6 : decode cX4_greenPlaces 6 = .ok (.astore_n 2, 1) := by decide +kernel
theorem dX4_greenPlaces_7 : decode cX4_greenPlaces 7 = .ok (.aload_n 2, 1) := by decide +kernel
theorem dX4_greenPlaces_8 : decode cX4_greenPlaces 8 = .ok (.arraylength, 1) := by decide +kernel
theorem dX4_greenPlaces_9 : decode cX4_greenPlaces 9 = .ok (.istore_n 3, 1) := by decide +kernel
theorem dX4_greenPlaces_10 : decode cX4_greenPlaces 10 = .ok (.iconst 0, 1) := by decide +kernel
theorem dX4_greenPlaces_11 : decode cX4_greenPlaces 11 = .ok (.istore 4, 2) := by decide +kernel
theorem dX4_greenPlaces_13 : decode cX4_greenPlaces 13 = .ok (.iload 4, 2) := by decide +kernel
theorem dX4_greenPlaces_15 : decode cX4_greenPlaces 15 = .ok (.iload_n 3, 1) := by decide +kernel
theorem dX4_greenPlaces_16 : decode cX4_greenPlaces 16 = .ok (.if_icmp .ge 28, 3) := by decide +kernel
theorem dX4_greenPlaces_19 : decode cX4_greenPlaces 19 = .ok (.aload_n 2, 1) := by decide +kernel
theorem dX4_greenPlaces_20 : decode cX4_greenPlaces 20 = .ok (.iload 4, 2) := by decide +kernel
theorem dX4_greenPlaces_22 : decode cX4_greenPlaces 22 = .ok (.iaload, 1) := by decide +kernel
theorem dX4_greenPlaces_23 : decode cX4_greenPlaces 23 = .ok (.istore 5, 2) := by decide +kernel
theorem dX4_greenPlaces_25 : decode cX4_greenPlaces 25 = .ok (.iload_n 1, 1) := by decide +kernel
theorem dX4_greenPlaces_26 : decode cX4_greenPlaces 26 = .ok (.iload 5, 2) := by decide +kernel
theorem dX4_greenPlaces_28 : decode cX4_greenPlaces 28 = .ok (.ifCond .ne 7, 3) := by decide +kernel
theorem dX4_greenPlaces_31 : decode cX4_greenPlaces 31 = .ok (.iconst 1, 1) := by decide +kernel
theorem dX4_greenPlaces_32 : decode cX4_greenPlaces 32 = .ok (.goto 4, 3) := by decide +kernel
theorem dX4_greenPlaces_35 : decode cX4_greenPlaces 35 = .ok (.iconst 0, 1) := by decide +kernel
theorem dX4_greenPlaces_36 : decode cX4_greenPlaces 36 = .ok (.iadd, 1) := by decide +kernel
theorem dX4_greenPlaces_37 : decode cX4_greenPlaces 37 = .ok (.istore_n 1, 1) := by decide +kernel
theorem dX4_greenPlaces_38 : decode cX4_greenPlaces 38 = .ok (.iinc 4 1, 3) := by decide +kernel
theorem dX4_greenPlaces_41 : decode cX4_greenPlaces 41 = .ok (.goto (-28), 3) := by decide +kernel
theorem dX4_greenPlaces_44 : decode cX4_greenPlaces 44 = .ok (.iload_n 1, 1) := by decide +kernel
theorem dX4_greenPlaces_45 : decode cX4_greenPlaces 45 = .ok (.ireturn, 1) := by decide +kernel
theorem dX4_allSizes_0 : decode cX4_allSizes 0 = .ok (.iconst 0, 1) := by decide +kernel
theorem dX4_allSizes_1 : decode cX4_allSizes 1 = .ok (.istore_n 1, 1) := by decide +kernel
theorem dX4_allSizes_2 : decode cX4_allSizes 2 = .ok (.iconst 0, 1) := by decide +kernel
theorem dX4_allSizes_3 : decode cX4_allSizes 3 = .ok (.istore_n 2, 1) := by decide +kernel
theorem dX4_allSizes_4 : decode cX4_allSizes 4 = .ok (.iload_n 2, 1) := by decide +kernel
theorem dX4_allSizes_5 : decode cX4_allSizes 5 = .ok (.aload_n 0, 1) := by decide +kernel
theorem dX4_allSizes_6 : decode cX4_allSizes 6 = .ok (.getfield 26, 3) := by decide +kernel
theorem dX4_allSizes_9 : decode cX4_allSizes 9 = .ok (.if_icmp .ge 21, 3) := by decide +kernel
theorem dX4_allSizes_12 : decode cX4_allSizes 12 = .ok (.iload_n 1, 1) := by decide +kernel
theorem dX4_allSizes_13 : decode cX4_allSizes 13 = .ok (.aload_n 0, 1) := by decide +kernel
theorem dX4_allSizes_14 : decode cX4_allSizes 14 = .ok (.getfield 17, 3) := by decide +kernel
theorem dX4_allSizes_17 : decode cX4_allSizes 17 = .ok (.iload_n 2, 1) := by decide +kernel
theorem dX4_allSizes_18 : decode cX4_allSizes 18 = .ok (.aaload, 1) := by decide +kernel
theorem dX4_allSizes_19 : decode cX4_allSizes 19 = .ok (.getfield 39, 3) := by decide +kernel
theorem dX4_allSizes_22 : decode cX4_allSizes 22 = .ok (.iadd, 1) := by decide +kernel
theorem dX4_allSizes_23 : decode cX4_allSizes 23 = .ok (.istore_n 1, 1) := by decide +kernel
theorem dX4_allSizes_24 : decode cX4_allSizes 24 = .ok (.iinc 2 1, 3) := by decide +kernel
theorem dX4_allSizes_27 : decode cX4_allSizes 27 = .ok (.goto (-23), 3) := by decide +kernel
theorem dX4_allSizes_30 : decode cX4_allSizes 30 = .ok (.iload_n 1, 1) := by decide +kernel
theorem dX4_allSizes_31 : decode cX4_allSizes 31 = .ok (.ireturn, 1) := by decide +kernel
theorem dX4_goneBalls_0 : decode cX4_goneBalls 0 = .ok (.iconst 0, 1) := by decide +kernel
theorem dX4_goneBalls_1 : decode cX4_goneBalls 1 = .ok (.istore_n 1, 1) := by decide +kernel
theorem dX4_goneBalls_2 : decode cX4_goneBalls 2 = .ok (.iconst 0, 1) := by decide +kernel
theorem dX4_goneBalls_3 : decode cX4_goneBalls 3 = .ok (.istore_n 2, 1) := by decide +kernel
theorem dX4_goneBalls_4 : decode cX4_goneBalls 4 = .ok (.iload_n 2, 1) := by decide +kernel
theorem dX4_goneBalls_5 : decode cX4_goneBalls 5 = .ok (.aload_n 0, 1) := by decide +kernel
theorem dX4_goneBalls_6 : decode cX4_goneBalls 6 = .ok (.getfield 26, 3) := by decide +kernel
theorem dX4_goneBalls_9 : decode cX4_goneBalls 9 = .ok (.if_icmp .ge 29, 3) := by decide +kernel
theorem dX4_goneBalls_12 : decode cX4_goneBalls 12 = .ok (.iload_n 1, 1) := by decide +kernel
theorem dX4_goneBalls_13 : decode cX4_goneBalls 13 = .ok (.aload_n 0, 1) := by decide +kernel
theorem dX4_goneBalls_14 : decode cX4_goneBalls 14 = .ok (.getfield 17, 3) := by decide +kernel
theorem dX4_goneBalls_17 : decode cX4_goneBalls 17 = .ok (.iload_n 2, 1) := by decide +kernel
theorem dX4_goneBalls_18 : decode cX4_goneBalls 18 = .ok (.aaload, 1) := by decide +kernel
theorem dX4_goneBalls_19 : decode cX4_goneBalls 19 = .ok (.invokevirtual 42, 3) := by decide +kernel
theorem dX4_goneBalls_22 : decode cX4_goneBalls 22 = .ok (.ifCond .eq 7, 3) := by decide +kernel
theorem dX4_goneBalls_25 : decode cX4_goneBalls 25 = .ok (.iconst 1, 1) := by decide +kernel
theorem dX4_goneBalls_26 : decode cX4_goneBalls 26 = .ok (.goto 4, 3) := by decide +kernel
theorem dX4_goneBalls_29 : decode cX4_goneBalls 29 = .ok (.iconst 0, 1) := by decide +kernel
theorem dX4_goneBalls_30 : decode cX4_goneBalls 30 = .ok (.iadd, 1) := by decide +kernel
theorem dX4_goneBalls_31 : decode cX4_goneBalls 31 = .ok (.istore_n 1, 1) := by decide +kernel
theorem dX4_goneBalls_32 : decode cX4_goneBalls 32 = .ok (.iinc 2 1, 3) := by decide +kernel
theorem dX4_goneBalls_35 : decode cX4_goneBalls 35 = .ok (.goto (-31), 3) := by decide +kernel
theorem dX4_goneBalls_38 : decode cX4_goneBalls 38 = .ok (.iload_n 1, 1) := by decide +kernel
theorem dX4_goneBalls_39 : decode cX4_goneBalls 39 = .ok (.ireturn, 1) := by decide +kernel
theorem dX4_lowestAt_0 : decode cX4_lowestAt 0 = .ok (.iconst 0, 1) := by decide +kernel
theorem dX4_lowestAt_1 : decode cX4_lowestAt 1 = .ok (.istore_n 2, 1) := by decide +kernel
theorem dX4_lowestAt_2 : decode cX4_lowestAt 2 = .ok (.iload_n 2, 1) := by decide +kernel
theorem dX4_lowestAt_3 : decode cX4_lowestAt 3 = .ok (.aload_n 0, 1) := by decide +kernel
theorem dX4_lowestAt_4 : decode cX4_lowestAt 4 = .ok (.getfield 26, 3) := by decide +kernel
theorem dX4_lowestAt_7 : decode cX4_lowestAt 7 = .ok (.if_icmp .ge 37, 3) := by decide +kernel
theorem dX4_lowestAt_10 : decode cX4_lowestAt 10 = .ok (.aload_n 0, 1) := by decide +kernel
theorem dX4_lowestAt_11 : decode cX4_lowestAt 11 = .ok (.getfield 17, 3) := by decide +kernel
theorem dX4_lowestAt_14 : decode cX4_lowestAt 14 = .ok (.iload_n 2, 1) := by decide +kernel
theorem dX4_lowestAt_15 : decode cX4_lowestAt 15 = .ok (.aaload, 1) := by decide +kernel
theorem dX4_lowestAt_16 : decode cX4_lowestAt 16 = .ok (.getfield 46, 3) := by decide +kernel
theorem dX4_lowestAt_19 : decode cX4_lowestAt 19 = .ok (.iload_n 1, 1) := by decide +kernel
theorem dX4_lowestAt_20 : decode cX4_lowestAt 20 = .ok (.if_icmp .ne 18, 3) := by decide +kernel
theorem dX4_lowestAt_23 : decode cX4_lowestAt 23 = .ok (.aload_n 0, 1) := by decide +kernel
theorem dX4_lowestAt_24 : decode cX4_lowestAt 24 = .ok (.getfield 17, 3) := by decide +kernel
theorem dX4_lowestAt_27 : decode cX4_lowestAt 27 = .ok (.iload_n 2, 1) := by decide +kernel
theorem dX4_lowestAt_28 : decode cX4_lowestAt 28 = .ok (.aaload, 1) := by decide +kernel
theorem dX4_lowestAt_29 : decode cX4_lowestAt 29 = .ok (.getfield 49, 3) := by decide +kernel
theorem dX4_lowestAt_32 : decode cX4_lowestAt 32 = .ok (.iconst (-1), 1) := by decide +kernel
theorem dX4_lowestAt_33 : decode cX4_lowestAt 33 = .ok (.if_icmp .ne 5, 3) := by decide +kernel
theorem dX4_lowestAt_36 : decode cX4_lowestAt 36 = .ok (.iload_n 2, 1) := by decide +kernel
theorem dX4_lowestAt_37 : decode cX4_lowestAt 37 = .ok (.ireturn, 1) := by decide +kernel
theorem dX4_lowestAt_38 : decode cX4_lowestAt 38 = .ok (.iinc 2 1, 3) := by decide +kernel
theorem dX4_lowestAt_41 : decode cX4_lowestAt 41 = .ok (.goto (-39), 3) := by decide +kernel
theorem dX4_lowestAt_44 : decode cX4_lowestAt 44 = .ok (.iconst (-1), 1) := by decide +kernel
theorem dX4_lowestAt_45 : decode cX4_lowestAt 45 = .ok (.ireturn, 1) := by decide +kernel
theorem dX4_manyAt_0 : decode cX4_manyAt 0 = .ok (.iconst 0, 1) := by decide +kernel
theorem dX4_manyAt_1 : decode cX4_manyAt 1 = .ok (.istore_n 2, 1) := by decide +kernel
theorem dX4_manyAt_2 : decode cX4_manyAt 2 = .ok (.iconst 0, 1) := by decide +kernel
theorem dX4_manyAt_3 : decode cX4_manyAt 3 = .ok (.istore_n 3, 1) := by decide +kernel
theorem dX4_manyAt_4 : decode cX4_manyAt 4 = .ok (.iload_n 3, 1) := by decide +kernel
theorem dX4_manyAt_5 : decode cX4_manyAt 5 = .ok (.aload_n 0, 1) := by decide +kernel
theorem dX4_manyAt_6 : decode cX4_manyAt 6 = .ok (.getfield 26, 3) := by decide +kernel
theorem dX4_manyAt_9 : decode cX4_manyAt 9 = .ok (.if_icmp .ge 30, 3) := by decide +kernel
theorem dX4_manyAt_12 : decode cX4_manyAt 12 = .ok (.iload_n 2, 1) := by decide +kernel
theorem dX4_manyAt_13 : decode cX4_manyAt 13 = .ok (.aload_n 0, 1) := by decide +kernel
theorem dX4_manyAt_14 : decode cX4_manyAt 14 = .ok (.getfield 17, 3) := by decide +kernel
theorem dX4_manyAt_17 : decode cX4_manyAt 17 = .ok (.iload_n 3, 1) := by decide +kernel
theorem dX4_manyAt_18 : decode cX4_manyAt 18 = .ok (.aaload, 1) := by decide +kernel
theorem dX4_manyAt_19 : decode cX4_manyAt 19 = .ok (.getfield 46, 3) := by decide +kernel
theorem dX4_manyAt_22 : decode cX4_manyAt 22 = .ok (.iload_n 1, 1) := by decide +kernel
theorem dX4_manyAt_23 : decode cX4_manyAt 23 = .ok (.if_icmp .ne 7, 3) := by decide +kernel
theorem dX4_manyAt_26 : decode cX4_manyAt 26 = .ok (.iconst 1, 1) := by decide +kernel
theorem dX4_manyAt_27 : decode cX4_manyAt 27 = .ok (.goto 4, 3) := by decide +kernel
theorem dX4_manyAt_30 : decode cX4_manyAt 30 = .ok (.iconst 0, 1) := by decide +kernel
theorem dX4_manyAt_31 : decode cX4_manyAt 31 = .ok (.iadd, 1) := by decide +kernel
theorem dX4_manyAt_32 : decode cX4_manyAt 32 = .ok (.istore_n 2, 1) := by decide +kernel
theorem dX4_manyAt_33 : decode cX4_manyAt 33 = .ok (.iinc 3 1, 3) := by decide +kernel
theorem dX4_manyAt_36 : decode cX4_manyAt 36 = .ok (.goto (-32), 3) := by decide +kernel
theorem dX4_manyAt_39 : decode cX4_manyAt 39 = .ok (.iload_n 2, 1) := by decide +kernel
theorem dX4_manyAt_40 : decode cX4_manyAt 40 = .ok (.ireturn, 1) := by decide +kernel
theorem dX4_heightAt_0 : decode cX4_heightAt 0 = .ok (.iconst 0, 1) := by decide +kernel
theorem dX4_heightAt_1 : decode cX4_heightAt 1 = .ok (.istore_n 2, 1) := by decide +kernel
theorem dX4_heightAt_2 : decode cX4_heightAt 2 = .ok (.iconst 0, 1) := by decide +kernel
theorem dX4_heightAt_3 : decode cX4_heightAt 3 = .ok (.istore_n 3, 1) := by decide +kernel
theorem dX4_heightAt_4 : decode cX4_heightAt 4 = .ok (.iload_n 3, 1) := by decide +kernel
theorem dX4_heightAt_5 : decode cX4_heightAt 5 = .ok (.aload_n 0, 1) := by decide +kernel
theorem dX4_heightAt_6 : decode cX4_heightAt 6 = .ok (.getfield 26, 3) := by decide +kernel
theorem dX4_heightAt_9 : decode cX4_heightAt 9 = .ok (.if_icmp .ge 37, 3) := by decide +kernel
theorem dX4_heightAt_12 : decode cX4_heightAt 12 = .ok (.aload_n 0, 1) := by decide +kernel
theorem dX4_heightAt_13 : decode cX4_heightAt 13 = .ok (.getfield 17, 3) := by decide +kernel
theorem dX4_heightAt_16 : decode cX4_heightAt 16 = .ok (.iload_n 3, 1) := by decide +kernel
theorem dX4_heightAt_17 : decode cX4_heightAt 17 = .ok (.aaload, 1) := by decide +kernel
theorem dX4_heightAt_18 : decode cX4_heightAt 18 = .ok (.getfield 46, 3) := by decide +kernel
theorem dX4_heightAt_21 : decode cX4_heightAt 21 = .ok (.iload_n 1, 1) := by decide +kernel
theorem dX4_heightAt_22 : decode cX4_heightAt 22 = .ok (.if_icmp .ne 18, 3) := by decide +kernel
theorem dX4_heightAt_25 : decode cX4_heightAt 25 = .ok (.iload_n 2, 1) := by decide +kernel
theorem dX4_heightAt_26 : decode cX4_heightAt 26 = .ok (.aload_n 0, 1) := by decide +kernel
theorem dX4_heightAt_27 : decode cX4_heightAt 27 = .ok (.getfield 17, 3) := by decide +kernel
theorem dX4_heightAt_30 : decode cX4_heightAt 30 = .ok (.iload_n 3, 1) := by decide +kernel
theorem dX4_heightAt_31 : decode cX4_heightAt 31 = .ok (.aaload, 1) := by decide +kernel
theorem dX4_heightAt_32 : decode cX4_heightAt 32 = .ok (.getfield 39, 3) := by decide +kernel
theorem dX4_heightAt_35 : decode cX4_heightAt 35 = .ok (.invokestatic 52, 3) := by decide +kernel
theorem dX4_heightAt_38 : decode cX4_heightAt 38 = .ok (.iadd, 1) := by decide +kernel
theorem dX4_heightAt_39 : decode cX4_heightAt 39 = .ok (.istore_n 2, 1) := by decide +kernel
theorem dX4_heightAt_40 : decode cX4_heightAt 40 = .ok (.iinc 3 1, 3) := by decide +kernel
theorem dX4_heightAt_43 : decode cX4_heightAt 43 = .ok (.goto (-39), 3) := by decide +kernel
theorem dX4_heightAt_46 : decode cX4_heightAt 46 = .ok (.iload_n 2, 1) := by decide +kernel
theorem dX4_heightAt_47 : decode cX4_heightAt 47 = .ok (.ireturn, 1) := by decide +kernel
theorem dX4_isFree_0 : decode cX4_isFree 0 = .ok (.aload_n 0, 1) := by decide +kernel
theorem dX4_isFree_1 : decode cX4_isFree 1 = .ok (.iload_n 1, 1) := by decide +kernel
theorem dX4_isFree_2 : decode cX4_isFree 2 = .ok (.invokevirtual 56, 3) := by decide +kernel
theorem dX4_isFree_5 : decode cX4_isFree 5 = .ok (.ifCond .ne 7, 3) := by decide +kernel
theorem dX4_isFree_8 : decode cX4_isFree 8 = .ok (.iconst 1, 1) := by decide +kernel
theorem dX4_isFree_9 : decode cX4_isFree 9 = .ok (.goto 4, 3) := by decide +kernel
theorem dX4_isFree_12 : decode cX4_isFree 12 = .ok (.iconst 0, 1) := by decide +kernel
theorem dX4_isFree_13 : decode cX4_isFree 13 = .ok (.ireturn, 1) := by decide +kernel
theorem dX4_isTopped_0 : decode cX4_isTopped 0 = .ok (.iconst 0, 1) := by decide +kernel
theorem dX4_isTopped_1 : decode cX4_isTopped 1 = .ok (.istore_n 2, 1) := by decide +kernel
theorem dX4_isTopped_2 : decode cX4_isTopped 2 = .ok (.iload_n 2, 1) := by decide +kernel
theorem dX4_isTopped_3 : decode cX4_isTopped 3 = .ok (.aload_n 0, 1) := by decide +kernel
theorem dX4_isTopped_4 : decode cX4_isTopped 4 = .ok (.getfield 26, 3) := by decide +kernel
theorem dX4_isTopped_7 : decode cX4_isTopped 7 = .ok (.if_icmp .ge 24, 3) := by decide +kernel
theorem dX4_isTopped_10 : decode cX4_isTopped 10 = .ok (.aload_n 0, 1) := by decide +kernel
theorem dX4_isTopped_11 : decode cX4_isTopped 11 = .ok (.getfield 17, 3) := by decide +kernel
theorem dX4_isTopped_14 : decode cX4_isTopped 14 = .ok (.iload_n 2, 1) := by decide +kernel
theorem dX4_isTopped_15 : decode cX4_isTopped 15 = .ok (.aaload, 1) := by decide +kernel
theorem dX4_isTopped_16 : decode cX4_isTopped 16 = .ok (.getfield 49, 3) := by decide +kernel
theorem dX4_isTopped_19 : decode cX4_isTopped 19 = .ok (.iload_n 1, 1) := by decide +kernel
theorem dX4_isTopped_20 : decode cX4_isTopped 20 = .ok (.if_icmp .ne 5, 3) := by decide +kernel
theorem dX4_isTopped_23 : decode cX4_isTopped 23 = .ok (.iconst 1, 1) := by decide +kernel
theorem dX4_isTopped_24 : decode cX4_isTopped 24 = .ok (.ireturn, 1) := by decide +kernel
theorem dX4_isTopped_25 : decode cX4_isTopped 25 = .ok (.iinc 2 1, 3) := by decide +kernel
theorem dX4_isTopped_28 : decode cX4_isTopped 28 = .ok (.goto (-26), 3) := by decide +kernel
theorem dX4_isTopped_31 : decode cX4_isTopped 31 = .ok (.iconst 0, 1) := by decide +kernel
theorem dX4_isTopped_32 : decode cX4_isTopped 32 = .ok (.ireturn, 1) := by decide +kernel
theorem dX4_standsAlone_0 : decode cX4_standsAlone 0 = .ok (.aload_n 0, 1) := by decide +kernel
theorem dX4_standsAlone_1 : decode cX4_standsAlone 1 = .ok (.getfield 17, 3) := by decide +kernel
theorem dX4_standsAlone_4 : decode cX4_standsAlone 4 = .ok (.iload_n 1, 1) := by decide +kernel
theorem dX4_standsAlone_5 : decode cX4_standsAlone 5 = .ok (.aaload, 1) := by decide +kernel
theorem dX4_standsAlone_6 : decode cX4_standsAlone 6 = .ok (.astore_n 2, 1) := by decide +kernel
theorem dX4_standsAlone_7 : decode cX4_standsAlone 7 = .ok (.aload_n 2, 1) := by decide +kernel
theorem dX4_standsAlone_8 : decode cX4_standsAlone 8 = .ok (.invokevirtual 42, 3) := by decide +kernel
theorem dX4_standsAlone_11 : decode cX4_standsAlone 11 = .ok (.ifCond .ne 23, 3) := by decide +kernel
theorem dX4_standsAlone_14 : decode cX4_standsAlone 14 = .ok (.aload_n 2, 1) := by decide +kernel
theorem dX4_standsAlone_15 : decode cX4_standsAlone 15 = .ok (.getfield 49, 3) := by decide +kernel
theorem dX4_standsAlone_18 : decode cX4_standsAlone 18 = .ok (.iconst (-1), 1) := by decide +kernel
theorem dX4_standsAlone_19 : decode cX4_standsAlone 19 = .ok (.if_icmp .ne 15, 3) := by decide +kernel
theorem dX4_standsAlone_22 : decode cX4_standsAlone 22 = .ok (.aload_n 0, 1) := by decide +kernel
theorem dX4_standsAlone_23 : decode cX4_standsAlone 23 = .ok (.iload_n 1, 1) := by decide +kernel
theorem dX4_standsAlone_24 : decode cX4_standsAlone 24 = .ok (.invokevirtual 59, 3) := by decide +kernel
theorem dX4_standsAlone_27 : decode cX4_standsAlone 27 = .ok (.ifCond .ne 7, 3) := by decide +kernel
theorem dX4_standsAlone_30 : decode cX4_standsAlone 30 = .ok (.iconst 1, 1) := by decide +kernel
theorem dX4_standsAlone_31 : decode cX4_standsAlone 31 = .ok (.goto 4, 3) := by decide +kernel
theorem dX4_standsAlone_34 : decode cX4_standsAlone 34 = .ok (.iconst 0, 1) := by decide +kernel
theorem dX4_standsAlone_35 : decode cX4_standsAlone 35 = .ok (.ireturn, 1) := by decide +kernel
theorem dX4_canRoll_0 : decode cX4_canRoll 0 = .ok (.aload_n 0, 1) := by decide +kernel
theorem dX4_canRoll_1 : decode cX4_canRoll 1 = .ok (.getfield 17, 3) := by decide +kernel
theorem dX4_canRoll_4 : decode cX4_canRoll 4 = .ok (.iload_n 1, 1) := by decide +kernel
theorem dX4_canRoll_5 : decode cX4_canRoll 5 = .ok (.aaload, 1) := by decide +kernel
theorem dX4_canRoll_6 : decode cX4_canRoll 6 = .ok (.astore_n 3, 1) := by decide +kernel
theorem dX4_canRoll_7 : decode cX4_canRoll 7 = .ok (.aload_n 0, 1) := by decide +kernel
theorem dX4_canRoll_8 : decode cX4_canRoll 8 = .ok (.iload_n 1, 1) := by decide +kernel
theorem dX4_canRoll_9 : decode cX4_canRoll 9 = .ok (.invokevirtual 63, 3) := by decide +kernel
theorem dX4_canRoll_12 : decode cX4_canRoll 12 = .ok (.ifCond .eq 22, 3) := by decide +kernel
theorem dX4_canRoll_15 : decode cX4_canRoll 15 = .ok (.aload_n 3, 1) := by decide +kernel
theorem dX4_canRoll_16 : decode cX4_canRoll 16 = .ok (.invokevirtual 66, 3) := by decide +kernel
theorem dX4_canRoll_19 : decode cX4_canRoll 19 = .ok (.aload_n 0, 1) := by decide +kernel
theorem dX4_canRoll_20 : decode cX4_canRoll 20 = .ok (.getfield 22, 3) := by decide +kernel
theorem dX4_canRoll_23 : decode cX4_canRoll 23 = .ok (.if_icmp .gt 11, 3) := by decide +kernel
theorem dX4_canRoll_26 : decode cX4_canRoll 26 = .ok (.aload_n 3, 1) := by decide +kernel
theorem dX4_canRoll_27 : decode cX4_canRoll 27 = .ok (.iload_n 2, 1) := by decide +kernel
theorem dX4_canRoll_28 : decode cX4_canRoll 28 = .ok (.invokevirtual 70, 3) := by decide +kernel
theorem dX4_canRoll_31 : decode cX4_canRoll 31 = .ok (.ifCond .ne 5, 3) := by decide +kernel
theorem dX4_canRoll_34 : decode cX4_canRoll 34 = .ok (.iconst 0, 1) := by decide +kernel
theorem dX4_canRoll_35 : decode cX4_canRoll 35 = .ok (.ireturn, 1) := by decide +kernel
theorem dX4_canRoll_36 : decode cX4_canRoll 36 = .ok (.aload_n 3, 1) := by decide +kernel
theorem dX4_canRoll_37 : decode cX4_canRoll 37 = .ok (.getfield 46, 3) := by decide +kernel
theorem dX4_canRoll_40 : decode cX4_canRoll 40 = .ok (.iload_n 2, 1) := by decide +kernel
theorem dX4_canRoll_41 : decode cX4_canRoll 41 = .ok (.invokestatic 73, 3) := by decide +kernel
theorem dX4_canRoll_44 : decode cX4_canRoll 44 = .ok (.istore 4, 2) := by decide +kernel
theorem dX4_canRoll_46 : decode cX4_canRoll 46 = .ok (.iload 4, 2) := by decide +kernel
theorem dX4_canRoll_48 : decode cX4_canRoll 48 = .ok (.iconst (-1), 1) := by decide +kernel
theorem dX4_canRoll_49 : decode cX4_canRoll 49 = .ok (.if_icmp .eq 16, 3) := by decide +kernel
theorem dX4_canRoll_52 : decode cX4_canRoll 52 = .ok (.aload_n 0, 1) := by decide +kernel
theorem dX4_canRoll_53 : decode cX4_canRoll 53 = .ok (.iload 4, 2) := by decide +kernel
theorem dX4_canRoll_55 : decode cX4_canRoll 55 = .ok (.invokevirtual 77, 3) := by decide +kernel
theorem dX4_canRoll_58 : decode cX4_canRoll 58 = .ok (.ifCond .eq 7, 3) := by decide +kernel
theorem dX4_canRoll_61 : decode cX4_canRoll 61 = .ok (.iconst 1, 1) := by decide +kernel
theorem dX4_canRoll_62 : decode cX4_canRoll 62 = .ok (.goto 4, 3) := by decide +kernel
theorem dX4_canRoll_65 : decode cX4_canRoll 65 = .ok (.iconst 0, 1) := by decide +kernel
theorem dX4_canRoll_66 : decode cX4_canRoll 66 = .ok (.ireturn, 1) := by decide +kernel
theorem dX4_push_0 : decode cX4_push 0 = .ok (.aload_n 0, 1) := by decide +kernel
theorem dX4_push_1 : decode cX4_push 1 = .ok (.getfield 17, 3) := by decide +kernel
theorem dX4_push_4 : decode cX4_push 4 = .ok (.iload_n 1, 1) := by decide +kernel
theorem dX4_push_5 : decode cX4_push 5 = .ok (.aaload, 1) := by decide +kernel
theorem dX4_push_6 : decode cX4_push 6 = .ok (.astore_n 3, 1) := by decide +kernel
theorem dX4_push_7 : decode cX4_push 7 = .ok (.aload_n 3, 1) := by decide +kernel
theorem dX4_push_8 : decode cX4_push 8 = .ok (.getfield 46, 3) := by decide +kernel
theorem dX4_push_11 : decode cX4_push 11 = .ok (.iload_n 2, 1) := by decide +kernel
theorem dX4_push_12 : decode cX4_push 12 = .ok (.invokestatic 73, 3) := by decide +kernel
theorem dX4_push_15 : decode cX4_push 15 = .ok (.istore 4, 2) := by decide +kernel
theorem dX4_push_17 : decode cX4_push 17 = .ok (.iload 4, 2) := by decide +kernel
theorem dX4_push_19 : decode cX4_push 19 = .ok (.iconst (-1), 1) := by decide +kernel
theorem dX4_push_20 : decode cX4_push 20 = .ok (.if_icmp .ne 8, 3) := by decide +kernel
theorem dX4_push_23 : decode cX4_push 23 = .ok (.aload_n 3, 1) := by decide +kernel
theorem dX4_push_24 : decode cX4_push 24 = .ok (.getfield 39, 3) := by decide +kernel
theorem dX4_push_27 : decode cX4_push 27 = .ok (.ireturn, 1) := by decide +kernel
theorem dX4_push_28 : decode cX4_push 28 = .ok (.aload_n 3, 1) := by decide +kernel
theorem dX4_push_29 : decode cX4_push 29 = .ok (.getfield 80, 3) := by decide +kernel
theorem dX4_push_32 : decode cX4_push 32 = .ok (.aload_n 3, 1) := by decide +kernel
theorem dX4_push_33 : decode cX4_push 33 = .ok (.getfield 39, 3) := by decide +kernel
theorem dX4_push_36 : decode cX4_push 36 = .ok (.aload_n 0, 1) := by decide +kernel
theorem dX4_push_37 : decode cX4_push 37 = .ok (.getfield 9, 3) := by decide +kernel
theorem dX4_push_40 : decode cX4_push 40 = .ok (.iload 4, 2) := by decide +kernel
theorem dX4_push_42 : decode cX4_push 42 = .ok (.iaload, 1) := by decide +kernel
theorem dX4_push_43 : decode cX4_push 43 = .ok (.aload_n 0, 1) := by decide +kernel
theorem dX4_push_44 : decode cX4_push 44 = .ok (.getfield 36, 3) := by decide +kernel
theorem dX4_push_47 : decode cX4_push 47 = .ok (.invokevirtual 84, 3) := by decide +kernel
theorem dX4_push_50 : decode cX4_push 50 = .ok (.istore 5, 2) := by decide +kernel
theorem dX4_push_52 : decode cX4_push 52 = .ok (.aload_n 0, 1) := by decide +kernel
theorem dX4_push_53 : decode cX4_push 53 = .ok (.getfield 9, 3) := by decide +kernel
theorem dX4_push_56 : decode cX4_push 56 = .ok (.iload 4, 2) := by decide +kernel
theorem dX4_push_58 : decode cX4_push 58 = .ok (.dup2, 1) := by decide +kernel
theorem dX4_push_59 : decode cX4_push 59 = .ok (.iaload, 1) := by decide +kernel
theorem dX4_push_60 : decode cX4_push 60 = .ok (.iload 5, 2) := by decide +kernel
theorem dX4_push_62 : decode cX4_push 62 = .ok (.isub, 1) := by decide +kernel
theorem dX4_push_63 : decode cX4_push 63 = .ok (.iastore, 1) := by decide +kernel
theorem dX4_push_64 : decode cX4_push 64 = .ok (.aload_n 3, 1) := by decide +kernel
theorem dX4_push_65 : decode cX4_push 65 = .ok (.dup, 1) := by decide +kernel
theorem dX4_push_66 : decode cX4_push 66 = .ok (.getfield 39, 3) := by decide +kernel
theorem dX4_push_69 : decode cX4_push 69 = .ok (.iload 5, 2) := by decide +kernel
theorem dX4_push_71 : decode cX4_push 71 = .ok (.iadd, 1) := by decide +kernel
theorem dX4_push_72 : decode cX4_push 72 = .ok (.putfield 39, 3) := by decide +kernel
theorem dX4_push_75 : decode cX4_push 75 = .ok (.aload_n 3, 1) := by decide +kernel
theorem dX4_push_76 : decode cX4_push 76 = .ok (.iload 4, 2) := by decide +kernel
theorem dX4_push_78 : decode cX4_push 78 = .ok (.putfield 46, 3) := by decide +kernel
theorem dX4_push_81 : decode cX4_push 81 = .ok (.aload_n 3, 1) := by decide +kernel
theorem dX4_push_82 : decode cX4_push 82 = .ok (.getfield 80, 3) := by decide +kernel
theorem dX4_push_85 : decode cX4_push 85 = .ok (.invokevirtual 90, 3) := by decide +kernel
theorem dX4_push_88 : decode cX4_push 88 = .ok (.ifCond .eq 11, 3) := by decide +kernel
theorem dX4_push_91 : decode cX4_push 91 = .ok (.aload_n 3, 1) := by decide +kernel
theorem dX4_push_92 : decode cX4_push 92 = .ok (.iload_n 2, 1) := by decide +kernel
theorem dX4_push_93 : decode cX4_push 93 = .ok (.invokestatic 93, 3) := by decide +kernel
theorem dX4_push_96 : decode cX4_push 96 = .ok (.putfield 96, 3) := by decide +kernel
theorem dX4_push_99 : decode cX4_push 99 = .ok (.aload_n 3, 1) := by decide +kernel
theorem dX4_push_100 : decode cX4_push 100 = .ok (.getfield 80, 3) := by decide +kernel
theorem dX4_push_103 : decode cX4_push 103 = .ok (.aload_n 3, 1) := by decide +kernel
theorem dX4_push_104 : decode cX4_push 104 = .ok (.getfield 39, 3) := by decide +kernel
theorem dX4_push_107 : decode cX4_push 107 = .ok (.invokevirtual 99, 3) := by decide +kernel
theorem dX4_push_110 : decode cX4_push 110 = .ok (.ifCond .eq 7, 3) := by decide +kernel
theorem dX4_push_113 : decode cX4_push 113 = .ok (.aload_n 3, 1) := by decide +kernel
theorem dX4_push_114 : decode cX4_push 114 = .ok (.invokevirtual 102, 3) := by decide +kernel
theorem dX4_push_117 : decode cX4_push 117 = .ok (.aload_n 3, 1) := by decide +kernel
theorem dX4_push_118 : decode cX4_push 118 = .ok (.getfield 39, 3) := by decide +kernel
theorem dX4_push_121 : decode cX4_push 121 = .ok (.ireturn, 1) := by decide +kernel
theorem dX4_canLift_0 : decode cX4_canLift 0 = .ok (.aload_n 0, 1) := by decide +kernel
theorem dX4_canLift_1 : decode cX4_canLift 1 = .ok (.getfield 17, 3) := by decide +kernel
theorem dX4_canLift_4 : decode cX4_canLift 4 = .ok (.iload_n 1, 1) := by decide +kernel
theorem dX4_canLift_5 : decode cX4_canLift 5 = .ok (.aaload, 1) := by decide +kernel
theorem dX4_canLift_6 : decode cX4_canLift 6 = .ok (.astore_n 3, 1) := by decide +kernel
theorem dX4_canLift_7 : decode cX4_canLift 7 = .ok (.aload_n 0, 1) := by decide +kernel
theorem dX4_canLift_8 : decode cX4_canLift 8 = .ok (.getfield 17, 3) := by decide +kernel
theorem dX4_canLift_11 : decode cX4_canLift 11 = .ok (.iload_n 2, 1) := by decide +kernel
theorem dX4_canLift_12 : decode cX4_canLift 12 = .ok (.aaload, 1) := by decide +kernel
theorem dX4_canLift_13 : decode cX4_canLift 13 = .ok (.astore 4, 2) := by decide +kernel
theorem dX4_canLift_15 : decode cX4_canLift 15 = .ok (.aload_n 0, 1) := by decide +kernel
theorem dX4_canLift_16 : decode cX4_canLift 16 = .ok (.iload_n 1, 1) := by decide +kernel
theorem dX4_canLift_17 : decode cX4_canLift 17 = .ok (.invokevirtual 63, 3) := by decide +kernel
theorem dX4_canLift_20 : decode cX4_canLift 20 = .ok (.ifCond .eq 16, 3) := by decide +kernel
theorem dX4_canLift_23 : decode cX4_canLift 23 = .ok (.iconst 2, 1) := by decide +kernel
theorem dX4_canLift_24 : decode cX4_canLift 24 = .ok (.aload_n 3, 1) := by decide +kernel
theorem dX4_canLift_25 : decode cX4_canLift 25 = .ok (.invokevirtual 66, 3) := by decide +kernel
theorem dX4_canLift_28 : decode cX4_canLift 28 = .ok (.imul, 1) := by decide +kernel
theorem dX4_canLift_29 : decode cX4_canLift 29 = .ok (.aload_n 0, 1) := by decide +kernel
theorem dX4_canLift_30 : decode cX4_canLift 30 = .ok (.getfield 22, 3) := by decide +kernel
theorem dX4_canLift_33 : decode cX4_canLift 33 = .ok (.if_icmp .le 5, 3) := by decide +kernel
theorem dX4_canLift_36 : decode cX4_canLift 36 = .ok (.iconst 0, 1) := by decide +kernel
theorem dX4_canLift_37 : decode cX4_canLift 37 = .ok (.ireturn, 1) := by decide +kernel
theorem dX4_canLift_38 : decode cX4_canLift 38 = .ok (.aload 4, 2) := by decide +kernel
theorem dX4_canLift_40 : decode cX4_canLift 40 = .ok (.invokevirtual 42, 3) := by decide +kernel
theorem dX4_canLift_43 : decode cX4_canLift 43 = .ok (.ifCond .ne 23, 3) := by decide +kernel
theorem dX4_canLift_46 : decode cX4_canLift 46 = .ok (.aload_n 0, 1) := by decide +kernel
theorem dX4_canLift_47 : decode cX4_canLift 47 = .ok (.iload_n 2, 1) := by decide +kernel
theorem dX4_canLift_48 : decode cX4_canLift 48 = .ok (.invokevirtual 59, 3) := by decide +kernel
theorem dX4_canLift_51 : decode cX4_canLift 51 = .ok (.ifCond .ne 15, 3) := by decide +kernel
theorem dX4_canLift_54 : decode cX4_canLift 54 = .ok (.aload 4, 2) := by decide +kernel
theorem dX4_canLift_56 : decode cX4_canLift 56 = .ok (.getfield 39, 3) := by decide +kernel
theorem dX4_canLift_59 : decode cX4_canLift 59 = .ok (.aload_n 3, 1) := by decide +kernel
theorem dX4_canLift_60 : decode cX4_canLift 60 = .ok (.getfield 39, 3) := by decide +kernel
theorem dX4_canLift_63 : decode cX4_canLift 63 = .ok (.if_icmp .gt 5, 3) := by decide +kernel
theorem dX4_canLift_66 : decode cX4_canLift 66 = .ok (.iconst 0, 1) := by decide +kernel
theorem dX4_canLift_67 : decode cX4_canLift 67 = .ok (.ireturn, 1) := by decide +kernel
theorem dX4_canLift_68 : decode cX4_canLift 68 = .ok (.aload_n 3, 1) := by decide +kernel
theorem dX4_canLift_69 : decode cX4_canLift 69 = .ok (.getfield 46, 3) := by decide +kernel
theorem dX4_canLift_72 : decode cX4_canLift 72 = .ok (.aload 4, 2) := by decide +kernel
theorem dX4_canLift_74 : decode cX4_canLift 74 = .ok (.getfield 46, 3) := by decide +kernel
theorem dX4_canLift_77 : decode cX4_canLift 77 = .ok (.invokestatic 105, 3) := by decide +kernel
theorem dX4_canLift_80 : decode cX4_canLift 80 = .ok (.ifCond .eq 20, 3) := by decide +kernel
theorem dX4_canLift_83 : decode cX4_canLift 83 = .ok (.aload_n 0, 1) := by decide +kernel
theorem dX4_canLift_84 : decode cX4_canLift 84 = .ok (.aload 4, 2) := by decide +kernel
theorem dX4_canLift_86 : decode cX4_canLift 86 = .ok (.getfield 46, 3) := by decide +kernel
theorem dX4_canLift_89 : decode cX4_canLift 89 = .ok (.invokevirtual 56, 3) := by decide +kernel
theorem dX4_canLift_92 : decode cX4_canLift 92 = .ok (.iconst 3, 1) := by decide +kernel
theorem dX4_canLift_93 : decode cX4_canLift 93 = .ok (.if_icmp .ge 7, 3) := by decide +kernel
theorem dX4_canLift_96 : decode cX4_canLift 96 = .ok (.iconst 1, 1) := by decide +kernel
theorem dX4_canLift_97 : decode cX4_canLift 97 = .ok (.goto 4, 3) := by decide +kernel
theorem dX4_canLift_100 : decode cX4_canLift 100 = .ok (.iconst 0, 1) := by decide +kernel
theorem dX4_canLift_101 : decode cX4_canLift 101 = .ok (.ireturn, 1) := by decide +kernel
theorem dX4_raise_0 : decode cX4_raise 0 = .ok (.aload_n 0, 1) := by decide +kernel
theorem dX4_raise_1 : decode cX4_raise 1 = .ok (.getfield 17, 3) := by decide +kernel
theorem dX4_raise_4 : decode cX4_raise 4 = .ok (.iload_n 1, 1) := by decide +kernel
theorem dX4_raise_5 : decode cX4_raise 5 = .ok (.aaload, 1) := by decide +kernel
theorem dX4_raise_6 : decode cX4_raise 6 = .ok (.aload_n 0, 1) := by decide +kernel
theorem dX4_raise_7 : decode cX4_raise 7 = .ok (.getfield 17, 3) := by decide +kernel
theorem dX4_raise_10 : decode cX4_raise 10 = .ok (.iload_n 2, 1) := by decide +kernel
theorem dX4_raise_11 : decode cX4_raise 11 = .ok (.aaload, 1) := by decide +kernel
theorem dX4_raise_12 : decode cX4_raise 12 = .ok (.getfield 46, 3) := by decide +kernel
theorem dX4_raise_15 : decode cX4_raise 15 = .ok (.putfield 46, 3) := by decide +kernel
theorem dX4_raise_18 : decode cX4_raise 18 = .ok (.aload_n 0, 1) := by decide +kernel
theorem dX4_raise_19 : decode cX4_raise 19 = .ok (.getfield 17, 3) := by decide +kernel
theorem dX4_raise_22 : decode cX4_raise 22 = .ok (.iload_n 1, 1) := by decide +kernel
theorem dX4_raise_23 : decode cX4_raise 23 = .ok (.aaload, 1) := by decide +kernel
theorem dX4_raise_24 : decode cX4_raise 24 = .ok (.iload_n 2, 1) := by decide +kernel
theorem dX4_raise_25 : decode cX4_raise 25 = .ok (.putfield 49, 3) := by decide +kernel
theorem dX4_raise_28 : decode cX4_raise 28 = .ok (.aload_n 0, 1) := by decide +kernel
theorem dX4_raise_29 : decode cX4_raise 29 = .ok (.aload_n 0, 1) := by decide +kernel
theorem dX4_raise_30 : decode cX4_raise 30 = .ok (.getfield 17, 3) := by decide +kernel
theorem dX4_raise_33 : decode cX4_raise 33 = .ok (.iload_n 2, 1) := by decide +kernel
theorem dX4_raise_34 : decode cX4_raise 34 = .ok (.aaload, 1) := by decide +kernel
theorem dX4_raise_35 : decode cX4_raise 35 = .ok (.getfield 46, 3) := by decide +kernel
theorem dX4_raise_38 : decode cX4_raise 38 = .ok (.invokevirtual 109, 3) := by decide +kernel
theorem dX4_raise_41 : decode cX4_raise 41 = .ok (.ireturn, 1) := by decide +kernel
theorem dX4_melt_0 : decode cX4_melt 0 = .ok (.iconst 0, 1) := by decide +kernel
theorem dX4_melt_1 : decode cX4_melt 1 = .ok (.istore_n 2, 1) := by decide +kernel
theorem dX4_melt_2 : decode cX4_melt 2 = .ok (.iconst 0, 1) := by decide +kernel
theorem dX4_melt_3 : decode cX4_melt 3 = .ok (.istore_n 3, 1) := by decide +kernel
theorem dX4_melt_4 : decode cX4_melt 4 = .ok (.iload_n 3, 1) := by decide +kernel
theorem dX4_melt_5 : decode cX4_melt 5 = .ok (.aload_n 0, 1) := by decide +kernel
theorem dX4_melt_6 : decode cX4_melt 6 = .ok (.getfield 26, 3) := by decide +kernel
theorem dX4_melt_9 : decode cX4_melt 9 = .ok (.if_icmp .ge 82, 3) := by decide +kernel
theorem dX4_melt_12 : decode cX4_melt 12 = .ok (.aload_n 0, 1) := by decide +kernel
theorem dX4_melt_13 : decode cX4_melt 13 = .ok (.getfield 17, 3) := by decide +kernel
theorem dX4_melt_16 : decode cX4_melt 16 = .ok (.iload_n 3, 1) := by decide +kernel
theorem dX4_melt_17 : decode cX4_melt 17 = .ok (.aaload, 1) := by decide +kernel
theorem dX4_melt_18 : decode cX4_melt 18 = .ok (.astore 4, 2) := by decide +kernel
theorem dX4_melt_20 : decode cX4_melt 20 = .ok (.aload 4, 2) := by decide +kernel
theorem dX4_melt_22 : decode cX4_melt 22 = .ok (.invokevirtual 42, 3) := by decide +kernel
theorem dX4_melt_25 : decode cX4_melt 25 = .ok (.ifCond .eq 6, 3) := by decide +kernel
theorem dX4_melt_28 : decode cX4_melt 28 = .ok (.goto 57, 3) := by decide +kernel
theorem dX4_melt_31 : decode cX4_melt 31 = .ok (.aload 4, 2) := by decide +kernel
theorem dX4_melt_33 : decode cX4_melt 33 = .ok (.getfield 80, 3) := by decide +kernel
theorem dX4_melt_36 : decode cX4_melt 36 = .ok (.iload_n 1, 1) := by decide +kernel
theorem dX4_melt_37 : decode cX4_melt 37 = .ok (.invokevirtual 112, 3) := by decide +kernel
theorem dX4_melt_40 : decode cX4_melt 40 = .ok (.istore 5, 2) := by decide +kernel
theorem dX4_melt_42 : decode cX4_melt 42 = .ok (.iload 5, 2) := by decide +kernel
theorem dX4_melt_44 : decode cX4_melt 44 = .ok (.aload 4, 2) := by decide +kernel
theorem dX4_melt_46 : decode cX4_melt 46 = .ok (.getfield 39, 3) := by decide +kernel
theorem dX4_melt_49 : decode cX4_melt 49 = .ok (.if_icmp .ge 18, 3) := by decide +kernel
theorem dX4_melt_52 : decode cX4_melt 52 = .ok (.aload 4, 2) := by decide +kernel
theorem dX4_melt_54 : decode cX4_melt 54 = .ok (.dup, 1) := by decide +kernel
theorem dX4_melt_55 : decode cX4_melt 55 = .ok (.getfield 39, 3) := by decide +kernel
theorem dX4_melt_58 : decode cX4_melt 58 = .ok (.iload 5, 2) := by decide +kernel
theorem dX4_melt_60 : decode cX4_melt 60 = .ok (.isub, 1) := by decide +kernel
theorem dX4_melt_61 : decode cX4_melt 61 = .ok (.putfield 39, 3) := by decide +kernel
theorem dX4_melt_64 : decode cX4_melt 64 = .ok (.goto 21, 3) := by decide +kernel
theorem dX4_melt_67 : decode cX4_melt 67 = .ok (.aload_n 0, 1) := by decide +kernel
theorem dX4_melt_68 : decode cX4_melt 68 = .ok (.iload_n 3, 1) := by decide +kernel
theorem dX4_melt_69 : decode cX4_melt 69 = .ok (.aload 4, 2) := by decide +kernel
theorem dX4_melt_71 : decode cX4_melt 71 = .ok (.getfield 49, 3) := by decide +kernel
theorem dX4_melt_74 : decode cX4_melt 74 = .ok (.invokevirtual 115, 3) := by decide +kernel
theorem dX4_melt_77 : decode cX4_melt 77 = .ok (.aload 4, 2) := by decide +kernel
theorem dX4_melt_79 : decode cX4_melt 79 = .ok (.invokevirtual 102, 3) := by decide +kernel
theorem dX4_melt_82 : decode cX4_melt 82 = .ok (.iinc 2 1, 3) := by decide +kernel
theorem dX4_melt_85 : decode cX4_melt 85 = .ok (.iinc 3 1, 3) := by decide +kernel
theorem dX4_melt_88 : decode cX4_melt 88 = .ok (.goto (-84), 3) := by decide +kernel
theorem dX4_melt_91 : decode cX4_melt 91 = .ok (.aload_n 0, 1) := by decide +kernel
theorem dX4_melt_92 : decode cX4_melt 92 = .ok (.dup, 1) := by decide +kernel
theorem dX4_melt_93 : decode cX4_melt 93 = .ok (.getfield 29, 3) := by decide +kernel
theorem dX4_melt_96 : decode cX4_melt 96 = .ok (.iconst 1, 1) := by decide +kernel
theorem dX4_melt_97 : decode cX4_melt 97 = .ok (.iadd, 1) := by decide +kernel
theorem dX4_melt_98 : decode cX4_melt 98 = .ok (.putfield 29, 3) := by decide +kernel
theorem dX4_melt_101 : decode cX4_melt 101 = .ok (.iload_n 2, 1) := by decide +kernel
theorem dX4_melt_102 : decode cX4_melt 102 = .ok (.ireturn, 1) := by decide +kernel
theorem dX4_lower_0 : decode cX4_lower 0 = .ok (.iconst 0, 1) := by decide +kernel
theorem dX4_lower_1 : decode cX4_lower 1 = .ok (.istore_n 3, 1) := by decide +kernel
theorem dX4_lower_2 : decode cX4_lower 2 = .ok (.iload_n 3, 1) := by decide +kernel
theorem dX4_lower_3 : decode cX4_lower 3 = .ok (.aload_n 0, 1) := by decide +kernel
theorem dX4_lower_4 : decode cX4_lower 4 = .ok (.getfield 26, 3) := by decide +kernel
theorem dX4_lower_7 : decode cX4_lower 7 = .ok (.if_icmp .ge 32, 3) := by decide +kernel
theorem dX4_lower_10 : decode cX4_lower 10 = .ok (.aload_n 0, 1) := by decide +kernel
theorem dX4_lower_11 : decode cX4_lower 11 = .ok (.getfield 17, 3) := by decide +kernel
theorem dX4_lower_14 : decode cX4_lower 14 = .ok (.iload_n 3, 1) := by decide +kernel
theorem dX4_lower_15 : decode cX4_lower 15 = .ok (.aaload, 1) := by decide +kernel
theorem dX4_lower_16 : decode cX4_lower 16 = .ok (.getfield 49, 3) := by decide +kernel
theorem dX4_lower_19 : decode cX4_lower 19 = .ok (.iload_n 1, 1) := by decide +kernel
theorem dX4_lower_20 : decode cX4_lower 20 = .ok (.if_icmp .ne 13, 3) := by decide +kernel
theorem dX4_lower_23 : decode cX4_lower 23 = .ok (.aload_n 0, 1) := by decide +kernel
theorem dX4_lower_24 : decode cX4_lower 24 = .ok (.getfield 17, 3) := by decide +kernel
theorem dX4_lower_27 : decode cX4_lower 27 = .ok (.iload_n 3, 1) := by decide +kernel
theorem dX4_lower_28 : decode cX4_lower 28 = .ok (.aaload, 1) := by decide +kernel
theorem dX4_lower_29 : decode cX4_lower 29 = .ok (.iload_n 2, 1) := by decide +kernel
theorem dX4_lower_30 : decode cX4_lower 30 = .ok (.putfield 49, 3) := by decide +kernel
theorem dX4_lower_33 : decode cX4_lower 33 = .ok (.iinc 3 1, 3) := by decide +kernel
theorem dX4_lower_36 : decode cX4_lower 36 = .ok (.goto (-34), 3) := by decide +kernel
theorem dX4_lower_39 : decode cX4_lower 39 = .ok (.return_, 1) := by decide +kernel
theorem dX4_daysToFirstGone_0 : decode cX4_daysToFirstGone 0 = .ok (.iconst (-1), 1) := by decide +kernel
theorem dX4_daysToFirstGone_1 : decode cX4_daysToFirstGone 1 = .ok (.istore_n 2, 1) := by decide +kernel
theorem dX4_daysToFirstGone_2 : decode cX4_daysToFirstGone 2 = .ok (.iconst 0, 1) := by decide +kernel
theorem dX4_daysToFirstGone_3 : decode cX4_daysToFirstGone 3 = .ok (.istore_n 3, 1) := by decide +kernel
theorem dX4_daysToFirstGone_4 : decode cX4_daysToFirstGone 4 = .ok (.iload_n 3, 1) := by decide +kernel
theorem dX4_daysToFirstGone_5 : decode cX4_daysToFirstGone 5 = .ok (.aload_n 0, 1) := by decide +kernel
theorem dX4_daysToFirstGone_6 : decode cX4_daysToFirstGone 6 = .ok (.getfield 26, 3) := by decide +kernel
theorem dX4_daysToFirstGone_9 : decode cX4_daysToFirstGone 9 = .ok (.if_icmp .ge 73, 3) := by decide +kernel
theorem dX4_daysToFirstGone_12 : decode cX4_daysToFirstGone 12 = .ok (.aload_n 0, 1) := by decide +kernel
theorem dX4_daysToFirstGone_13 : decode cX4_daysToFirstGone 13 = .ok (.getfield 17, 3) := by decide +kernel
theorem dX4_daysToFirstGone_16 : decode cX4_daysToFirstGone 16 = .ok (.iload_n 3, 1) := by decide +kernel
theorem dX4_daysToFirstGone_17 : decode cX4_daysToFirstGone 17 = .ok (.aaload, 1) := by decide +kernel
theorem dX4_daysToFirstGone_18 : decode cX4_daysToFirstGone 18 = .ok (.astore 4, 2) := by decide +kernel
theorem dX4_daysToFirstGone_20 : decode cX4_daysToFirstGone 20 = .ok (.aload 4, 2) := by decide +kernel
theorem dX4_daysToFirstGone_22 : decode cX4_daysToFirstGone 22 = .ok (.getfield 80, 3) := by decide +kernel
theorem dX4_daysToFirstGone_25 : decode cX4_daysToFirstGone 25 = .ok (.iload_n 1, 1) := by decide +kernel
theorem dX4_daysToFirstGone_26 : decode cX4_daysToFirstGone 26 = .ok (.invokevirtual 112, 3) := by decide +kernel
theorem dX4_daysToFirstGone_29 : decode cX4_daysToFirstGone 29 = .ok (.istore 5, 2) := by decide +kernel
theorem dX4_daysToFirstGone_31 : decode cX4_daysToFirstGone 31 = .ok (.aload 4, 2) := by decide +kernel
theorem dX4_daysToFirstGone_33 : decode cX4_daysToFirstGone 33 = .ok (.invokevirtual 42, 3) := by decide +kernel
theorem dX4_daysToFirstGone_36 : decode cX4_daysToFirstGone 36 = .ok (.ifCond .ne 40, 3) := by decide +kernel
theorem dX4_daysToFirstGone_39 : decode cX4_daysToFirstGone 39 = .ok (.iload 5, 2) := by decide +kernel
theorem dX4_daysToFirstGone_41 : decode cX4_daysToFirstGone 41 = .ok (.ifCond .gt 6, 3) := by decide +kernel
theorem dX4_daysToFirstGone_44 : decode cX4_daysToFirstGone 44 = .ok (.goto 32, 3) := by decide +kernel
theorem dX4_daysToFirstGone_47 : decode cX4_daysToFirstGone 47 = .ok (.aload 4, 2) := by decide +kernel
theorem dX4_daysToFirstGone_49 : decode cX4_daysToFirstGone 49 = .ok (.getfield 39, 3) := by decide +kernel
theorem dX4_daysToFirstGone_52 : decode cX4_daysToFirstGone 52 = .ok (.iload 5, 2) := by decide +kernel
theorem dX4_daysToFirstGone_54 : decode cX4_daysToFirstGone 54 = .ok (.iadd, 1) := by decide +kernel
theorem dX4_daysToFirstGone_55 : decode cX4_daysToFirstGone 55 = .ok (.iconst 1, 1) := by decide +kernel
theorem dX4_daysToFirstGone_56 : decode cX4_daysToFirstGone 56 = .ok (.isub, 1) := by decide +kernel
theorem dX4_daysToFirstGone_57 : decode cX4_daysToFirstGone 57 = .ok (.iload 5, 2) := by decide +kernel
theorem dX4_daysToFirstGone_59 : decode cX4_daysToFirstGone 59 = .ok (.idiv, 1) := by decide +kernel
theorem dX4_daysToFirstGone_60 : decode cX4_daysToFirstGone 60 = .ok (.istore 6, 2) := by decide +kernel
theorem dX4_daysToFirstGone_62 : decode cX4_daysToFirstGone 62 = .ok (.iload_n 2, 1) := by decide +kernel
theorem dX4_daysToFirstGone_63 : decode cX4_daysToFirstGone 63 = .ok (.iconst (-1), 1) := by decide +kernel
theorem dX4_daysToFirstGone_64 : decode cX4_daysToFirstGone 64 = .ok (.if_icmp .eq 9, 3) := by decide +kernel
theorem dX4_daysToFirstGone_67 : decode cX4_daysToFirstGone 67 = .ok (.iload 6, 2) := by decide +kernel
theorem dX4_daysToFirstGone_69 : decode cX4_daysToFirstGone 69 = .ok (.iload_n 2, 1) := by decide +kernel
theorem dX4_daysToFirstGone_70 : decode cX4_daysToFirstGone 70 = .ok (.if_icmp .ge 6, 3) := by decide +kernel
theorem dX4_daysToFirstGone_73 : decode cX4_daysToFirstGone 73 = .ok (.iload 6, 2) := by decide +kernel
theorem dX4_daysToFirstGone_75 : decode cX4_daysToFirstGone 75 = .ok (.istore_n 2, 1) := by decide +kernel
theorem dX4_daysToFirstGone_76 : decode cX4_daysToFirstGone 76 = .ok (.iinc 3 1, 3) := by decide +kernel
theorem dX4_daysToFirstGone_79 : decode cX4_daysToFirstGone 79 = .ok (.goto (-75), 3) := by decide +kernel
theorem dX4_daysToFirstGone_82 : decode cX4_daysToFirstGone 82 = .ok (.iload_n 2, 1) := by decide +kernel
theorem dX4_daysToFirstGone_83 : decode cX4_daysToFirstGone 83 = .ok (.ireturn, 1) := by decide +kernel
theorem dX4_highestThree_0 : decode cX4_highestThree 0 = .ok (.iconst (-1), 1) := by decide +kernel
theorem dX4_highestThree_1 : decode cX4_highestThree 1 = .ok (.istore_n 1, 1) := by decide +kernel
theorem dX4_highestThree_2 : decode cX4_highestThree 2 = .ok (.iconst 0, 1) := by decide +kernel
theorem dX4_highestThree_3 : decode cX4_highestThree 3 = .ok (.istore_n 2, 1) := by decide +kernel
theorem dX4_highestThree_4 : decode cX4_highestThree 4 = .ok (.iconst 0, 1) := by decide +kernel
theorem dX4_highestThree_5 : decode cX4_highestThree 5 = .ok (.istore_n 3, 1) := by decide +kernel
theorem dX4_highestThree_6 : decode cX4_highestThree 6 = .ok (.iload_n 3, 1) := by decide +kernel
theorem dX4_highestThree_7 : decode cX4_highestThree 7 = .ok (.iconst 1, 1) := by decide +kernel
theorem dX4_highestThree_8 : decode cX4_highestThree 8 = .ok (.aload_n 0, 1) := by decide +kernel
theorem dX4_highestThree_9 : decode cX4_highestThree 9 = .ok (.getfield 26, 3) := by decide +kernel
theorem dX4_highestThree_12 : decode cX4_highestThree 12 = .ok (.ishl, 1) := by decide +kernel
theorem dX4_highestThree_13 : decode cX4_highestThree 13 = .ok (.if_icmp .ge 51, 3) := by decide +kernel
theorem dX4_highestThree_16 : decode cX4_highestThree 16 = .ok (.iload_n 3, 1) := by decide +kernel
theorem dX4_highestThree_17 : decode cX4_highestThree 17 = .ok (.invokestatic 119, 3) := by decide +kernel
theorem dX4_highestThree_20 : decode cX4_highestThree 20 = .ok (.iconst 3, 1) := by decide +kernel
theorem dX4_highestThree_21 : decode cX4_highestThree 21 = .ok (.if_icmp .ne 37, 3) := by decide +kernel
theorem dX4_highestThree_24 : decode cX4_highestThree 24 = .ok (.aload_n 0, 1) := by decide +kernel
theorem dX4_highestThree_25 : decode cX4_highestThree 25 = .ok (.iload_n 3, 1) := by decide +kernel
theorem dX4_highestThree_26 : decode cX4_highestThree 26 = .ok (.invokevirtual 124, 3) := by decide +kernel
theorem dX4_highestThree_29 : decode cX4_highestThree 29 = .ok (.ifCond .ne 6, 3) := by decide +kernel
theorem dX4_highestThree_32 : decode cX4_highestThree 32 = .ok (.goto 26, 3) := by decide +kernel
theorem dX4_highestThree_35 : decode cX4_highestThree 35 = .ok (.aload_n 0, 1) := by decide +kernel
theorem dX4_highestThree_36 : decode cX4_highestThree 36 = .ok (.iload_n 3, 1) := by decide +kernel
theorem dX4_highestThree_37 : decode cX4_highestThree 37 = .ok (.invokevirtual 127, 3) := by decide +kernel
theorem dX4_highestThree_40 : decode cX4_highestThree 40 = .ok (.istore 4, 2) := by decide +kernel
theorem dX4_highestThree_42 : decode cX4_highestThree 42 = .ok (.iload_n 1, 1) := by decide +kernel
theorem dX4_highestThree_43 : decode cX4_highestThree 43 = .ok (.iconst (-1), 1) := by decide +kernel
theorem dX4_highestThree_44 : decode cX4_highestThree 44 = .ok (.if_icmp .eq 9, 3) := by decide +kernel
theorem dX4_highestThree_47 : decode cX4_highestThree 47 = .ok (.iload 4, 2) := by decide +kernel
theorem dX4_highestThree_49 : decode cX4_highestThree 49 = .ok (.iload_n 2, 1) := by decide +kernel
theorem dX4_highestThree_50 : decode cX4_highestThree 50 = .ok (.if_icmp .le 8, 3) := by decide +kernel
theorem dX4_highestThree_53 : decode cX4_highestThree 53 = .ok (.iload_n 3, 1) := by decide +kernel
theorem dX4_highestThree_54 : decode cX4_highestThree 54 = .ok (.istore_n 1, 1) := by decide +kernel
theorem dX4_highestThree_55 : decode cX4_highestThree 55 = .ok (.iload 4, 2) := by decide +kernel
theorem dX4_highestThree_57 : decode cX4_highestThree 57 = .ok (.istore_n 2, 1) := by decide +kernel
theorem dX4_highestThree_58 : decode cX4_highestThree 58 = .ok (.iinc 3 1, 3) := by decide +kernel
theorem dX4_highestThree_61 : decode cX4_highestThree 61 = .ok (.goto (-55), 3) := by decide +kernel
theorem dX4_highestThree_64 : decode cX4_highestThree 64 = .ok (.iload_n 1, 1) := by decide +kernel
theorem dX4_highestThree_65 : decode cX4_highestThree 65 = .ok (.ireturn, 1) := by decide +kernel
theorem dX4_heightOfAll_0 : decode cX4_heightOfAll 0 = .ok (.iconst 0, 1) := by decide +kernel
theorem dX4_heightOfAll_1 : decode cX4_heightOfAll 1 = .ok (.istore_n 2, 1) := by decide +kernel
theorem dX4_heightOfAll_2 : decode cX4_heightOfAll 2 = .ok (.iconst 0, 1) := by decide +kernel
theorem dX4_heightOfAll_3 : decode cX4_heightOfAll 3 = .ok (.istore_n 3, 1) := by decide +kernel
theorem dX4_heightOfAll_4 : decode cX4_heightOfAll 4 = .ok (.iload_n 3, 1) := by decide +kernel
theorem dX4_heightOfAll_5 : decode cX4_heightOfAll 5 = .ok (.aload_n 0, 1) := by decide +kernel
theorem dX4_heightOfAll_6 : decode cX4_heightOfAll 6 = .ok (.getfield 26, 3) := by decide +kernel
theorem dX4_heightOfAll_9 : decode cX4_heightOfAll 9 = .ok (.if_icmp .ge 32, 3) := by decide +kernel
theorem dX4_heightOfAll_12 : decode cX4_heightOfAll 12 = .ok (.iload_n 1, 1) := by decide +kernel
theorem dX4_heightOfAll_13 : decode cX4_heightOfAll 13 = .ok (.iload_n 3, 1) := by decide +kernel
theorem dX4_heightOfAll_14 : decode cX4_heightOfAll 14 = .ok (.invokestatic 130, 3) := by decide +kernel
theorem dX4_heightOfAll_17 : decode cX4_heightOfAll 17 = .ok (.ifCond .eq 18, 3) := by decide +kernel
theorem dX4_heightOfAll_20 : decode cX4_heightOfAll 20 = .ok (.iload_n 2, 1) := by decide +kernel
theorem dX4_heightOfAll_21 : decode cX4_heightOfAll 21 = .ok (.aload_n 0, 1) := by decide +kernel
theorem dX4_heightOfAll_22 : decode cX4_heightOfAll 22 = .ok (.getfield 17, 3) := by decide +kernel
theorem dX4_heightOfAll_25 : decode cX4_heightOfAll 25 = .ok (.iload_n 3, 1) := by decide +kernel
theorem dX4_heightOfAll_26 : decode cX4_heightOfAll 26 = .ok (.aaload, 1) := by decide +kernel
theorem dX4_heightOfAll_27 : decode cX4_heightOfAll 27 = .ok (.getfield 39, 3) := by decide +kernel
theorem dX4_heightOfAll_30 : decode cX4_heightOfAll 30 = .ok (.invokestatic 52, 3) := by decide +kernel
theorem dX4_heightOfAll_33 : decode cX4_heightOfAll 33 = .ok (.iadd, 1) := by decide +kernel
theorem dX4_heightOfAll_34 : decode cX4_heightOfAll 34 = .ok (.istore_n 2, 1) := by decide +kernel
theorem dX4_heightOfAll_35 : decode cX4_heightOfAll 35 = .ok (.iinc 3 1, 3) := by decide +kernel
theorem dX4_heightOfAll_38 : decode cX4_heightOfAll 38 = .ok (.goto (-34), 3) := by decide +kernel
theorem dX4_heightOfAll_41 : decode cX4_heightOfAll 41 = .ok (.iload_n 2, 1) := by decide +kernel
theorem dX4_heightOfAll_42 : decode cX4_heightOfAll 42 = .ok (.ireturn, 1) := by decide +kernel
theorem dX4_couldStack_0 : decode cX4_couldStack 0 = .ok (.iconst 0, 1) := by decide +kernel
theorem dX4_couldStack_1 : decode cX4_couldStack 1 = .ok (.istore_n 2, 1) := by decide +kernel
theorem dX4_couldStack_2 : decode cX4_couldStack 2 = .ok (.iload_n 2, 1) := by decide +kernel
theorem dX4_couldStack_3 : decode cX4_couldStack 3 = .ok (.aload_n 0, 1) := by decide +kernel
theorem dX4_couldStack_4 : decode cX4_couldStack 4 = .ok (.getfield 26, 3) := by decide +kernel
theorem dX4_couldStack_7 : decode cX4_couldStack 7 = .ok (.if_icmp .ge 40, 3) := by decide +kernel
theorem dX4_couldStack_10 : decode cX4_couldStack 10 = .ok (.iload_n 1, 1) := by decide +kernel
theorem dX4_couldStack_11 : decode cX4_couldStack 11 = .ok (.iload_n 2, 1) := by decide +kernel
theorem dX4_couldStack_12 : decode cX4_couldStack 12 = .ok (.invokestatic 130, 3) := by decide +kernel
theorem dX4_couldStack_15 : decode cX4_couldStack 15 = .ok (.ifCond .eq 26, 3) := by decide +kernel
theorem dX4_couldStack_18 : decode cX4_couldStack 18 = .ok (.aload_n 0, 1) := by decide +kernel
theorem dX4_couldStack_19 : decode cX4_couldStack 19 = .ok (.getfield 17, 3) := by decide +kernel
theorem dX4_couldStack_22 : decode cX4_couldStack 22 = .ok (.iload_n 2, 1) := by decide +kernel
theorem dX4_couldStack_23 : decode cX4_couldStack 23 = .ok (.aaload, 1) := by decide +kernel
theorem dX4_couldStack_24 : decode cX4_couldStack 24 = .ok (.invokevirtual 42, 3) := by decide +kernel
theorem dX4_couldStack_27 : decode cX4_couldStack 27 = .ok (.ifCond .ne 12, 3) := by decide +kernel
theorem dX4_couldStack_30 : decode cX4_couldStack 30 = .ok (.aload_n 0, 1) := by decide +kernel
theorem dX4_couldStack_31 : decode cX4_couldStack 31 = .ok (.iload_n 1, 1) := by decide +kernel
theorem dX4_couldStack_32 : decode cX4_couldStack 32 = .ok (.iload_n 2, 1) := by decide +kernel
theorem dX4_couldStack_33 : decode cX4_couldStack 33 = .ok (.invokevirtual 133, 3) := by decide +kernel
theorem dX4_couldStack_36 : decode cX4_couldStack 36 = .ok (.ifCond .ne 5, 3) := by decide +kernel
theorem dX4_couldStack_39 : decode cX4_couldStack 39 = .ok (.iconst 0, 1) := by decide +kernel
theorem dX4_couldStack_40 : decode cX4_couldStack 40 = .ok (.ireturn, 1) := by decide +kernel
theorem dX4_couldStack_41 : decode cX4_couldStack 41 = .ok (.iinc 2 1, 3) := by decide +kernel
theorem dX4_couldStack_44 : decode cX4_couldStack 44 = .ok (.goto (-42), 3) := by decide +kernel
theorem dX4_couldStack_47 : decode cX4_couldStack 47 = .ok (.iconst 1, 1) := by decide +kernel
theorem dX4_couldStack_48 : decode cX4_couldStack 48 = .ok (.ireturn, 1) := by decide +kernel
theorem dX4_couldJoin_0 : decode cX4_couldJoin 0 = .ok (.iconst 1, 1) := by decide +kernel
theorem dX4_couldJoin_1 : decode cX4_couldJoin 1 = .ok (.istore_n 3, 1) := by decide +kernel
theorem dX4_couldJoin_2 : decode cX4_couldJoin 2 = .ok (.iconst 0, 1) := by decide +kernel
theorem dX4_couldJoin_3 : decode cX4_couldJoin 3 = .ok (.istore 4, 2) := by decide +kernel
theorem dX4_couldJoin_5 : decode cX4_couldJoin 5 = .ok (.iload 4, 2) := by decide +kernel
theorem dX4_couldJoin_7 : decode cX4_couldJoin 7 = .ok (.aload_n 0, 1) := by decide +kernel
theorem dX4_couldJoin_8 : decode cX4_couldJoin 8 = .ok (.getfield 26, 3) := by decide +kernel
theorem dX4_couldJoin_11 : decode cX4_couldJoin 11 = .ok (.if_icmp .ge 75, 3) := by decide +kernel
theorem dX4_couldJoin_14 : decode cX4_couldJoin 14 = .ok (.iload 4, 2) := by decide +kernel
theorem dX4_couldJoin_16 : decode cX4_couldJoin 16 = .ok (.iload_n 2, 1) := by decide +kernel
theorem dX4_couldJoin_17 : decode cX4_couldJoin 17 = .ok (.if_icmp .eq 63, 3) := by decide +kernel
theorem dX4_couldJoin_20 : decode cX4_couldJoin 20 = .ok (.iload_n 1, 1) := by decide +kernel
theorem dX4_couldJoin_21 : decode cX4_couldJoin 21 = .ok (.iload 4, 2) := by decide +kernel
theorem dX4_couldJoin_23 : decode cX4_couldJoin 23 = .ok (.invokestatic 130, 3) := by decide +kernel
theorem dX4_couldJoin_26 : decode cX4_couldJoin 26 = .ok (.ifCond .ne 6, 3) := by decide +kernel
theorem dX4_couldJoin_29 : decode cX4_couldJoin 29 = .ok (.goto 51, 3) := by decide +kernel
theorem dX4_couldJoin_32 : decode cX4_couldJoin 32 = .ok (.aload_n 0, 1) := by decide +kernel
theorem dX4_couldJoin_33 : decode cX4_couldJoin 33 = .ok (.getfield 17, 3) := by decide +kernel
theorem dX4_couldJoin_36 : decode cX4_couldJoin 36 = .ok (.iload 4, 2) := by decide +kernel
theorem dX4_couldJoin_38 : decode cX4_couldJoin 38 = .ok (.aaload, 1) := by decide +kernel
theorem dX4_couldJoin_39 : decode cX4_couldJoin 39 = .ok (.getfield 39, 3) := by decide +kernel
theorem dX4_couldJoin_42 : decode cX4_couldJoin 42 = .ok (.aload_n 0, 1) := by decide +kernel
theorem dX4_couldJoin_43 : decode cX4_couldJoin 43 = .ok (.getfield 17, 3) := by decide +kernel
theorem dX4_couldJoin_46 : decode cX4_couldJoin 46 = .ok (.iload_n 2, 1) := by decide +kernel
theorem dX4_couldJoin_47 : decode cX4_couldJoin 47 = .ok (.aaload, 1) := by decide +kernel
theorem dX4_couldJoin_48 : decode cX4_couldJoin 48 = .ok (.getfield 39, 3) := by decide +kernel
theorem dX4_couldJoin_51 : decode cX4_couldJoin 51 = .ok (.if_icmp .ne 5, 3) := by decide +kernel
theorem dX4_couldJoin_54 : decode cX4_couldJoin 54 = .ok (.iconst 0, 1) := by decide +kernel
theorem dX4_couldJoin_55 : decode cX4_couldJoin 55 = .ok (.ireturn, 1) := by decide +kernel
theorem dX4_couldJoin_56 : decode cX4_couldJoin 56 = .ok (.aload_n 0, 1) := by decide +kernel
theorem dX4_couldJoin_57 : decode cX4_couldJoin 57 = .ok (.getfield 17, 3) := by decide +kernel
theorem dX4_couldJoin_60 : decode cX4_couldJoin 60 = .ok (.iload 4, 2) := by decide +kernel
theorem dX4_couldJoin_62 : decode cX4_couldJoin 62 = .ok (.aaload, 1) := by decide +kernel
theorem dX4_couldJoin_63 : decode cX4_couldJoin 63 = .ok (.getfield 39, 3) := by decide +kernel
theorem dX4_couldJoin_66 : decode cX4_couldJoin 66 = .ok (.aload_n 0, 1) := by decide +kernel
theorem dX4_couldJoin_67 : decode cX4_couldJoin 67 = .ok (.getfield 17, 3) := by decide +kernel
theorem dX4_couldJoin_70 : decode cX4_couldJoin 70 = .ok (.iload_n 2, 1) := by decide +kernel
theorem dX4_couldJoin_71 : decode cX4_couldJoin 71 = .ok (.aaload, 1) := by decide +kernel
theorem dX4_couldJoin_72 : decode cX4_couldJoin 72 = .ok (.getfield 39, 3) := by decide +kernel
theorem dX4_couldJoin_75 : decode cX4_couldJoin 75 = .ok (.if_icmp .le 5, 3) := by decide +kernel
theorem dX4_couldJoin_78 : decode cX4_couldJoin 78 = .ok (.iconst 0, 1) := by decide +kernel
theorem dX4_couldJoin_79 : decode cX4_couldJoin 79 = .ok (.istore_n 3, 1) := by decide +kernel
theorem dX4_couldJoin_80 : decode cX4_couldJoin 80 = .ok (.iinc 4 1, 3) := by decide +kernel
theorem dX4_couldJoin_83 : decode cX4_couldJoin 83 = .ok (.goto (-78), 3) := by decide +kernel
theorem dX4_couldJoin_86 : decode cX4_couldJoin 86 = .ok (.iload_n 3, 1) := by decide +kernel
theorem dX4_couldJoin_87 : decode cX4_couldJoin 87 = .ok (.ifCond .ne 21, 3) := by decide +kernel
theorem dX4_couldJoin_90 : decode cX4_couldJoin 90 = .ok (.iconst 2, 1) := by decide +kernel
theorem dX4_couldJoin_91 : decode cX4_couldJoin 91 = .ok (.aload_n 0, 1) := by decide +kernel
theorem dX4_couldJoin_92 : decode cX4_couldJoin 92 = .ok (.getfield 17, 3) := by decide +kernel
theorem dX4_couldJoin_95 : decode cX4_couldJoin 95 = .ok (.iload_n 2, 1) := by decide +kernel
theorem dX4_couldJoin_96 : decode cX4_couldJoin 96 = .ok (.aaload, 1) := by decide +kernel
theorem dX4_couldJoin_97 : decode cX4_couldJoin 97 = .ok (.invokevirtual 66, 3) := by decide +kernel
theorem dX4_couldJoin_100 : decode cX4_couldJoin 100 = .ok (.imul, 1) := by decide +kernel
theorem dX4_couldJoin_101 : decode cX4_couldJoin 101 = .ok (.aload_n 0, 1) := by decide +kernel
theorem dX4_couldJoin_102 : decode cX4_couldJoin 102 = .ok (.getfield 22, 3) := by decide +kernel
theorem dX4_couldJoin_105 : decode cX4_couldJoin 105 = .ok (.if_icmp .gt 7, 3) := by decide +kernel
theorem dX4_couldJoin_108 : decode cX4_couldJoin 108 = .ok (.iconst 1, 1) := by decide +kernel
theorem dX4_couldJoin_109 : decode cX4_couldJoin 109 = .ok (.goto 4, 3) := by decide +kernel
theorem dX4_couldJoin_112 : decode cX4_couldJoin 112 = .ok (.iconst 0, 1) := by decide +kernel
theorem dX4_couldJoin_113 : decode cX4_couldJoin 113 = .ok (.ireturn, 1) := by decide +kernel
theorem dX4_isIn_0 : decode cX4_isIn 0 = .ok (.iload_n 0, 1) := by decide +kernel
theorem dX4_isIn_1 : decode cX4_isIn 1 = .ok (.iload_n 1, 1) := by decide +kernel
theorem dX4_isIn_2 : decode cX4_isIn 2 = .ok (.ishr, 1) := by decide +kernel
theorem dX4_isIn_3 : decode cX4_isIn 3 = .ok (.iconst 1, 1) := by decide +kernel
theorem dX4_isIn_4 : decode cX4_isIn 4 = .ok (.iand, 1) := by decide +kernel
theorem dX4_isIn_5 : decode cX4_isIn 5 = .ok (.iconst 1, 1) := by decide +kernel
theorem dX4_isIn_6 : decode cX4_isIn 6 = .ok (.if_icmp .ne 7, 3) := by decide +kernel
theorem dX4_isIn_9 : decode cX4_isIn 9 = .ok (.iconst 1, 1) := by decide +kernel
theorem dX4_isIn_10 : decode cX4_isIn 10 = .ok (.goto 4, 3) := by decide +kernel
theorem dX4_isIn_13 : decode cX4_isIn 13 = .ok (.iconst 0, 1) := by decide +kernel
theorem dX4_isIn_14 : decode cX4_isIn 14 = .ok (.ireturn, 1) := by decide +kernel
theorem dX5_init_0 : decode cX5_init 0 = .ok (.aload_n 0, 1) := by decide +kernel
theorem dX5_init_1 : decode cX5_init 1 = .ok (.invokespecial 1, 3) := by decide +kernel
theorem dX5_init_4 : decode cX5_init 4 = .ok (.return_, 1) := by decide +kernel
theorem dX6_init_0 : decode cX6_init 0 = .ok (.aload_n 0, 1) := by decide +kernel
theorem dX6_init_1 : decode cX6_init 1 = .ok (.invokespecial 1, 3) := by decide +kernel
theorem dX6_init_4 : decode cX6_init 4 = .ok (.return_, 1) := by decide +kernel
theorem dX6_begin_0 : decode cX6_begin 0 = .ok (.aload_n 0, 1) := by decide +kernel
theorem dX6_begin_1 : decode cX6_begin 1 = .ok (.iload_n 1, 1) := by decide +kernel
theorem dX6_begin_2 : decode cX6_begin 2 = .ok (.putfield 7, 3) := by decide +kernel
theorem dX6_begin_5 : decode cX6_begin 5 = .ok (.aload_n 0, 1) := by decide +kernel
theorem dX6_begin_6 : decode cX6_begin 6 = .ok (.iload_n 2, 1) := by decide +kernel
theorem dX6_begin_7 : decode cX6_begin 7 = .ok (.putfield 13, 3) := by decide +kernel
theorem dX6_begin_10 : decode cX6_begin 10 = .ok (.aload_n 0, 1) := by decide +kernel
theorem dX6_begin_11 : decode cX6_begin 11 = .ok (.iconst 0, 1) := by decide +kernel
theorem dX6_begin_12 : decode cX6_begin 12 = .ok (.putfield 16, 3) := by decide +kernel
theorem dX6_begin_15 : decode cX6_begin 15 = .ok (.return_, 1) := by decide +kernel
theorem dX6_meet_0 : decode cX6_meet 0 = .ok (.iload_n 2, 1) := by decide +kernel
theorem dX6_meet_1 : decode cX6_meet 1 = .ok (.aload_n 0, 1) := by decide +kernel
theorem dX6_meet_2 : decode cX6_meet 2 = .ok (.getfield 7, 3) := by decide +kernel
theorem dX6_meet_5 : decode cX6_meet 5 = .ok (.if_icmp .ne 24, 3) := by decide +kernel
theorem dX6_meet_8 : decode cX6_meet 8 = .ok (.aload_n 1, 1) := by decide +kernel
theorem dX6_meet_9 : decode cX6_meet 9 = .ok (.getfield 19, 3) := by decide +kernel
theorem dX6_meet_12 : decode cX6_meet 12 = .ok (.aload_n 0, 1) := by decide +kernel
theorem dX6_meet_13 : decode cX6_meet 13 = .ok (.getfield 13, 3) := by decide +kernel
theorem dX6_meet_16 : decode cX6_meet 16 = .ok (.if_icmp .ne 13, 3) := by decide +kernel
theorem dX6_meet_19 : decode cX6_meet 19 = .ok (.aload_n 0, 1) := by decide +kernel
theorem dX6_meet_20 : decode cX6_meet 20 = .ok (.dup, 1) := by decide +kernel
theorem dX6_meet_21 : decode cX6_meet 21 = .ok (.getfield 16, 3) := by decide +kernel
theorem dX6_meet_24 : decode cX6_meet 24 = .ok (.iconst 1, 1) := by decide +kernel
theorem dX6_meet_25 : decode cX6_meet 25 = .ok (.iadd, 1) := by decide +kernel
theorem dX6_meet_26 : decode cX6_meet 26 = .ok (.putfield 16, 3) := by decide +kernel
theorem dX6_meet_29 : decode cX6_meet 29 = .ok (.return_, 1) := by decide +kernel
theorem dJ6_bitCount_0f7a4_0 : decode cJ6_bitCount_0f7a4 0 = .ok (.iload_n 0, 1) := by decide +kernel
theorem dJ6_bitCount_0f7a4_1 : decode cJ6_bitCount_0f7a4 1 = .ok (.iload_n 0, 1) := by decide +kernel
theorem dJ6_bitCount_0f7a4_2 : decode cJ6_bitCount_0f7a4 2 = .ok (.iconst 1, 1) := by decide +kernel
theorem dJ6_bitCount_0f7a4_3 : decode cJ6_bitCount_0f7a4 3 = .ok (.iushr, 1) := by decide +kernel
theorem dJ6_bitCount_0f7a4_4 : decode cJ6_bitCount_0f7a4 4 = .ok (.ldc_w 265, 3) := by decide +kernel
theorem dJ6_bitCount_0f7a4_7 : decode cJ6_bitCount_0f7a4 7 = .ok (.iand, 1) := by decide +kernel
theorem dJ6_bitCount_0f7a4_8 : decode cJ6_bitCount_0f7a4 8 = .ok (.isub, 1) := by decide +kernel
theorem dJ6_bitCount_0f7a4_9 : decode cJ6_bitCount_0f7a4 9 = .ok (.istore_n 0, 1) := by decide +kernel
theorem dJ6_bitCount_0f7a4_10 : decode cJ6_bitCount_0f7a4 10 = .ok (.iload_n 0, 1) := by decide +kernel
theorem dJ6_bitCount_0f7a4_11 : decode cJ6_bitCount_0f7a4 11 = .ok (.ldc_w 266, 3) := by decide +kernel
theorem dJ6_bitCount_0f7a4_14 : decode cJ6_bitCount_0f7a4 14 = .ok (.iand, 1) := by decide +kernel
theorem dJ6_bitCount_0f7a4_15 : decode cJ6_bitCount_0f7a4 15 = .ok (.iload_n 0, 1) := by decide +kernel
theorem dJ6_bitCount_0f7a4_16 : decode cJ6_bitCount_0f7a4 16 = .ok (.iconst 2, 1) := by decide +kernel
theorem dJ6_bitCount_0f7a4_17 : decode cJ6_bitCount_0f7a4 17 = .ok (.iushr, 1) := by decide +kernel
theorem dJ6_bitCount_0f7a4_18 : decode cJ6_bitCount_0f7a4 18 = .ok (.ldc_w 266, 3) := by decide +kernel
theorem dJ6_bitCount_0f7a4_21 : decode cJ6_bitCount_0f7a4 21 = .ok (.iand, 1) := by decide +kernel
theorem dJ6_bitCount_0f7a4_22 : decode cJ6_bitCount_0f7a4 22 = .ok (.iadd, 1) := by decide +kernel
theorem dJ6_bitCount_0f7a4_23 : decode cJ6_bitCount_0f7a4 23 = .ok (.istore_n 0, 1) := by decide +kernel
theorem dJ6_bitCount_0f7a4_24 : decode cJ6_bitCount_0f7a4 24 = .ok (.iload_n 0, 1) := by decide +kernel
theorem dJ6_bitCount_0f7a4_25 : decode cJ6_bitCount_0f7a4 25 = .ok (.iload_n 0, 1) := by decide +kernel
theorem dJ6_bitCount_0f7a4_26 : decode cJ6_bitCount_0f7a4 26 = .ok (.iconst 4, 1) := by decide +kernel
theorem dJ6_bitCount_0f7a4_27 : decode cJ6_bitCount_0f7a4 27 = .ok (.iushr, 1) := by decide +kernel
theorem dJ6_bitCount_0f7a4_28 : decode cJ6_bitCount_0f7a4 28 = .ok (.iadd, 1) := by decide +kernel
theorem dJ6_bitCount_0f7a4_29 : decode cJ6_bitCount_0f7a4 29 = .ok (.ldc_w 267, 3) := by decide +kernel
theorem dJ6_bitCount_0f7a4_32 : decode cJ6_bitCount_0f7a4 32 = .ok (.iand, 1) := by decide +kernel
theorem dJ6_bitCount_0f7a4_33 : decode cJ6_bitCount_0f7a4 33 = .ok (.istore_n 0, 1) := by decide +kernel
theorem dJ6_bitCount_0f7a4_34 : decode cJ6_bitCount_0f7a4 34 = .ok (.iload_n 0, 1) := by decide +kernel
theorem dJ6_bitCount_0f7a4_35 : decode cJ6_bitCount_0f7a4 35 = .ok (.iload_n 0, 1) := by decide +kernel
theorem dJ6_bitCount_0f7a4_36 : decode cJ6_bitCount_0f7a4 36 = .ok (.bipush 8, 2) := by decide +kernel
theorem dJ6_bitCount_0f7a4_38 : decode cJ6_bitCount_0f7a4 38 = .ok (.iushr, 1) := by decide +kernel
theorem dJ6_bitCount_0f7a4_39 : decode cJ6_bitCount_0f7a4 39 = .ok (.iadd, 1) := by decide +kernel
theorem dJ6_bitCount_0f7a4_40 : decode cJ6_bitCount_0f7a4 40 = .ok (.istore_n 0, 1) := by decide +kernel
theorem dJ6_bitCount_0f7a4_41 : decode cJ6_bitCount_0f7a4 41 = .ok (.iload_n 0, 1) := by decide +kernel
theorem dJ6_bitCount_0f7a4_42 : decode cJ6_bitCount_0f7a4 42 = .ok (.iload_n 0, 1) := by decide +kernel
theorem dJ6_bitCount_0f7a4_43 : decode cJ6_bitCount_0f7a4 43 = .ok (.bipush 16, 2) := by decide +kernel
theorem dJ6_bitCount_0f7a4_45 : decode cJ6_bitCount_0f7a4 45 = .ok (.iushr, 1) := by decide +kernel
theorem dJ6_bitCount_0f7a4_46 : decode cJ6_bitCount_0f7a4 46 = .ok (.iadd, 1) := by decide +kernel
theorem dJ6_bitCount_0f7a4_47 : decode cJ6_bitCount_0f7a4 47 = .ok (.istore_n 0, 1) := by decide +kernel
theorem dJ6_bitCount_0f7a4_48 : decode cJ6_bitCount_0f7a4 48 = .ok (.iload_n 0, 1) := by decide +kernel
theorem dJ6_bitCount_0f7a4_49 : decode cJ6_bitCount_0f7a4 49 = .ok (.bipush 63, 2) := by decide +kernel
theorem dJ6_bitCount_0f7a4_51 : decode cJ6_bitCount_0f7a4 51 = .ok (.iand, 1) := by decide +kernel
theorem dJ6_bitCount_0f7a4_52 : decode cJ6_bitCount_0f7a4 52 = .ok (.ireturn, 1) := by decide +kernel
theorem dJ9_min_7cf53_0 : decode cJ9_min_7cf53 0 = .ok (.iload_n 0, 1) := by decide +kernel
theorem dJ9_min_7cf53_1 : decode cJ9_min_7cf53 1 = .ok (.iload_n 1, 1) := by decide +kernel
theorem dJ9_min_7cf53_2 : decode cJ9_min_7cf53 2 = .ok (.if_icmp .gt 7, 3) := by decide +kernel
theorem dJ9_min_7cf53_5 : decode cJ9_min_7cf53 5 = .ok (.iload_n 0, 1) := by decide +kernel
theorem dJ9_min_7cf53_6 : decode cJ9_min_7cf53 6 = .ok (.goto 4, 3) := by decide +kernel
theorem dJ9_min_7cf53_9 : decode cJ9_min_7cf53 9 = .ok (.iload_n 1, 1) := by decide +kernel
theorem dJ9_min_7cf53_10 : decode cJ9_min_7cf53 10 = .ok (.ireturn, 1) := by decide +kernel
end
section
theorem dX7_init_0 : decode cX7_init 0 = .ok (.aload_n 0, 1) := by decide +kernel
theorem dX7_init_1 : decode cX7_init 1 = .ok (.invokespecial 3, 3) := by decide +kernel
theorem dX7_init_4 : decode cX7_init 4 = .ok (.aload_n 0, 1) := by decide +kernel
theorem dX7_init_5 : decode cX7_init 5 = .ok (.bipush 26, 2) := by decide +kernel
theorem dX7_init_7 : decode cX7_init 7 = .ok (.newarray .char, 2) := by decide +kernel
theorem dX7_init_9 : decode cX7_init 9 = .ok (.putfield 9, 3) := by decide +kernel
theorem dX7_init_12 : decode cX7_init 12 = .ok (.aload_n 0, 1) := by decide +kernel
theorem dX7_init_13 : decode cX7_init 13 = .ok (.new 13, 3) := by decide +kernel
theorem dX7_init_16 : decode cX7_init 16 = .ok (.dup, 1) := by decide +kernel
theorem dX7_init_17 : decode cX7_init 17 = .ok (.invokespecial 15, 3) := by decide +kernel
theorem dX7_init_20 : decode cX7_init 20 = .ok (.putfield 16, 3) := by decide +kernel
theorem dX7_init_23 : decode cX7_init 23 = .ok (.aload_n 0, 1) := by decide +kernel
theorem dX7_init_24 : decode cX7_init 24 = .ok (.new 13, 3) := by decide +kernel
theorem dX7_init_27 : decode cX7_init 27 = .ok (.dup, 1) := by decide +kernel
theorem dX7_init_28 : decode cX7_init 28 = .ok (.invokespecial 15, 3) := by decide +kernel
theorem dX7_init_31 : decode cX7_init 31 = .ok (.putfield 20, 3) := by decide +kernel
theorem dX7_init_34 : decode cX7_init 34 = .ok (.aload_n 0, 1) := by decide +kernel
theorem dX7_init_35 : decode cX7_init 35 = .ok (.new 13, 3) := by decide +kernel
theorem dX7_init_38 : decode cX7_init 38 = .ok (.dup, 1) := by decide +kernel
theorem dX7_init_39 : decode cX7_init 39 = .ok (.invokespecial 15, 3) := by decide +kernel
theorem dX7_init_42 : decode cX7_init 42 = .ok (.putfield 23, 3) := by decide +kernel
theorem dX7_init_45 : decode cX7_init 45 = .ok (.aload_n 0, 1) := by decide +kernel
theorem dX7_init_46 : decode cX7_init 46 = .ok (.new 26, 3) := by decide +kernel
theorem dX7_init_49 : decode cX7_init 49 = .ok (.dup, 1) := by decide +kernel
theorem dX7_init_50 : decode cX7_init 50 = .ok (.invokespecial 28, 3) := by decide +kernel
theorem dX7_init_53 : decode cX7_init 53 = .ok (.putfield 29, 3) := by decide +kernel
theorem dX7_init_56 : decode cX7_init 56 = .ok (.aload_n 0, 1) := by decide +kernel
theorem dX7_init_57 : decode cX7_init 57 = .ok (.new 33, 3) := by decide +kernel
theorem dX7_init_60 : decode cX7_init 60 = .ok (.dup, 1) := by decide +kernel
theorem dX7_init_61 : decode cX7_init 61 = .ok (.invokespecial 35, 3) := by decide +kernel
theorem dX7_init_64 : decode cX7_init 64 = .ok (.putfield 36, 3) := by decide +kernel
theorem dX7_init_67 : decode cX7_init 67 = .ok (.aload_n 0, 1) := by decide +kernel
theorem dX7_init_68 : decode cX7_init 68 = .ok (.new 40, 3) := by decide +kernel
theorem dX7_init_71 : decode cX7_init 71 = .ok (.dup, 1) := by decide +kernel
theorem dX7_init_72 : decode cX7_init 72 = .ok (.invokespecial 42, 3) := by decide +kernel
theorem dX7_init_75 : decode cX7_init 75 = .ok (.putfield 43, 3) := by decide +kernel
theorem dX7_init_78 : decode cX7_init 78 = .ok (.return_, 1) := by decide +kernel
theorem dX7_letter_0 : decode cX7_letter 0 = .ok (.iload_n 1, 1) := by decide +kernel
theorem dX7_letter_1 : decode cX7_letter 1 = .ok (.bipush 32, 2) := by decide +kernel
theorem dX7_letter_3 : decode cX7_letter 3 = .ok (.bipush 126, 2) := by decide +kernel
theorem dX7_letter_5 : decode cX7_letter 5 = .ok (.invokestatic 47, 3) := by decide +kernel
theorem dX7_letter_8 : decode cX7_letter 8 = .ok (.ifCond .eq 6, 3) := by decide +kernel
theorem dX7_letter_11 : decode cX7_letter 11 = .ok (.bipush (-102), 2) := by decide +kernel
theorem dX7_letter_13 : decode cX7_letter 13 = .ok (.ireturn, 1) := by decide +kernel
theorem dX7_letter_14 : decode cX7_letter 14 = .ok (.aload_n 0, 1) := by decide +kernel
theorem dX7_letter_15 : decode cX7_letter 15 = .ok (.getfield 51, 3) := by decide +kernel
theorem dX7_letter_18 : decode cX7_letter 18 = .ok (.bipush 26, 2) := by decide +kernel
theorem dX7_letter_20 : decode cX7_letter 20 = .ok (.if_icmp .lt 6, 3) := by decide +kernel
theorem dX7_letter_23 : decode cX7_letter 23 = .ok (.bipush (-104), 2) := by decide +kernel
theorem dX7_letter_25 : decode cX7_letter 25 = .ok (.ireturn, 1) := by decide +kernel
theorem dX7_letter_26 : decode cX7_letter 26 = .ok (.aload_n 0, 1) := by decide +kernel
theorem dX7_letter_27 : decode cX7_letter 27 = .ok (.getfield 9, 3) := by decide +kernel
theorem dX7_letter_30 : decode cX7_letter 30 = .ok (.aload_n 0, 1) := by decide +kernel
theorem dX7_letter_31 : decode cX7_letter 31 = .ok (.getfield 51, 3) := by decide +kernel
theorem dX7_letter_34 : decode cX7_letter 34 = .ok (.iload_n 1, 1) := by decide +kernel
theorem dX7_letter_35 : decode cX7_letter 35 = .ok (.i2c, 1) := by decide +kernel
theorem dX7_letter_36 : decode cX7_letter 36 = .ok (.castore, 1) := by decide +kernel
theorem dX7_letter_37 : decode cX7_letter 37 = .ok (.aload_n 0, 1) := by decide +kernel
theorem dX7_letter_38 : decode cX7_letter 38 = .ok (.dup, 1) := by decide +kernel
theorem dX7_letter_39 : decode cX7_letter 39 = .ok (.getfield 51, 3) := by decide +kernel
theorem dX7_letter_42 : decode cX7_letter 42 = .ok (.iconst 1, 1) := by decide +kernel
theorem dX7_letter_43 : decode cX7_letter 43 = .ok (.iadd, 1) := by decide +kernel
theorem dX7_letter_44 : decode cX7_letter 44 = .ok (.putfield 51, 3) := by decide +kernel
theorem dX7_letter_47 : decode cX7_letter 47 = .ok (.aload_n 0, 1) := by decide +kernel
theorem dX7_letter_48 : decode cX7_letter 48 = .ok (.getfield 51, 3) := by decide +kernel
theorem dX7_letter_51 : decode cX7_letter 51 = .ok (.ireturn, 1) := by decide +kernel
theorem dX7_blank_0 : decode cX7_blank 0 = .ok (.aload_n 0, 1) := by decide +kernel
theorem dX7_blank_1 : decode cX7_blank 1 = .ok (.getfield 51, 3) := by decide +kernel
theorem dX7_blank_4 : decode cX7_blank 4 = .ok (.istore_n 1, 1) := by decide +kernel
theorem dX7_blank_5 : decode cX7_blank 5 = .ok (.aload_n 0, 1) := by decide +kernel
theorem dX7_blank_6 : decode cX7_blank 6 = .ok (.iconst 0, 1) := by decide +kernel
theorem dX7_blank_7 : decode cX7_blank 7 = .ok (.putfield 51, 3) := by decide +kernel
theorem dX7_blank_10 : decode cX7_blank 10 = .ok (.iload_n 1, 1) := by decide +kernel
theorem dX7_blank_11 : decode cX7_blank 11 = .ok (.ireturn, 1) := by decide +kernel
theorem dX7_fault_0 : decode cX7_fault 0 = .ok (.iconst 0, 1) := by decide +kernel
theorem dX7_fault_1 : decode cX7_fault 1 = .ok (.istore_n 1, 1) := by decide +kernel
theorem dX7_fault_2 : decode cX7_fault 2 = .ok (.iload_n 1, 1) := by decide +kernel
theorem dX7_fault_3 : decode cX7_fault 3 = .ok (.aload_n 0, 1) := by decide +kernel
theorem dX7_fault_4 : decode cX7_fault 4 = .ok (.getfield 51, 3) := by decide +kernel
theorem dX7_fault_7 : decode cX7_fault 7 = .ok (.if_icmp .ge 24, 3) := by decide +kernel
theorem dX7_fault_10 : decode cX7_fault 10 = .ok (.iload_n 1, 1) := by decide +kernel
theorem dX7_fault_11 : decode cX7_fault 11 = .ok (.aload_n 0, 1) := by decide +kernel
theorem dX7_fault_12 : decode cX7_fault 12 = .ok (.getfield 9, 3) := by decide +kernel
theorem dX7_fault_15 : decode cX7_fault 15 = .ok (.iload_n 1, 1) := by decide +kernel
theorem dX7_fault_16 : decode cX7_fault 16 = .ok (.caload, 1) := by decide +kernel
theorem dX7_fault_17 : decode cX7_fault 17 = .ok (.invokestatic 55, 3) := by decide +kernel
theorem dX7_fault_20 : decode cX7_fault 20 = .ok (.ifCond .ne 5, 3) := by decide +kernel
theorem dX7_fault_23 : decode cX7_fault 23 = .ok (.iload_n 1, 1) := by decide +kernel
theorem dX7_fault_24 : decode cX7_fault 24 = .ok (.ireturn, 1) := by decide +kernel
theorem dX7_fault_25 : decode cX7_fault 25 = .ok (.iinc 1 1, 3) := by decide +kernel
theorem dX7_fault_28 : decode cX7_fault 28 = .ok (.goto (-26), 3) := by decide +kernel
theorem dX7_fault_31 : decode cX7_fault 31 = .ok (.aload_n 0, 1) := by decide +kernel
theorem dX7_fault_32 : decode cX7_fault 32 = .ok (.getfield 51, 3) := by decide +kernel
theorem dX7_fault_35 : decode cX7_fault 35 = .ok (.ireturn, 1) := by decide +kernel
theorem dX7_lawn_0 : decode cX7_lawn 0 = .ok (.aload_n 0, 1) := by decide +kernel
theorem dX7_lawn_1 : decode cX7_lawn 1 = .ok (.getfield 51, 3) := by decide +kernel
theorem dX7_lawn_4 : decode cX7_lawn 4 = .ok (.bipush 25, 2) := by decide +kernel
theorem dX7_lawn_6 : decode cX7_lawn 6 = .ok (.if_icmp .ne 12, 3) := by decide +kernel
theorem dX7_lawn_9 : decode cX7_lawn 9 = .ok (.aload_n 0, 1) := by decide +kernel
theorem dX7_lawn_10 : decode cX7_lawn 10 = .ok (.invokevirtual 59, 3) := by decide +kernel
theorem dX7_lawn_13 : decode cX7_lawn 13 = .ok (.bipush 25, 2) := by decide +kernel
theorem dX7_lawn_15 : decode cX7_lawn 15 = .ok (.if_icmp .eq 6, 3) := by decide +kernel
theorem dX7_lawn_18 : decode cX7_lawn 18 = .ok (.bipush (-103), 2) := by decide +kernel
theorem dX7_lawn_20 : decode cX7_lawn 20 = .ok (.ireturn, 1) := by decide +kernel
theorem dX7_lawn_21 : decode cX7_lawn 21 = .ok (.aload_n 0, 1) := by decide +kernel
theorem dX7_lawn_22 : decode cX7_lawn 22 = .ok (.getfield 16, 3) := by decide +kernel
theorem dX7_lawn_25 : decode cX7_lawn 25 = .ok (.invokevirtual 63, 3) := by decide +kernel
theorem dX7_lawn_28 : decode cX7_lawn 28 = .ok (.iconst 0, 1) := by decide +kernel
theorem dX7_lawn_29 : decode cX7_lawn 29 = .ok (.istore_n 1, 1) := by decide +kernel
theorem dX7_lawn_30 : decode cX7_lawn 30 = .ok (.iload_n 1, 1) := by decide +kernel
theorem dX7_lawn_31 : decode cX7_lawn 31 = .ok (.bipush 20, 2) := by decide +kernel
theorem dX7_lawn_33 : decode cX7_lawn 33 = .ok (.if_icmp .ge 30, 3) := by decide +kernel
theorem dX7_lawn_36 : decode cX7_lawn 36 = .ok (.aload_n 0, 1) := by decide +kernel
theorem dX7_lawn_37 : decode cX7_lawn 37 = .ok (.getfield 16, 3) := by decide +kernel
theorem dX7_lawn_40 : decode cX7_lawn 40 = .ok (.getfield 66, 3) := by decide +kernel
theorem dX7_lawn_43 : decode cX7_lawn 43 = .ok (.iload_n 1, 1) := by decide +kernel
theorem dX7_lawn_44 : decode cX7_lawn 44 = .ok (.aload_n 0, 1) := by decide +kernel
theorem dX7_lawn_45 : decode cX7_lawn 45 = .ok (.getfield 9, 3) := by decide +kernel
theorem dX7_lawn_48 : decode cX7_lawn 48 = .ok (.iload_n 1, 1) := by decide +kernel
theorem dX7_lawn_49 : decode cX7_lawn 49 = .ok (.invokestatic 70, 3) := by decide +kernel
theorem dX7_lawn_52 : decode cX7_lawn 52 = .ok (.caload, 1) := by decide +kernel
theorem dX7_lawn_53 : decode cX7_lawn 53 = .ok (.bipush 48, 2) := by decide +kernel
theorem dX7_lawn_55 : decode cX7_lawn 55 = .ok (.isub, 1) := by decide +kernel
theorem dX7_lawn_56 : decode cX7_lawn 56 = .ok (.iastore, 1) := by decide +kernel
theorem dX7_lawn_57 : decode cX7_lawn 57 = .ok (.iinc 1 1, 3) := by decide +kernel
theorem dX7_lawn_60 : decode cX7_lawn 60 = .ok (.goto (-30), 3) := by decide +kernel
theorem dX7_lawn_63 : decode cX7_lawn 63 = .ok (.aload_n 0, 1) := by decide +kernel
theorem dX7_lawn_64 : decode cX7_lawn 64 = .ok (.getfield 16, 3) := by decide +kernel
theorem dX7_lawn_67 : decode cX7_lawn 67 = .ok (.aload_n 0, 1) := by decide +kernel
theorem dX7_lawn_68 : decode cX7_lawn 68 = .ok (.getfield 9, 3) := by decide +kernel
theorem dX7_lawn_71 : decode cX7_lawn 71 = .ok (.bipush 24, 2) := by decide +kernel
theorem dX7_lawn_73 : decode cX7_lawn 73 = .ok (.caload, 1) := by decide +kernel
theorem dX7_lawn_74 : decode cX7_lawn 74 = .ok (.bipush 48, 2) := by decide +kernel
theorem dX7_lawn_76 : decode cX7_lawn 76 = .ok (.isub, 1) := by decide +kernel
theorem dX7_lawn_77 : decode cX7_lawn 77 = .ok (.putfield 74, 3) := by decide +kernel
theorem dX7_lawn_80 : decode cX7_lawn 80 = .ok (.aload_n 0, 1) := by decide +kernel
theorem dX7_lawn_81 : decode cX7_lawn 81 = .ok (.iconst 0, 1) := by decide +kernel
theorem dX7_lawn_82 : decode cX7_lawn 82 = .ok (.putfield 51, 3) := by decide +kernel
theorem dX7_lawn_85 : decode cX7_lawn 85 = .ok (.aload_n 0, 1) := by decide +kernel
theorem dX7_lawn_86 : decode cX7_lawn 86 = .ok (.dup, 1) := by decide +kernel
theorem dX7_lawn_87 : decode cX7_lawn 87 = .ok (.getfield 77, 3) := by decide +kernel
theorem dX7_lawn_90 : decode cX7_lawn 90 = .ok (.iconst 1, 1) := by decide +kernel
theorem dX7_lawn_91 : decode cX7_lawn 91 = .ok (.iadd, 1) := by decide +kernel
theorem dX7_lawn_92 : decode cX7_lawn 92 = .ok (.putfield 77, 3) := by decide +kernel
theorem dX7_lawn_95 : decode cX7_lawn 95 = .ok (.aload_n 0, 1) := by decide +kernel
theorem dX7_lawn_96 : decode cX7_lawn 96 = .ok (.iconst 0, 1) := by decide +kernel
theorem dX7_lawn_97 : decode cX7_lawn 97 = .ok (.putfield 80, 3) := by decide +kernel
theorem dX7_lawn_100 : decode cX7_lawn 100 = .ok (.aload_n 0, 1) := by decide +kernel
theorem dX7_lawn_101 : decode cX7_lawn 101 = .ok (.getfield 16, 3) := by decide +kernel
theorem dX7_lawn_104 : decode cX7_lawn 104 = .ok (.invokevirtual 84, 3) := by decide +kernel
theorem dX7_lawn_107 : decode cX7_lawn 107 = .ok (.ireturn, 1) := by decide +kernel
theorem dX7_place_0 : decode cX7_place 0 = .ok (.iload_n 1, 1) := by decide +kernel
theorem dX7_place_1 : decode cX7_place 1 = .ok (.invokestatic 87, 3) := by decide +kernel
theorem dX7_place_4 : decode cX7_place 4 = .ok (.ifCond .ne 6, 3) := by decide +kernel
theorem dX7_place_7 : decode cX7_place 7 = .ok (.bipush (-101), 2) := by decide +kernel
theorem dX7_place_9 : decode cX7_place 9 = .ok (.ireturn, 1) := by decide +kernel
theorem dX7_place_10 : decode cX7_place 10 = .ok (.iload_n 2, 1) := by decide +kernel
theorem dX7_place_11 : decode cX7_place 11 = .ok (.iconst 0, 1) := by decide +kernel
theorem dX7_place_12 : decode cX7_place 12 = .ok (.iconst 2, 1) := by decide +kernel
theorem dX7_place_13 : decode cX7_place 13 = .ok (.invokestatic 47, 3) := by decide +kernel
theorem dX7_place_16 : decode cX7_place 16 = .ok (.ifCond .eq 6, 3) := by decide +kernel
theorem dX7_place_19 : decode cX7_place 19 = .ok (.bipush (-102), 2) := by decide +kernel
theorem dX7_place_21 : decode cX7_place 21 = .ok (.ireturn, 1) := by decide +kernel
theorem dX7_place_22 : decode cX7_place 22 = .ok (.aload_n 0, 1) := by decide +kernel
theorem dX7_place_23 : decode cX7_place 23 = .ok (.invokevirtual 91, 3) := by decide +kernel
theorem dX7_place_26 : decode cX7_place 26 = .ok (.ifCond .ne 6, 3) := by decide +kernel
theorem dX7_place_29 : decode cX7_place 29 = .ok (.bipush (-103), 2) := by decide +kernel
theorem dX7_place_31 : decode cX7_place 31 = .ok (.ireturn, 1) := by decide +kernel
theorem dX7_place_32 : decode cX7_place 32 = .ok (.iload_n 2, 1) := by decide +kernel
theorem dX7_place_33 : decode cX7_place 33 = .ok (.ifCond .ne 13, 3) := by decide +kernel
theorem dX7_place_36 : decode cX7_place 36 = .ok (.aload_n 0, 1) := by decide +kernel
theorem dX7_place_37 : decode cX7_place 37 = .ok (.getfield 16, 3) := by decide +kernel
theorem dX7_place_40 : decode cX7_place 40 = .ok (.getfield 66, 3) := by decide +kernel
theorem dX7_place_43 : decode cX7_place 43 = .ok (.iload_n 1, 1) := by decide +kernel
theorem dX7_place_44 : decode cX7_place 44 = .ok (.iaload, 1) := by decide +kernel
theorem dX7_place_45 : decode cX7_place 45 = .ok (.ireturn, 1) := by decide +kernel
theorem dX7_place_46 : decode cX7_place 46 = .ok (.iload_n 2, 1) := by decide +kernel
theorem dX7_place_47 : decode cX7_place 47 = .ok (.iconst 1, 1) := by decide +kernel
theorem dX7_place_48 : decode cX7_place 48 = .ok (.if_icmp .ne 14, 3) := by decide +kernel
theorem dX7_place_51 : decode cX7_place 51 = .ok (.aload_n 0, 1) := by decide +kernel
theorem dX7_place_52 : decode cX7_place 52 = .ok (.getfield 16, 3) := by decide +kernel
theorem dX7_place_55 : decode cX7_place 55 = .ok (.iload_n 1, 1) := by decide +kernel
theorem dX7_place_56 : decode cX7_place 56 = .ok (.invokevirtual 95, 3) := by decide +kernel
theorem dX7_place_59 : decode cX7_place 59 = .ok (.goto 11, 3) := by decide +kernel
theorem dX7_place_62 : decode cX7_place 62 = .ok (.aload_n 0, 1) := by decide +kernel
theorem dX7_place_63 : decode cX7_place 63 = .ok (.getfield 16, 3) := by decide +kernel
theorem dX7_place_66 : decode cX7_place 66 = .ok (.iload_n 1, 1) := by decide +kernel
theorem dX7_place_67 : decode cX7_place 67 = .ok (.invokevirtual 98, 3) := by decide +kernel
theorem dX7_place_70 : decode cX7_place 70 = .ok (.ireturn, 1) := by decide +kernel
theorem dX7_strength_0 : decode cX7_strength 0 = .ok (.iload_n 1, 1) := by decide +kernel
theorem dX7_strength_1 : decode cX7_strength 1 = .ok (.iconst 1, 1) := by decide +kernel
theorem dX7_strength_2 : decode cX7_strength 2 = .ok (.bipush 99, 2) := by decide +kernel
theorem dX7_strength_4 : decode cX7_strength 4 = .ok (.invokestatic 47, 3) := by decide +kernel
theorem dX7_strength_7 : decode cX7_strength 7 = .ok (.ifCond .eq 6, 3) := by decide +kernel
theorem dX7_strength_10 : decode cX7_strength 10 = .ok (.bipush (-102), 2) := by decide +kernel
theorem dX7_strength_12 : decode cX7_strength 12 = .ok (.ireturn, 1) := by decide +kernel
theorem dX7_strength_13 : decode cX7_strength 13 = .ok (.aload_n 0, 1) := by decide +kernel
theorem dX7_strength_14 : decode cX7_strength 14 = .ok (.invokevirtual 91, 3) := by decide +kernel
theorem dX7_strength_17 : decode cX7_strength 17 = .ok (.ifCond .ne 6, 3) := by decide +kernel
theorem dX7_strength_20 : decode cX7_strength 20 = .ok (.bipush (-103), 2) := by decide +kernel
theorem dX7_strength_22 : decode cX7_strength 22 = .ok (.ireturn, 1) := by decide +kernel
theorem dX7_strength_23 : decode cX7_strength 23 = .ok (.aload_n 0, 1) := by decide +kernel
theorem dX7_strength_24 : decode cX7_strength 24 = .ok (.getfield 16, 3) := by decide +kernel
theorem dX7_strength_27 : decode cX7_strength 27 = .ok (.getfield 101, 3) := by decide +kernel
theorem dX7_strength_30 : decode cX7_strength 30 = .ok (.istore_n 2, 1) := by decide +kernel
theorem dX7_strength_31 : decode cX7_strength 31 = .ok (.aload_n 0, 1) := by decide +kernel
theorem dX7_strength_32 : decode cX7_strength 32 = .ok (.getfield 16, 3) := by decide +kernel
theorem dX7_strength_35 : decode cX7_strength 35 = .ok (.iload_n 1, 1) := by decide +kernel
theorem dX7_strength_36 : decode cX7_strength 36 = .ok (.putfield 101, 3) := by decide +kernel
theorem dX7_strength_39 : decode cX7_strength 39 = .ok (.iload_n 2, 1) := by decide +kernel
theorem dX7_strength_40 : decode cX7_strength 40 = .ok (.ireturn, 1) := by decide +kernel
theorem dX7_ball_0 : decode cX7_ball 0 = .ok (.iload_n 2, 1) := by decide +kernel
theorem dX7_ball_1 : decode cX7_ball 1 = .ok (.invokestatic 87, 3) := by decide +kernel
theorem dX7_ball_4 : decode cX7_ball 4 = .ok (.ifCond .ne 6, 3) := by decide +kernel
theorem dX7_ball_7 : decode cX7_ball 7 = .ok (.bipush (-101), 2) := by decide +kernel
theorem dX7_ball_9 : decode cX7_ball 9 = .ok (.ireturn, 1) := by decide +kernel
theorem dX7_ball_10 : decode cX7_ball 10 = .ok (.iload_n 1, 1) := by decide +kernel
theorem dX7_ball_11 : decode cX7_ball 11 = .ok (.invokestatic 104, 3) := by decide +kernel
theorem dX7_ball_14 : decode cX7_ball 14 = .ok (.ifCond .ne 6, 3) := by decide +kernel
theorem dX7_ball_17 : decode cX7_ball 17 = .ok (.bipush (-102), 2) := by decide +kernel
theorem dX7_ball_19 : decode cX7_ball 19 = .ok (.ireturn, 1) := by decide +kernel
theorem dX7_ball_20 : decode cX7_ball 20 = .ok (.aload_n 0, 1) := by decide +kernel
theorem dX7_ball_21 : decode cX7_ball 21 = .ok (.invokevirtual 91, 3) := by decide +kernel
theorem dX7_ball_24 : decode cX7_ball 24 = .ok (.ifCond .eq 14, 3) := by decide +kernel
theorem dX7_ball_27 : decode cX7_ball 27 = .ok (.aload_n 0, 1) := by decide +kernel
theorem dX7_ball_28 : decode cX7_ball 28 = .ok (.getfield 16, 3) := by decide +kernel
theorem dX7_ball_31 : decode cX7_ball 31 = .ok (.iload_n 2, 1) := by decide +kernel
theorem dX7_ball_32 : decode cX7_ball 32 = .ok (.invokevirtual 107, 3) := by decide +kernel
theorem dX7_ball_35 : decode cX7_ball 35 = .ok (.ifCond .ne 6, 3) := by decide +kernel
theorem dX7_ball_38 : decode cX7_ball 38 = .ok (.bipush (-103), 2) := by decide +kernel
theorem dX7_ball_40 : decode cX7_ball 40 = .ok (.ireturn, 1) := by decide +kernel
theorem dX7_ball_41 : decode cX7_ball 41 = .ok (.aload_n 0, 1) := by decide +kernel
theorem dX7_ball_42 : decode cX7_ball 42 = .ok (.getfield 16, 3) := by decide +kernel
theorem dX7_ball_45 : decode cX7_ball 45 = .ok (.getfield 110, 3) := by decide +kernel
theorem dX7_ball_48 : decode cX7_ball 48 = .ok (.iconst 4, 1) := by decide +kernel
theorem dX7_ball_49 : decode cX7_ball 49 = .ok (.if_icmp .lt 6, 3) := by decide +kernel
theorem dX7_ball_52 : decode cX7_ball 52 = .ok (.bipush (-104), 2) := by decide +kernel
theorem dX7_ball_54 : decode cX7_ball 54 = .ok (.ireturn, 1) := by decide +kernel
theorem dX7_ball_55 : decode cX7_ball 55 = .ok (.aload_n 0, 1) := by decide +kernel
theorem dX7_ball_56 : decode cX7_ball 56 = .ok (.getfield 16, 3) := by decide +kernel
theorem dX7_ball_59 : decode cX7_ball 59 = .ok (.getfield 113, 3) := by decide +kernel
theorem dX7_ball_62 : decode cX7_ball 62 = .ok (.aload_n 0, 1) := by decide +kernel
theorem dX7_ball_63 : decode cX7_ball 63 = .ok (.getfield 16, 3) := by decide +kernel
theorem dX7_ball_66 : decode cX7_ball 66 = .ok (.getfield 110, 3) := by decide +kernel
theorem dX7_ball_69 : decode cX7_ball 69 = .ok (.aaload, 1) := by decide +kernel
theorem dX7_ball_70 : decode cX7_ball 70 = .ok (.getstatic 117, 3) := by decide +kernel
theorem dX7_ball_73 : decode cX7_ball 73 = .ok (.iload_n 1, 1) := by decide +kernel
theorem dX7_ball_74 : decode cX7_ball 74 = .ok (.aaload, 1) := by decide +kernel
theorem dX7_ball_75 : decode cX7_ball 75 = .ok (.iload_n 2, 1) := by decide +kernel
theorem dX7_ball_76 : decode cX7_ball 76 = .ok (.invokevirtual 121, 3) := by decide +kernel
theorem dX7_ball_79 : decode cX7_ball 79 = .ok (.aload_n 0, 1) := by decide +kernel
theorem dX7_ball_80 : decode cX7_ball 80 = .ok (.getfield 16, 3) := by decide +kernel
theorem dX7_ball_83 : decode cX7_ball 83 = .ok (.dup, 1) := by decide +kernel
theorem dX7_ball_84 : decode cX7_ball 84 = .ok (.getfield 110, 3) := by decide +kernel
theorem dX7_ball_87 : decode cX7_ball 87 = .ok (.iconst 1, 1) := by decide +kernel
theorem dX7_ball_88 : decode cX7_ball 88 = .ok (.iadd, 1) := by decide +kernel
theorem dX7_ball_89 : decode cX7_ball 89 = .ok (.putfield 110, 3) := by decide +kernel
theorem dX7_ball_92 : decode cX7_ball 92 = .ok (.aload_n 0, 1) := by decide +kernel
theorem dX7_ball_93 : decode cX7_ball 93 = .ok (.getfield 16, 3) := by decide +kernel
theorem dX7_ball_96 : decode cX7_ball 96 = .ok (.getfield 110, 3) := by decide +kernel
theorem dX7_ball_99 : decode cX7_ball 99 = .ok (.iconst 1, 1) := by decide +kernel
theorem dX7_ball_100 : decode cX7_ball 100 = .ok (.isub, 1) := by decide +kernel
theorem dX7_ball_101 : decode cX7_ball 101 = .ok (.ireturn, 1) := by decide +kernel
theorem dX7_about_0 : decode cX7_about 0 = .ok (.aload_n 0, 1) := by decide +kernel
theorem dX7_about_1 : decode cX7_about 1 = .ok (.iload_n 1, 1) := by decide +kernel
theorem dX7_about_2 : decode cX7_about 2 = .ok (.invokevirtual 127, 3) := by decide +kernel
theorem dX7_about_5 : decode cX7_about 5 = .ok (.ifCond .ne 6, 3) := by decide +kernel
theorem dX7_about_8 : decode cX7_about 8 = .ok (.bipush (-101), 2) := by decide +kernel
theorem dX7_about_10 : decode cX7_about 10 = .ok (.ireturn, 1) := by decide +kernel
theorem dX7_about_11 : decode cX7_about 11 = .ok (.iload_n 2, 1) := by decide +kernel
theorem dX7_about_12 : decode cX7_about 12 = .ok (.iconst 0, 1) := by decide +kernel
theorem dX7_about_13 : decode cX7_about 13 = .ok (.bipush 6, 2) := by decide +kernel
theorem dX7_about_15 : decode cX7_about 15 = .ok (.invokestatic 47, 3) := by decide +kernel
theorem dX7_about_18 : decode cX7_about 18 = .ok (.ifCond .eq 6, 3) := by decide +kernel
theorem dX7_about_21 : decode cX7_about 21 = .ok (.bipush (-102), 2) := by decide +kernel
theorem dX7_about_23 : decode cX7_about 23 = .ok (.ireturn, 1) := by decide +kernel
theorem dX7_about_24 : decode cX7_about 24 = .ok (.aload_n 0, 1) := by decide +kernel
theorem dX7_about_25 : decode cX7_about 25 = .ok (.getfield 16, 3) := by decide +kernel
theorem dX7_about_28 : decode cX7_about 28 = .ok (.getfield 113, 3) := by decide +kernel
theorem dX7_about_31 : decode cX7_about 31 = .ok (.iload_n 1, 1) := by decide +kernel
theorem dX7_about_32 : decode cX7_about 32 = .ok (.aaload, 1) := by decide +kernel
theorem dX7_about_33 : decode cX7_about 33 = .ok (.astore_n 3, 1) := by decide +kernel
theorem dX7_about_34 : decode cX7_about 34 = .ok (.iload_n 2, 1) := by decide +kernel
theorem dX7_about_35 : decode cX7_about 35 = .ok (.tableswitch 77 0 5 #[37, 45, 50, 55, 60, 65], 37) := by decide +kernel
theorem dX7_about_72 : decode cX7_about 72 = .ok (.aload_n 3, 1) := by decide +kernel
theorem dX7_about_73 : decode cX7_about 73 = .ok (.getfield 130, 3) := by decide +kernel
theorem dX7_about_76 : decode cX7_about 76 = .ok (.getfield 134, 3) := by decide +kernel
theorem dX7_about_79 : decode cX7_about 79 = .ok (.ireturn, 1) := by decide +kernel
theorem dX7_about_80 : decode cX7_about 80 = .ok (.aload_n 3, 1) := by decide +kernel
theorem dX7_about_81 : decode cX7_about 81 = .ok (.getfield 139, 3) := by decide +kernel
theorem dX7_about_84 : decode cX7_about 84 = .ok (.ireturn, 1) := by decide +kernel
theorem dX7_about_85 : decode cX7_about 85 = .ok (.aload_n 3, 1) := by decide +kernel
theorem dX7_about_86 : decode cX7_about 86 = .ok (.getfield 142, 3) := by decide +kernel
theorem dX7_about_89 : decode cX7_about 89 = .ok (.ireturn, 1) := by decide +kernel
theorem dX7_about_90 : decode cX7_about 90 = .ok (.aload_n 3, 1) := by decide +kernel
theorem dX7_about_91 : decode cX7_about 91 = .ok (.getfield 145, 3) := by decide +kernel
theorem dX7_about_94 : decode cX7_about 94 = .ok (.ireturn, 1) := by decide +kernel
theorem dX7_about_95 : decode cX7_about 95 = .ok (.aload_n 3, 1) := by decide +kernel
theorem dX7_about_96 : decode cX7_about 96 = .ok (.invokevirtual 148, 3) := by decide +kernel
theorem dX7_about_99 : decode cX7_about 99 = .ok (.ireturn, 1) := by decide +kernel
theorem dX7_about_100 : decode cX7_about 100 = .ok (.aload_n 3, 1) := by decide +kernel
theorem dX7_about_101 : decode cX7_about 101 = .ok (.getfield 130, 3) := by decide +kernel
theorem dX7_about_104 : decode cX7_about 104 = .ok (.aload_n 3, 1) := by decide +kernel
theorem dX7_about_105 : decode cX7_about 105 = .ok (.getfield 139, 3) := by decide +kernel
theorem dX7_about_108 : decode cX7_about 108 = .ok (.invokevirtual 151, 3) := by decide +kernel
theorem dX7_about_111 : decode cX7_about 111 = .ok (.ireturn, 1) := by decide +kernel
theorem dX7_about_112 : decode cX7_about 112 = .ok (.aload_n 3, 1) := by decide +kernel
theorem dX7_about_113 : decode cX7_about 113 = .ok (.getfield 154, 3) := by decide +kernel
theorem dX7_about_116 : decode cX7_about 116 = .ok (.ireturn, 1) := by decide +kernel
theorem dX7_as_0 : decode cX7_as 0 = .ok (.aload_n 0, 1) := by decide +kernel
theorem dX7_as_1 : decode cX7_as 1 = .ok (.iload_n 1, 1) := by decide +kernel
theorem dX7_as_2 : decode cX7_as 2 = .ok (.invokevirtual 127, 3) := by decide +kernel
theorem dX7_as_5 : decode cX7_as 5 = .ok (.ifCond .ne 6, 3) := by decide +kernel
theorem dX7_as_8 : decode cX7_as 8 = .ok (.bipush (-101), 2) := by decide +kernel
theorem dX7_as_10 : decode cX7_as 10 = .ok (.ireturn, 1) := by decide +kernel
theorem dX7_as_11 : decode cX7_as 11 = .ok (.iload_n 2, 1) := by decide +kernel
theorem dX7_as_12 : decode cX7_as 12 = .ok (.invokestatic 104, 3) := by decide +kernel
theorem dX7_as_15 : decode cX7_as 15 = .ok (.ifCond .ne 6, 3) := by decide +kernel
theorem dX7_as_18 : decode cX7_as 18 = .ok (.bipush (-102), 2) := by decide +kernel
theorem dX7_as_20 : decode cX7_as 20 = .ok (.ireturn, 1) := by decide +kernel
theorem dX7_as_21 : decode cX7_as 21 = .ok (.aload_n 0, 1) := by decide +kernel
theorem dX7_as_22 : decode cX7_as 22 = .ok (.getfield 16, 3) := by decide +kernel
theorem dX7_as_25 : decode cX7_as 25 = .ok (.getfield 113, 3) := by decide +kernel
theorem dX7_as_28 : decode cX7_as 28 = .ok (.iload_n 1, 1) := by decide +kernel
theorem dX7_as_29 : decode cX7_as 29 = .ok (.aaload, 1) := by decide +kernel
theorem dX7_as_30 : decode cX7_as 30 = .ok (.getfield 130, 3) := by decide +kernel
theorem dX7_as_33 : decode cX7_as 33 = .ok (.getstatic 117, 3) := by decide +kernel
theorem dX7_as_36 : decode cX7_as 36 = .ok (.iload_n 2, 1) := by decide +kernel
theorem dX7_as_37 : decode cX7_as 37 = .ok (.aaload, 1) := by decide +kernel
theorem dX7_as_38 : decode cX7_as 38 = .ok (.invokevirtual 157, 3) := by decide +kernel
theorem dX7_as_41 : decode cX7_as 41 = .ok (.ifCond .eq 7, 3) := by decide +kernel
theorem dX7_as_44 : decode cX7_as 44 = .ok (.iload_n 1, 1) := by decide +kernel
theorem dX7_as_45 : decode cX7_as 45 = .ok (.goto 4, 3) := by decide +kernel
theorem dX7_as_48 : decode cX7_as 48 = .ok (.iconst (-1), 1) := by decide +kernel
theorem dX7_as_49 : decode cX7_as 49 = .ok (.ireturn, 1) := by decide +kernel
theorem dX7_may_0 : decode cX7_may 0 = .ok (.aload_n 0, 1) := by decide +kernel
theorem dX7_may_1 : decode cX7_may 1 = .ok (.iload_n 1, 1) := by decide +kernel
theorem dX7_may_2 : decode cX7_may 2 = .ok (.invokevirtual 127, 3) := by decide +kernel
theorem dX7_may_5 : decode cX7_may 5 = .ok (.ifCond .ne 6, 3) := by decide +kernel
theorem dX7_may_8 : decode cX7_may 8 = .ok (.bipush (-101), 2) := by decide +kernel
theorem dX7_may_10 : decode cX7_may 10 = .ok (.ireturn, 1) := by decide +kernel
theorem dX7_may_11 : decode cX7_may 11 = .ok (.iload_n 2, 1) := by decide +kernel
theorem dX7_may_12 : decode cX7_may 12 = .ok (.invokestatic 161, 3) := by decide +kernel
theorem dX7_may_15 : decode cX7_may 15 = .ok (.ifCond .ne 6, 3) := by decide +kernel
theorem dX7_may_18 : decode cX7_may 18 = .ok (.bipush (-102), 2) := by decide +kernel
theorem dX7_may_20 : decode cX7_may 20 = .ok (.ireturn, 1) := by decide +kernel
theorem dX7_may_21 : decode cX7_may 21 = .ok (.aload_n 0, 1) := by decide +kernel
theorem dX7_may_22 : decode cX7_may 22 = .ok (.getfield 16, 3) := by decide +kernel
theorem dX7_may_25 : decode cX7_may 25 = .ok (.iload_n 1, 1) := by decide +kernel
theorem dX7_may_26 : decode cX7_may 26 = .ok (.iload_n 2, 1) := by decide +kernel
theorem dX7_may_27 : decode cX7_may 27 = .ok (.invokevirtual 164, 3) := by decide +kernel
theorem dX7_may_30 : decode cX7_may 30 = .ok (.ifCond .eq 7, 3) := by decide +kernel
theorem dX7_may_33 : decode cX7_may 33 = .ok (.iconst 1, 1) := by decide +kernel
theorem dX7_may_34 : decode cX7_may 34 = .ok (.goto 4, 3) := by decide +kernel
theorem dX7_may_37 : decode cX7_may 37 = .ok (.iconst 0, 1) := by decide +kernel
theorem dX7_may_38 : decode cX7_may 38 = .ok (.ireturn, 1) := by decide +kernel
theorem dX7_roll_0 : decode cX7_roll 0 = .ok (.aload_n 0, 1) := by decide +kernel
theorem dX7_roll_1 : decode cX7_roll 1 = .ok (.iload_n 1, 1) := by decide +kernel
theorem dX7_roll_2 : decode cX7_roll 2 = .ok (.invokevirtual 127, 3) := by decide +kernel
theorem dX7_roll_5 : decode cX7_roll 5 = .ok (.ifCond .ne 6, 3) := by decide +kernel
theorem dX7_roll_8 : decode cX7_roll 8 = .ok (.bipush (-101), 2) := by decide +kernel
theorem dX7_roll_10 : decode cX7_roll 10 = .ok (.ireturn, 1) := by decide +kernel
theorem dX7_roll_11 : decode cX7_roll 11 = .ok (.iload_n 2, 1) := by decide +kernel
theorem dX7_roll_12 : decode cX7_roll 12 = .ok (.invokestatic 161, 3) := by decide +kernel
theorem dX7_roll_15 : decode cX7_roll 15 = .ok (.ifCond .ne 6, 3) := by decide +kernel
theorem dX7_roll_18 : decode cX7_roll 18 = .ok (.bipush (-102), 2) := by decide +kernel
theorem dX7_roll_20 : decode cX7_roll 20 = .ok (.ireturn, 1) := by decide +kernel
theorem dX7_roll_21 : decode cX7_roll 21 = .ok (.aload_n 0, 1) := by decide +kernel
theorem dX7_roll_22 : decode cX7_roll 22 = .ok (.getfield 16, 3) := by decide +kernel
theorem dX7_roll_25 : decode cX7_roll 25 = .ok (.iload_n 1, 1) := by decide +kernel
theorem dX7_roll_26 : decode cX7_roll 26 = .ok (.iload_n 2, 1) := by decide +kernel
theorem dX7_roll_27 : decode cX7_roll 27 = .ok (.invokevirtual 164, 3) := by decide +kernel
theorem dX7_roll_30 : decode cX7_roll 30 = .ok (.ifCond .ne 6, 3) := by decide +kernel
theorem dX7_roll_33 : decode cX7_roll 33 = .ok (.bipush (-103), 2) := by decide +kernel
theorem dX7_roll_35 : decode cX7_roll 35 = .ok (.ireturn, 1) := by decide +kernel
theorem dX7_roll_36 : decode cX7_roll 36 = .ok (.aload_n 0, 1) := by decide +kernel
theorem dX7_roll_37 : decode cX7_roll 37 = .ok (.getfield 16, 3) := by decide +kernel
theorem dX7_roll_40 : decode cX7_roll 40 = .ok (.iload_n 1, 1) := by decide +kernel
theorem dX7_roll_41 : decode cX7_roll 41 = .ok (.iload_n 2, 1) := by decide +kernel
theorem dX7_roll_42 : decode cX7_roll 42 = .ok (.invokevirtual 168, 3) := by decide +kernel
theorem dX7_roll_45 : decode cX7_roll 45 = .ok (.ireturn, 1) := by decide +kernel
theorem dX7_lift_0 : decode cX7_lift 0 = .ok (.aload_n 0, 1) := by decide +kernel
theorem dX7_lift_1 : decode cX7_lift 1 = .ok (.iload_n 1, 1) := by decide +kernel
theorem dX7_lift_2 : decode cX7_lift 2 = .ok (.invokevirtual 127, 3) := by decide +kernel
theorem dX7_lift_5 : decode cX7_lift 5 = .ok (.ifCond .eq 16, 3) := by decide +kernel
theorem dX7_lift_8 : decode cX7_lift 8 = .ok (.aload_n 0, 1) := by decide +kernel
theorem dX7_lift_9 : decode cX7_lift 9 = .ok (.iload_n 2, 1) := by decide +kernel
theorem dX7_lift_10 : decode cX7_lift 10 = .ok (.invokevirtual 127, 3) := by decide +kernel
theorem dX7_lift_13 : decode cX7_lift 13 = .ok (.ifCond .eq 8, 3) := by decide +kernel
theorem dX7_lift_16 : decode cX7_lift 16 = .ok (.iload_n 1, 1) := by decide +kernel
theorem dX7_lift_17 : decode cX7_lift 17 = .ok (.iload_n 2, 1) := by decide +kernel
theorem dX7_lift_18 : decode cX7_lift 18 = .ok (.if_icmp .ne 6, 3) := by decide +kernel
theorem dX7_lift_21 : decode cX7_lift 21 = .ok (.bipush (-101), 2) := by decide +kernel
theorem dX7_lift_23 : decode cX7_lift 23 = .ok (.ireturn, 1) := by decide +kernel
theorem dX7_lift_24 : decode cX7_lift 24 = .ok (.aload_n 0, 1) := by decide +kernel
theorem dX7_lift_25 : decode cX7_lift 25 = .ok (.getfield 16, 3) := by decide +kernel
theorem dX7_lift_28 : decode cX7_lift 28 = .ok (.iload_n 1, 1) := by decide +kernel
theorem dX7_lift_29 : decode cX7_lift 29 = .ok (.iload_n 2, 1) := by decide +kernel
theorem dX7_lift_30 : decode cX7_lift 30 = .ok (.invokevirtual 172, 3) := by decide +kernel
theorem dX7_lift_33 : decode cX7_lift 33 = .ok (.ifCond .ne 6, 3) := by decide +kernel
theorem dX7_lift_36 : decode cX7_lift 36 = .ok (.bipush (-103), 2) := by decide +kernel
theorem dX7_lift_38 : decode cX7_lift 38 = .ok (.ireturn, 1) := by decide +kernel
theorem dX7_lift_39 : decode cX7_lift 39 = .ok (.aload_n 0, 1) := by decide +kernel
theorem dX7_lift_40 : decode cX7_lift 40 = .ok (.getfield 16, 3) := by decide +kernel
theorem dX7_lift_43 : decode cX7_lift 43 = .ok (.iload_n 1, 1) := by decide +kernel
theorem dX7_lift_44 : decode cX7_lift 44 = .ok (.iload_n 2, 1) := by decide +kernel
theorem dX7_lift_45 : decode cX7_lift 45 = .ok (.invokevirtual 175, 3) := by decide +kernel
theorem dX7_lift_48 : decode cX7_lift 48 = .ok (.ireturn, 1) := by decide +kernel
theorem dX7_day_0 : decode cX7_day 0 = .ok (.iload_n 1, 1) := by decide +kernel
theorem dX7_day_1 : decode cX7_day 1 = .ok (.iconst 0, 1) := by decide +kernel
theorem dX7_day_2 : decode cX7_day 2 = .ok (.bipush 9, 2) := by decide +kernel
theorem dX7_day_4 : decode cX7_day 4 = .ok (.invokestatic 47, 3) := by decide +kernel
theorem dX7_day_7 : decode cX7_day 7 = .ok (.ifCond .eq 6, 3) := by decide +kernel
theorem dX7_day_10 : decode cX7_day 10 = .ok (.bipush (-102), 2) := by decide +kernel
theorem dX7_day_12 : decode cX7_day 12 = .ok (.ireturn, 1) := by decide +kernel
theorem dX7_day_13 : decode cX7_day 13 = .ok (.aload_n 0, 1) := by decide +kernel
theorem dX7_day_14 : decode cX7_day 14 = .ok (.invokevirtual 91, 3) := by decide +kernel
theorem dX7_day_17 : decode cX7_day 17 = .ok (.ifCond .ne 6, 3) := by decide +kernel
theorem dX7_day_20 : decode cX7_day 20 = .ok (.bipush (-103), 2) := by decide +kernel
theorem dX7_day_22 : decode cX7_day 22 = .ok (.ireturn, 1) := by decide +kernel
theorem dX7_day_23 : decode cX7_day 23 = .ok (.aload_n 0, 1) := by decide +kernel
theorem dX7_day_24 : decode cX7_day 24 = .ok (.getfield 16, 3) := by decide +kernel
theorem dX7_day_27 : decode cX7_day 27 = .ok (.iload_n 1, 1) := by decide +kernel
theorem dX7_day_28 : decode cX7_day 28 = .ok (.invokevirtual 178, 3) := by decide +kernel
theorem dX7_day_31 : decode cX7_day 31 = .ok (.ireturn, 1) := by decide +kernel
theorem dX7_largest_0 : decode cX7_largest 0 = .ok (.aload_n 0, 1) := by decide +kernel
theorem dX7_largest_1 : decode cX7_largest 1 = .ok (.iload_n 1, 1) := by decide +kernel
theorem dX7_largest_2 : decode cX7_largest 2 = .ok (.invokevirtual 127, 3) := by decide +kernel
theorem dX7_largest_5 : decode cX7_largest 5 = .ok (.ifCond .ne 6, 3) := by decide +kernel
theorem dX7_largest_8 : decode cX7_largest 8 = .ok (.bipush (-101), 2) := by decide +kernel
theorem dX7_largest_10 : decode cX7_largest 10 = .ok (.ireturn, 1) := by decide +kernel
theorem dX7_largest_11 : decode cX7_largest 11 = .ok (.iload_n 2, 1) := by decide +kernel
theorem dX7_largest_12 : decode cX7_largest 12 = .ok (.iconst 0, 1) := by decide +kernel
theorem dX7_largest_13 : decode cX7_largest 13 = .ok (.bipush 6, 2) := by decide +kernel
theorem dX7_largest_15 : decode cX7_largest 15 = .ok (.invokestatic 47, 3) := by decide +kernel
theorem dX7_largest_18 : decode cX7_largest 18 = .ok (.ifCond .ne 12, 3) := by decide +kernel
theorem dX7_largest_21 : decode cX7_largest 21 = .ok (.iload_n 3, 1) := by decide +kernel
theorem dX7_largest_22 : decode cX7_largest 22 = .ok (.iconst 0, 1) := by decide +kernel
theorem dX7_largest_23 : decode cX7_largest 23 = .ok (.iconst 1, 1) := by decide +kernel
theorem dX7_largest_24 : decode cX7_largest 24 = .ok (.invokestatic 47, 3) := by decide +kernel
theorem dX7_largest_27 : decode cX7_largest 27 = .ok (.ifCond .eq 6, 3) := by decide +kernel
theorem dX7_largest_30 : decode cX7_largest 30 = .ok (.bipush (-102), 2) := by decide +kernel
theorem dX7_largest_32 : decode cX7_largest 32 = .ok (.ireturn, 1) := by decide +kernel
theorem dX7_largest_33 : decode cX7_largest 33 = .ok (.aload_n 0, 1) := by decide +kernel
theorem dX7_largest_34 : decode cX7_largest 34 = .ok (.iload_n 1, 1) := by decide +kernel
theorem dX7_largest_35 : decode cX7_largest 35 = .ok (.invokevirtual 181, 3) := by decide +kernel
theorem dX7_largest_38 : decode cX7_largest 38 = .ok (.ifCond .ne 6, 3) := by decide +kernel
theorem dX7_largest_41 : decode cX7_largest 41 = .ok (.bipush (-103), 2) := by decide +kernel
theorem dX7_largest_43 : decode cX7_largest 43 = .ok (.ireturn, 1) := by decide +kernel
theorem dX7_largest_44 : decode cX7_largest 44 = .ok (.aload_n 0, 1) := by decide +kernel
theorem dX7_largest_45 : decode cX7_largest 45 = .ok (.dup, 1) := by decide +kernel
theorem dX7_largest_46 : decode cX7_largest 46 = .ok (.getfield 184, 3) := by decide +kernel
theorem dX7_largest_49 : decode cX7_largest 49 = .ok (.iconst 1, 1) := by decide +kernel
theorem dX7_largest_50 : decode cX7_largest 50 = .ok (.iadd, 1) := by decide +kernel
theorem dX7_largest_51 : decode cX7_largest 51 = .ok (.putfield 184, 3) := by decide +kernel
theorem dX7_largest_54 : decode cX7_largest 54 = .ok (.aload_n 0, 1) := by decide +kernel
theorem dX7_largest_55 : decode cX7_largest 55 = .ok (.getfield 29, 3) := by decide +kernel
theorem dX7_largest_58 : decode cX7_largest 58 = .ok (.invokevirtual 187, 3) := by decide +kernel
theorem dX7_largest_61 : decode cX7_largest 61 = .ok (.aload_n 0, 1) := by decide +kernel
theorem dX7_largest_62 : decode cX7_largest 62 = .ok (.getfield 23, 3) := by decide +kernel
theorem dX7_largest_65 : decode cX7_largest 65 = .ok (.aload_n 0, 1) := by decide +kernel
theorem dX7_largest_66 : decode cX7_largest 66 = .ok (.getfield 16, 3) := by decide +kernel
theorem dX7_largest_69 : decode cX7_largest 69 = .ok (.invokevirtual 189, 3) := by decide +kernel
theorem dX7_largest_72 : decode cX7_largest 72 = .ok (.aload_n 0, 1) := by decide +kernel
theorem dX7_largest_73 : decode cX7_largest 73 = .ok (.getfield 23, 3) := by decide +kernel
theorem dX7_largest_76 : decode cX7_largest 76 = .ok (.iload_n 1, 1) := by decide +kernel
theorem dX7_largest_77 : decode cX7_largest 77 = .ok (.aload_n 0, 1) := by decide +kernel
theorem dX7_largest_78 : decode cX7_largest 78 = .ok (.getfield 29, 3) := by decide +kernel
theorem dX7_largest_81 : decode cX7_largest 81 = .ok (.iload_n 2, 1) := by decide +kernel
theorem dX7_largest_82 : decode cX7_largest 82 = .ok (.iconst 0, 1) := by decide +kernel
theorem dX7_largest_83 : decode cX7_largest 83 = .ok (.iconst (-1), 1) := by decide +kernel
theorem dX7_largest_84 : decode cX7_largest 84 = .ok (.invokestatic 193, 3) := by decide +kernel
theorem dX7_largest_87 : decode cX7_largest 87 = .ok (.iload_n 3, 1) := by decide +kernel
theorem dX7_largest_88 : decode cX7_largest 88 = .ok (.ifCond .ne 13, 3) := by decide +kernel
theorem dX7_largest_91 : decode cX7_largest 91 = .ok (.aload_n 0, 1) := by decide +kernel
theorem dX7_largest_92 : decode cX7_largest 92 = .ok (.getfield 29, 3) := by decide +kernel
theorem dX7_largest_95 : decode cX7_largest 95 = .ok (.getfield 197, 3) := by decide +kernel
theorem dX7_largest_98 : decode cX7_largest 98 = .ok (.goto 10, 3) := by decide +kernel
theorem dX7_largest_101 : decode cX7_largest 101 = .ok (.aload_n 0, 1) := by decide +kernel
theorem dX7_largest_102 : decode cX7_largest 102 = .ok (.getfield 29, 3) := by decide +kernel
theorem dX7_largest_105 : decode cX7_largest 105 = .ok (.getfield 198, 3) := by decide +kernel
theorem dX7_largest_108 : decode cX7_largest 108 = .ok (.ireturn, 1) := by decide +kernel
theorem dX7_comes_0 : decode cX7_comes 0 = .ok (.aload_n 0, 1) := by decide +kernel
theorem dX7_comes_1 : decode cX7_comes 1 = .ok (.iload_n 1, 1) := by decide +kernel
theorem dX7_comes_2 : decode cX7_comes 2 = .ok (.invokevirtual 127, 3) := by decide +kernel
theorem dX7_comes_5 : decode cX7_comes 5 = .ok (.ifCond .eq 10, 3) := by decide +kernel
theorem dX7_comes_8 : decode cX7_comes 8 = .ok (.iload_n 2, 1) := by decide +kernel
theorem dX7_comes_9 : decode cX7_comes 9 = .ok (.invokestatic 87, 3) := by decide +kernel
theorem dX7_comes_12 : decode cX7_comes 12 = .ok (.ifCond .ne 6, 3) := by decide +kernel
theorem dX7_comes_15 : decode cX7_comes 15 = .ok (.bipush (-101), 2) := by decide +kernel
theorem dX7_comes_17 : decode cX7_comes 17 = .ok (.ireturn, 1) := by decide +kernel
theorem dX7_comes_18 : decode cX7_comes 18 = .ok (.aload_n 0, 1) := by decide +kernel
theorem dX7_comes_19 : decode cX7_comes 19 = .ok (.iload_n 1, 1) := by decide +kernel
theorem dX7_comes_20 : decode cX7_comes 20 = .ok (.invokevirtual 181, 3) := by decide +kernel
theorem dX7_comes_23 : decode cX7_comes 23 = .ok (.ifCond .ne 6, 3) := by decide +kernel
theorem dX7_comes_26 : decode cX7_comes 26 = .ok (.bipush (-103), 2) := by decide +kernel
theorem dX7_comes_28 : decode cX7_comes 28 = .ok (.ireturn, 1) := by decide +kernel
theorem dX7_comes_29 : decode cX7_comes 29 = .ok (.aload_n 0, 1) := by decide +kernel
theorem dX7_comes_30 : decode cX7_comes 30 = .ok (.dup, 1) := by decide +kernel
theorem dX7_comes_31 : decode cX7_comes 31 = .ok (.getfield 184, 3) := by decide +kernel
theorem dX7_comes_34 : decode cX7_comes 34 = .ok (.iconst 1, 1) := by decide +kernel
theorem dX7_comes_35 : decode cX7_comes 35 = .ok (.iadd, 1) := by decide +kernel
theorem dX7_comes_36 : decode cX7_comes 36 = .ok (.putfield 184, 3) := by decide +kernel
theorem dX7_comes_39 : decode cX7_comes 39 = .ok (.aload_n 0, 1) := by decide +kernel
theorem dX7_comes_40 : decode cX7_comes 40 = .ok (.getfield 36, 3) := by decide +kernel
theorem dX7_comes_43 : decode cX7_comes 43 = .ok (.iload_n 2, 1) := by decide +kernel
theorem dX7_comes_44 : decode cX7_comes 44 = .ok (.invokevirtual 201, 3) := by decide +kernel
theorem dX7_comes_47 : decode cX7_comes 47 = .ok (.aload_n 0, 1) := by decide +kernel
theorem dX7_comes_48 : decode cX7_comes 48 = .ok (.getfield 23, 3) := by decide +kernel
theorem dX7_comes_51 : decode cX7_comes 51 = .ok (.aload_n 0, 1) := by decide +kernel
theorem dX7_comes_52 : decode cX7_comes 52 = .ok (.getfield 16, 3) := by decide +kernel
theorem dX7_comes_55 : decode cX7_comes 55 = .ok (.invokevirtual 189, 3) := by decide +kernel
theorem dX7_comes_58 : decode cX7_comes 58 = .ok (.aload_n 0, 1) := by decide +kernel
theorem dX7_comes_59 : decode cX7_comes 59 = .ok (.getfield 23, 3) := by decide +kernel
theorem dX7_comes_62 : decode cX7_comes 62 = .ok (.iload_n 1, 1) := by decide +kernel
theorem dX7_comes_63 : decode cX7_comes 63 = .ok (.aload_n 0, 1) := by decide +kernel
theorem dX7_comes_64 : decode cX7_comes 64 = .ok (.getfield 36, 3) := by decide +kernel
theorem dX7_comes_67 : decode cX7_comes 67 = .ok (.bipush 6, 2) := by decide +kernel
theorem dX7_comes_69 : decode cX7_comes 69 = .ok (.iconst 0, 1) := by decide +kernel
theorem dX7_comes_70 : decode cX7_comes 70 = .ok (.iconst (-1), 1) := by decide +kernel
theorem dX7_comes_71 : decode cX7_comes 71 = .ok (.invokestatic 193, 3) := by decide +kernel
theorem dX7_comes_74 : decode cX7_comes 74 = .ok (.aload_n 0, 1) := by decide +kernel
theorem dX7_comes_75 : decode cX7_comes 75 = .ok (.getfield 36, 3) := by decide +kernel
theorem dX7_comes_78 : decode cX7_comes 78 = .ok (.getfield 204, 3) := by decide +kernel
theorem dX7_comes_81 : decode cX7_comes 81 = .ok (.ireturn, 1) := by decide +kernel
theorem dX7_highest_0 : decode cX7_highest 0 = .ok (.iload_n 1, 1) := by decide +kernel
theorem dX7_highest_1 : decode cX7_highest 1 = .ok (.iconst 0, 1) := by decide +kernel
theorem dX7_highest_2 : decode cX7_highest 2 = .ok (.iconst 1, 1) := by decide +kernel
theorem dX7_highest_3 : decode cX7_highest 3 = .ok (.invokestatic 47, 3) := by decide +kernel
theorem dX7_highest_6 : decode cX7_highest 6 = .ok (.ifCond .eq 6, 3) := by decide +kernel
theorem dX7_highest_9 : decode cX7_highest 9 = .ok (.bipush (-102), 2) := by decide +kernel
theorem dX7_highest_11 : decode cX7_highest 11 = .ok (.ireturn, 1) := by decide +kernel
theorem dX7_highest_12 : decode cX7_highest 12 = .ok (.aload_n 0, 1) := by decide +kernel
theorem dX7_highest_13 : decode cX7_highest 13 = .ok (.getfield 16, 3) := by decide +kernel
theorem dX7_highest_16 : decode cX7_highest 16 = .ok (.invokevirtual 207, 3) := by decide +kernel
theorem dX7_highest_19 : decode cX7_highest 19 = .ok (.istore_n 2, 1) := by decide +kernel
theorem dX7_highest_20 : decode cX7_highest 20 = .ok (.iload_n 1, 1) := by decide +kernel
theorem dX7_highest_21 : decode cX7_highest 21 = .ok (.iconst 1, 1) := by decide +kernel
theorem dX7_highest_22 : decode cX7_highest 22 = .ok (.if_icmp .eq 8, 3) := by decide +kernel
theorem dX7_highest_25 : decode cX7_highest 25 = .ok (.iload_n 2, 1) := by decide +kernel
theorem dX7_highest_26 : decode cX7_highest 26 = .ok (.iconst (-1), 1) := by decide +kernel
theorem dX7_highest_27 : decode cX7_highest 27 = .ok (.if_icmp .ne 7, 3) := by decide +kernel
theorem dX7_highest_30 : decode cX7_highest 30 = .ok (.iload_n 2, 1) := by decide +kernel
theorem dX7_highest_31 : decode cX7_highest 31 = .ok (.goto 11, 3) := by decide +kernel
theorem dX7_highest_34 : decode cX7_highest 34 = .ok (.aload_n 0, 1) := by decide +kernel
theorem dX7_highest_35 : decode cX7_highest 35 = .ok (.getfield 16, 3) := by decide +kernel
theorem dX7_highest_38 : decode cX7_highest 38 = .ok (.iload_n 2, 1) := by decide +kernel
theorem dX7_highest_39 : decode cX7_highest 39 = .ok (.invokevirtual 210, 3) := by decide +kernel
theorem dX7_highest_42 : decode cX7_highest 42 = .ok (.ireturn, 1) := by decide +kernel
theorem dX7_lasts_0 : decode cX7_lasts 0 = .ok (.iload_n 1, 1) := by decide +kernel
theorem dX7_lasts_1 : decode cX7_lasts 1 = .ok (.iconst 1, 1) := by decide +kernel
theorem dX7_lasts_2 : decode cX7_lasts 2 = .ok (.bipush 9, 2) := by decide +kernel
theorem dX7_lasts_4 : decode cX7_lasts 4 = .ok (.invokestatic 47, 3) := by decide +kernel
theorem dX7_lasts_7 : decode cX7_lasts 7 = .ok (.ifCond .eq 6, 3) := by decide +kernel
theorem dX7_lasts_10 : decode cX7_lasts 10 = .ok (.bipush (-102), 2) := by decide +kernel
theorem dX7_lasts_12 : decode cX7_lasts 12 = .ok (.ireturn, 1) := by decide +kernel
theorem dX7_lasts_13 : decode cX7_lasts 13 = .ok (.aload_n 0, 1) := by decide +kernel
theorem dX7_lasts_14 : decode cX7_lasts 14 = .ok (.getfield 16, 3) := by decide +kernel
theorem dX7_lasts_17 : decode cX7_lasts 17 = .ok (.iload_n 1, 1) := by decide +kernel
theorem dX7_lasts_18 : decode cX7_lasts 18 = .ok (.invokevirtual 213, 3) := by decide +kernel
theorem dX7_lasts_21 : decode cX7_lasts 21 = .ok (.ireturn, 1) := by decide +kernel
theorem dX7_book_0 : decode cX7_book 0 = .ok (.iload_n 1, 1) := by decide +kernel
theorem dX7_book_1 : decode cX7_book 1 = .ok (.invokestatic 104, 3) := by decide +kernel
theorem dX7_book_4 : decode cX7_book 4 = .ok (.ifCond .ne 6, 3) := by decide +kernel
theorem dX7_book_7 : decode cX7_book 7 = .ok (.bipush (-102), 2) := by decide +kernel
theorem dX7_book_9 : decode cX7_book 9 = .ok (.ireturn, 1) := by decide +kernel
theorem dX7_book_10 : decode cX7_book 10 = .ok (.iload_n 2, 1) := by decide +kernel
theorem dX7_book_11 : decode cX7_book 11 = .ok (.invokestatic 87, 3) := by decide +kernel
theorem dX7_book_14 : decode cX7_book 14 = .ok (.ifCond .ne 6, 3) := by decide +kernel
theorem dX7_book_17 : decode cX7_book 17 = .ok (.bipush (-101), 2) := by decide +kernel
theorem dX7_book_19 : decode cX7_book 19 = .ok (.ireturn, 1) := by decide +kernel
theorem dX7_book_20 : decode cX7_book 20 = .ok (.iload_n 3, 1) := by decide +kernel
theorem dX7_book_21 : decode cX7_book 21 = .ok (.iconst 0, 1) := by decide +kernel
theorem dX7_book_22 : decode cX7_book 22 = .ok (.iconst 5, 1) := by decide +kernel
theorem dX7_book_23 : decode cX7_book 23 = .ok (.invokestatic 47, 3) := by decide +kernel
theorem dX7_book_26 : decode cX7_book 26 = .ok (.ifCond .ne 14, 3) := by decide +kernel
theorem dX7_book_29 : decode cX7_book 29 = .ok (.iload 4, 2) := by decide +kernel
theorem dX7_book_31 : decode cX7_book 31 = .ok (.iconst 0, 1) := by decide +kernel
theorem dX7_book_32 : decode cX7_book 32 = .ok (.bipush 99, 2) := by decide +kernel
theorem dX7_book_34 : decode cX7_book 34 = .ok (.invokestatic 47, 3) := by decide +kernel
theorem dX7_book_37 : decode cX7_book 37 = .ok (.ifCond .eq 6, 3) := by decide +kernel
theorem dX7_book_40 : decode cX7_book 40 = .ok (.bipush (-102), 2) := by decide +kernel
theorem dX7_book_42 : decode cX7_book 42 = .ok (.ireturn, 1) := by decide +kernel
theorem dX7_book_43 : decode cX7_book 43 = .ok (.aload_n 0, 1) := by decide +kernel
theorem dX7_book_44 : decode cX7_book 44 = .ok (.invokevirtual 91, 3) := by decide +kernel
theorem dX7_book_47 : decode cX7_book 47 = .ok (.ifCond .eq 12, 3) := by decide +kernel
theorem dX7_book_50 : decode cX7_book 50 = .ok (.aload_n 0, 1) := by decide +kernel
theorem dX7_book_51 : decode cX7_book 51 = .ok (.getfield 216, 3) := by decide +kernel
theorem dX7_book_54 : decode cX7_book 54 = .ok (.bipush 60, 2) := by decide +kernel
theorem dX7_book_56 : decode cX7_book 56 = .ok (.if_icmp .lt 6, 3) := by decide +kernel
theorem dX7_book_59 : decode cX7_book 59 = .ok (.bipush (-103), 2) := by decide +kernel
theorem dX7_book_61 : decode cX7_book 61 = .ok (.ireturn, 1) := by decide +kernel
theorem dX7_book_62 : decode cX7_book 62 = .ok (.aload_n 0, 1) := by decide +kernel
theorem dX7_book_63 : decode cX7_book 63 = .ok (.dup, 1) := by decide +kernel
theorem dX7_book_64 : decode cX7_book 64 = .ok (.getfield 216, 3) := by decide +kernel
theorem dX7_book_67 : decode cX7_book 67 = .ok (.iconst 1, 1) := by decide +kernel
theorem dX7_book_68 : decode cX7_book 68 = .ok (.iadd, 1) := by decide +kernel
theorem dX7_book_69 : decode cX7_book 69 = .ok (.putfield 216, 3) := by decide +kernel
theorem dX7_book_72 : decode cX7_book 72 = .ok (.aload_n 0, 1) := by decide +kernel
theorem dX7_book_73 : decode cX7_book 73 = .ok (.getfield 43, 3) := by decide +kernel
theorem dX7_book_76 : decode cX7_book 76 = .ok (.iload_n 3, 1) := by decide +kernel
theorem dX7_book_77 : decode cX7_book 77 = .ok (.iload 4, 2) := by decide +kernel
theorem dX7_book_79 : decode cX7_book 79 = .ok (.invokevirtual 219, 3) := by decide +kernel
theorem dX7_book_82 : decode cX7_book 82 = .ok (.aload_n 0, 1) := by decide +kernel
theorem dX7_book_83 : decode cX7_book 83 = .ok (.getfield 23, 3) := by decide +kernel
theorem dX7_book_86 : decode cX7_book 86 = .ok (.aload_n 0, 1) := by decide +kernel
theorem dX7_book_87 : decode cX7_book 87 = .ok (.getfield 16, 3) := by decide +kernel
theorem dX7_book_90 : decode cX7_book 90 = .ok (.invokevirtual 189, 3) := by decide +kernel
theorem dX7_book_93 : decode cX7_book 93 = .ok (.aload_n 0, 1) := by decide +kernel
theorem dX7_book_94 : decode cX7_book 94 = .ok (.getfield 23, 3) := by decide +kernel
theorem dX7_book_97 : decode cX7_book 97 = .ok (.getfield 113, 3) := by decide +kernel
theorem dX7_book_100 : decode cX7_book 100 = .ok (.iconst 4, 1) := by decide +kernel
theorem dX7_book_101 : decode cX7_book 101 = .ok (.aaload, 1) := by decide +kernel
theorem dX7_book_102 : decode cX7_book 102 = .ok (.getstatic 117, 3) := by decide +kernel
theorem dX7_book_105 : decode cX7_book 105 = .ok (.iload_n 1, 1) := by decide +kernel
theorem dX7_book_106 : decode cX7_book 106 = .ok (.aaload, 1) := by decide +kernel
theorem dX7_book_107 : decode cX7_book 107 = .ok (.iload_n 2, 1) := by decide +kernel
theorem dX7_book_108 : decode cX7_book 108 = .ok (.invokevirtual 121, 3) := by decide +kernel
theorem dX7_book_111 : decode cX7_book 111 = .ok (.aload_n 0, 1) := by decide +kernel
theorem dX7_book_112 : decode cX7_book 112 = .ok (.getfield 23, 3) := by decide +kernel
theorem dX7_book_115 : decode cX7_book 115 = .ok (.iconst 4, 1) := by decide +kernel
theorem dX7_book_116 : decode cX7_book 116 = .ok (.aload_n 0, 1) := by decide +kernel
theorem dX7_book_117 : decode cX7_book 117 = .ok (.getfield 43, 3) := by decide +kernel
theorem dX7_book_120 : decode cX7_book 120 = .ok (.iload_n 3, 1) := by decide +kernel
theorem dX7_book_121 : decode cX7_book 121 = .ok (.iconst 0, 1) := by decide +kernel
theorem dX7_book_122 : decode cX7_book 122 = .ok (.iconst (-1), 1) := by decide +kernel
theorem dX7_book_123 : decode cX7_book 123 = .ok (.invokestatic 193, 3) := by decide +kernel
theorem dX7_book_126 : decode cX7_book 126 = .ok (.aload_n 0, 1) := by decide +kernel
theorem dX7_book_127 : decode cX7_book 127 = .ok (.getfield 43, 3) := by decide +kernel
theorem dX7_book_130 : decode cX7_book 130 = .ok (.getfield 222, 3) := by decide +kernel
theorem dX7_book_133 : decode cX7_book 133 = .ok (.ireturn, 1) := by decide +kernel
theorem dX7_games_0 : decode cX7_games 0 = .ok (.iload_n 1, 1) := by decide +kernel
theorem dX7_games_1 : decode cX7_games 1 = .ok (.iconst 1, 1) := by decide +kernel
theorem dX7_games_2 : decode cX7_games 2 = .ok (.bipush 60, 2) := by decide +kernel
theorem dX7_games_4 : decode cX7_games 4 = .ok (.invokestatic 47, 3) := by decide +kernel
theorem dX7_games_7 : decode cX7_games 7 = .ok (.ifCond .ne 16, 3) := by decide +kernel
theorem dX7_games_10 : decode cX7_games 10 = .ok (.iload_n 2, 1) := by decide +kernel
theorem dX7_games_11 : decode cX7_games 11 = .ok (.ifCond .lt 12, 3) := by decide +kernel
theorem dX7_games_14 : decode cX7_games 14 = .ok (.iload_n 3, 1) := by decide +kernel
theorem dX7_games_15 : decode cX7_games 15 = .ok (.iconst 0, 1) := by decide +kernel
theorem dX7_games_16 : decode cX7_games 16 = .ok (.iconst 3, 1) := by decide +kernel
theorem dX7_games_17 : decode cX7_games 17 = .ok (.invokestatic 47, 3) := by decide +kernel
theorem dX7_games_20 : decode cX7_games 20 = .ok (.ifCond .eq 6, 3) := by decide +kernel
theorem dX7_games_23 : decode cX7_games 23 = .ok (.bipush (-102), 2) := by decide +kernel
theorem dX7_games_25 : decode cX7_games 25 = .ok (.ireturn, 1) := by decide +kernel
theorem dX7_games_26 : decode cX7_games 26 = .ok (.aload_n 0, 1) := by decide +kernel
theorem dX7_games_27 : decode cX7_games 27 = .ok (.invokevirtual 91, 3) := by decide +kernel
theorem dX7_games_30 : decode cX7_games 30 = .ok (.ifCond .eq 13, 3) := by decide +kernel
theorem dX7_games_33 : decode cX7_games 33 = .ok (.aload_n 0, 1) := by decide +kernel
theorem dX7_games_34 : decode cX7_games 34 = .ok (.getfield 16, 3) := by decide +kernel
theorem dX7_games_37 : decode cX7_games 37 = .ok (.getfield 110, 3) := by decide +kernel
theorem dX7_games_40 : decode cX7_games 40 = .ok (.ifCond .ne 6, 3) := by decide +kernel
theorem dX7_games_43 : decode cX7_games 43 = .ok (.bipush (-103), 2) := by decide +kernel
theorem dX7_games_45 : decode cX7_games 45 = .ok (.ireturn, 1) := by decide +kernel
theorem dX7_games_46 : decode cX7_games 46 = .ok (.aload_n 0, 1) := by decide +kernel
theorem dX7_games_47 : decode cX7_games 47 = .ok (.getfield 23, 3) := by decide +kernel
theorem dX7_games_50 : decode cX7_games 50 = .ok (.aload_n 0, 1) := by decide +kernel
theorem dX7_games_51 : decode cX7_games 51 = .ok (.getfield 16, 3) := by decide +kernel
theorem dX7_games_54 : decode cX7_games 54 = .ok (.invokevirtual 189, 3) := by decide +kernel
theorem dX7_games_57 : decode cX7_games 57 = .ok (.iload_n 2, 1) := by decide +kernel
theorem dX7_games_58 : decode cX7_games 58 = .ok (.i2l, 1) := by decide +kernel
theorem dX7_games_59 : decode cX7_games 59 = .ok (.lstore 4, 2) := by decide +kernel
theorem dX7_games_61 : decode cX7_games 61 = .ok (.iconst 0, 1) := by decide +kernel
theorem dX7_games_62 : decode cX7_games 62 = .ok (.istore 6, 2) := by decide +kernel
theorem dX7_games_64 : decode cX7_games 64 = .ok (.iconst 0, 1) := by decide +kernel
theorem dX7_games_65 : decode cX7_games 65 = .ok (.istore 7, 2) := by decide +kernel
theorem dX7_games_67 : decode cX7_games 67 = .ok (.iload 7, 2) := by decide +kernel
theorem dX7_games_69 : decode cX7_games 69 = .ok (.iload_n 1, 1) := by decide +kernel
theorem dX7_games_70 : decode cX7_games 70 = .ok (.if_icmp .ge 74, 3) := by decide +kernel
theorem dX7_games_73 : decode cX7_games 73 = .ok (.lload 4, 2) := by decide +kernel
theorem dX7_games_75 : decode cX7_games 75 = .ok (.invokestatic 225, 3) := by decide +kernel
theorem dX7_games_78 : decode cX7_games 78 = .ok (.lstore 4, 2) := by decide +kernel
theorem dX7_games_80 : decode cX7_games 80 = .ok (.lload 4, 2) := by decide +kernel
theorem dX7_games_82 : decode cX7_games 82 = .ok (.aload_n 0, 1) := by decide +kernel
theorem dX7_games_83 : decode cX7_games 83 = .ok (.getfield 23, 3) := by decide +kernel
theorem dX7_games_86 : decode cX7_games 86 = .ok (.getfield 110, 3) := by decide +kernel
theorem dX7_games_89 : decode cX7_games 89 = .ok (.invokestatic 229, 3) := by decide +kernel
theorem dX7_games_92 : decode cX7_games 92 = .ok (.istore 8, 2) := by decide +kernel
theorem dX7_games_94 : decode cX7_games 94 = .ok (.lload 4, 2) := by decide +kernel
theorem dX7_games_96 : decode cX7_games 96 = .ok (.invokestatic 225, 3) := by decide +kernel
theorem dX7_games_99 : decode cX7_games 99 = .ok (.lstore 4, 2) := by decide +kernel
theorem dX7_games_101 : decode cX7_games 101 = .ok (.lload 4, 2) := by decide +kernel
theorem dX7_games_103 : decode cX7_games 103 = .ok (.iconst 4, 1) := by decide +kernel
theorem dX7_games_104 : decode cX7_games 104 = .ok (.invokestatic 229, 3) := by decide +kernel
theorem dX7_games_107 : decode cX7_games 107 = .ok (.istore 9, 2) := by decide +kernel
theorem dX7_games_109 : decode cX7_games 109 = .ok (.aload_n 0, 1) := by decide +kernel
theorem dX7_games_110 : decode cX7_games 110 = .ok (.getfield 23, 3) := by decide +kernel
theorem dX7_games_113 : decode cX7_games 113 = .ok (.iload 8, 2) := by decide +kernel
theorem dX7_games_115 : decode cX7_games 115 = .ok (.iload 9, 2) := by decide +kernel
theorem dX7_games_117 : decode cX7_games 117 = .ok (.invokevirtual 164, 3) := by decide +kernel
theorem dX7_games_120 : decode cX7_games 120 = .ok (.ifCond .eq 18, 3) := by decide +kernel
theorem dX7_games_123 : decode cX7_games 123 = .ok (.aload_n 0, 1) := by decide +kernel
theorem dX7_games_124 : decode cX7_games 124 = .ok (.getfield 23, 3) := by decide +kernel
theorem dX7_games_127 : decode cX7_games 127 = .ok (.iload 8, 2) := by decide +kernel
theorem dX7_games_129 : decode cX7_games 129 = .ok (.iload 9, 2) := by decide +kernel
theorem dX7_games_131 : decode cX7_games 131 = .ok (.invokevirtual 168, 3) := by decide +kernel
theorem dX7_games_134 : decode cX7_games 134 = .ok (.pop, 1) := by decide +kernel
theorem dX7_games_135 : decode cX7_games 135 = .ok (.iinc 6 1, 3) := by decide +kernel
theorem dX7_games_138 : decode cX7_games 138 = .ok (.iinc 7 1, 3) := by decide +kernel
theorem dX7_games_141 : decode cX7_games 141 = .ok (.goto (-74), 3) := by decide +kernel
theorem dX7_games_144 : decode cX7_games 144 = .ok (.iload_n 3, 1) := by decide +kernel
theorem dX7_games_145 : decode cX7_games 145 = .ok (.tableswitch 46 0 2 #[27, 35, 38], 27) := by decide +kernel
theorem dX7_games_172 : decode cX7_games 172 = .ok (.aload_n 0, 1) := by decide +kernel
theorem dX7_games_173 : decode cX7_games 173 = .ok (.getfield 23, 3) := by decide +kernel
theorem dX7_games_176 : decode cX7_games 176 = .ok (.invokevirtual 233, 3) := by decide +kernel
theorem dX7_games_179 : decode cX7_games 179 = .ok (.ireturn, 1) := by decide +kernel
theorem dX7_games_180 : decode cX7_games 180 = .ok (.iload 6, 2) := by decide +kernel
theorem dX7_games_182 : decode cX7_games 182 = .ok (.ireturn, 1) := by decide +kernel
theorem dX7_games_183 : decode cX7_games 183 = .ok (.aload_n 0, 1) := by decide +kernel
theorem dX7_games_184 : decode cX7_games 184 = .ok (.getfield 23, 3) := by decide +kernel
theorem dX7_games_187 : decode cX7_games 187 = .ok (.invokevirtual 84, 3) := by decide +kernel
theorem dX7_games_190 : decode cX7_games 190 = .ok (.ireturn, 1) := by decide +kernel
theorem dX7_games_191 : decode cX7_games 191 = .ok (.lload 4, 2) := by decide +kernel
theorem dX7_games_193 : decode cX7_games 193 = .ok (.l2i, 1) := by decide +kernel
theorem dX7_games_194 : decode cX7_games 194 = .ok (.ireturn, 1) := by decide +kernel
theorem dX7_image_0 : decode cX7_image 0 = .ok (.aload_n 0, 1) := by decide +kernel
theorem dX7_image_1 : decode cX7_image 1 = .ok (.invokevirtual 91, 3) := by decide +kernel
theorem dX7_image_4 : decode cX7_image 4 = .ok (.ifCond .ne 6, 3) := by decide +kernel
theorem dX7_image_7 : decode cX7_image 7 = .ok (.bipush (-103), 2) := by decide +kernel
theorem dX7_image_9 : decode cX7_image 9 = .ok (.ireturn, 1) := by decide +kernel
theorem dX7_image_10 : decode cX7_image 10 = .ok (.aload_n 0, 1) := by decide +kernel
theorem dX7_image_11 : decode cX7_image 11 = .ok (.getfield 20, 3) := by decide +kernel
theorem dX7_image_14 : decode cX7_image 14 = .ok (.aload_n 0, 1) := by decide +kernel
theorem dX7_image_15 : decode cX7_image 15 = .ok (.getfield 16, 3) := by decide +kernel
theorem dX7_image_18 : decode cX7_image 18 = .ok (.invokevirtual 189, 3) := by decide +kernel
theorem dX7_image_21 : decode cX7_image 21 = .ok (.aload_n 0, 1) := by decide +kernel
theorem dX7_image_22 : decode cX7_image 22 = .ok (.iconst 1, 1) := by decide +kernel
theorem dX7_image_23 : decode cX7_image 23 = .ok (.putfield 80, 3) := by decide +kernel
theorem dX7_image_26 : decode cX7_image 26 = .ok (.aload_n 0, 1) := by decide +kernel
theorem dX7_image_27 : decode cX7_image 27 = .ok (.getfield 20, 3) := by decide +kernel
theorem dX7_image_30 : decode cX7_image 30 = .ok (.getfield 110, 3) := by decide +kernel
theorem dX7_image_33 : decode cX7_image 33 = .ok (.ireturn, 1) := by decide +kernel
theorem dX7_restore_0 : decode cX7_restore 0 = .ok (.aload_n 0, 1) := by decide +kernel
theorem dX7_restore_1 : decode cX7_restore 1 = .ok (.getfield 80, 3) := by decide +kernel
theorem dX7_restore_4 : decode cX7_restore 4 = .ok (.ifCond .ne 6, 3) := by decide +kernel
theorem dX7_restore_7 : decode cX7_restore 7 = .ok (.bipush (-103), 2) := by decide +kernel
theorem dX7_restore_9 : decode cX7_restore 9 = .ok (.ireturn, 1) := by decide +kernel
theorem dX7_restore_10 : decode cX7_restore 10 = .ok (.aload_n 0, 1) := by decide +kernel
theorem dX7_restore_11 : decode cX7_restore 11 = .ok (.getfield 16, 3) := by decide +kernel
theorem dX7_restore_14 : decode cX7_restore 14 = .ok (.aload_n 0, 1) := by decide +kernel
theorem dX7_restore_15 : decode cX7_restore 15 = .ok (.getfield 20, 3) := by decide +kernel
theorem dX7_restore_18 : decode cX7_restore 18 = .ok (.invokevirtual 189, 3) := by decide +kernel
theorem dX7_restore_21 : decode cX7_restore 21 = .ok (.aload_n 0, 1) := by decide +kernel
theorem dX7_restore_22 : decode cX7_restore 22 = .ok (.getfield 16, 3) := by decide +kernel
theorem dX7_restore_25 : decode cX7_restore 25 = .ok (.getfield 110, 3) := by decide +kernel
theorem dX7_restore_28 : decode cX7_restore 28 = .ok (.ireturn, 1) := by decide +kernel
theorem dX7_count_0 : decode cX7_count 0 = .ok (.iload_n 1, 1) := by decide +kernel
theorem dX7_count_1 : decode cX7_count 1 = .ok (.tableswitch 158 0 11 #[63, 71, 79, 87, 106, 114, 122, 130, 138, 143, 148, 153], 63) := by decide +kernel
theorem dX7_count_64 : decode cX7_count 64 = .ok (.aload_n 0, 1) := by decide +kernel
theorem dX7_count_65 : decode cX7_count 65 = .ok (.getfield 16, 3) := by decide +kernel
theorem dX7_count_68 : decode cX7_count 68 = .ok (.invokevirtual 84, 3) := by decide +kernel
theorem dX7_count_71 : decode cX7_count 71 = .ok (.ireturn, 1) := by decide +kernel
theorem dX7_count_72 : decode cX7_count 72 = .ok (.aload_n 0, 1) := by decide +kernel
theorem dX7_count_73 : decode cX7_count 73 = .ok (.getfield 16, 3) := by decide +kernel
theorem dX7_count_76 : decode cX7_count 76 = .ok (.getfield 110, 3) := by decide +kernel
theorem dX7_count_79 : decode cX7_count 79 = .ok (.ireturn, 1) := by decide +kernel
theorem dX7_count_80 : decode cX7_count 80 = .ok (.aload_n 0, 1) := by decide +kernel
theorem dX7_count_81 : decode cX7_count 81 = .ok (.getfield 16, 3) := by decide +kernel
theorem dX7_count_84 : decode cX7_count 84 = .ok (.invokevirtual 236, 3) := by decide +kernel
theorem dX7_count_87 : decode cX7_count 87 = .ok (.ireturn, 1) := by decide +kernel
theorem dX7_count_88 : decode cX7_count 88 = .ok (.aload_n 0, 1) := by decide +kernel
theorem dX7_count_89 : decode cX7_count 89 = .ok (.invokevirtual 91, 3) := by decide +kernel
theorem dX7_count_92 : decode cX7_count 92 = .ok (.ifCond .eq 13, 3) := by decide +kernel
theorem dX7_count_95 : decode cX7_count 95 = .ok (.aload_n 0, 1) := by decide +kernel
theorem dX7_count_96 : decode cX7_count 96 = .ok (.getfield 16, 3) := by decide +kernel
theorem dX7_count_99 : decode cX7_count 99 = .ok (.invokevirtual 239, 3) := by decide +kernel
theorem dX7_count_102 : decode cX7_count 102 = .ok (.goto 4, 3) := by decide +kernel
theorem dX7_count_105 : decode cX7_count 105 = .ok (.iconst 0, 1) := by decide +kernel
theorem dX7_count_106 : decode cX7_count 106 = .ok (.ireturn, 1) := by decide +kernel
theorem dX7_count_107 : decode cX7_count 107 = .ok (.aload_n 0, 1) := by decide +kernel
theorem dX7_count_108 : decode cX7_count 108 = .ok (.getfield 16, 3) := by decide +kernel
theorem dX7_count_111 : decode cX7_count 111 = .ok (.getfield 74, 3) := by decide +kernel
theorem dX7_count_114 : decode cX7_count 114 = .ok (.ireturn, 1) := by decide +kernel
theorem dX7_count_115 : decode cX7_count 115 = .ok (.aload_n 0, 1) := by decide +kernel
theorem dX7_count_116 : decode cX7_count 116 = .ok (.getfield 16, 3) := by decide +kernel
theorem dX7_count_119 : decode cX7_count 119 = .ok (.getfield 101, 3) := by decide +kernel
theorem dX7_count_122 : decode cX7_count 122 = .ok (.ireturn, 1) := by decide +kernel
theorem dX7_count_123 : decode cX7_count 123 = .ok (.aload_n 0, 1) := by decide +kernel
theorem dX7_count_124 : decode cX7_count 124 = .ok (.getfield 16, 3) := by decide +kernel
theorem dX7_count_127 : decode cX7_count 127 = .ok (.getfield 242, 3) := by decide +kernel
theorem dX7_count_130 : decode cX7_count 130 = .ok (.ireturn, 1) := by decide +kernel
theorem dX7_count_131 : decode cX7_count 131 = .ok (.aload_n 0, 1) := by decide +kernel
theorem dX7_count_132 : decode cX7_count 132 = .ok (.getfield 16, 3) := by decide +kernel
theorem dX7_count_135 : decode cX7_count 135 = .ok (.invokevirtual 233, 3) := by decide +kernel
theorem dX7_count_138 : decode cX7_count 138 = .ok (.ireturn, 1) := by decide +kernel
theorem dX7_count_139 : decode cX7_count 139 = .ok (.aload_n 0, 1) := by decide +kernel
theorem dX7_count_140 : decode cX7_count 140 = .ok (.getfield 51, 3) := by decide +kernel
theorem dX7_count_143 : decode cX7_count 143 = .ok (.ireturn, 1) := by decide +kernel
theorem dX7_count_144 : decode cX7_count 144 = .ok (.aload_n 0, 1) := by decide +kernel
theorem dX7_count_145 : decode cX7_count 145 = .ok (.getfield 77, 3) := by decide +kernel
theorem dX7_count_148 : decode cX7_count 148 = .ok (.ireturn, 1) := by decide +kernel
theorem dX7_count_149 : decode cX7_count 149 = .ok (.aload_n 0, 1) := by decide +kernel
theorem dX7_count_150 : decode cX7_count 150 = .ok (.getfield 184, 3) := by decide +kernel
theorem dX7_count_153 : decode cX7_count 153 = .ok (.ireturn, 1) := by decide +kernel
theorem dX7_count_154 : decode cX7_count 154 = .ok (.aload_n 0, 1) := by decide +kernel
theorem dX7_count_155 : decode cX7_count 155 = .ok (.getfield 216, 3) := by decide +kernel
theorem dX7_count_158 : decode cX7_count 158 = .ok (.ireturn, 1) := by decide +kernel
theorem dX7_count_159 : decode cX7_count 159 = .ok (.bipush (-102), 2) := by decide +kernel
theorem dX7_count_161 : decode cX7_count 161 = .ok (.ireturn, 1) := by decide +kernel
theorem dX7_digest_0 : decode cX7_digest 0 = .ok (.aload_n 0, 1) := by decide +kernel
theorem dX7_digest_1 : decode cX7_digest 1 = .ok (.aload_n 0, 1) := by decide +kernel
theorem dX7_digest_2 : decode cX7_digest 2 = .ok (.ldc2_w 245, 3) := by decide +kernel
theorem dX7_digest_5 : decode cX7_digest 5 = .ok (.invokevirtual 247, 3) := by decide +kernel
theorem dX7_digest_8 : decode cX7_digest 8 = .ok (.invokevirtual 250, 3) := by decide +kernel
theorem dX7_digest_11 : decode cX7_digest 11 = .ok (.lstore_n 1, 1) := by decide +kernel
theorem dX7_digest_12 : decode cX7_digest 12 = .ok (.lload_n 1, 1) := by decide +kernel
theorem dX7_digest_13 : decode cX7_digest 13 = .ok (.aload_n 0, 1) := by decide +kernel
theorem dX7_digest_14 : decode cX7_digest 14 = .ok (.iconst 0, 1) := by decide +kernel
theorem dX7_digest_15 : decode cX7_digest 15 = .ok (.invokevirtual 253, 3) := by decide +kernel
theorem dX7_digest_18 : decode cX7_digest 18 = .ok (.i2l, 1) := by decide +kernel
theorem dX7_digest_19 : decode cX7_digest 19 = .ok (.invokestatic 256, 3) := by decide +kernel
theorem dX7_digest_22 : decode cX7_digest 22 = .ok (.lstore_n 1, 1) := by decide +kernel
theorem dX7_digest_23 : decode cX7_digest 23 = .ok (.lload_n 1, 1) := by decide +kernel
theorem dX7_digest_24 : decode cX7_digest 24 = .ok (.aload_n 0, 1) := by decide +kernel
theorem dX7_digest_25 : decode cX7_digest 25 = .ok (.iconst 1, 1) := by decide +kernel
theorem dX7_digest_26 : decode cX7_digest 26 = .ok (.invokevirtual 253, 3) := by decide +kernel
theorem dX7_digest_29 : decode cX7_digest 29 = .ok (.i2l, 1) := by decide +kernel
theorem dX7_digest_30 : decode cX7_digest 30 = .ok (.invokestatic 256, 3) := by decide +kernel
theorem dX7_digest_33 : decode cX7_digest 33 = .ok (.lstore_n 1, 1) := by decide +kernel
theorem dX7_digest_34 : decode cX7_digest 34 = .ok (.lload_n 1, 1) := by decide +kernel
theorem dX7_digest_35 : decode cX7_digest 35 = .ok (.aload_n 0, 1) := by decide +kernel
theorem dX7_digest_36 : decode cX7_digest 36 = .ok (.iconst 1, 1) := by decide +kernel
theorem dX7_digest_37 : decode cX7_digest 37 = .ok (.invokevirtual 260, 3) := by decide +kernel
theorem dX7_digest_40 : decode cX7_digest 40 = .ok (.i2l, 1) := by decide +kernel
theorem dX7_digest_41 : decode cX7_digest 41 = .ok (.invokestatic 256, 3) := by decide +kernel
theorem dX7_digest_44 : decode cX7_digest 44 = .ok (.lstore_n 1, 1) := by decide +kernel
theorem dX7_digest_45 : decode cX7_digest 45 = .ok (.iconst 0, 1) := by decide +kernel
theorem dX7_digest_46 : decode cX7_digest 46 = .ok (.istore_n 3, 1) := by decide +kernel
theorem dX7_digest_47 : decode cX7_digest 47 = .ok (.iload_n 3, 1) := by decide +kernel
theorem dX7_digest_48 : decode cX7_digest 48 = .ok (.aload_n 0, 1) := by decide +kernel
theorem dX7_digest_49 : decode cX7_digest 49 = .ok (.getfield 51, 3) := by decide +kernel
theorem dX7_digest_52 : decode cX7_digest 52 = .ok (.if_icmp .ge 21, 3) := by decide +kernel
theorem dX7_digest_55 : decode cX7_digest 55 = .ok (.lload_n 1, 1) := by decide +kernel
theorem dX7_digest_56 : decode cX7_digest 56 = .ok (.aload_n 0, 1) := by decide +kernel
theorem dX7_digest_57 : decode cX7_digest 57 = .ok (.getfield 9, 3) := by decide +kernel
theorem dX7_digest_60 : decode cX7_digest 60 = .ok (.iload_n 3, 1) := by decide +kernel
theorem dX7_digest_61 : decode cX7_digest 61 = .ok (.caload, 1) := by decide +kernel
theorem dX7_digest_62 : decode cX7_digest 62 = .ok (.i2l, 1) := by decide +kernel
theorem dX7_digest_63 : decode cX7_digest 63 = .ok (.invokestatic 256, 3) := by decide +kernel
theorem dX7_digest_66 : decode cX7_digest 66 = .ok (.lstore_n 1, 1) := by decide +kernel
theorem dX7_digest_67 : decode cX7_digest 67 = .ok (.iinc 3 1, 3) := by decide +kernel
theorem dX7_digest_70 : decode cX7_digest 70 = .ok (.goto (-23), 3) := by decide +kernel
theorem dX7_digest_73 : decode cX7_digest 73 = .ok (.iconst 0, 1) := by decide +kernel
theorem dX7_digest_74 : decode cX7_digest 74 = .ok (.istore_n 3, 1) := by decide +kernel
theorem dX7_digest_75 : decode cX7_digest 75 = .ok (.iload_n 3, 1) := by decide +kernel
theorem dX7_digest_76 : decode cX7_digest 76 = .ok (.bipush 12, 2) := by decide +kernel
theorem dX7_digest_78 : decode cX7_digest 78 = .ok (.if_icmp .ge 20, 3) := by decide +kernel
theorem dX7_digest_81 : decode cX7_digest 81 = .ok (.lload_n 1, 1) := by decide +kernel
theorem dX7_digest_82 : decode cX7_digest 82 = .ok (.aload_n 0, 1) := by decide +kernel
theorem dX7_digest_83 : decode cX7_digest 83 = .ok (.iload_n 3, 1) := by decide +kernel
theorem dX7_digest_84 : decode cX7_digest 84 = .ok (.invokevirtual 263, 3) := by decide +kernel
theorem dX7_digest_87 : decode cX7_digest 87 = .ok (.i2l, 1) := by decide +kernel
theorem dX7_digest_88 : decode cX7_digest 88 = .ok (.invokestatic 256, 3) := by decide +kernel
theorem dX7_digest_91 : decode cX7_digest 91 = .ok (.lstore_n 1, 1) := by decide +kernel
theorem dX7_digest_92 : decode cX7_digest 92 = .ok (.iinc 3 1, 3) := by decide +kernel
theorem dX7_digest_95 : decode cX7_digest 95 = .ok (.goto (-20), 3) := by decide +kernel
theorem dX7_digest_98 : decode cX7_digest 98 = .ok (.lload_n 1, 1) := by decide +kernel
theorem dX7_digest_99 : decode cX7_digest 99 = .ok (.lreturn, 1) := by decide +kernel
theorem dX7_digestOfPlaces_0 : decode cX7_digestOfPlaces 0 = .ok (.lload_n 1, 1) := by decide +kernel
theorem dX7_digestOfPlaces_1 : decode cX7_digestOfPlaces 1 = .ok (.lstore_n 3, 1) := by decide +kernel
theorem dX7_digestOfPlaces_2 : decode cX7_digestOfPlaces 2 = .ok (.aload_n 0, 1) := by decide +kernel
theorem dX7_digestOfPlaces_3 : decode cX7_digestOfPlaces 3 = .ok (.invokevirtual 91, 3) := by decide +kernel
theorem dX7_digestOfPlaces_6 : decode cX7_digestOfPlaces 6 = .ok (.ifCond .ne 5, 3) := by decide +kernel
theorem dX7_digestOfPlaces_9 : decode cX7_digestOfPlaces 9 = .ok (.lload_n 3, 1) := by decide +kernel
theorem dX7_digestOfPlaces_10 : decode cX7_digestOfPlaces 10 = .ok (.lreturn, 1) := by decide +kernel
theorem dX7_digestOfPlaces_11 : decode cX7_digestOfPlaces 11 = .ok (.iconst 0, 1) := by decide +kernel
theorem dX7_digestOfPlaces_12 : decode cX7_digestOfPlaces 12 = .ok (.istore 5, 2) := by decide +kernel
theorem dX7_digestOfPlaces_14 : decode cX7_digestOfPlaces 14 = .ok (.iload 5, 2) := by decide +kernel
theorem dX7_digestOfPlaces_16 : decode cX7_digestOfPlaces 16 = .ok (.bipush 20, 2) := by decide +kernel
theorem dX7_digestOfPlaces_18 : decode cX7_digestOfPlaces 18 = .ok (.if_icmp .ge 38, 3) := by decide +kernel
theorem dX7_digestOfPlaces_21 : decode cX7_digestOfPlaces 21 = .ok (.iconst 0, 1) := by decide +kernel
theorem dX7_digestOfPlaces_22 : decode cX7_digestOfPlaces 22 = .ok (.istore 6, 2) := by decide +kernel
theorem dX7_digestOfPlaces_24 : decode cX7_digestOfPlaces 24 = .ok (.iload 6, 2) := by decide +kernel
theorem dX7_digestOfPlaces_26 : decode cX7_digestOfPlaces 26 = .ok (.iconst 2, 1) := by decide +kernel
theorem dX7_digestOfPlaces_27 : decode cX7_digestOfPlaces 27 = .ok (.if_icmp .gt 23, 3) := by decide +kernel
theorem dX7_digestOfPlaces_30 : decode cX7_digestOfPlaces 30 = .ok (.lload_n 3, 1) := by decide +kernel
theorem dX7_digestOfPlaces_31 : decode cX7_digestOfPlaces 31 = .ok (.aload_n 0, 1) := by decide +kernel
theorem dX7_digestOfPlaces_32 : decode cX7_digestOfPlaces 32 = .ok (.iload 5, 2) := by decide +kernel
theorem dX7_digestOfPlaces_34 : decode cX7_digestOfPlaces 34 = .ok (.iload 6, 2) := by decide +kernel
theorem dX7_digestOfPlaces_36 : decode cX7_digestOfPlaces 36 = .ok (.invokevirtual 266, 3) := by decide +kernel
theorem dX7_digestOfPlaces_39 : decode cX7_digestOfPlaces 39 = .ok (.i2l, 1) := by decide +kernel
theorem dX7_digestOfPlaces_40 : decode cX7_digestOfPlaces 40 = .ok (.invokestatic 256, 3) := by decide +kernel
theorem dX7_digestOfPlaces_43 : decode cX7_digestOfPlaces 43 = .ok (.lstore_n 3, 1) := by decide +kernel
theorem dX7_digestOfPlaces_44 : decode cX7_digestOfPlaces 44 = .ok (.iinc 6 1, 3) := by decide +kernel
theorem dX7_digestOfPlaces_47 : decode cX7_digestOfPlaces 47 = .ok (.goto (-23), 3) := by decide +kernel
theorem dX7_digestOfPlaces_50 : decode cX7_digestOfPlaces 50 = .ok (.iinc 5 1, 3) := by decide +kernel
theorem dX7_digestOfPlaces_53 : decode cX7_digestOfPlaces 53 = .ok (.goto (-39), 3) := by decide +kernel
theorem dX7_digestOfPlaces_56 : decode cX7_digestOfPlaces 56 = .ok (.lload_n 3, 1) := by decide +kernel
theorem dX7_digestOfPlaces_57 : decode cX7_digestOfPlaces 57 = .ok (.lreturn, 1) := by decide +kernel
theorem dX7_digestOfBalls_0 : decode cX7_digestOfBalls 0 = .ok (.lload_n 1, 1) := by decide +kernel
theorem dX7_digestOfBalls_1 : decode cX7_digestOfBalls 1 = .ok (.lstore_n 3, 1) := by decide +kernel
theorem dX7_digestOfBalls_2 : decode cX7_digestOfBalls 2 = .ok (.iconst 0, 1) := by decide +kernel
theorem dX7_digestOfBalls_3 : decode cX7_digestOfBalls 3 = .ok (.istore 5, 2) := by decide +kernel
theorem dX7_digestOfBalls_5 : decode cX7_digestOfBalls 5 = .ok (.iload 5, 2) := by decide +kernel
theorem dX7_digestOfBalls_7 : decode cX7_digestOfBalls 7 = .ok (.aload_n 0, 1) := by decide +kernel
theorem dX7_digestOfBalls_8 : decode cX7_digestOfBalls 8 = .ok (.getfield 16, 3) := by decide +kernel
theorem dX7_digestOfBalls_11 : decode cX7_digestOfBalls 11 = .ok (.getfield 110, 3) := by decide +kernel
theorem dX7_digestOfBalls_14 : decode cX7_digestOfBalls 14 = .ok (.if_icmp .ge 68, 3) := by decide +kernel
theorem dX7_digestOfBalls_17 : decode cX7_digestOfBalls 17 = .ok (.iconst 0, 1) := by decide +kernel
theorem dX7_digestOfBalls_18 : decode cX7_digestOfBalls 18 = .ok (.istore 6, 2) := by decide +kernel
theorem dX7_digestOfBalls_20 : decode cX7_digestOfBalls 20 = .ok (.iload 6, 2) := by decide +kernel
theorem dX7_digestOfBalls_22 : decode cX7_digestOfBalls 22 = .ok (.bipush 7, 2) := by decide +kernel
theorem dX7_digestOfBalls_24 : decode cX7_digestOfBalls 24 = .ok (.if_icmp .ge 23, 3) := by decide +kernel
theorem dX7_digestOfBalls_27 : decode cX7_digestOfBalls 27 = .ok (.lload_n 3, 1) := by decide +kernel
theorem dX7_digestOfBalls_28 : decode cX7_digestOfBalls 28 = .ok (.aload_n 0, 1) := by decide +kernel
theorem dX7_digestOfBalls_29 : decode cX7_digestOfBalls 29 = .ok (.iload 5, 2) := by decide +kernel
theorem dX7_digestOfBalls_31 : decode cX7_digestOfBalls 31 = .ok (.iload 6, 2) := by decide +kernel
theorem dX7_digestOfBalls_33 : decode cX7_digestOfBalls 33 = .ok (.invokevirtual 268, 3) := by decide +kernel
theorem dX7_digestOfBalls_36 : decode cX7_digestOfBalls 36 = .ok (.i2l, 1) := by decide +kernel
theorem dX7_digestOfBalls_37 : decode cX7_digestOfBalls 37 = .ok (.invokestatic 256, 3) := by decide +kernel
theorem dX7_digestOfBalls_40 : decode cX7_digestOfBalls 40 = .ok (.lstore_n 3, 1) := by decide +kernel
theorem dX7_digestOfBalls_41 : decode cX7_digestOfBalls 41 = .ok (.iinc 6 1, 3) := by decide +kernel
theorem dX7_digestOfBalls_44 : decode cX7_digestOfBalls 44 = .ok (.goto (-24), 3) := by decide +kernel
theorem dX7_digestOfBalls_47 : decode cX7_digestOfBalls 47 = .ok (.iconst 0, 1) := by decide +kernel
theorem dX7_digestOfBalls_48 : decode cX7_digestOfBalls 48 = .ok (.istore 6, 2) := by decide +kernel
theorem dX7_digestOfBalls_50 : decode cX7_digestOfBalls 50 = .ok (.iload 6, 2) := by decide +kernel
theorem dX7_digestOfBalls_52 : decode cX7_digestOfBalls 52 = .ok (.iconst 4, 1) := by decide +kernel
theorem dX7_digestOfBalls_53 : decode cX7_digestOfBalls 53 = .ok (.if_icmp .ge 23, 3) := by decide +kernel
theorem dX7_digestOfBalls_56 : decode cX7_digestOfBalls 56 = .ok (.lload_n 3, 1) := by decide +kernel
theorem dX7_digestOfBalls_57 : decode cX7_digestOfBalls 57 = .ok (.aload_n 0, 1) := by decide +kernel
theorem dX7_digestOfBalls_58 : decode cX7_digestOfBalls 58 = .ok (.iload 5, 2) := by decide +kernel
theorem dX7_digestOfBalls_60 : decode cX7_digestOfBalls 60 = .ok (.iload 6, 2) := by decide +kernel
theorem dX7_digestOfBalls_62 : decode cX7_digestOfBalls 62 = .ok (.invokevirtual 271, 3) := by decide +kernel
theorem dX7_digestOfBalls_65 : decode cX7_digestOfBalls 65 = .ok (.i2l, 1) := by decide +kernel
theorem dX7_digestOfBalls_66 : decode cX7_digestOfBalls 66 = .ok (.invokestatic 256, 3) := by decide +kernel
theorem dX7_digestOfBalls_69 : decode cX7_digestOfBalls 69 = .ok (.lstore_n 3, 1) := by decide +kernel
theorem dX7_digestOfBalls_70 : decode cX7_digestOfBalls 70 = .ok (.iinc 6 1, 3) := by decide +kernel
theorem dX7_digestOfBalls_73 : decode cX7_digestOfBalls 73 = .ok (.goto (-23), 3) := by decide +kernel
theorem dX7_digestOfBalls_76 : decode cX7_digestOfBalls 76 = .ok (.iinc 5 1, 3) := by decide +kernel
theorem dX7_digestOfBalls_79 : decode cX7_digestOfBalls 79 = .ok (.goto (-74), 3) := by decide +kernel
theorem dX7_digestOfBalls_82 : decode cX7_digestOfBalls 82 = .ok (.lload_n 3, 1) := by decide +kernel
theorem dX7_digestOfBalls_83 : decode cX7_digestOfBalls 83 = .ok (.lreturn, 1) := by decide +kernel
theorem dX7_mixed_0 : decode cX7_mixed 0 = .ok (.ldc2_w 274, 3) := by decide +kernel
theorem dX7_mixed_3 : decode cX7_mixed 3 = .ok (.lload_n 0, 1) := by decide +kernel
theorem dX7_mixed_4 : decode cX7_mixed 4 = .ok (.lmul, 1) := by decide +kernel
theorem dX7_mixed_5 : decode cX7_mixed 5 = .ok (.lload_n 2, 1) := by decide +kernel
theorem dX7_mixed_6 : decode cX7_mixed 6 = .ok (.ladd, 1) := by decide +kernel
theorem dX7_mixed_7 : decode cX7_mixed 7 = .ok (.lreturn, 1) := by decide +kernel
theorem dX7_hasLawn_0 : decode cX7_hasLawn 0 = .ok (.aload_n 0, 1) := by decide +kernel
theorem dX7_hasLawn_1 : decode cX7_hasLawn 1 = .ok (.getfield 77, 3) := by decide +kernel
theorem dX7_hasLawn_4 : decode cX7_hasLawn 4 = .ok (.ifCond .le 7, 3) := by decide +kernel
theorem dX7_hasLawn_7 : decode cX7_hasLawn 7 = .ok (.iconst 1, 1) := by decide +kernel
theorem dX7_hasLawn_8 : decode cX7_hasLawn 8 = .ok (.goto 4, 3) := by decide +kernel
theorem dX7_hasLawn_11 : decode cX7_hasLawn 11 = .ok (.iconst 0, 1) := by decide +kernel
theorem dX7_hasLawn_12 : decode cX7_hasLawn 12 = .ok (.ireturn, 1) := by decide +kernel
theorem dX7_isBall_0 : decode cX7_isBall 0 = .ok (.iload_n 1, 1) := by decide +kernel
theorem dX7_isBall_1 : decode cX7_isBall 1 = .ok (.ifCond .lt 18, 3) := by decide +kernel
theorem dX7_isBall_4 : decode cX7_isBall 4 = .ok (.iload_n 1, 1) := by decide +kernel
theorem dX7_isBall_5 : decode cX7_isBall 5 = .ok (.aload_n 0, 1) := by decide +kernel
theorem dX7_isBall_6 : decode cX7_isBall 6 = .ok (.getfield 16, 3) := by decide +kernel
theorem dX7_isBall_9 : decode cX7_isBall 9 = .ok (.getfield 110, 3) := by decide +kernel
theorem dX7_isBall_12 : decode cX7_isBall 12 = .ok (.if_icmp .ge 7, 3) := by decide +kernel
theorem dX7_isBall_15 : decode cX7_isBall 15 = .ok (.iconst 1, 1) := by decide +kernel
theorem dX7_isBall_16 : decode cX7_isBall 16 = .ok (.goto 4, 3) := by decide +kernel
theorem dX7_isBall_19 : decode cX7_isBall 19 = .ok (.iconst 0, 1) := by decide +kernel
theorem dX7_isBall_20 : decode cX7_isBall 20 = .ok (.ireturn, 1) := by decide +kernel
theorem dX7_maySearch_0 : decode cX7_maySearch 0 = .ok (.aload_n 0, 1) := by decide +kernel
theorem dX7_maySearch_1 : decode cX7_maySearch 1 = .ok (.getfield 16, 3) := by decide +kernel
theorem dX7_maySearch_4 : decode cX7_maySearch 4 = .ok (.getfield 113, 3) := by decide +kernel
theorem dX7_maySearch_7 : decode cX7_maySearch 7 = .ok (.iload_n 1, 1) := by decide +kernel
theorem dX7_maySearch_8 : decode cX7_maySearch 8 = .ok (.aaload, 1) := by decide +kernel
theorem dX7_maySearch_9 : decode cX7_maySearch 9 = .ok (.invokevirtual 276, 3) := by decide +kernel
theorem dX7_maySearch_12 : decode cX7_maySearch 12 = .ok (.ifCond .ne 16, 3) := by decide +kernel
theorem dX7_maySearch_15 : decode cX7_maySearch 15 = .ok (.aload_n 0, 1) := by decide +kernel
theorem dX7_maySearch_16 : decode cX7_maySearch 16 = .ok (.getfield 184, 3) := by decide +kernel
theorem dX7_maySearch_19 : decode cX7_maySearch 19 = .ok (.bipush 60, 2) := by decide +kernel
theorem dX7_maySearch_21 : decode cX7_maySearch 21 = .ok (.if_icmp .ge 7, 3) := by decide +kernel
theorem dX7_maySearch_24 : decode cX7_maySearch 24 = .ok (.iconst 1, 1) := by decide +kernel
theorem dX7_maySearch_25 : decode cX7_maySearch 25 = .ok (.goto 4, 3) := by decide +kernel
theorem dX7_maySearch_28 : decode cX7_maySearch 28 = .ok (.iconst 0, 1) := by decide +kernel
theorem dX7_maySearch_29 : decode cX7_maySearch 29 = .ok (.ireturn, 1) := by decide +kernel
theorem dX7_isPlace_0 : decode cX7_isPlace 0 = .ok (.iload_n 0, 1) := by decide +kernel
theorem dX7_isPlace_1 : decode cX7_isPlace 1 = .ok (.iconst 0, 1) := by decide +kernel
theorem dX7_isPlace_2 : decode cX7_isPlace 2 = .ok (.bipush 19, 2) := by decide +kernel
theorem dX7_isPlace_4 : decode cX7_isPlace 4 = .ok (.invokestatic 47, 3) := by decide +kernel
theorem dX7_isPlace_7 : decode cX7_isPlace 7 = .ok (.ifCond .ne 7, 3) := by decide +kernel
theorem dX7_isPlace_10 : decode cX7_isPlace 10 = .ok (.iconst 1, 1) := by decide +kernel
theorem dX7_isPlace_11 : decode cX7_isPlace 11 = .ok (.goto 4, 3) := by decide +kernel
theorem dX7_isPlace_14 : decode cX7_isPlace 14 = .ok (.iconst 0, 1) := by decide +kernel
theorem dX7_isPlace_15 : decode cX7_isPlace 15 = .ok (.ireturn, 1) := by decide +kernel
theorem dX7_isKind_0 : decode cX7_isKind 0 = .ok (.iload_n 0, 1) := by decide +kernel
theorem dX7_isKind_1 : decode cX7_isKind 1 = .ok (.iconst 0, 1) := by decide +kernel
theorem dX7_isKind_2 : decode cX7_isKind 2 = .ok (.getstatic 117, 3) := by decide +kernel
theorem dX7_isKind_5 : decode cX7_isKind 5 = .ok (.arraylength, 1) := by decide +kernel
theorem dX7_isKind_6 : decode cX7_isKind 6 = .ok (.iconst 1, 1) := by decide +kernel
theorem dX7_isKind_7 : decode cX7_isKind 7 = .ok (.isub, 1) := by decide +kernel
theorem dX7_isKind_8 : decode cX7_isKind 8 = .ok (.invokestatic 47, 3) := by decide +kernel
theorem dX7_isKind_11 : decode cX7_isKind 11 = .ok (.ifCond .ne 7, 3) := by decide +kernel
theorem dX7_isKind_14 : decode cX7_isKind 14 = .ok (.iconst 1, 1) := by decide +kernel
theorem dX7_isKind_15 : decode cX7_isKind 15 = .ok (.goto 4, 3) := by decide +kernel
theorem dX7_isKind_18 : decode cX7_isKind 18 = .ok (.iconst 0, 1) := by decide +kernel
theorem dX7_isKind_19 : decode cX7_isKind 19 = .ok (.ireturn, 1) := by decide +kernel
theorem dX7_isSide_0 : decode cX7_isSide 0 = .ok (.iload_n 0, 1) := by decide +kernel
theorem dX7_isSide_1 : decode cX7_isSide 1 = .ok (.iconst 0, 1) := by decide +kernel
theorem dX7_isSide_2 : decode cX7_isSide 2 = .ok (.iconst 3, 1) := by decide +kernel
theorem dX7_isSide_3 : decode cX7_isSide 3 = .ok (.invokestatic 47, 3) := by decide +kernel
theorem dX7_isSide_6 : decode cX7_isSide 6 = .ok (.ifCond .ne 7, 3) := by decide +kernel
theorem dX7_isSide_9 : decode cX7_isSide 9 = .ok (.iconst 1, 1) := by decide +kernel
theorem dX7_isSide_10 : decode cX7_isSide 10 = .ok (.goto 4, 3) := by decide +kernel
theorem dX7_isSide_13 : decode cX7_isSide 13 = .ok (.iconst 0, 1) := by decide +kernel
theorem dX7_isSide_14 : decode cX7_isSide 14 = .ok (.ireturn, 1) := by decide +kernel
theorem dX7_isOutside_0 : decode cX7_isOutside 0 = .ok (.iload_n 0, 1) := by decide +kernel
theorem dX7_isOutside_1 : decode cX7_isOutside 1 = .ok (.iload_n 1, 1) := by decide +kernel
theorem dX7_isOutside_2 : decode cX7_isOutside 2 = .ok (.if_icmp .lt 8, 3) := by decide +kernel
theorem dX7_isOutside_5 : decode cX7_isOutside 5 = .ok (.iload_n 0, 1) := by decide +kernel
theorem dX7_isOutside_6 : decode cX7_isOutside 6 = .ok (.iload_n 2, 1) := by decide +kernel
theorem dX7_isOutside_7 : decode cX7_isOutside 7 = .ok (.if_icmp .le 7, 3) := by decide +kernel
theorem dX7_isOutside_10 : decode cX7_isOutside 10 = .ok (.iconst 1, 1) := by decide +kernel
theorem dX7_isOutside_11 : decode cX7_isOutside 11 = .ok (.goto 4, 3) := by decide +kernel
theorem dX7_isOutside_14 : decode cX7_isOutside 14 = .ok (.iconst 0, 1) := by decide +kernel
theorem dX7_isOutside_15 : decode cX7_isOutside 15 = .ok (.ireturn, 1) := by decide +kernel
theorem dX7_belongsAt_0 : decode cX7_belongsAt 0 = .ok (.iload_n 0, 1) := by decide +kernel
theorem dX7_belongsAt_1 : decode cX7_belongsAt 1 = .ok (.bipush 25, 2) := by decide +kernel
theorem dX7_belongsAt_3 : decode cX7_belongsAt 3 = .ok (.if_icmp .lt 5, 3) := by decide +kernel
theorem dX7_belongsAt_6 : decode cX7_belongsAt 6 = .ok (.iconst 0, 1) := by decide +kernel
theorem dX7_belongsAt_7 : decode cX7_belongsAt 7 = .ok (.ireturn, 1) := by decide +kernel
theorem dX7_belongsAt_8 : decode cX7_belongsAt 8 = .ok (.iload_n 0, 1) := by decide +kernel
theorem dX7_belongsAt_9 : decode cX7_belongsAt 9 = .ok (.bipush 23, 2) := by decide +kernel
theorem dX7_belongsAt_11 : decode cX7_belongsAt 11 = .ok (.if_icmp .ne 15, 3) := by decide +kernel
theorem dX7_belongsAt_14 : decode cX7_belongsAt 14 = .ok (.iload_n 1, 1) := by decide +kernel
theorem dX7_belongsAt_15 : decode cX7_belongsAt 15 = .ok (.bipush 59, 2) := by decide +kernel
theorem dX7_belongsAt_17 : decode cX7_belongsAt 17 = .ok (.if_icmp .ne 7, 3) := by decide +kernel
theorem dX7_belongsAt_20 : decode cX7_belongsAt 20 = .ok (.iconst 1, 1) := by decide +kernel
theorem dX7_belongsAt_21 : decode cX7_belongsAt 21 = .ok (.goto 4, 3) := by decide +kernel
theorem dX7_belongsAt_24 : decode cX7_belongsAt 24 = .ok (.iconst 0, 1) := by decide +kernel
theorem dX7_belongsAt_25 : decode cX7_belongsAt 25 = .ok (.ireturn, 1) := by decide +kernel
theorem dX7_belongsAt_26 : decode cX7_belongsAt 26 = .ok (.iload_n 0, 1) := by decide +kernel
theorem dX7_belongsAt_27 : decode cX7_belongsAt 27 = .ok (.bipush 23, 2) := by decide +kernel
theorem dX7_belongsAt_29 : decode cX7_belongsAt 29 = .ok (.if_icmp .ge 23, 3) := by decide +kernel
theorem dX7_belongsAt_32 : decode cX7_belongsAt 32 = .ok (.iload_n 0, 1) := by decide +kernel
theorem dX7_belongsAt_33 : decode cX7_belongsAt 33 = .ok (.bipush 6, 2) := by decide +kernel
theorem dX7_belongsAt_35 : decode cX7_belongsAt 35 = .ok (.irem, 1) := by decide +kernel
theorem dX7_belongsAt_36 : decode cX7_belongsAt 36 = .ok (.iconst 5, 1) := by decide +kernel
theorem dX7_belongsAt_37 : decode cX7_belongsAt 37 = .ok (.if_icmp .ne 15, 3) := by decide +kernel
theorem dX7_belongsAt_40 : decode cX7_belongsAt 40 = .ok (.iload_n 1, 1) := by decide +kernel
theorem dX7_belongsAt_41 : decode cX7_belongsAt 41 = .ok (.bipush 47, 2) := by decide +kernel
theorem dX7_belongsAt_43 : decode cX7_belongsAt 43 = .ok (.if_icmp .ne 7, 3) := by decide +kernel
theorem dX7_belongsAt_46 : decode cX7_belongsAt 46 = .ok (.iconst 1, 1) := by decide +kernel
theorem dX7_belongsAt_47 : decode cX7_belongsAt 47 = .ok (.goto 4, 3) := by decide +kernel
theorem dX7_belongsAt_50 : decode cX7_belongsAt 50 = .ok (.iconst 0, 1) := by decide +kernel
theorem dX7_belongsAt_51 : decode cX7_belongsAt 51 = .ok (.ireturn, 1) := by decide +kernel
theorem dX7_belongsAt_52 : decode cX7_belongsAt 52 = .ok (.iload_n 1, 1) := by decide +kernel
theorem dX7_belongsAt_53 : decode cX7_belongsAt 53 = .ok (.bipush 48, 2) := by decide +kernel
theorem dX7_belongsAt_55 : decode cX7_belongsAt 55 = .ok (.if_icmp .lt 13, 3) := by decide +kernel
theorem dX7_belongsAt_58 : decode cX7_belongsAt 58 = .ok (.iload_n 1, 1) := by decide +kernel
theorem dX7_belongsAt_59 : decode cX7_belongsAt 59 = .ok (.bipush 57, 2) := by decide +kernel
theorem dX7_belongsAt_61 : decode cX7_belongsAt 61 = .ok (.if_icmp .gt 7, 3) := by decide +kernel
theorem dX7_belongsAt_64 : decode cX7_belongsAt 64 = .ok (.iconst 1, 1) := by decide +kernel
theorem dX7_belongsAt_65 : decode cX7_belongsAt 65 = .ok (.goto 4, 3) := by decide +kernel
theorem dX7_belongsAt_68 : decode cX7_belongsAt 68 = .ok (.iconst 0, 1) := by decide +kernel
theorem dX7_belongsAt_69 : decode cX7_belongsAt 69 = .ok (.ireturn, 1) := by decide +kernel
theorem dX7_letterOf_0 : decode cX7_letterOf 0 = .ok (.iload_n 0, 1) := by decide +kernel
theorem dX7_letterOf_1 : decode cX7_letterOf 1 = .ok (.iload_n 0, 1) := by decide +kernel
theorem dX7_letterOf_2 : decode cX7_letterOf 2 = .ok (.iconst 5, 1) := by decide +kernel
theorem dX7_letterOf_3 : decode cX7_letterOf 3 = .ok (.idiv, 1) := by decide +kernel
theorem dX7_letterOf_4 : decode cX7_letterOf 4 = .ok (.iadd, 1) := by decide +kernel
theorem dX7_letterOf_5 : decode cX7_letterOf 5 = .ok (.ireturn, 1) := by decide +kernel
theorem dX7_beside_0 : decode cX7_beside 0 = .ok (.iload_n 0, 1) := by decide +kernel
theorem dX7_beside_1 : decode cX7_beside 1 = .ok (.invokestatic 87, 3) := by decide +kernel
theorem dX7_beside_4 : decode cX7_beside 4 = .ok (.ifCond .ne 5, 3) := by decide +kernel
theorem dX7_beside_7 : decode cX7_beside 7 = .ok (.iconst (-1), 1) := by decide +kernel
theorem dX7_beside_8 : decode cX7_beside 8 = .ok (.ireturn, 1) := by decide +kernel
theorem dX7_beside_9 : decode cX7_beside 9 = .ok (.iload_n 0, 1) := by decide +kernel
theorem dX7_beside_10 : decode cX7_beside 10 = .ok (.iconst 5, 1) := by decide +kernel
theorem dX7_beside_11 : decode cX7_beside 11 = .ok (.irem, 1) := by decide +kernel
theorem dX7_beside_12 : decode cX7_beside 12 = .ok (.istore_n 2, 1) := by decide +kernel
theorem dX7_beside_13 : decode cX7_beside 13 = .ok (.iload_n 1, 1) := by decide +kernel
theorem dX7_beside_14 : decode cX7_beside 14 = .ok (.tableswitch 82 0 3 #[30, 43, 56, 70], 30) := by decide +kernel
theorem dX7_beside_44 : decode cX7_beside 44 = .ok (.iload_n 0, 1) := by decide +kernel
theorem dX7_beside_45 : decode cX7_beside 45 = .ok (.iconst 5, 1) := by decide +kernel
theorem dX7_beside_46 : decode cX7_beside 46 = .ok (.if_icmp .lt 9, 3) := by decide +kernel
theorem dX7_beside_49 : decode cX7_beside 49 = .ok (.iload_n 0, 1) := by decide +kernel
theorem dX7_beside_50 : decode cX7_beside 50 = .ok (.iconst 5, 1) := by decide +kernel
theorem dX7_beside_51 : decode cX7_beside 51 = .ok (.isub, 1) := by decide +kernel
theorem dX7_beside_52 : decode cX7_beside 52 = .ok (.goto 4, 3) := by decide +kernel
theorem dX7_beside_55 : decode cX7_beside 55 = .ok (.iconst (-1), 1) := by decide +kernel
theorem dX7_beside_56 : decode cX7_beside 56 = .ok (.ireturn, 1) := by decide +kernel
theorem dX7_beside_57 : decode cX7_beside 57 = .ok (.iload_n 2, 1) := by decide +kernel
theorem dX7_beside_58 : decode cX7_beside 58 = .ok (.iconst 4, 1) := by decide +kernel
theorem dX7_beside_59 : decode cX7_beside 59 = .ok (.if_icmp .ge 9, 3) := by decide +kernel
theorem dX7_beside_62 : decode cX7_beside 62 = .ok (.iload_n 0, 1) := by decide +kernel
theorem dX7_beside_63 : decode cX7_beside 63 = .ok (.iconst 1, 1) := by decide +kernel
theorem dX7_beside_64 : decode cX7_beside 64 = .ok (.iadd, 1) := by decide +kernel
theorem dX7_beside_65 : decode cX7_beside 65 = .ok (.goto 4, 3) := by decide +kernel
theorem dX7_beside_68 : decode cX7_beside 68 = .ok (.iconst (-1), 1) := by decide +kernel
theorem dX7_beside_69 : decode cX7_beside 69 = .ok (.ireturn, 1) := by decide +kernel
theorem dX7_beside_70 : decode cX7_beside 70 = .ok (.iload_n 0, 1) := by decide +kernel
theorem dX7_beside_71 : decode cX7_beside 71 = .ok (.bipush 15, 2) := by decide +kernel
theorem dX7_beside_73 : decode cX7_beside 73 = .ok (.if_icmp .ge 9, 3) := by decide +kernel
theorem dX7_beside_76 : decode cX7_beside 76 = .ok (.iload_n 0, 1) := by decide +kernel
theorem dX7_beside_77 : decode cX7_beside 77 = .ok (.iconst 5, 1) := by decide +kernel
theorem dX7_beside_78 : decode cX7_beside 78 = .ok (.iadd, 1) := by decide +kernel
theorem dX7_beside_79 : decode cX7_beside 79 = .ok (.goto 4, 3) := by decide +kernel
theorem dX7_beside_82 : decode cX7_beside 82 = .ok (.iconst (-1), 1) := by decide +kernel
theorem dX7_beside_83 : decode cX7_beside 83 = .ok (.ireturn, 1) := by decide +kernel
theorem dX7_beside_84 : decode cX7_beside 84 = .ok (.iload_n 2, 1) := by decide +kernel
theorem dX7_beside_85 : decode cX7_beside 85 = .ok (.ifCond .le 9, 3) := by decide +kernel
theorem dX7_beside_88 : decode cX7_beside 88 = .ok (.iload_n 0, 1) := by decide +kernel
theorem dX7_beside_89 : decode cX7_beside 89 = .ok (.iconst 1, 1) := by decide +kernel
theorem dX7_beside_90 : decode cX7_beside 90 = .ok (.isub, 1) := by decide +kernel
theorem dX7_beside_91 : decode cX7_beside 91 = .ok (.goto 4, 3) := by decide +kernel
theorem dX7_beside_94 : decode cX7_beside 94 = .ok (.iconst (-1), 1) := by decide +kernel
theorem dX7_beside_95 : decode cX7_beside 95 = .ok (.ireturn, 1) := by decide +kernel
theorem dX7_beside_96 : decode cX7_beside 96 = .ok (.iconst (-1), 1) := by decide +kernel
theorem dX7_beside_97 : decode cX7_beside 97 = .ok (.ireturn, 1) := by decide +kernel
theorem dX7_areBeside_0 : decode cX7_areBeside 0 = .ok (.iload_n 1, 1) := by decide +kernel
theorem dX7_areBeside_1 : decode cX7_areBeside 1 = .ok (.iconst (-1), 1) := by decide +kernel
theorem dX7_areBeside_2 : decode cX7_areBeside 2 = .ok (.if_icmp .ne 5, 3) := by decide +kernel
theorem dX7_areBeside_5 : decode cX7_areBeside 5 = .ok (.iconst 0, 1) := by decide +kernel
theorem dX7_areBeside_6 : decode cX7_areBeside 6 = .ok (.ireturn, 1) := by decide +kernel
theorem dX7_areBeside_7 : decode cX7_areBeside 7 = .ok (.iconst 0, 1) := by decide +kernel
theorem dX7_areBeside_8 : decode cX7_areBeside 8 = .ok (.istore_n 2, 1) := by decide +kernel
theorem dX7_areBeside_9 : decode cX7_areBeside 9 = .ok (.iload_n 2, 1) := by decide +kernel
theorem dX7_areBeside_10 : decode cX7_areBeside 10 = .ok (.iconst 4, 1) := by decide +kernel
theorem dX7_areBeside_11 : decode cX7_areBeside 11 = .ok (.if_icmp .ge 20, 3) := by decide +kernel
theorem dX7_areBeside_14 : decode cX7_areBeside 14 = .ok (.iload_n 0, 1) := by decide +kernel
theorem dX7_areBeside_15 : decode cX7_areBeside 15 = .ok (.iload_n 2, 1) := by decide +kernel
theorem dX7_areBeside_16 : decode cX7_areBeside 16 = .ok (.invokestatic 279, 3) := by decide +kernel
theorem dX7_areBeside_19 : decode cX7_areBeside 19 = .ok (.iload_n 1, 1) := by decide +kernel
theorem dX7_areBeside_20 : decode cX7_areBeside 20 = .ok (.if_icmp .ne 5, 3) := by decide +kernel
theorem dX7_areBeside_23 : decode cX7_areBeside 23 = .ok (.iconst 1, 1) := by decide +kernel
theorem dX7_areBeside_24 : decode cX7_areBeside 24 = .ok (.ireturn, 1) := by decide +kernel
theorem dX7_areBeside_25 : decode cX7_areBeside 25 = .ok (.iinc 2 1, 3) := by decide +kernel
theorem dX7_areBeside_28 : decode cX7_areBeside 28 = .ok (.goto (-19), 3) := by decide +kernel
theorem dX7_areBeside_31 : decode cX7_areBeside 31 = .ok (.iconst 0, 1) := by decide +kernel
theorem dX7_areBeside_32 : decode cX7_areBeside 32 = .ok (.ireturn, 1) := by decide +kernel
theorem dX7_axisOf_0 : decode cX7_axisOf 0 = .ok (.iload_n 0, 1) := by decide +kernel
theorem dX7_axisOf_1 : decode cX7_axisOf 1 = .ok (.iconst 2, 1) := by decide +kernel
theorem dX7_axisOf_2 : decode cX7_axisOf 2 = .ok (.irem, 1) := by decide +kernel
theorem dX7_axisOf_3 : decode cX7_axisOf 3 = .ok (.ireturn, 1) := by decide +kernel
theorem dX7_rootOf_0 : decode cX7_rootOf 0 = .ok (.iconst 0, 1) := by decide +kernel
theorem dX7_rootOf_1 : decode cX7_rootOf 1 = .ok (.istore_n 1, 1) := by decide +kernel
theorem dX7_rootOf_2 : decode cX7_rootOf 2 = .ok (.iconst 1, 1) := by decide +kernel
theorem dX7_rootOf_3 : decode cX7_rootOf 3 = .ok (.istore_n 2, 1) := by decide +kernel
theorem dX7_rootOf_4 : decode cX7_rootOf 4 = .ok (.iload_n 2, 1) := by decide +kernel
theorem dX7_rootOf_5 : decode cX7_rootOf 5 = .ok (.iload_n 2, 1) := by decide +kernel
theorem dX7_rootOf_6 : decode cX7_rootOf 6 = .ok (.imul, 1) := by decide +kernel
theorem dX7_rootOf_7 : decode cX7_rootOf 7 = .ok (.iload_n 0, 1) := by decide +kernel
theorem dX7_rootOf_8 : decode cX7_rootOf 8 = .ok (.if_icmp .gt 11, 3) := by decide +kernel
theorem dX7_rootOf_11 : decode cX7_rootOf 11 = .ok (.iload_n 2, 1) := by decide +kernel
theorem dX7_rootOf_12 : decode cX7_rootOf 12 = .ok (.istore_n 1, 1) := by decide +kernel
theorem dX7_rootOf_13 : decode cX7_rootOf 13 = .ok (.iinc 2 1, 3) := by decide +kernel
theorem dX7_rootOf_16 : decode cX7_rootOf 16 = .ok (.goto (-12), 3) := by decide +kernel
theorem dX7_rootOf_19 : decode cX7_rootOf 19 = .ok (.iload_n 1, 1) := by decide +kernel
theorem dX7_rootOf_20 : decode cX7_rootOf 20 = .ok (.ireturn, 1) := by decide +kernel
theorem dX7_nextSeed_0 : decode cX7_nextSeed 0 = .ok (.ldc2_w 282, 3) := by decide +kernel
theorem dX7_nextSeed_3 : decode cX7_nextSeed 3 = .ok (.lload_n 0, 1) := by decide +kernel
theorem dX7_nextSeed_4 : decode cX7_nextSeed 4 = .ok (.lmul, 1) := by decide +kernel
theorem dX7_nextSeed_5 : decode cX7_nextSeed 5 = .ok (.ldc2_w 284, 3) := by decide +kernel
theorem dX7_nextSeed_8 : decode cX7_nextSeed 8 = .ok (.ladd, 1) := by decide +kernel
theorem dX7_nextSeed_9 : decode cX7_nextSeed 9 = .ok (.ldc2_w 286, 3) := by decide +kernel
theorem dX7_nextSeed_12 : decode cX7_nextSeed 12 = .ok (.lrem, 1) := by decide +kernel
theorem dX7_nextSeed_13 : decode cX7_nextSeed 13 = .ok (.lreturn, 1) := by decide +kernel
theorem dX7_drawOf_0 : decode cX7_drawOf 0 = .ok (.iload_n 2, 1) := by decide +kernel
theorem dX7_drawOf_1 : decode cX7_drawOf 1 = .ok (.ifCond .le 15, 3) := by decide +kernel
theorem dX7_drawOf_4 : decode cX7_drawOf 4 = .ok (.lload_n 0, 1) := by decide +kernel
theorem dX7_drawOf_5 : decode cX7_drawOf 5 = .ok (.ldc2_w 288, 3) := by decide +kernel
theorem dX7_drawOf_8 : decode cX7_drawOf 8 = .ok (.ldiv, 1) := by decide +kernel
theorem dX7_drawOf_9 : decode cX7_drawOf 9 = .ok (.iload_n 2, 1) := by decide +kernel
theorem dX7_drawOf_10 : decode cX7_drawOf 10 = .ok (.i2l, 1) := by decide +kernel
theorem dX7_drawOf_11 : decode cX7_drawOf 11 = .ok (.lrem, 1) := by decide +kernel
theorem dX7_drawOf_12 : decode cX7_drawOf 12 = .ok (.l2i, 1) := by decide +kernel
theorem dX7_drawOf_13 : decode cX7_drawOf 13 = .ok (.goto 4, 3) := by decide +kernel
theorem dX7_drawOf_16 : decode cX7_drawOf 16 = .ok (.iconst 0, 1) := by decide +kernel
theorem dX7_drawOf_17 : decode cX7_drawOf 17 = .ok (.ireturn, 1) := by decide +kernel
theorem dX7_explore_0 : decode cX7_explore 0 = .ok (.aload_n 0, 1) := by decide +kernel
theorem dX7_explore_1 : decode cX7_explore 1 = .ok (.getfield 113, 3) := by decide +kernel
theorem dX7_explore_4 : decode cX7_explore 4 = .ok (.iload_n 1, 1) := by decide +kernel
theorem dX7_explore_5 : decode cX7_explore 5 = .ok (.aaload, 1) := by decide +kernel
theorem dX7_explore_6 : decode cX7_explore 6 = .ok (.astore 6, 2) := by decide +kernel
theorem dX7_explore_8 : decode cX7_explore 8 = .ok (.aload_n 2, 1) := by decide +kernel
theorem dX7_explore_9 : decode cX7_explore 9 = .ok (.aload 6, 2) := by decide +kernel
theorem dX7_explore_11 : decode cX7_explore 11 = .ok (.iload 4, 2) := by decide +kernel
theorem dX7_explore_13 : decode cX7_explore 13 = .ok (.iload 5, 2) := by decide +kernel
theorem dX7_explore_15 : decode cX7_explore 15 = .ok (.invokevirtual 290, 3) := by decide +kernel
theorem dX7_explore_18 : decode cX7_explore 18 = .ok (.iload 4, 2) := by decide +kernel
theorem dX7_explore_20 : decode cX7_explore 20 = .ok (.iload_n 3, 1) := by decide +kernel
theorem dX7_explore_21 : decode cX7_explore 21 = .ok (.if_icmp .ge 10, 3) := by decide +kernel
theorem dX7_explore_24 : decode cX7_explore 24 = .ok (.iload 4, 2) := by decide +kernel
theorem dX7_explore_26 : decode cX7_explore 26 = .ok (.bipush 6, 2) := by decide +kernel
theorem dX7_explore_28 : decode cX7_explore 28 = .ok (.if_icmp .lt 4, 3) := by decide +kernel
theorem dX7_explore_31 : decode cX7_explore 31 = .ok (.return_, 1) := by decide +kernel
theorem dX7_explore_32 : decode cX7_explore 32 = .ok (.aload 6, 2) := by decide +kernel
theorem dX7_explore_34 : decode cX7_explore 34 = .ok (.getfield 142, 3) := by decide +kernel
theorem dX7_explore_37 : decode cX7_explore 37 = .ok (.istore 7, 2) := by decide +kernel
theorem dX7_explore_39 : decode cX7_explore 39 = .ok (.aload 6, 2) := by decide +kernel
theorem dX7_explore_41 : decode cX7_explore 41 = .ok (.getfield 139, 3) := by decide +kernel
theorem dX7_explore_44 : decode cX7_explore 44 = .ok (.istore 8, 2) := by decide +kernel
theorem dX7_explore_46 : decode cX7_explore 46 = .ok (.aload 6, 2) := by decide +kernel
theorem dX7_explore_48 : decode cX7_explore 48 = .ok (.getfield 154, 3) := by decide +kernel
theorem dX7_explore_51 : decode cX7_explore 51 = .ok (.istore 9, 2) := by decide +kernel
theorem dX7_explore_53 : decode cX7_explore 53 = .ok (.iconst 0, 1) := by decide +kernel
theorem dX7_explore_54 : decode cX7_explore 54 = .ok (.istore 10, 2) := by decide +kernel
theorem dX7_explore_56 : decode cX7_explore 56 = .ok (.iload 10, 2) := by decide +kernel
theorem dX7_explore_58 : decode cX7_explore 58 = .ok (.iconst 4, 1) := by decide +kernel
theorem dX7_explore_59 : decode cX7_explore 59 = .ok (.if_icmp .ge 110, 3) := by decide +kernel
theorem dX7_explore_62 : decode cX7_explore 62 = .ok (.aload_n 0, 1) := by decide +kernel
theorem dX7_explore_63 : decode cX7_explore 63 = .ok (.iload_n 1, 1) := by decide +kernel
theorem dX7_explore_64 : decode cX7_explore 64 = .ok (.iload 10, 2) := by decide +kernel
theorem dX7_explore_66 : decode cX7_explore 66 = .ok (.invokevirtual 164, 3) := by decide +kernel
theorem dX7_explore_69 : decode cX7_explore 69 = .ok (.ifCond .ne 6, 3) := by decide +kernel
theorem dX7_explore_72 : decode cX7_explore 72 = .ok (.goto 91, 3) := by decide +kernel
theorem dX7_explore_75 : decode cX7_explore 75 = .ok (.iload 7, 2) := by decide +kernel
theorem dX7_explore_77 : decode cX7_explore 77 = .ok (.iload 10, 2) := by decide +kernel
theorem dX7_explore_79 : decode cX7_explore 79 = .ok (.invokestatic 279, 3) := by decide +kernel
theorem dX7_explore_82 : decode cX7_explore 82 = .ok (.istore 11, 2) := by decide +kernel
theorem dX7_explore_84 : decode cX7_explore 84 = .ok (.iload 11, 2) := by decide +kernel
theorem dX7_explore_86 : decode cX7_explore 86 = .ok (.iconst (-1), 1) := by decide +kernel
theorem dX7_explore_87 : decode cX7_explore 87 = .ok (.if_icmp .ne 6, 3) := by decide +kernel
theorem dX7_explore_90 : decode cX7_explore 90 = .ok (.goto 73, 3) := by decide +kernel
theorem dX7_explore_93 : decode cX7_explore 93 = .ok (.aload_n 0, 1) := by decide +kernel
theorem dX7_explore_94 : decode cX7_explore 94 = .ok (.getfield 66, 3) := by decide +kernel
theorem dX7_explore_97 : decode cX7_explore 97 = .ok (.iload 11, 2) := by decide +kernel
theorem dX7_explore_99 : decode cX7_explore 99 = .ok (.iaload, 1) := by decide +kernel
theorem dX7_explore_100 : decode cX7_explore 100 = .ok (.istore 12, 2) := by decide +kernel
theorem dX7_explore_102 : decode cX7_explore 102 = .ok (.aload_n 0, 1) := by decide +kernel
theorem dX7_explore_103 : decode cX7_explore 103 = .ok (.iload_n 1, 1) := by decide +kernel
theorem dX7_explore_104 : decode cX7_explore 104 = .ok (.iload 10, 2) := by decide +kernel
theorem dX7_explore_106 : decode cX7_explore 106 = .ok (.invokevirtual 168, 3) := by decide +kernel
theorem dX7_explore_109 : decode cX7_explore 109 = .ok (.pop, 1) := by decide +kernel
theorem dX7_explore_110 : decode cX7_explore 110 = .ok (.aload_n 0, 1) := by decide +kernel
theorem dX7_explore_111 : decode cX7_explore 111 = .ok (.iload_n 1, 1) := by decide +kernel
theorem dX7_explore_112 : decode cX7_explore 112 = .ok (.aload_n 2, 1) := by decide +kernel
theorem dX7_explore_113 : decode cX7_explore 113 = .ok (.iload_n 3, 1) := by decide +kernel
theorem dX7_explore_114 : decode cX7_explore 114 = .ok (.iload 4, 2) := by decide +kernel
theorem dX7_explore_116 : decode cX7_explore 116 = .ok (.iconst 1, 1) := by decide +kernel
theorem dX7_explore_117 : decode cX7_explore 117 = .ok (.iadd, 1) := by decide +kernel
theorem dX7_explore_118 : decode cX7_explore 118 = .ok (.iload 4, 2) := by decide +kernel
theorem dX7_explore_120 : decode cX7_explore 120 = .ok (.ifCond .ne 8, 3) := by decide +kernel
theorem dX7_explore_123 : decode cX7_explore 123 = .ok (.iload 10, 2) := by decide +kernel
theorem dX7_explore_125 : decode cX7_explore 125 = .ok (.goto 5, 3) := by decide +kernel
theorem dX7_explore_128 : decode cX7_explore 128 = .ok (.iload 5, 2) := by decide +kernel
theorem dX7_explore_130 : decode cX7_explore 130 = .ok (.invokestatic 193, 3) := by decide +kernel
theorem dX7_explore_133 : decode cX7_explore 133 = .ok (.aload_n 0, 1) := by decide +kernel
theorem dX7_explore_134 : decode cX7_explore 134 = .ok (.getfield 66, 3) := by decide +kernel
theorem dX7_explore_137 : decode cX7_explore 137 = .ok (.iload 11, 2) := by decide +kernel
theorem dX7_explore_139 : decode cX7_explore 139 = .ok (.iload 12, 2) := by decide +kernel
theorem dX7_explore_141 : decode cX7_explore 141 = .ok (.iastore, 1) := by decide +kernel
theorem dX7_explore_142 : decode cX7_explore 142 = .ok (.aload 6, 2) := by decide +kernel
theorem dX7_explore_144 : decode cX7_explore 144 = .ok (.iload 7, 2) := by decide +kernel
theorem dX7_explore_146 : decode cX7_explore 146 = .ok (.putfield 142, 3) := by decide +kernel
theorem dX7_explore_149 : decode cX7_explore 149 = .ok (.aload 6, 2) := by decide +kernel
theorem dX7_explore_151 : decode cX7_explore 151 = .ok (.iload 8, 2) := by decide +kernel
theorem dX7_explore_153 : decode cX7_explore 153 = .ok (.putfield 139, 3) := by decide +kernel
theorem dX7_explore_156 : decode cX7_explore 156 = .ok (.aload 6, 2) := by decide +kernel
theorem dX7_explore_158 : decode cX7_explore 158 = .ok (.iload 9, 2) := by decide +kernel
theorem dX7_explore_160 : decode cX7_explore 160 = .ok (.putfield 154, 3) := by decide +kernel
theorem dX7_explore_163 : decode cX7_explore 163 = .ok (.iinc 10 1, 3) := by decide +kernel
theorem dX7_explore_166 : decode cX7_explore 166 = .ok (.goto (-110), 3) := by decide +kernel
theorem dX7_explore_169 : decode cX7_explore 169 = .ok (.return_, 1) := by decide +kernel
end
section
theorem dX8_init_0 : decode cX8_init 0 = .ok (.aload_n 0, 1) := by decide +kernel
theorem dX8_init_1 : decode cX8_init 1 = .ok (.invokespecial 1, 3) := by decide +kernel
theorem dX8_init_4 : decode cX8_init 4 = .ok (.aload_n 0, 1) := by decide +kernel
theorem dX8_init_5 : decode cX8_init 5 = .ok (.bipush 20, 2) := by decide +kernel
theorem dX8_init_7 : decode cX8_init 7 = .ok (.newarray .int, 2) := by decide +kernel
theorem dX8_init_9 : decode cX8_init 9 = .ok (.putfield 7, 3) := by decide +kernel
theorem dX8_init_12 : decode cX8_init 12 = .ok (.aload_n 0, 1) := by decide +kernel
theorem dX8_init_13 : decode cX8_init 13 = .ok (.bipush 20, 2) := by decide +kernel
theorem dX8_init_15 : decode cX8_init 15 = .ok (.putfield 13, 3) := by decide +kernel
theorem dX8_init_18 : decode cX8_init 18 = .ok (.aload_n 0, 1) := by decide +kernel
theorem dX8_init_19 : decode cX8_init 19 = .ok (.iconst 5, 1) := by decide +kernel
theorem dX8_init_20 : decode cX8_init 20 = .ok (.newarray .int, 2) := by decide +kernel
theorem dX8_init_22 : decode cX8_init 22 = .ok (.putfield 17, 3) := by decide +kernel
theorem dX8_init_25 : decode cX8_init 25 = .ok (.aload_n 0, 1) := by decide +kernel
theorem dX8_init_26 : decode cX8_init 26 = .ok (.iconst 5, 1) := by decide +kernel
theorem dX8_init_27 : decode cX8_init 27 = .ok (.newarray .int, 2) := by decide +kernel
theorem dX8_init_29 : decode cX8_init 29 = .ok (.putfield 20, 3) := by decide +kernel
theorem dX8_init_32 : decode cX8_init 32 = .ok (.aload_n 0, 1) := by decide +kernel
theorem dX8_init_33 : decode cX8_init 33 = .ok (.iconst 5, 1) := by decide +kernel
theorem dX8_init_34 : decode cX8_init 34 = .ok (.newarray .int, 2) := by decide +kernel
theorem dX8_init_36 : decode cX8_init 36 = .ok (.putfield 23, 3) := by decide +kernel
theorem dX8_init_39 : decode cX8_init 39 = .ok (.aload_n 0, 1) := by decide +kernel
theorem dX8_init_40 : decode cX8_init 40 = .ok (.iconst 5, 1) := by decide +kernel
theorem dX8_init_41 : decode cX8_init 41 = .ok (.newarray .int, 2) := by decide +kernel
theorem dX8_init_43 : decode cX8_init 43 = .ok (.putfield 26, 3) := by decide +kernel
theorem dX8_init_46 : decode cX8_init 46 = .ok (.aload_n 0, 1) := by decide +kernel
theorem dX8_init_47 : decode cX8_init 47 = .ok (.iconst 5, 1) := by decide +kernel
theorem dX8_init_48 : decode cX8_init 48 = .ok (.newarray .int, 2) := by decide +kernel
theorem dX8_init_50 : decode cX8_init 50 = .ok (.putfield 29, 3) := by decide +kernel
theorem dX8_init_53 : decode cX8_init 53 = .ok (.aload_n 0, 1) := by decide +kernel
theorem dX8_init_54 : decode cX8_init 54 = .ok (.bipush 26, 2) := by decide +kernel
theorem dX8_init_56 : decode cX8_init 56 = .ok (.newarray .byte, 2) := by decide +kernel
theorem dX8_init_58 : decode cX8_init 58 = .ok (.putfield 32, 3) := by decide +kernel
theorem dX8_init_61 : decode cX8_init 61 = .ok (.aload_n 0, 1) := by decide +kernel
theorem dX8_init_62 : decode cX8_init 62 = .ok (.bipush 20, 2) := by decide +kernel
theorem dX8_init_64 : decode cX8_init 64 = .ok (.newarray .int, 2) := by decide +kernel
theorem dX8_init_66 : decode cX8_init 66 = .ok (.putfield 36, 3) := by decide +kernel
theorem dX8_init_69 : decode cX8_init 69 = .ok (.aload_n 0, 1) := by decide +kernel
theorem dX8_init_70 : decode cX8_init 70 = .ok (.iconst 4, 1) := by decide +kernel
theorem dX8_init_71 : decode cX8_init 71 = .ok (.newarray .int, 2) := by decide +kernel
theorem dX8_init_73 : decode cX8_init 73 = .ok (.putfield 39, 3) := by decide +kernel
theorem dX8_init_76 : decode cX8_init 76 = .ok (.aload_n 0, 1) := by decide +kernel
theorem dX8_init_77 : decode cX8_init 77 = .ok (.iconst 4, 1) := by decide +kernel
theorem dX8_init_78 : decode cX8_init 78 = .ok (.newarray .int, 2) := by decide +kernel
theorem dX8_init_80 : decode cX8_init 80 = .ok (.putfield 42, 3) := by decide +kernel
theorem dX8_init_83 : decode cX8_init 83 = .ok (.aload_n 0, 1) := by decide +kernel
theorem dX8_init_84 : decode cX8_init 84 = .ok (.iconst 4, 1) := by decide +kernel
theorem dX8_init_85 : decode cX8_init 85 = .ok (.newarray .int, 2) := by decide +kernel
theorem dX8_init_87 : decode cX8_init 87 = .ok (.putfield 45, 3) := by decide +kernel
theorem dX8_init_90 : decode cX8_init 90 = .ok (.aload_n 0, 1) := by decide +kernel
theorem dX8_init_91 : decode cX8_init 91 = .ok (.bipush 20, 2) := by decide +kernel
theorem dX8_init_93 : decode cX8_init 93 = .ok (.newarray .int, 2) := by decide +kernel
theorem dX8_init_95 : decode cX8_init 95 = .ok (.putfield 48, 3) := by decide +kernel
theorem dX8_init_98 : decode cX8_init 98 = .ok (.aload_n 0, 1) := by decide +kernel
theorem dX8_init_99 : decode cX8_init 99 = .ok (.bipush 20, 2) := by decide +kernel
theorem dX8_init_101 : decode cX8_init 101 = .ok (.newarray .int, 2) := by decide +kernel
theorem dX8_init_103 : decode cX8_init 103 = .ok (.putfield 51, 3) := by decide +kernel
theorem dX8_init_106 : decode cX8_init 106 = .ok (.aload_n 0, 1) := by decide +kernel
theorem dX8_init_107 : decode cX8_init 107 = .ok (.iconst 4, 1) := by decide +kernel
theorem dX8_init_108 : decode cX8_init 108 = .ok (.newarray .int, 2) := by decide +kernel
theorem dX8_init_110 : decode cX8_init 110 = .ok (.putfield 54, 3) := by decide +kernel
theorem dX8_init_113 : decode cX8_init 113 = .ok (.aload_n 0, 1) := by decide +kernel
theorem dX8_init_114 : decode cX8_init 114 = .ok (.iconst 4, 1) := by decide +kernel
theorem dX8_init_115 : decode cX8_init 115 = .ok (.newarray .int, 2) := by decide +kernel
theorem dX8_init_117 : decode cX8_init 117 = .ok (.putfield 57, 3) := by decide +kernel
theorem dX8_init_120 : decode cX8_init 120 = .ok (.aload_n 0, 1) := by decide +kernel
theorem dX8_init_121 : decode cX8_init 121 = .ok (.iconst 4, 1) := by decide +kernel
theorem dX8_init_122 : decode cX8_init 122 = .ok (.newarray .int, 2) := by decide +kernel
theorem dX8_init_124 : decode cX8_init 124 = .ok (.putfield 60, 3) := by decide +kernel
theorem dX8_init_127 : decode cX8_init 127 = .ok (.aload_n 0, 1) := by decide +kernel
theorem dX8_init_128 : decode cX8_init 128 = .ok (.iconst 4, 1) := by decide +kernel
theorem dX8_init_129 : decode cX8_init 129 = .ok (.newarray .int, 2) := by decide +kernel
theorem dX8_init_131 : decode cX8_init 131 = .ok (.putfield 63, 3) := by decide +kernel
theorem dX8_init_134 : decode cX8_init 134 = .ok (.return_, 1) := by decide +kernel
theorem dX8_within_0 : decode cX8_within 0 = .ok (.iload_n 0, 1) := by decide +kernel
theorem dX8_within_1 : decode cX8_within 1 = .ok (.iload_n 1, 1) := by decide +kernel
theorem dX8_within_2 : decode cX8_within 2 = .ok (.if_icmp .lt 12, 3) := by decide +kernel
theorem dX8_within_5 : decode cX8_within 5 = .ok (.iload_n 0, 1) := by decide +kernel
theorem dX8_within_6 : decode cX8_within 6 = .ok (.iload_n 2, 1) := by decide +kernel
theorem dX8_within_7 : decode cX8_within 7 = .ok (.if_icmp .gt 7, 3) := by decide +kernel
theorem dX8_within_10 : decode cX8_within 10 = .ok (.iconst 1, 1) := by decide +kernel
theorem dX8_within_11 : decode cX8_within 11 = .ok (.goto 4, 3) := by decide +kernel
theorem dX8_within_14 : decode cX8_within 14 = .ok (.iconst 0, 1) := by decide +kernel
theorem dX8_within_15 : decode cX8_within 15 = .ok (.ireturn, 1) := by decide +kernel
theorem dX8_letter_0 : decode cX8_letter 0 = .ok (.iload_n 1, 1) := by decide +kernel
theorem dX8_letter_1 : decode cX8_letter 1 = .ok (.bipush 32, 2) := by decide +kernel
theorem dX8_letter_3 : decode cX8_letter 3 = .ok (.bipush 126, 2) := by decide +kernel
theorem dX8_letter_5 : decode cX8_letter 5 = .ok (.invokestatic 66, 3) := by decide +kernel
theorem dX8_letter_8 : decode cX8_letter 8 = .ok (.ifCond .ne 6, 3) := by decide +kernel
theorem dX8_letter_11 : decode cX8_letter 11 = .ok (.bipush (-102), 2) := by decide +kernel
theorem dX8_letter_13 : decode cX8_letter 13 = .ok (.ireturn, 1) := by decide +kernel
theorem dX8_letter_14 : decode cX8_letter 14 = .ok (.aload_n 0, 1) := by decide +kernel
theorem dX8_letter_15 : decode cX8_letter 15 = .ok (.getfield 70, 3) := by decide +kernel
theorem dX8_letter_18 : decode cX8_letter 18 = .ok (.bipush 26, 2) := by decide +kernel
theorem dX8_letter_20 : decode cX8_letter 20 = .ok (.if_icmp .ne 6, 3) := by decide +kernel
theorem dX8_letter_23 : decode cX8_letter 23 = .ok (.bipush (-104), 2) := by decide +kernel
theorem dX8_letter_25 : decode cX8_letter 25 = .ok (.ireturn, 1) := by decide +kernel
theorem dX8_letter_26 : decode cX8_letter 26 = .ok (.aload_n 0, 1) := by decide +kernel
theorem dX8_letter_27 : decode cX8_letter 27 = .ok (.getfield 32, 3) := by decide +kernel
theorem dX8_letter_30 : decode cX8_letter 30 = .ok (.aload_n 0, 1) := by decide +kernel
theorem dX8_letter_31 : decode cX8_letter 31 = .ok (.getfield 70, 3) := by decide +kernel
theorem dX8_letter_34 : decode cX8_letter 34 = .ok (.iload_n 1, 1) := by decide +kernel
theorem dX8_letter_35 : decode cX8_letter 35 = .ok (.i2b, 1) := by decide +kernel
theorem dX8_letter_36 : decode cX8_letter 36 = .ok (.bastore, 1) := by decide +kernel
theorem dX8_letter_37 : decode cX8_letter 37 = .ok (.aload_n 0, 1) := by decide +kernel
theorem dX8_letter_38 : decode cX8_letter 38 = .ok (.dup, 1) := by decide +kernel
theorem dX8_letter_39 : decode cX8_letter 39 = .ok (.getfield 70, 3) := by decide +kernel
theorem dX8_letter_42 : decode cX8_letter 42 = .ok (.iconst 1, 1) := by decide +kernel
theorem dX8_letter_43 : decode cX8_letter 43 = .ok (.iadd, 1) := by decide +kernel
theorem dX8_letter_44 : decode cX8_letter 44 = .ok (.putfield 70, 3) := by decide +kernel
theorem dX8_letter_47 : decode cX8_letter 47 = .ok (.aload_n 0, 1) := by decide +kernel
theorem dX8_letter_48 : decode cX8_letter 48 = .ok (.getfield 70, 3) := by decide +kernel
theorem dX8_letter_51 : decode cX8_letter 51 = .ok (.ireturn, 1) := by decide +kernel
theorem dX8_blank_0 : decode cX8_blank 0 = .ok (.aload_n 0, 1) := by decide +kernel
theorem dX8_blank_1 : decode cX8_blank 1 = .ok (.getfield 70, 3) := by decide +kernel
theorem dX8_blank_4 : decode cX8_blank 4 = .ok (.istore_n 1, 1) := by decide +kernel
theorem dX8_blank_5 : decode cX8_blank 5 = .ok (.aload_n 0, 1) := by decide +kernel
theorem dX8_blank_6 : decode cX8_blank 6 = .ok (.iconst 0, 1) := by decide +kernel
theorem dX8_blank_7 : decode cX8_blank 7 = .ok (.putfield 70, 3) := by decide +kernel
theorem dX8_blank_10 : decode cX8_blank 10 = .ok (.iload_n 1, 1) := by decide +kernel
theorem dX8_blank_11 : decode cX8_blank 11 = .ok (.ireturn, 1) := by decide +kernel
theorem dX8_readLawn_0 : decode cX8_readLawn 0 = .ok (.iconst 0, 1) := by decide +kernel
theorem dX8_readLawn_1 : decode cX8_readLawn 1 = .ok (.istore_n 1, 1) := by decide +kernel
theorem dX8_readLawn_2 : decode cX8_readLawn 2 = .ok (.iconst 1, 1) := by decide +kernel
theorem dX8_readLawn_3 : decode cX8_readLawn 3 = .ok (.istore_n 2, 1) := by decide +kernel
theorem dX8_readLawn_4 : decode cX8_readLawn 4 = .ok (.iload_n 1, 1) := by decide +kernel
theorem dX8_readLawn_5 : decode cX8_readLawn 5 = .ok (.aload_n 0, 1) := by decide +kernel
theorem dX8_readLawn_6 : decode cX8_readLawn 6 = .ok (.getfield 70, 3) := by decide +kernel
theorem dX8_readLawn_9 : decode cX8_readLawn 9 = .ok (.if_icmp .ge 110, 3) := by decide +kernel
theorem dX8_readLawn_12 : decode cX8_readLawn 12 = .ok (.iload_n 2, 1) := by decide +kernel
theorem dX8_readLawn_13 : decode cX8_readLawn 13 = .ok (.ifCond .eq 106, 3) := by decide +kernel
theorem dX8_readLawn_16 : decode cX8_readLawn 16 = .ok (.aload_n 0, 1) := by decide +kernel
theorem dX8_readLawn_17 : decode cX8_readLawn 17 = .ok (.getfield 32, 3) := by decide +kernel
theorem dX8_readLawn_20 : decode cX8_readLawn 20 = .ok (.iload_n 1, 1) := by decide +kernel
theorem dX8_readLawn_21 : decode cX8_readLawn 21 = .ok (.baload, 1) := by decide +kernel
theorem dX8_readLawn_22 : decode cX8_readLawn 22 = .ok (.bipush 48, 2) := by decide +kernel
theorem dX8_readLawn_24 : decode cX8_readLawn 24 = .ok (.bipush 57, 2) := by decide +kernel
theorem dX8_readLawn_26 : decode cX8_readLawn 26 = .ok (.invokestatic 66, 3) := by decide +kernel
theorem dX8_readLawn_29 : decode cX8_readLawn 29 = .ok (.istore_n 3, 1) := by decide +kernel
theorem dX8_readLawn_30 : decode cX8_readLawn 30 = .ok (.iload_n 1, 1) := by decide +kernel
theorem dX8_readLawn_31 : decode cX8_readLawn 31 = .ok (.bipush 23, 2) := by decide +kernel
theorem dX8_readLawn_33 : decode cX8_readLawn 33 = .ok (.if_icmp .ne 22, 3) := by decide +kernel
theorem dX8_readLawn_36 : decode cX8_readLawn 36 = .ok (.aload_n 0, 1) := by decide +kernel
theorem dX8_readLawn_37 : decode cX8_readLawn 37 = .ok (.getfield 32, 3) := by decide +kernel
theorem dX8_readLawn_40 : decode cX8_readLawn 40 = .ok (.iload_n 1, 1) := by decide +kernel
theorem dX8_readLawn_41 : decode cX8_readLawn 41 = .ok (.baload, 1) := by decide +kernel
theorem dX8_readLawn_42 : decode cX8_readLawn 42 = .ok (.bipush 59, 2) := by decide +kernel
theorem dX8_readLawn_44 : decode cX8_readLawn 44 = .ok (.if_icmp .ne 7, 3) := by decide +kernel
theorem dX8_readLawn_47 : decode cX8_readLawn 47 = .ok (.iconst 1, 1) := by decide +kernel
theorem dX8_readLawn_48 : decode cX8_readLawn 48 = .ok (.goto 55, 3) := by decide +kernel
theorem dX8_readLawn_51 : decode cX8_readLawn 51 = .ok (.iconst 0, 1) := by decide +kernel
theorem dX8_readLawn_52 : decode cX8_readLawn 52 = .ok (.goto 51, 3) := by decide +kernel
theorem dX8_readLawn_55 : decode cX8_readLawn 55 = .ok (.iload_n 1, 1) := by decide +kernel
theorem dX8_readLawn_56 : decode cX8_readLawn 56 = .ok (.bipush 23, 2) := by decide +kernel
theorem dX8_readLawn_58 : decode cX8_readLawn 58 = .ok (.if_icmp .ge 30, 3) := by decide +kernel
theorem dX8_readLawn_61 : decode cX8_readLawn 61 = .ok (.iload_n 1, 1) := by decide +kernel
theorem dX8_readLawn_62 : decode cX8_readLawn 62 = .ok (.bipush 6, 2) := by decide +kernel
theorem dX8_readLawn_64 : decode cX8_readLawn 64 = .ok (.irem, 1) := by decide +kernel
theorem dX8_readLawn_65 : decode cX8_readLawn 65 = .ok (.iconst 5, 1) := by decide +kernel
theorem dX8_readLawn_66 : decode cX8_readLawn 66 = .ok (.if_icmp .ne 22, 3) := by decide +kernel
theorem dX8_readLawn_69 : decode cX8_readLawn 69 = .ok (.aload_n 0, 1) := by decide +kernel
theorem dX8_readLawn_70 : decode cX8_readLawn 70 = .ok (.getfield 32, 3) := by decide +kernel
theorem dX8_readLawn_73 : decode cX8_readLawn 73 = .ok (.iload_n 1, 1) := by decide +kernel
theorem dX8_readLawn_74 : decode cX8_readLawn 74 = .ok (.baload, 1) := by decide +kernel
theorem dX8_readLawn_75 : decode cX8_readLawn 75 = .ok (.bipush 47, 2) := by decide +kernel
theorem dX8_readLawn_77 : decode cX8_readLawn 77 = .ok (.if_icmp .ne 7, 3) := by decide +kernel
theorem dX8_readLawn_80 : decode cX8_readLawn 80 = .ok (.iconst 1, 1) := by decide +kernel
theorem dX8_readLawn_81 : decode cX8_readLawn 81 = .ok (.goto 22, 3) := by decide +kernel
theorem dX8_readLawn_84 : decode cX8_readLawn 84 = .ok (.iconst 0, 1) := by decide +kernel
theorem dX8_readLawn_85 : decode cX8_readLawn 85 = .ok (.goto 18, 3) := by decide +kernel
theorem dX8_readLawn_88 : decode cX8_readLawn 88 = .ok (.iload_n 1, 1) := by decide +kernel
theorem dX8_readLawn_89 : decode cX8_readLawn 89 = .ok (.bipush 25, 2) := by decide +kernel
theorem dX8_readLawn_91 : decode cX8_readLawn 91 = .ok (.if_icmp .ge 11, 3) := by decide +kernel
theorem dX8_readLawn_94 : decode cX8_readLawn 94 = .ok (.iload_n 3, 1) := by decide +kernel
theorem dX8_readLawn_95 : decode cX8_readLawn 95 = .ok (.ifCond .eq 7, 3) := by decide +kernel
theorem dX8_readLawn_98 : decode cX8_readLawn 98 = .ok (.iconst 1, 1) := by decide +kernel
theorem dX8_readLawn_99 : decode cX8_readLawn 99 = .ok (.goto 4, 3) := by decide +kernel
theorem dX8_readLawn_102 : decode cX8_readLawn 102 = .ok (.iconst 0, 1) := by decide +kernel
theorem dX8_readLawn_103 : decode cX8_readLawn 103 = .ok (.istore_n 2, 1) := by decide +kernel
theorem dX8_readLawn_104 : decode cX8_readLawn 104 = .ok (.iload_n 1, 1) := by decide +kernel
theorem dX8_readLawn_105 : decode cX8_readLawn 105 = .ok (.iload_n 2, 1) := by decide +kernel
theorem dX8_readLawn_106 : decode cX8_readLawn 106 = .ok (.ifCond .eq 7, 3) := by decide +kernel
theorem dX8_readLawn_109 : decode cX8_readLawn 109 = .ok (.iconst 1, 1) := by decide +kernel
theorem dX8_readLawn_110 : decode cX8_readLawn 110 = .ok (.goto 4, 3) := by decide +kernel
theorem dX8_readLawn_113 : decode cX8_readLawn 113 = .ok (.iconst 0, 1) := by decide +kernel
theorem dX8_readLawn_114 : decode cX8_readLawn 114 = .ok (.iadd, 1) := by decide +kernel
theorem dX8_readLawn_115 : decode cX8_readLawn 115 = .ok (.istore_n 1, 1) := by decide +kernel
theorem dX8_readLawn_116 : decode cX8_readLawn 116 = .ok (.goto (-112), 3) := by decide +kernel
theorem dX8_readLawn_119 : decode cX8_readLawn 119 = .ok (.aload_n 0, 1) := by decide +kernel
theorem dX8_readLawn_120 : decode cX8_readLawn 120 = .ok (.iload_n 1, 1) := by decide +kernel
theorem dX8_readLawn_121 : decode cX8_readLawn 121 = .ok (.putfield 73, 3) := by decide +kernel
theorem dX8_readLawn_124 : decode cX8_readLawn 124 = .ok (.return_, 1) := by decide +kernel
theorem dX8_fault_0 : decode cX8_fault 0 = .ok (.aload_n 0, 1) := by decide +kernel
theorem dX8_fault_1 : decode cX8_fault 1 = .ok (.invokevirtual 76, 3) := by decide +kernel
theorem dX8_fault_4 : decode cX8_fault 4 = .ok (.aload_n 0, 1) := by decide +kernel
theorem dX8_fault_5 : decode cX8_fault 5 = .ok (.getfield 73, 3) := by decide +kernel
theorem dX8_fault_8 : decode cX8_fault 8 = .ok (.ireturn, 1) := by decide +kernel
theorem dX8_lawn_0 : decode cX8_lawn 0 = .ok (.aload_n 0, 1) := by decide +kernel
theorem dX8_lawn_1 : decode cX8_lawn 1 = .ok (.invokevirtual 76, 3) := by decide +kernel
theorem dX8_lawn_4 : decode cX8_lawn 4 = .ok (.aload_n 0, 1) := by decide +kernel
theorem dX8_lawn_5 : decode cX8_lawn 5 = .ok (.getfield 73, 3) := by decide +kernel
theorem dX8_lawn_8 : decode cX8_lawn 8 = .ok (.aload_n 0, 1) := by decide +kernel
theorem dX8_lawn_9 : decode cX8_lawn 9 = .ok (.getfield 70, 3) := by decide +kernel
theorem dX8_lawn_12 : decode cX8_lawn 12 = .ok (.if_icmp .ne 12, 3) := by decide +kernel
theorem dX8_lawn_15 : decode cX8_lawn 15 = .ok (.aload_n 0, 1) := by decide +kernel
theorem dX8_lawn_16 : decode cX8_lawn 16 = .ok (.getfield 70, 3) := by decide +kernel
theorem dX8_lawn_19 : decode cX8_lawn 19 = .ok (.bipush 25, 2) := by decide +kernel
theorem dX8_lawn_21 : decode cX8_lawn 21 = .ok (.if_icmp .eq 6, 3) := by decide +kernel
theorem dX8_lawn_24 : decode cX8_lawn 24 = .ok (.bipush (-103), 2) := by decide +kernel
theorem dX8_lawn_26 : decode cX8_lawn 26 = .ok (.ireturn, 1) := by decide +kernel
theorem dX8_lawn_27 : decode cX8_lawn 27 = .ok (.iconst 0, 1) := by decide +kernel
theorem dX8_lawn_28 : decode cX8_lawn 28 = .ok (.istore_n 1, 1) := by decide +kernel
theorem dX8_lawn_29 : decode cX8_lawn 29 = .ok (.iload_n 1, 1) := by decide +kernel
theorem dX8_lawn_30 : decode cX8_lawn 30 = .ok (.bipush 20, 2) := by decide +kernel
theorem dX8_lawn_32 : decode cX8_lawn 32 = .ok (.if_icmp .ge 33, 3) := by decide +kernel
theorem dX8_lawn_35 : decode cX8_lawn 35 = .ok (.aload_n 0, 1) := by decide +kernel
theorem dX8_lawn_36 : decode cX8_lawn 36 = .ok (.getfield 7, 3) := by decide +kernel
theorem dX8_lawn_39 : decode cX8_lawn 39 = .ok (.iload_n 1, 1) := by decide +kernel
theorem dX8_lawn_40 : decode cX8_lawn 40 = .ok (.aload_n 0, 1) := by decide +kernel
theorem dX8_lawn_41 : decode cX8_lawn 41 = .ok (.getfield 32, 3) := by decide +kernel
theorem dX8_lawn_44 : decode cX8_lawn 44 = .ok (.iload_n 1, 1) := by decide +kernel
theorem dX8_lawn_45 : decode cX8_lawn 45 = .ok (.iconst 5, 1) := by decide +kernel
theorem dX8_lawn_46 : decode cX8_lawn 46 = .ok (.idiv, 1) := by decide +kernel
theorem dX8_lawn_47 : decode cX8_lawn 47 = .ok (.bipush 6, 2) := by decide +kernel
theorem dX8_lawn_49 : decode cX8_lawn 49 = .ok (.imul, 1) := by decide +kernel
theorem dX8_lawn_50 : decode cX8_lawn 50 = .ok (.iload_n 1, 1) := by decide +kernel
theorem dX8_lawn_51 : decode cX8_lawn 51 = .ok (.iconst 5, 1) := by decide +kernel
theorem dX8_lawn_52 : decode cX8_lawn 52 = .ok (.irem, 1) := by decide +kernel
theorem dX8_lawn_53 : decode cX8_lawn 53 = .ok (.iadd, 1) := by decide +kernel
theorem dX8_lawn_54 : decode cX8_lawn 54 = .ok (.baload, 1) := by decide +kernel
theorem dX8_lawn_55 : decode cX8_lawn 55 = .ok (.bipush 48, 2) := by decide +kernel
theorem dX8_lawn_57 : decode cX8_lawn 57 = .ok (.isub, 1) := by decide +kernel
theorem dX8_lawn_58 : decode cX8_lawn 58 = .ok (.iastore, 1) := by decide +kernel
theorem dX8_lawn_59 : decode cX8_lawn 59 = .ok (.iinc 1 1, 3) := by decide +kernel
theorem dX8_lawn_62 : decode cX8_lawn 62 = .ok (.goto (-33), 3) := by decide +kernel
theorem dX8_lawn_65 : decode cX8_lawn 65 = .ok (.aload_n 0, 1) := by decide +kernel
theorem dX8_lawn_66 : decode cX8_lawn 66 = .ok (.aload_n 0, 1) := by decide +kernel
theorem dX8_lawn_67 : decode cX8_lawn 67 = .ok (.getfield 32, 3) := by decide +kernel
theorem dX8_lawn_70 : decode cX8_lawn 70 = .ok (.bipush 24, 2) := by decide +kernel
theorem dX8_lawn_72 : decode cX8_lawn 72 = .ok (.baload, 1) := by decide +kernel
theorem dX8_lawn_73 : decode cX8_lawn 73 = .ok (.bipush 48, 2) := by decide +kernel
theorem dX8_lawn_75 : decode cX8_lawn 75 = .ok (.isub, 1) := by decide +kernel
theorem dX8_lawn_76 : decode cX8_lawn 76 = .ok (.putfield 79, 3) := by decide +kernel
theorem dX8_lawn_79 : decode cX8_lawn 79 = .ok (.aload_n 0, 1) := by decide +kernel
theorem dX8_lawn_80 : decode cX8_lawn 80 = .ok (.iconst 1, 1) := by decide +kernel
theorem dX8_lawn_81 : decode cX8_lawn 81 = .ok (.putfield 82, 3) := by decide +kernel
theorem dX8_lawn_84 : decode cX8_lawn 84 = .ok (.aload_n 0, 1) := by decide +kernel
theorem dX8_lawn_85 : decode cX8_lawn 85 = .ok (.dup, 1) := by decide +kernel
theorem dX8_lawn_86 : decode cX8_lawn 86 = .ok (.getfield 86, 3) := by decide +kernel
theorem dX8_lawn_89 : decode cX8_lawn 89 = .ok (.iconst 1, 1) := by decide +kernel
theorem dX8_lawn_90 : decode cX8_lawn 90 = .ok (.iadd, 1) := by decide +kernel
theorem dX8_lawn_91 : decode cX8_lawn 91 = .ok (.putfield 86, 3) := by decide +kernel
theorem dX8_lawn_94 : decode cX8_lawn 94 = .ok (.aload_n 0, 1) := by decide +kernel
theorem dX8_lawn_95 : decode cX8_lawn 95 = .ok (.bipush 20, 2) := by decide +kernel
theorem dX8_lawn_97 : decode cX8_lawn 97 = .ok (.putfield 13, 3) := by decide +kernel
theorem dX8_lawn_100 : decode cX8_lawn 100 = .ok (.aload_n 0, 1) := by decide +kernel
theorem dX8_lawn_101 : decode cX8_lawn 101 = .ok (.iconst 0, 1) := by decide +kernel
theorem dX8_lawn_102 : decode cX8_lawn 102 = .ok (.putfield 89, 3) := by decide +kernel
theorem dX8_lawn_105 : decode cX8_lawn 105 = .ok (.aload_n 0, 1) := by decide +kernel
theorem dX8_lawn_106 : decode cX8_lawn 106 = .ok (.iconst 0, 1) := by decide +kernel
theorem dX8_lawn_107 : decode cX8_lawn 107 = .ok (.putfield 92, 3) := by decide +kernel
theorem dX8_lawn_110 : decode cX8_lawn 110 = .ok (.aload_n 0, 1) := by decide +kernel
theorem dX8_lawn_111 : decode cX8_lawn 111 = .ok (.iconst 0, 1) := by decide +kernel
theorem dX8_lawn_112 : decode cX8_lawn 112 = .ok (.putfield 70, 3) := by decide +kernel
theorem dX8_lawn_115 : decode cX8_lawn 115 = .ok (.aload_n 0, 1) := by decide +kernel
theorem dX8_lawn_116 : decode cX8_lawn 116 = .ok (.invokevirtual 95, 3) := by decide +kernel
theorem dX8_lawn_119 : decode cX8_lawn 119 = .ok (.ireturn, 1) := by decide +kernel
theorem dX8_depthAll_0 : decode cX8_depthAll 0 = .ok (.iconst 0, 1) := by decide +kernel
theorem dX8_depthAll_1 : decode cX8_depthAll 1 = .ok (.istore_n 1, 1) := by decide +kernel
theorem dX8_depthAll_2 : decode cX8_depthAll 2 = .ok (.iconst 0, 1) := by decide +kernel
theorem dX8_depthAll_3 : decode cX8_depthAll 3 = .ok (.istore_n 2, 1) := by decide +kernel
theorem dX8_depthAll_4 : decode cX8_depthAll 4 = .ok (.iload_n 2, 1) := by decide +kernel
theorem dX8_depthAll_5 : decode cX8_depthAll 5 = .ok (.bipush 20, 2) := by decide +kernel
theorem dX8_depthAll_7 : decode cX8_depthAll 7 = .ok (.if_icmp .ge 29, 3) := by decide +kernel
theorem dX8_depthAll_10 : decode cX8_depthAll 10 = .ok (.iload_n 1, 1) := by decide +kernel
theorem dX8_depthAll_11 : decode cX8_depthAll 11 = .ok (.aload_n 0, 1) := by decide +kernel
theorem dX8_depthAll_12 : decode cX8_depthAll 12 = .ok (.getfield 82, 3) := by decide +kernel
theorem dX8_depthAll_15 : decode cX8_depthAll 15 = .ok (.ifCond .eq 12, 3) := by decide +kernel
theorem dX8_depthAll_18 : decode cX8_depthAll 18 = .ok (.aload_n 0, 1) := by decide +kernel
theorem dX8_depthAll_19 : decode cX8_depthAll 19 = .ok (.getfield 7, 3) := by decide +kernel
theorem dX8_depthAll_22 : decode cX8_depthAll 22 = .ok (.iload_n 2, 1) := by decide +kernel
theorem dX8_depthAll_23 : decode cX8_depthAll 23 = .ok (.iaload, 1) := by decide +kernel
theorem dX8_depthAll_24 : decode cX8_depthAll 24 = .ok (.goto 4, 3) := by decide +kernel
theorem dX8_depthAll_27 : decode cX8_depthAll 27 = .ok (.iconst 0, 1) := by decide +kernel
theorem dX8_depthAll_28 : decode cX8_depthAll 28 = .ok (.iadd, 1) := by decide +kernel
theorem dX8_depthAll_29 : decode cX8_depthAll 29 = .ok (.istore_n 1, 1) := by decide +kernel
theorem dX8_depthAll_30 : decode cX8_depthAll 30 = .ok (.iinc 2 1, 3) := by decide +kernel
theorem dX8_depthAll_33 : decode cX8_depthAll 33 = .ok (.goto (-29), 3) := by decide +kernel
theorem dX8_depthAll_36 : decode cX8_depthAll 36 = .ok (.iload_n 1, 1) := by decide +kernel
theorem dX8_depthAll_37 : decode cX8_depthAll 37 = .ok (.ireturn, 1) := by decide +kernel
theorem dX8_isPlace_0 : decode cX8_isPlace 0 = .ok (.iload_n 0, 1) := by decide +kernel
theorem dX8_isPlace_1 : decode cX8_isPlace 1 = .ok (.iconst 0, 1) := by decide +kernel
theorem dX8_isPlace_2 : decode cX8_isPlace 2 = .ok (.bipush 19, 2) := by decide +kernel
theorem dX8_isPlace_4 : decode cX8_isPlace 4 = .ok (.invokestatic 66, 3) := by decide +kernel
theorem dX8_isPlace_7 : decode cX8_isPlace 7 = .ok (.ireturn, 1) := by decide +kernel
theorem dX8_standsOn_0 : decode cX8_standsOn 0 = .ok (.iconst (-1), 1) := by decide +kernel
theorem dX8_standsOn_1 : decode cX8_standsOn 1 = .ok (.istore_n 2, 1) := by decide +kernel
theorem dX8_standsOn_2 : decode cX8_standsOn 2 = .ok (.iconst 0, 1) := by decide +kernel
theorem dX8_standsOn_3 : decode cX8_standsOn 3 = .ok (.istore_n 3, 1) := by decide +kernel
theorem dX8_standsOn_4 : decode cX8_standsOn 4 = .ok (.iload_n 3, 1) := by decide +kernel
theorem dX8_standsOn_5 : decode cX8_standsOn 5 = .ok (.aload_n 0, 1) := by decide +kernel
theorem dX8_standsOn_6 : decode cX8_standsOn 6 = .ok (.getfield 92, 3) := by decide +kernel
theorem dX8_standsOn_9 : decode cX8_standsOn 9 = .ok (.if_icmp .ge 35, 3) := by decide +kernel
theorem dX8_standsOn_12 : decode cX8_standsOn 12 = .ok (.aload_n 0, 1) := by decide +kernel
theorem dX8_standsOn_13 : decode cX8_standsOn 13 = .ok (.getfield 23, 3) := by decide +kernel
theorem dX8_standsOn_16 : decode cX8_standsOn 16 = .ok (.iload_n 3, 1) := by decide +kernel
theorem dX8_standsOn_17 : decode cX8_standsOn 17 = .ok (.iaload, 1) := by decide +kernel
theorem dX8_standsOn_18 : decode cX8_standsOn 18 = .ok (.iload_n 1, 1) := by decide +kernel
theorem dX8_standsOn_19 : decode cX8_standsOn 19 = .ok (.if_icmp .ne 17, 3) := by decide +kernel
theorem dX8_standsOn_22 : decode cX8_standsOn 22 = .ok (.aload_n 0, 1) := by decide +kernel
theorem dX8_standsOn_23 : decode cX8_standsOn 23 = .ok (.getfield 26, 3) := by decide +kernel
theorem dX8_standsOn_26 : decode cX8_standsOn 26 = .ok (.iload_n 3, 1) := by decide +kernel
theorem dX8_standsOn_27 : decode cX8_standsOn 27 = .ok (.iaload, 1) := by decide +kernel
theorem dX8_standsOn_28 : decode cX8_standsOn 28 = .ok (.iconst (-1), 1) := by decide +kernel
theorem dX8_standsOn_29 : decode cX8_standsOn 29 = .ok (.if_icmp .ne 7, 3) := by decide +kernel
theorem dX8_standsOn_32 : decode cX8_standsOn 32 = .ok (.iload_n 3, 1) := by decide +kernel
theorem dX8_standsOn_33 : decode cX8_standsOn 33 = .ok (.goto 4, 3) := by decide +kernel
theorem dX8_standsOn_36 : decode cX8_standsOn 36 = .ok (.iload_n 2, 1) := by decide +kernel
theorem dX8_standsOn_37 : decode cX8_standsOn 37 = .ok (.istore_n 2, 1) := by decide +kernel
theorem dX8_standsOn_38 : decode cX8_standsOn 38 = .ok (.iinc 3 1, 3) := by decide +kernel
theorem dX8_standsOn_41 : decode cX8_standsOn 41 = .ok (.goto (-37), 3) := by decide +kernel
theorem dX8_standsOn_44 : decode cX8_standsOn 44 = .ok (.iload_n 2, 1) := by decide +kernel
theorem dX8_standsOn_45 : decode cX8_standsOn 45 = .ok (.ireturn, 1) := by decide +kernel
theorem dX8_root_0 : decode cX8_root 0 = .ok (.iconst 0, 1) := by decide +kernel
theorem dX8_root_1 : decode cX8_root 1 = .ok (.istore_n 1, 1) := by decide +kernel
theorem dX8_root_2 : decode cX8_root 2 = .ok (.iload_n 1, 1) := by decide +kernel
theorem dX8_root_3 : decode cX8_root 3 = .ok (.iconst 1, 1) := by decide +kernel
theorem dX8_root_4 : decode cX8_root 4 = .ok (.iadd, 1) := by decide +kernel
theorem dX8_root_5 : decode cX8_root 5 = .ok (.iload_n 1, 1) := by decide +kernel
theorem dX8_root_6 : decode cX8_root 6 = .ok (.iconst 1, 1) := by decide +kernel
theorem dX8_root_7 : decode cX8_root 7 = .ok (.iadd, 1) := by decide +kernel
theorem dX8_root_8 : decode cX8_root 8 = .ok (.imul, 1) := by decide +kernel
theorem dX8_root_9 : decode cX8_root 9 = .ok (.iload_n 0, 1) := by decide +kernel
theorem dX8_root_10 : decode cX8_root 10 = .ok (.if_icmp .gt 9, 3) := by decide +kernel
theorem dX8_root_13 : decode cX8_root 13 = .ok (.iinc 1 1, 3) := by decide +kernel
theorem dX8_root_16 : decode cX8_root 16 = .ok (.goto (-14), 3) := by decide +kernel
theorem dX8_root_19 : decode cX8_root 19 = .ok (.iload_n 1, 1) := by decide +kernel
theorem dX8_root_20 : decode cX8_root 20 = .ok (.ireturn, 1) := by decide +kernel
theorem dX8_heightOf_0 : decode cX8_heightOf 0 = .ok (.iconst 0, 1) := by decide +kernel
theorem dX8_heightOf_1 : decode cX8_heightOf 1 = .ok (.istore_n 2, 1) := by decide +kernel
theorem dX8_heightOf_2 : decode cX8_heightOf 2 = .ok (.iconst 0, 1) := by decide +kernel
theorem dX8_heightOf_3 : decode cX8_heightOf 3 = .ok (.istore_n 3, 1) := by decide +kernel
theorem dX8_heightOf_4 : decode cX8_heightOf 4 = .ok (.iload_n 3, 1) := by decide +kernel
theorem dX8_heightOf_5 : decode cX8_heightOf 5 = .ok (.aload_n 0, 1) := by decide +kernel
theorem dX8_heightOf_6 : decode cX8_heightOf 6 = .ok (.getfield 92, 3) := by decide +kernel
theorem dX8_heightOf_9 : decode cX8_heightOf 9 = .ok (.if_icmp .ge 35, 3) := by decide +kernel
theorem dX8_heightOf_12 : decode cX8_heightOf 12 = .ok (.iload_n 2, 1) := by decide +kernel
theorem dX8_heightOf_13 : decode cX8_heightOf 13 = .ok (.aload_n 0, 1) := by decide +kernel
theorem dX8_heightOf_14 : decode cX8_heightOf 14 = .ok (.getfield 23, 3) := by decide +kernel
theorem dX8_heightOf_17 : decode cX8_heightOf 17 = .ok (.iload_n 3, 1) := by decide +kernel
theorem dX8_heightOf_18 : decode cX8_heightOf 18 = .ok (.iaload, 1) := by decide +kernel
theorem dX8_heightOf_19 : decode cX8_heightOf 19 = .ok (.iload_n 1, 1) := by decide +kernel
theorem dX8_heightOf_20 : decode cX8_heightOf 20 = .ok (.if_icmp .ne 15, 3) := by decide +kernel
theorem dX8_heightOf_23 : decode cX8_heightOf 23 = .ok (.aload_n 0, 1) := by decide +kernel
theorem dX8_heightOf_24 : decode cX8_heightOf 24 = .ok (.getfield 20, 3) := by decide +kernel
theorem dX8_heightOf_27 : decode cX8_heightOf 27 = .ok (.iload_n 3, 1) := by decide +kernel
theorem dX8_heightOf_28 : decode cX8_heightOf 28 = .ok (.iaload, 1) := by decide +kernel
theorem dX8_heightOf_29 : decode cX8_heightOf 29 = .ok (.invokestatic 99, 3) := by decide +kernel
theorem dX8_heightOf_32 : decode cX8_heightOf 32 = .ok (.goto 4, 3) := by decide +kernel
theorem dX8_heightOf_35 : decode cX8_heightOf 35 = .ok (.iconst 0, 1) := by decide +kernel
theorem dX8_heightOf_36 : decode cX8_heightOf 36 = .ok (.iadd, 1) := by decide +kernel
theorem dX8_heightOf_37 : decode cX8_heightOf 37 = .ok (.istore_n 2, 1) := by decide +kernel
theorem dX8_heightOf_38 : decode cX8_heightOf 38 = .ok (.iinc 3 1, 3) := by decide +kernel
theorem dX8_heightOf_41 : decode cX8_heightOf 41 = .ok (.goto (-37), 3) := by decide +kernel
theorem dX8_heightOf_44 : decode cX8_heightOf 44 = .ok (.iload_n 2, 1) := by decide +kernel
theorem dX8_heightOf_45 : decode cX8_heightOf 45 = .ok (.ireturn, 1) := by decide +kernel
theorem dX8_place_0 : decode cX8_place 0 = .ok (.iload_n 1, 1) := by decide +kernel
theorem dX8_place_1 : decode cX8_place 1 = .ok (.invokestatic 103, 3) := by decide +kernel
theorem dX8_place_4 : decode cX8_place 4 = .ok (.ifCond .ne 6, 3) := by decide +kernel
theorem dX8_place_7 : decode cX8_place 7 = .ok (.bipush (-101), 2) := by decide +kernel
theorem dX8_place_9 : decode cX8_place 9 = .ok (.ireturn, 1) := by decide +kernel
theorem dX8_place_10 : decode cX8_place 10 = .ok (.iload_n 2, 1) := by decide +kernel
theorem dX8_place_11 : decode cX8_place 11 = .ok (.iconst 0, 1) := by decide +kernel
theorem dX8_place_12 : decode cX8_place 12 = .ok (.iconst 2, 1) := by decide +kernel
theorem dX8_place_13 : decode cX8_place 13 = .ok (.invokestatic 66, 3) := by decide +kernel
theorem dX8_place_16 : decode cX8_place 16 = .ok (.ifCond .ne 6, 3) := by decide +kernel
theorem dX8_place_19 : decode cX8_place 19 = .ok (.bipush (-102), 2) := by decide +kernel
theorem dX8_place_21 : decode cX8_place 21 = .ok (.ireturn, 1) := by decide +kernel
theorem dX8_place_22 : decode cX8_place 22 = .ok (.aload_n 0, 1) := by decide +kernel
theorem dX8_place_23 : decode cX8_place 23 = .ok (.getfield 82, 3) := by decide +kernel
theorem dX8_place_26 : decode cX8_place 26 = .ok (.ifCond .ne 6, 3) := by decide +kernel
theorem dX8_place_29 : decode cX8_place 29 = .ok (.bipush (-103), 2) := by decide +kernel
theorem dX8_place_31 : decode cX8_place 31 = .ok (.ireturn, 1) := by decide +kernel
theorem dX8_place_32 : decode cX8_place 32 = .ok (.iload_n 2, 1) := by decide +kernel
theorem dX8_place_33 : decode cX8_place 33 = .ok (.ifCond .ne 12, 3) := by decide +kernel
theorem dX8_place_36 : decode cX8_place 36 = .ok (.aload_n 0, 1) := by decide +kernel
theorem dX8_place_37 : decode cX8_place 37 = .ok (.getfield 7, 3) := by decide +kernel
theorem dX8_place_40 : decode cX8_place 40 = .ok (.iload_n 1, 1) := by decide +kernel
theorem dX8_place_41 : decode cX8_place 41 = .ok (.iaload, 1) := by decide +kernel
theorem dX8_place_42 : decode cX8_place 42 = .ok (.goto 21, 3) := by decide +kernel
theorem dX8_place_45 : decode cX8_place 45 = .ok (.iload_n 2, 1) := by decide +kernel
theorem dX8_place_46 : decode cX8_place 46 = .ok (.iconst 1, 1) := by decide +kernel
theorem dX8_place_47 : decode cX8_place 47 = .ok (.if_icmp .ne 11, 3) := by decide +kernel
theorem dX8_place_50 : decode cX8_place 50 = .ok (.aload_n 0, 1) := by decide +kernel
theorem dX8_place_51 : decode cX8_place 51 = .ok (.iload_n 1, 1) := by decide +kernel
theorem dX8_place_52 : decode cX8_place 52 = .ok (.invokevirtual 107, 3) := by decide +kernel
theorem dX8_place_55 : decode cX8_place 55 = .ok (.goto 8, 3) := by decide +kernel
theorem dX8_place_58 : decode cX8_place 58 = .ok (.aload_n 0, 1) := by decide +kernel
theorem dX8_place_59 : decode cX8_place 59 = .ok (.iload_n 1, 1) := by decide +kernel
theorem dX8_place_60 : decode cX8_place 60 = .ok (.invokevirtual 110, 3) := by decide +kernel
theorem dX8_place_63 : decode cX8_place 63 = .ok (.ireturn, 1) := by decide +kernel
theorem dX8_strength_0 : decode cX8_strength 0 = .ok (.iload_n 1, 1) := by decide +kernel
theorem dX8_strength_1 : decode cX8_strength 1 = .ok (.iconst 1, 1) := by decide +kernel
theorem dX8_strength_2 : decode cX8_strength 2 = .ok (.bipush 99, 2) := by decide +kernel
theorem dX8_strength_4 : decode cX8_strength 4 = .ok (.invokestatic 66, 3) := by decide +kernel
theorem dX8_strength_7 : decode cX8_strength 7 = .ok (.ifCond .ne 6, 3) := by decide +kernel
theorem dX8_strength_10 : decode cX8_strength 10 = .ok (.bipush (-102), 2) := by decide +kernel
theorem dX8_strength_12 : decode cX8_strength 12 = .ok (.ireturn, 1) := by decide +kernel
theorem dX8_strength_13 : decode cX8_strength 13 = .ok (.aload_n 0, 1) := by decide +kernel
theorem dX8_strength_14 : decode cX8_strength 14 = .ok (.getfield 82, 3) := by decide +kernel
theorem dX8_strength_17 : decode cX8_strength 17 = .ok (.ifCond .ne 6, 3) := by decide +kernel
theorem dX8_strength_20 : decode cX8_strength 20 = .ok (.bipush (-103), 2) := by decide +kernel
theorem dX8_strength_22 : decode cX8_strength 22 = .ok (.ireturn, 1) := by decide +kernel
theorem dX8_strength_23 : decode cX8_strength 23 = .ok (.aload_n 0, 1) := by decide +kernel
theorem dX8_strength_24 : decode cX8_strength 24 = .ok (.getfield 13, 3) := by decide +kernel
theorem dX8_strength_27 : decode cX8_strength 27 = .ok (.istore_n 2, 1) := by decide +kernel
theorem dX8_strength_28 : decode cX8_strength 28 = .ok (.aload_n 0, 1) := by decide +kernel
theorem dX8_strength_29 : decode cX8_strength 29 = .ok (.iload_n 1, 1) := by decide +kernel
theorem dX8_strength_30 : decode cX8_strength 30 = .ok (.putfield 13, 3) := by decide +kernel
theorem dX8_strength_33 : decode cX8_strength 33 = .ok (.iload_n 2, 1) := by decide +kernel
theorem dX8_strength_34 : decode cX8_strength 34 = .ok (.ireturn, 1) := by decide +kernel
theorem dX8_isBall_0 : decode cX8_isBall 0 = .ok (.iload_n 1, 1) := by decide +kernel
theorem dX8_isBall_1 : decode cX8_isBall 1 = .ok (.iconst 0, 1) := by decide +kernel
theorem dX8_isBall_2 : decode cX8_isBall 2 = .ok (.aload_n 0, 1) := by decide +kernel
theorem dX8_isBall_3 : decode cX8_isBall 3 = .ok (.getfield 92, 3) := by decide +kernel
theorem dX8_isBall_6 : decode cX8_isBall 6 = .ok (.iconst 1, 1) := by decide +kernel
theorem dX8_isBall_7 : decode cX8_isBall 7 = .ok (.isub, 1) := by decide +kernel
theorem dX8_isBall_8 : decode cX8_isBall 8 = .ok (.invokestatic 66, 3) := by decide +kernel
theorem dX8_isBall_11 : decode cX8_isBall 11 = .ok (.ireturn, 1) := by decide +kernel
theorem dX8_ball_0 : decode cX8_ball 0 = .ok (.iload_n 2, 1) := by decide +kernel
theorem dX8_ball_1 : decode cX8_ball 1 = .ok (.invokestatic 103, 3) := by decide +kernel
theorem dX8_ball_4 : decode cX8_ball 4 = .ok (.ifCond .ne 6, 3) := by decide +kernel
theorem dX8_ball_7 : decode cX8_ball 7 = .ok (.bipush (-101), 2) := by decide +kernel
theorem dX8_ball_9 : decode cX8_ball 9 = .ok (.ireturn, 1) := by decide +kernel
theorem dX8_ball_10 : decode cX8_ball 10 = .ok (.iload_n 1, 1) := by decide +kernel
theorem dX8_ball_11 : decode cX8_ball 11 = .ok (.iconst 0, 1) := by decide +kernel
theorem dX8_ball_12 : decode cX8_ball 12 = .ok (.iconst 4, 1) := by decide +kernel
theorem dX8_ball_13 : decode cX8_ball 13 = .ok (.invokestatic 66, 3) := by decide +kernel
theorem dX8_ball_16 : decode cX8_ball 16 = .ok (.ifCond .ne 6, 3) := by decide +kernel
theorem dX8_ball_19 : decode cX8_ball 19 = .ok (.bipush (-102), 2) := by decide +kernel
theorem dX8_ball_21 : decode cX8_ball 21 = .ok (.ireturn, 1) := by decide +kernel
theorem dX8_ball_22 : decode cX8_ball 22 = .ok (.aload_n 0, 1) := by decide +kernel
theorem dX8_ball_23 : decode cX8_ball 23 = .ok (.getfield 82, 3) := by decide +kernel
theorem dX8_ball_26 : decode cX8_ball 26 = .ok (.ifCond .eq 12, 3) := by decide +kernel
theorem dX8_ball_29 : decode cX8_ball 29 = .ok (.aload_n 0, 1) := by decide +kernel
theorem dX8_ball_30 : decode cX8_ball 30 = .ok (.iload_n 2, 1) := by decide +kernel
theorem dX8_ball_31 : decode cX8_ball 31 = .ok (.invokevirtual 107, 3) := by decide +kernel
theorem dX8_ball_34 : decode cX8_ball 34 = .ok (.iconst (-1), 1) := by decide +kernel
theorem dX8_ball_35 : decode cX8_ball 35 = .ok (.if_icmp .eq 6, 3) := by decide +kernel
theorem dX8_ball_38 : decode cX8_ball 38 = .ok (.bipush (-103), 2) := by decide +kernel
theorem dX8_ball_40 : decode cX8_ball 40 = .ok (.ireturn, 1) := by decide +kernel
theorem dX8_ball_41 : decode cX8_ball 41 = .ok (.aload_n 0, 1) := by decide +kernel
theorem dX8_ball_42 : decode cX8_ball 42 = .ok (.getfield 92, 3) := by decide +kernel
theorem dX8_ball_45 : decode cX8_ball 45 = .ok (.iconst 4, 1) := by decide +kernel
theorem dX8_ball_46 : decode cX8_ball 46 = .ok (.if_icmp .ne 6, 3) := by decide +kernel
theorem dX8_ball_49 : decode cX8_ball 49 = .ok (.bipush (-104), 2) := by decide +kernel
theorem dX8_ball_51 : decode cX8_ball 51 = .ok (.ireturn, 1) := by decide +kernel
theorem dX8_ball_52 : decode cX8_ball 52 = .ok (.aload_n 0, 1) := by decide +kernel
theorem dX8_ball_53 : decode cX8_ball 53 = .ok (.aload_n 0, 1) := by decide +kernel
theorem dX8_ball_54 : decode cX8_ball 54 = .ok (.getfield 92, 3) := by decide +kernel
theorem dX8_ball_57 : decode cX8_ball 57 = .ok (.iload_n 1, 1) := by decide +kernel
theorem dX8_ball_58 : decode cX8_ball 58 = .ok (.iload_n 2, 1) := by decide +kernel
theorem dX8_ball_59 : decode cX8_ball 59 = .ok (.invokevirtual 113, 3) := by decide +kernel
theorem dX8_ball_62 : decode cX8_ball 62 = .ok (.aload_n 0, 1) := by decide +kernel
theorem dX8_ball_63 : decode cX8_ball 63 = .ok (.dup, 1) := by decide +kernel
theorem dX8_ball_64 : decode cX8_ball 64 = .ok (.getfield 92, 3) := by decide +kernel
theorem dX8_ball_67 : decode cX8_ball 67 = .ok (.iconst 1, 1) := by decide +kernel
theorem dX8_ball_68 : decode cX8_ball 68 = .ok (.iadd, 1) := by decide +kernel
theorem dX8_ball_69 : decode cX8_ball 69 = .ok (.putfield 92, 3) := by decide +kernel
theorem dX8_ball_72 : decode cX8_ball 72 = .ok (.aload_n 0, 1) := by decide +kernel
theorem dX8_ball_73 : decode cX8_ball 73 = .ok (.getfield 92, 3) := by decide +kernel
theorem dX8_ball_76 : decode cX8_ball 76 = .ok (.iconst 1, 1) := by decide +kernel
theorem dX8_ball_77 : decode cX8_ball 77 = .ok (.isub, 1) := by decide +kernel
theorem dX8_ball_78 : decode cX8_ball 78 = .ok (.ireturn, 1) := by decide +kernel
theorem dX8_lay_0 : decode cX8_lay 0 = .ok (.aload_n 0, 1) := by decide +kernel
theorem dX8_lay_1 : decode cX8_lay 1 = .ok (.getfield 17, 3) := by decide +kernel
theorem dX8_lay_4 : decode cX8_lay 4 = .ok (.iload_n 1, 1) := by decide +kernel
theorem dX8_lay_5 : decode cX8_lay 5 = .ok (.iload_n 2, 1) := by decide +kernel
theorem dX8_lay_6 : decode cX8_lay 6 = .ok (.iastore, 1) := by decide +kernel
theorem dX8_lay_7 : decode cX8_lay 7 = .ok (.aload_n 0, 1) := by decide +kernel
theorem dX8_lay_8 : decode cX8_lay 8 = .ok (.getfield 20, 3) := by decide +kernel
theorem dX8_lay_11 : decode cX8_lay 11 = .ok (.iload_n 1, 1) := by decide +kernel
theorem dX8_lay_12 : decode cX8_lay 12 = .ok (.iconst 1, 1) := by decide +kernel
theorem dX8_lay_13 : decode cX8_lay 13 = .ok (.iastore, 1) := by decide +kernel
theorem dX8_lay_14 : decode cX8_lay 14 = .ok (.aload_n 0, 1) := by decide +kernel
theorem dX8_lay_15 : decode cX8_lay 15 = .ok (.getfield 23, 3) := by decide +kernel
theorem dX8_lay_18 : decode cX8_lay 18 = .ok (.iload_n 1, 1) := by decide +kernel
theorem dX8_lay_19 : decode cX8_lay 19 = .ok (.iload_n 3, 1) := by decide +kernel
theorem dX8_lay_20 : decode cX8_lay 20 = .ok (.iastore, 1) := by decide +kernel
theorem dX8_lay_21 : decode cX8_lay 21 = .ok (.aload_n 0, 1) := by decide +kernel
theorem dX8_lay_22 : decode cX8_lay 22 = .ok (.getfield 26, 3) := by decide +kernel
theorem dX8_lay_25 : decode cX8_lay 25 = .ok (.iload_n 1, 1) := by decide +kernel
theorem dX8_lay_26 : decode cX8_lay 26 = .ok (.iconst (-1), 1) := by decide +kernel
theorem dX8_lay_27 : decode cX8_lay 27 = .ok (.iastore, 1) := by decide +kernel
theorem dX8_lay_28 : decode cX8_lay 28 = .ok (.aload_n 0, 1) := by decide +kernel
theorem dX8_lay_29 : decode cX8_lay 29 = .ok (.getfield 29, 3) := by decide +kernel
theorem dX8_lay_32 : decode cX8_lay 32 = .ok (.iload_n 1, 1) := by decide +kernel
theorem dX8_lay_33 : decode cX8_lay 33 = .ok (.iconst (-1), 1) := by decide +kernel
theorem dX8_lay_34 : decode cX8_lay 34 = .ok (.iastore, 1) := by decide +kernel
theorem dX8_lay_35 : decode cX8_lay 35 = .ok (.return_, 1) := by decide +kernel
theorem dX8_weighs_0 : decode cX8_weighs 0 = .ok (.aload_n 0, 1) := by decide +kernel
theorem dX8_weighs_1 : decode cX8_weighs 1 = .ok (.getfield 17, 3) := by decide +kernel
theorem dX8_weighs_4 : decode cX8_weighs 4 = .ok (.iload_n 1, 1) := by decide +kernel
theorem dX8_weighs_5 : decode cX8_weighs 5 = .ok (.iaload, 1) := by decide +kernel
theorem dX8_weighs_6 : decode cX8_weighs 6 = .ok (.iconst 3, 1) := by decide +kernel
theorem dX8_weighs_7 : decode cX8_weighs 7 = .ok (.if_icmp .eq 13, 3) := by decide +kernel
theorem dX8_weighs_10 : decode cX8_weighs 10 = .ok (.aload_n 0, 1) := by decide +kernel
theorem dX8_weighs_11 : decode cX8_weighs 11 = .ok (.getfield 17, 3) := by decide +kernel
theorem dX8_weighs_14 : decode cX8_weighs 14 = .ok (.iload_n 1, 1) := by decide +kernel
theorem dX8_weighs_15 : decode cX8_weighs 15 = .ok (.iaload, 1) := by decide +kernel
theorem dX8_weighs_16 : decode cX8_weighs 16 = .ok (.iconst 4, 1) := by decide +kernel
theorem dX8_weighs_17 : decode cX8_weighs 17 = .ok (.if_icmp .ne 14, 3) := by decide +kernel
theorem dX8_weighs_20 : decode cX8_weighs 20 = .ok (.iconst 2, 1) := by decide +kernel
theorem dX8_weighs_21 : decode cX8_weighs 21 = .ok (.aload_n 0, 1) := by decide +kernel
theorem dX8_weighs_22 : decode cX8_weighs 22 = .ok (.getfield 20, 3) := by decide +kernel
theorem dX8_weighs_25 : decode cX8_weighs 25 = .ok (.iload_n 1, 1) := by decide +kernel
theorem dX8_weighs_26 : decode cX8_weighs 26 = .ok (.iaload, 1) := by decide +kernel
theorem dX8_weighs_27 : decode cX8_weighs 27 = .ok (.imul, 1) := by decide +kernel
theorem dX8_weighs_28 : decode cX8_weighs 28 = .ok (.goto 9, 3) := by decide +kernel
theorem dX8_weighs_31 : decode cX8_weighs 31 = .ok (.aload_n 0, 1) := by decide +kernel
theorem dX8_weighs_32 : decode cX8_weighs 32 = .ok (.getfield 20, 3) := by decide +kernel
theorem dX8_weighs_35 : decode cX8_weighs 35 = .ok (.iload_n 1, 1) := by decide +kernel
theorem dX8_weighs_36 : decode cX8_weighs 36 = .ok (.iaload, 1) := by decide +kernel
theorem dX8_weighs_37 : decode cX8_weighs 37 = .ok (.ireturn, 1) := by decide +kernel
theorem dX8_breadth_0 : decode cX8_breadth 0 = .ok (.iconst 1, 1) := by decide +kernel
theorem dX8_breadth_1 : decode cX8_breadth 1 = .ok (.aload_n 0, 1) := by decide +kernel
theorem dX8_breadth_2 : decode cX8_breadth 2 = .ok (.getfield 20, 3) := by decide +kernel
theorem dX8_breadth_5 : decode cX8_breadth 5 = .ok (.iload_n 1, 1) := by decide +kernel
theorem dX8_breadth_6 : decode cX8_breadth 6 = .ok (.iaload, 1) := by decide +kernel
theorem dX8_breadth_7 : decode cX8_breadth 7 = .ok (.bipush 8, 2) := by decide +kernel
theorem dX8_breadth_9 : decode cX8_breadth 9 = .ok (.idiv, 1) := by decide +kernel
theorem dX8_breadth_10 : decode cX8_breadth 10 = .ok (.iadd, 1) := by decide +kernel
theorem dX8_breadth_11 : decode cX8_breadth 11 = .ok (.aload_n 0, 1) := by decide +kernel
theorem dX8_breadth_12 : decode cX8_breadth 12 = .ok (.getfield 17, 3) := by decide +kernel
theorem dX8_breadth_15 : decode cX8_breadth 15 = .ok (.iload_n 1, 1) := by decide +kernel
theorem dX8_breadth_16 : decode cX8_breadth 16 = .ok (.iaload, 1) := by decide +kernel
theorem dX8_breadth_17 : decode cX8_breadth 17 = .ok (.iconst 1, 1) := by decide +kernel
theorem dX8_breadth_18 : decode cX8_breadth 18 = .ok (.if_icmp .ne 7, 3) := by decide +kernel
theorem dX8_breadth_21 : decode cX8_breadth 21 = .ok (.iconst 1, 1) := by decide +kernel
theorem dX8_breadth_22 : decode cX8_breadth 22 = .ok (.goto 4, 3) := by decide +kernel
theorem dX8_breadth_25 : decode cX8_breadth 25 = .ok (.iconst 0, 1) := by decide +kernel
theorem dX8_breadth_26 : decode cX8_breadth 26 = .ok (.iadd, 1) := by decide +kernel
theorem dX8_breadth_27 : decode cX8_breadth 27 = .ok (.ireturn, 1) := by decide +kernel
theorem dX8_ballNow_0 : decode cX8_ballNow 0 = .ok (.iload_n 2, 1) := by decide +kernel
theorem dX8_ballNow_1 : decode cX8_ballNow 1 = .ok (.tableswitch 79 0 5 #[39, 46, 53, 60, 67, 73], 39) := by decide +kernel
theorem dX8_ballNow_40 : decode cX8_ballNow 40 = .ok (.aload_n 0, 1) := by decide +kernel
theorem dX8_ballNow_41 : decode cX8_ballNow 41 = .ok (.getfield 17, 3) := by decide +kernel
theorem dX8_ballNow_44 : decode cX8_ballNow 44 = .ok (.iload_n 1, 1) := by decide +kernel
theorem dX8_ballNow_45 : decode cX8_ballNow 45 = .ok (.iaload, 1) := by decide +kernel
theorem dX8_ballNow_46 : decode cX8_ballNow 46 = .ok (.ireturn, 1) := by decide +kernel
theorem dX8_ballNow_47 : decode cX8_ballNow 47 = .ok (.aload_n 0, 1) := by decide +kernel
theorem dX8_ballNow_48 : decode cX8_ballNow 48 = .ok (.getfield 20, 3) := by decide +kernel
theorem dX8_ballNow_51 : decode cX8_ballNow 51 = .ok (.iload_n 1, 1) := by decide +kernel
theorem dX8_ballNow_52 : decode cX8_ballNow 52 = .ok (.iaload, 1) := by decide +kernel
theorem dX8_ballNow_53 : decode cX8_ballNow 53 = .ok (.ireturn, 1) := by decide +kernel
theorem dX8_ballNow_54 : decode cX8_ballNow 54 = .ok (.aload_n 0, 1) := by decide +kernel
theorem dX8_ballNow_55 : decode cX8_ballNow 55 = .ok (.getfield 23, 3) := by decide +kernel
theorem dX8_ballNow_58 : decode cX8_ballNow 58 = .ok (.iload_n 1, 1) := by decide +kernel
theorem dX8_ballNow_59 : decode cX8_ballNow 59 = .ok (.iaload, 1) := by decide +kernel
theorem dX8_ballNow_60 : decode cX8_ballNow 60 = .ok (.ireturn, 1) := by decide +kernel
theorem dX8_ballNow_61 : decode cX8_ballNow 61 = .ok (.aload_n 0, 1) := by decide +kernel
theorem dX8_ballNow_62 : decode cX8_ballNow 62 = .ok (.getfield 26, 3) := by decide +kernel
theorem dX8_ballNow_65 : decode cX8_ballNow 65 = .ok (.iload_n 1, 1) := by decide +kernel
theorem dX8_ballNow_66 : decode cX8_ballNow 66 = .ok (.iaload, 1) := by decide +kernel
theorem dX8_ballNow_67 : decode cX8_ballNow 67 = .ok (.ireturn, 1) := by decide +kernel
theorem dX8_ballNow_68 : decode cX8_ballNow 68 = .ok (.aload_n 0, 1) := by decide +kernel
theorem dX8_ballNow_69 : decode cX8_ballNow 69 = .ok (.iload_n 1, 1) := by decide +kernel
theorem dX8_ballNow_70 : decode cX8_ballNow 70 = .ok (.invokevirtual 117, 3) := by decide +kernel
theorem dX8_ballNow_73 : decode cX8_ballNow 73 = .ok (.ireturn, 1) := by decide +kernel
theorem dX8_ballNow_74 : decode cX8_ballNow 74 = .ok (.aload_n 0, 1) := by decide +kernel
theorem dX8_ballNow_75 : decode cX8_ballNow 75 = .ok (.iload_n 1, 1) := by decide +kernel
theorem dX8_ballNow_76 : decode cX8_ballNow 76 = .ok (.invokevirtual 120, 3) := by decide +kernel
theorem dX8_ballNow_79 : decode cX8_ballNow 79 = .ok (.ireturn, 1) := by decide +kernel
theorem dX8_ballNow_80 : decode cX8_ballNow 80 = .ok (.aload_n 0, 1) := by decide +kernel
theorem dX8_ballNow_81 : decode cX8_ballNow 81 = .ok (.getfield 29, 3) := by decide +kernel
theorem dX8_ballNow_84 : decode cX8_ballNow 84 = .ok (.iload_n 1, 1) := by decide +kernel
theorem dX8_ballNow_85 : decode cX8_ballNow 85 = .ok (.iaload, 1) := by decide +kernel
theorem dX8_ballNow_86 : decode cX8_ballNow 86 = .ok (.ireturn, 1) := by decide +kernel
theorem dX8_about_0 : decode cX8_about 0 = .ok (.aload_n 0, 1) := by decide +kernel
theorem dX8_about_1 : decode cX8_about 1 = .ok (.iload_n 1, 1) := by decide +kernel
theorem dX8_about_2 : decode cX8_about 2 = .ok (.invokevirtual 123, 3) := by decide +kernel
theorem dX8_about_5 : decode cX8_about 5 = .ok (.ifCond .ne 8, 3) := by decide +kernel
theorem dX8_about_8 : decode cX8_about 8 = .ok (.bipush (-101), 2) := by decide +kernel
theorem dX8_about_10 : decode cX8_about 10 = .ok (.goto 24, 3) := by decide +kernel
theorem dX8_about_13 : decode cX8_about 13 = .ok (.iload_n 2, 1) := by decide +kernel
theorem dX8_about_14 : decode cX8_about 14 = .ok (.iconst 0, 1) := by decide +kernel
theorem dX8_about_15 : decode cX8_about 15 = .ok (.bipush 6, 2) := by decide +kernel
theorem dX8_about_17 : decode cX8_about 17 = .ok (.invokestatic 66, 3) := by decide +kernel
theorem dX8_about_20 : decode cX8_about 20 = .ok (.ifCond .eq 12, 3) := by decide +kernel
theorem dX8_about_23 : decode cX8_about 23 = .ok (.aload_n 0, 1) := by decide +kernel
theorem dX8_about_24 : decode cX8_about 24 = .ok (.iload_n 1, 1) := by decide +kernel
theorem dX8_about_25 : decode cX8_about 25 = .ok (.iload_n 2, 1) := by decide +kernel
theorem dX8_about_26 : decode cX8_about 26 = .ok (.invokevirtual 126, 3) := by decide +kernel
theorem dX8_about_29 : decode cX8_about 29 = .ok (.goto 5, 3) := by decide +kernel
theorem dX8_about_32 : decode cX8_about 32 = .ok (.bipush (-102), 2) := by decide +kernel
theorem dX8_about_34 : decode cX8_about 34 = .ok (.ireturn, 1) := by decide +kernel
theorem dX8_as_0 : decode cX8_as 0 = .ok (.aload_n 0, 1) := by decide +kernel
theorem dX8_as_1 : decode cX8_as 1 = .ok (.iload_n 1, 1) := by decide +kernel
theorem dX8_as_2 : decode cX8_as 2 = .ok (.invokevirtual 123, 3) := by decide +kernel
theorem dX8_as_5 : decode cX8_as 5 = .ok (.ifCond .ne 6, 3) := by decide +kernel
theorem dX8_as_8 : decode cX8_as 8 = .ok (.bipush (-101), 2) := by decide +kernel
theorem dX8_as_10 : decode cX8_as 10 = .ok (.ireturn, 1) := by decide +kernel
theorem dX8_as_11 : decode cX8_as 11 = .ok (.iload_n 2, 1) := by decide +kernel
theorem dX8_as_12 : decode cX8_as 12 = .ok (.iconst 0, 1) := by decide +kernel
theorem dX8_as_13 : decode cX8_as 13 = .ok (.iconst 4, 1) := by decide +kernel
theorem dX8_as_14 : decode cX8_as 14 = .ok (.invokestatic 66, 3) := by decide +kernel
theorem dX8_as_17 : decode cX8_as 17 = .ok (.ifCond .ne 6, 3) := by decide +kernel
theorem dX8_as_20 : decode cX8_as 20 = .ok (.bipush (-102), 2) := by decide +kernel
theorem dX8_as_22 : decode cX8_as 22 = .ok (.ireturn, 1) := by decide +kernel
theorem dX8_as_23 : decode cX8_as 23 = .ok (.aload_n 0, 1) := by decide +kernel
theorem dX8_as_24 : decode cX8_as 24 = .ok (.getfield 17, 3) := by decide +kernel
theorem dX8_as_27 : decode cX8_as 27 = .ok (.iload_n 1, 1) := by decide +kernel
theorem dX8_as_28 : decode cX8_as 28 = .ok (.iaload, 1) := by decide +kernel
theorem dX8_as_29 : decode cX8_as 29 = .ok (.istore_n 3, 1) := by decide +kernel
theorem dX8_as_30 : decode cX8_as 30 = .ok (.iload_n 2, 1) := by decide +kernel
theorem dX8_as_31 : decode cX8_as 31 = .ok (.ifCond .eq 18, 3) := by decide +kernel
theorem dX8_as_34 : decode cX8_as 34 = .ok (.iload_n 3, 1) := by decide +kernel
theorem dX8_as_35 : decode cX8_as 35 = .ok (.iload_n 2, 1) := by decide +kernel
theorem dX8_as_36 : decode cX8_as 36 = .ok (.if_icmp .eq 13, 3) := by decide +kernel
theorem dX8_as_39 : decode cX8_as 39 = .ok (.iload_n 2, 1) := by decide +kernel
theorem dX8_as_40 : decode cX8_as 40 = .ok (.iconst 3, 1) := by decide +kernel
theorem dX8_as_41 : decode cX8_as 41 = .ok (.if_icmp .ne 12, 3) := by decide +kernel
theorem dX8_as_44 : decode cX8_as 44 = .ok (.iload_n 3, 1) := by decide +kernel
theorem dX8_as_45 : decode cX8_as 45 = .ok (.iconst 4, 1) := by decide +kernel
theorem dX8_as_46 : decode cX8_as 46 = .ok (.if_icmp .ne 7, 3) := by decide +kernel
theorem dX8_as_49 : decode cX8_as 49 = .ok (.iload_n 1, 1) := by decide +kernel
theorem dX8_as_50 : decode cX8_as 50 = .ok (.goto 4, 3) := by decide +kernel
theorem dX8_as_53 : decode cX8_as 53 = .ok (.iconst (-1), 1) := by decide +kernel
theorem dX8_as_54 : decode cX8_as 54 = .ok (.ireturn, 1) := by decide +kernel
theorem dX8_beside_0 : decode cX8_beside 0 = .ok (.iload_n 1, 1) := by decide +kernel
theorem dX8_beside_1 : decode cX8_beside 1 = .ok (.tableswitch 69 0 2 #[27, 40, 55], 27) := by decide +kernel
theorem dX8_beside_28 : decode cX8_beside 28 = .ok (.iload_n 0, 1) := by decide +kernel
theorem dX8_beside_29 : decode cX8_beside 29 = .ok (.iconst 5, 1) := by decide +kernel
theorem dX8_beside_30 : decode cX8_beside 30 = .ok (.if_icmp .lt 9, 3) := by decide +kernel
theorem dX8_beside_33 : decode cX8_beside 33 = .ok (.iload_n 0, 1) := by decide +kernel
theorem dX8_beside_34 : decode cX8_beside 34 = .ok (.iconst 5, 1) := by decide +kernel
theorem dX8_beside_35 : decode cX8_beside 35 = .ok (.isub, 1) := by decide +kernel
theorem dX8_beside_36 : decode cX8_beside 36 = .ok (.goto 4, 3) := by decide +kernel
theorem dX8_beside_39 : decode cX8_beside 39 = .ok (.iconst (-1), 1) := by decide +kernel
theorem dX8_beside_40 : decode cX8_beside 40 = .ok (.ireturn, 1) := by decide +kernel
theorem dX8_beside_41 : decode cX8_beside 41 = .ok (.iload_n 0, 1) := by decide +kernel
theorem dX8_beside_42 : decode cX8_beside 42 = .ok (.iconst 5, 1) := by decide +kernel
theorem dX8_beside_43 : decode cX8_beside 43 = .ok (.irem, 1) := by decide +kernel
theorem dX8_beside_44 : decode cX8_beside 44 = .ok (.iconst 4, 1) := by decide +kernel
theorem dX8_beside_45 : decode cX8_beside 45 = .ok (.if_icmp .ge 9, 3) := by decide +kernel
theorem dX8_beside_48 : decode cX8_beside 48 = .ok (.iload_n 0, 1) := by decide +kernel
theorem dX8_beside_49 : decode cX8_beside 49 = .ok (.iconst 1, 1) := by decide +kernel
theorem dX8_beside_50 : decode cX8_beside 50 = .ok (.iadd, 1) := by decide +kernel
theorem dX8_beside_51 : decode cX8_beside 51 = .ok (.goto 4, 3) := by decide +kernel
theorem dX8_beside_54 : decode cX8_beside 54 = .ok (.iconst (-1), 1) := by decide +kernel
theorem dX8_beside_55 : decode cX8_beside 55 = .ok (.ireturn, 1) := by decide +kernel
theorem dX8_beside_56 : decode cX8_beside 56 = .ok (.iload_n 0, 1) := by decide +kernel
theorem dX8_beside_57 : decode cX8_beside 57 = .ok (.bipush 15, 2) := by decide +kernel
theorem dX8_beside_59 : decode cX8_beside 59 = .ok (.if_icmp .ge 9, 3) := by decide +kernel
theorem dX8_beside_62 : decode cX8_beside 62 = .ok (.iload_n 0, 1) := by decide +kernel
theorem dX8_beside_63 : decode cX8_beside 63 = .ok (.iconst 5, 1) := by decide +kernel
theorem dX8_beside_64 : decode cX8_beside 64 = .ok (.iadd, 1) := by decide +kernel
theorem dX8_beside_65 : decode cX8_beside 65 = .ok (.goto 4, 3) := by decide +kernel
theorem dX8_beside_68 : decode cX8_beside 68 = .ok (.iconst (-1), 1) := by decide +kernel
theorem dX8_beside_69 : decode cX8_beside 69 = .ok (.ireturn, 1) := by decide +kernel
theorem dX8_beside_70 : decode cX8_beside 70 = .ok (.iload_n 0, 1) := by decide +kernel
theorem dX8_beside_71 : decode cX8_beside 71 = .ok (.iconst 5, 1) := by decide +kernel
theorem dX8_beside_72 : decode cX8_beside 72 = .ok (.irem, 1) := by decide +kernel
theorem dX8_beside_73 : decode cX8_beside 73 = .ok (.ifCond .le 9, 3) := by decide +kernel
theorem dX8_beside_76 : decode cX8_beside 76 = .ok (.iload_n 0, 1) := by decide +kernel
theorem dX8_beside_77 : decode cX8_beside 77 = .ok (.iconst 1, 1) := by decide +kernel
theorem dX8_beside_78 : decode cX8_beside 78 = .ok (.isub, 1) := by decide +kernel
theorem dX8_beside_79 : decode cX8_beside 79 = .ok (.goto 4, 3) := by decide +kernel
theorem dX8_beside_82 : decode cX8_beside 82 = .ok (.iconst (-1), 1) := by decide +kernel
theorem dX8_beside_83 : decode cX8_beside 83 = .ok (.ireturn, 1) := by decide +kernel
theorem dX8_above_0 : decode cX8_above 0 = .ok (.iconst (-1), 1) := by decide +kernel
theorem dX8_above_1 : decode cX8_above 1 = .ok (.istore_n 2, 1) := by decide +kernel
theorem dX8_above_2 : decode cX8_above 2 = .ok (.iconst 0, 1) := by decide +kernel
theorem dX8_above_3 : decode cX8_above 3 = .ok (.istore_n 3, 1) := by decide +kernel
theorem dX8_above_4 : decode cX8_above 4 = .ok (.iload_n 3, 1) := by decide +kernel
theorem dX8_above_5 : decode cX8_above 5 = .ok (.aload_n 0, 1) := by decide +kernel
theorem dX8_above_6 : decode cX8_above 6 = .ok (.getfield 92, 3) := by decide +kernel
theorem dX8_above_9 : decode cX8_above 9 = .ok (.if_icmp .ge 35, 3) := by decide +kernel
theorem dX8_above_12 : decode cX8_above 12 = .ok (.aload_n 0, 1) := by decide +kernel
theorem dX8_above_13 : decode cX8_above 13 = .ok (.getfield 26, 3) := by decide +kernel
theorem dX8_above_16 : decode cX8_above 16 = .ok (.iload_n 3, 1) := by decide +kernel
theorem dX8_above_17 : decode cX8_above 17 = .ok (.iaload, 1) := by decide +kernel
theorem dX8_above_18 : decode cX8_above 18 = .ok (.iload_n 1, 1) := by decide +kernel
theorem dX8_above_19 : decode cX8_above 19 = .ok (.if_icmp .ne 17, 3) := by decide +kernel
theorem dX8_above_22 : decode cX8_above 22 = .ok (.aload_n 0, 1) := by decide +kernel
theorem dX8_above_23 : decode cX8_above 23 = .ok (.getfield 23, 3) := by decide +kernel
theorem dX8_above_26 : decode cX8_above 26 = .ok (.iload_n 3, 1) := by decide +kernel
theorem dX8_above_27 : decode cX8_above 27 = .ok (.iaload, 1) := by decide +kernel
theorem dX8_above_28 : decode cX8_above 28 = .ok (.iconst (-1), 1) := by decide +kernel
theorem dX8_above_29 : decode cX8_above 29 = .ok (.if_icmp .eq 7, 3) := by decide +kernel
theorem dX8_above_32 : decode cX8_above 32 = .ok (.iload_n 3, 1) := by decide +kernel
theorem dX8_above_33 : decode cX8_above 33 = .ok (.goto 4, 3) := by decide +kernel
theorem dX8_above_36 : decode cX8_above 36 = .ok (.iload_n 2, 1) := by decide +kernel
theorem dX8_above_37 : decode cX8_above 37 = .ok (.istore_n 2, 1) := by decide +kernel
theorem dX8_above_38 : decode cX8_above 38 = .ok (.iinc 3 1, 3) := by decide +kernel
theorem dX8_above_41 : decode cX8_above 41 = .ok (.goto (-37), 3) := by decide +kernel
theorem dX8_above_44 : decode cX8_above 44 = .ok (.iload_n 2, 1) := by decide +kernel
theorem dX8_above_45 : decode cX8_above 45 = .ok (.ireturn, 1) := by decide +kernel
theorem dX8_isFree_0 : decode cX8_isFree 0 = .ok (.aload_n 0, 1) := by decide +kernel
theorem dX8_isFree_1 : decode cX8_isFree 1 = .ok (.getfield 23, 3) := by decide +kernel
theorem dX8_isFree_4 : decode cX8_isFree 4 = .ok (.iload_n 1, 1) := by decide +kernel
theorem dX8_isFree_5 : decode cX8_isFree 5 = .ok (.iaload, 1) := by decide +kernel
theorem dX8_isFree_6 : decode cX8_isFree 6 = .ok (.iconst (-1), 1) := by decide +kernel
theorem dX8_isFree_7 : decode cX8_isFree 7 = .ok (.if_icmp .eq 26, 3) := by decide +kernel
theorem dX8_isFree_10 : decode cX8_isFree 10 = .ok (.aload_n 0, 1) := by decide +kernel
theorem dX8_isFree_11 : decode cX8_isFree 11 = .ok (.getfield 26, 3) := by decide +kernel
theorem dX8_isFree_14 : decode cX8_isFree 14 = .ok (.iload_n 1, 1) := by decide +kernel
theorem dX8_isFree_15 : decode cX8_isFree 15 = .ok (.iaload, 1) := by decide +kernel
theorem dX8_isFree_16 : decode cX8_isFree 16 = .ok (.iconst (-1), 1) := by decide +kernel
theorem dX8_isFree_17 : decode cX8_isFree 17 = .ok (.if_icmp .ne 16, 3) := by decide +kernel
theorem dX8_isFree_20 : decode cX8_isFree 20 = .ok (.aload_n 0, 1) := by decide +kernel
theorem dX8_isFree_21 : decode cX8_isFree 21 = .ok (.iload_n 1, 1) := by decide +kernel
theorem dX8_isFree_22 : decode cX8_isFree 22 = .ok (.invokevirtual 130, 3) := by decide +kernel
theorem dX8_isFree_25 : decode cX8_isFree 25 = .ok (.iconst (-1), 1) := by decide +kernel
theorem dX8_isFree_26 : decode cX8_isFree 26 = .ok (.if_icmp .ne 7, 3) := by decide +kernel
theorem dX8_isFree_29 : decode cX8_isFree 29 = .ok (.iconst 1, 1) := by decide +kernel
theorem dX8_isFree_30 : decode cX8_isFree 30 = .ok (.goto 4, 3) := by decide +kernel
theorem dX8_isFree_33 : decode cX8_isFree 33 = .ok (.iconst 0, 1) := by decide +kernel
theorem dX8_isFree_34 : decode cX8_isFree 34 = .ok (.ireturn, 1) := by decide +kernel
theorem dX8_mayRoll_0 : decode cX8_mayRoll 0 = .ok (.aload_n 0, 1) := by decide +kernel
theorem dX8_mayRoll_1 : decode cX8_mayRoll 1 = .ok (.iload_n 1, 1) := by decide +kernel
theorem dX8_mayRoll_2 : decode cX8_mayRoll 2 = .ok (.invokevirtual 133, 3) := by decide +kernel
theorem dX8_mayRoll_5 : decode cX8_mayRoll 5 = .ok (.ifCond .eq 15, 3) := by decide +kernel
theorem dX8_mayRoll_8 : decode cX8_mayRoll 8 = .ok (.aload_n 0, 1) := by decide +kernel
theorem dX8_mayRoll_9 : decode cX8_mayRoll 9 = .ok (.iload_n 1, 1) := by decide +kernel
theorem dX8_mayRoll_10 : decode cX8_mayRoll 10 = .ok (.invokevirtual 117, 3) := by decide +kernel
theorem dX8_mayRoll_13 : decode cX8_mayRoll 13 = .ok (.aload_n 0, 1) := by decide +kernel
theorem dX8_mayRoll_14 : decode cX8_mayRoll 14 = .ok (.getfield 13, 3) := by decide +kernel
theorem dX8_mayRoll_17 : decode cX8_mayRoll 17 = .ok (.if_icmp .le 5, 3) := by decide +kernel
theorem dX8_mayRoll_20 : decode cX8_mayRoll 20 = .ok (.iconst 0, 1) := by decide +kernel
theorem dX8_mayRoll_21 : decode cX8_mayRoll 21 = .ok (.ireturn, 1) := by decide +kernel
theorem dX8_mayRoll_22 : decode cX8_mayRoll 22 = .ok (.aload_n 0, 1) := by decide +kernel
theorem dX8_mayRoll_23 : decode cX8_mayRoll 23 = .ok (.getfield 23, 3) := by decide +kernel
theorem dX8_mayRoll_26 : decode cX8_mayRoll 26 = .ok (.iload_n 1, 1) := by decide +kernel
theorem dX8_mayRoll_27 : decode cX8_mayRoll 27 = .ok (.iaload, 1) := by decide +kernel
theorem dX8_mayRoll_28 : decode cX8_mayRoll 28 = .ok (.iload_n 2, 1) := by decide +kernel
theorem dX8_mayRoll_29 : decode cX8_mayRoll 29 = .ok (.invokestatic 136, 3) := by decide +kernel
theorem dX8_mayRoll_32 : decode cX8_mayRoll 32 = .ok (.istore_n 3, 1) := by decide +kernel
theorem dX8_mayRoll_33 : decode cX8_mayRoll 33 = .ok (.aload_n 0, 1) := by decide +kernel
theorem dX8_mayRoll_34 : decode cX8_mayRoll 34 = .ok (.getfield 17, 3) := by decide +kernel
theorem dX8_mayRoll_37 : decode cX8_mayRoll 37 = .ok (.iload_n 1, 1) := by decide +kernel
theorem dX8_mayRoll_38 : decode cX8_mayRoll 38 = .ok (.iaload, 1) := by decide +kernel
theorem dX8_mayRoll_39 : decode cX8_mayRoll 39 = .ok (.iconst 1, 1) := by decide +kernel
theorem dX8_mayRoll_40 : decode cX8_mayRoll 40 = .ok (.if_icmp .ne 25, 3) := by decide +kernel
theorem dX8_mayRoll_43 : decode cX8_mayRoll 43 = .ok (.aload_n 0, 1) := by decide +kernel
theorem dX8_mayRoll_44 : decode cX8_mayRoll 44 = .ok (.getfield 29, 3) := by decide +kernel
theorem dX8_mayRoll_47 : decode cX8_mayRoll 47 = .ok (.iload_n 1, 1) := by decide +kernel
theorem dX8_mayRoll_48 : decode cX8_mayRoll 48 = .ok (.iaload, 1) := by decide +kernel
theorem dX8_mayRoll_49 : decode cX8_mayRoll 49 = .ok (.iconst (-1), 1) := by decide +kernel
theorem dX8_mayRoll_50 : decode cX8_mayRoll 50 = .ok (.if_icmp .eq 15, 3) := by decide +kernel
theorem dX8_mayRoll_53 : decode cX8_mayRoll 53 = .ok (.aload_n 0, 1) := by decide +kernel
theorem dX8_mayRoll_54 : decode cX8_mayRoll 54 = .ok (.getfield 29, 3) := by decide +kernel
theorem dX8_mayRoll_57 : decode cX8_mayRoll 57 = .ok (.iload_n 1, 1) := by decide +kernel
theorem dX8_mayRoll_58 : decode cX8_mayRoll 58 = .ok (.iaload, 1) := by decide +kernel
theorem dX8_mayRoll_59 : decode cX8_mayRoll 59 = .ok (.iload_n 2, 1) := by decide +kernel
theorem dX8_mayRoll_60 : decode cX8_mayRoll 60 = .ok (.iconst 2, 1) := by decide +kernel
theorem dX8_mayRoll_61 : decode cX8_mayRoll 61 = .ok (.irem, 1) := by decide +kernel
theorem dX8_mayRoll_62 : decode cX8_mayRoll 62 = .ok (.if_icmp .ne 7, 3) := by decide +kernel
theorem dX8_mayRoll_65 : decode cX8_mayRoll 65 = .ok (.iconst 1, 1) := by decide +kernel
theorem dX8_mayRoll_66 : decode cX8_mayRoll 66 = .ok (.goto 4, 3) := by decide +kernel
theorem dX8_mayRoll_69 : decode cX8_mayRoll 69 = .ok (.iconst 0, 1) := by decide +kernel
theorem dX8_mayRoll_70 : decode cX8_mayRoll 70 = .ok (.istore 4, 2) := by decide +kernel
theorem dX8_mayRoll_72 : decode cX8_mayRoll 72 = .ok (.iload_n 3, 1) := by decide +kernel
theorem dX8_mayRoll_73 : decode cX8_mayRoll 73 = .ok (.iconst (-1), 1) := by decide +kernel
theorem dX8_mayRoll_74 : decode cX8_mayRoll 74 = .ok (.if_icmp .eq 21, 3) := by decide +kernel
theorem dX8_mayRoll_77 : decode cX8_mayRoll 77 = .ok (.aload_n 0, 1) := by decide +kernel
theorem dX8_mayRoll_78 : decode cX8_mayRoll 78 = .ok (.iload_n 3, 1) := by decide +kernel
theorem dX8_mayRoll_79 : decode cX8_mayRoll 79 = .ok (.invokevirtual 107, 3) := by decide +kernel
theorem dX8_mayRoll_82 : decode cX8_mayRoll 82 = .ok (.iconst (-1), 1) := by decide +kernel
theorem dX8_mayRoll_83 : decode cX8_mayRoll 83 = .ok (.if_icmp .ne 12, 3) := by decide +kernel
theorem dX8_mayRoll_86 : decode cX8_mayRoll 86 = .ok (.iload 4, 2) := by decide +kernel
theorem dX8_mayRoll_88 : decode cX8_mayRoll 88 = .ok (.ifCond .eq 7, 3) := by decide +kernel
theorem dX8_mayRoll_91 : decode cX8_mayRoll 91 = .ok (.iconst 1, 1) := by decide +kernel
theorem dX8_mayRoll_92 : decode cX8_mayRoll 92 = .ok (.goto 4, 3) := by decide +kernel
theorem dX8_mayRoll_95 : decode cX8_mayRoll 95 = .ok (.iconst 0, 1) := by decide +kernel
theorem dX8_mayRoll_96 : decode cX8_mayRoll 96 = .ok (.ireturn, 1) := by decide +kernel
theorem dX8_doRoll_0 : decode cX8_doRoll 0 = .ok (.aload_n 0, 1) := by decide +kernel
theorem dX8_doRoll_1 : decode cX8_doRoll 1 = .ok (.getfield 23, 3) := by decide +kernel
theorem dX8_doRoll_4 : decode cX8_doRoll 4 = .ok (.iload_n 1, 1) := by decide +kernel
theorem dX8_doRoll_5 : decode cX8_doRoll 5 = .ok (.iaload, 1) := by decide +kernel
theorem dX8_doRoll_6 : decode cX8_doRoll 6 = .ok (.iload_n 2, 1) := by decide +kernel
theorem dX8_doRoll_7 : decode cX8_doRoll 7 = .ok (.invokestatic 136, 3) := by decide +kernel
theorem dX8_doRoll_10 : decode cX8_doRoll 10 = .ok (.istore_n 3, 1) := by decide +kernel
theorem dX8_doRoll_11 : decode cX8_doRoll 11 = .ok (.aload_n 0, 1) := by decide +kernel
theorem dX8_doRoll_12 : decode cX8_doRoll 12 = .ok (.iload_n 1, 1) := by decide +kernel
theorem dX8_doRoll_13 : decode cX8_doRoll 13 = .ok (.invokevirtual 120, 3) := by decide +kernel
theorem dX8_doRoll_16 : decode cX8_doRoll 16 = .ok (.aload_n 0, 1) := by decide +kernel
theorem dX8_doRoll_17 : decode cX8_doRoll 17 = .ok (.getfield 7, 3) := by decide +kernel
theorem dX8_doRoll_20 : decode cX8_doRoll 20 = .ok (.iload_n 3, 1) := by decide +kernel
theorem dX8_doRoll_21 : decode cX8_doRoll 21 = .ok (.iaload, 1) := by decide +kernel
theorem dX8_doRoll_22 : decode cX8_doRoll 22 = .ok (.if_icmp .ge 11, 3) := by decide +kernel
theorem dX8_doRoll_25 : decode cX8_doRoll 25 = .ok (.aload_n 0, 1) := by decide +kernel
theorem dX8_doRoll_26 : decode cX8_doRoll 26 = .ok (.iload_n 1, 1) := by decide +kernel
theorem dX8_doRoll_27 : decode cX8_doRoll 27 = .ok (.invokevirtual 120, 3) := by decide +kernel
theorem dX8_doRoll_30 : decode cX8_doRoll 30 = .ok (.goto 9, 3) := by decide +kernel
theorem dX8_doRoll_33 : decode cX8_doRoll 33 = .ok (.aload_n 0, 1) := by decide +kernel
theorem dX8_doRoll_34 : decode cX8_doRoll 34 = .ok (.getfield 7, 3) := by decide +kernel
theorem dX8_doRoll_37 : decode cX8_doRoll 37 = .ok (.iload_n 3, 1) := by decide +kernel
theorem dX8_doRoll_38 : decode cX8_doRoll 38 = .ok (.iaload, 1) := by decide +kernel
theorem dX8_doRoll_39 : decode cX8_doRoll 39 = .ok (.istore 4, 2) := by decide +kernel
theorem dX8_doRoll_41 : decode cX8_doRoll 41 = .ok (.aload_n 0, 1) := by decide +kernel
theorem dX8_doRoll_42 : decode cX8_doRoll 42 = .ok (.getfield 17, 3) := by decide +kernel
theorem dX8_doRoll_45 : decode cX8_doRoll 45 = .ok (.iload_n 1, 1) := by decide +kernel
theorem dX8_doRoll_46 : decode cX8_doRoll 46 = .ok (.iaload, 1) := by decide +kernel
theorem dX8_doRoll_47 : decode cX8_doRoll 47 = .ok (.iconst 2, 1) := by decide +kernel
theorem dX8_doRoll_48 : decode cX8_doRoll 48 = .ok (.if_icmp .eq 21, 3) := by decide +kernel
theorem dX8_doRoll_51 : decode cX8_doRoll 51 = .ok (.aload_n 0, 1) := by decide +kernel
theorem dX8_doRoll_52 : decode cX8_doRoll 52 = .ok (.getfield 17, 3) := by decide +kernel
theorem dX8_doRoll_55 : decode cX8_doRoll 55 = .ok (.iload_n 1, 1) := by decide +kernel
theorem dX8_doRoll_56 : decode cX8_doRoll 56 = .ok (.iaload, 1) := by decide +kernel
theorem dX8_doRoll_57 : decode cX8_doRoll 57 = .ok (.iconst 2, 1) := by decide +kernel
theorem dX8_doRoll_58 : decode cX8_doRoll 58 = .ok (.if_icmp .ge 15, 3) := by decide +kernel
theorem dX8_doRoll_61 : decode cX8_doRoll 61 = .ok (.aload_n 0, 1) := by decide +kernel
theorem dX8_doRoll_62 : decode cX8_doRoll 62 = .ok (.getfield 79, 3) := by decide +kernel
theorem dX8_doRoll_65 : decode cX8_doRoll 65 = .ok (.iconst 4, 1) := by decide +kernel
theorem dX8_doRoll_66 : decode cX8_doRoll 66 = .ok (.if_icmp .ge 7, 3) := by decide +kernel
theorem dX8_doRoll_69 : decode cX8_doRoll 69 = .ok (.iconst 1, 1) := by decide +kernel
theorem dX8_doRoll_70 : decode cX8_doRoll 70 = .ok (.goto 4, 3) := by decide +kernel
theorem dX8_doRoll_73 : decode cX8_doRoll 73 = .ok (.iconst 0, 1) := by decide +kernel
theorem dX8_doRoll_74 : decode cX8_doRoll 74 = .ok (.istore 5, 2) := by decide +kernel
theorem dX8_doRoll_76 : decode cX8_doRoll 76 = .ok (.iload 5, 2) := by decide +kernel
theorem dX8_doRoll_78 : decode cX8_doRoll 78 = .ok (.ifCond .eq 12, 3) := by decide +kernel
theorem dX8_doRoll_81 : decode cX8_doRoll 81 = .ok (.iload 4, 2) := by decide +kernel
theorem dX8_doRoll_83 : decode cX8_doRoll 83 = .ok (.iconst 1, 1) := by decide +kernel
theorem dX8_doRoll_84 : decode cX8_doRoll 84 = .ok (.iadd, 1) := by decide +kernel
theorem dX8_doRoll_85 : decode cX8_doRoll 85 = .ok (.iconst 2, 1) := by decide +kernel
theorem dX8_doRoll_86 : decode cX8_doRoll 86 = .ok (.idiv, 1) := by decide +kernel
theorem dX8_doRoll_87 : decode cX8_doRoll 87 = .ok (.goto 5, 3) := by decide +kernel
theorem dX8_doRoll_90 : decode cX8_doRoll 90 = .ok (.iload 4, 2) := by decide +kernel
theorem dX8_doRoll_92 : decode cX8_doRoll 92 = .ok (.istore 6, 2) := by decide +kernel
theorem dX8_doRoll_94 : decode cX8_doRoll 94 = .ok (.aload_n 0, 1) := by decide +kernel
theorem dX8_doRoll_95 : decode cX8_doRoll 95 = .ok (.getfield 7, 3) := by decide +kernel
theorem dX8_doRoll_98 : decode cX8_doRoll 98 = .ok (.iload_n 3, 1) := by decide +kernel
theorem dX8_doRoll_99 : decode cX8_doRoll 99 = .ok (.dup2, 1) := by decide +kernel
theorem dX8_doRoll_100 : decode cX8_doRoll 100 = .ok (.iaload, 1) := by decide +kernel
theorem dX8_doRoll_101 : decode cX8_doRoll 101 = .ok (.iload 6, 2) := by decide +kernel
theorem dX8_doRoll_103 : decode cX8_doRoll 103 = .ok (.isub, 1) := by decide +kernel
theorem dX8_doRoll_104 : decode cX8_doRoll 104 = .ok (.iastore, 1) := by decide +kernel
theorem dX8_doRoll_105 : decode cX8_doRoll 105 = .ok (.aload_n 0, 1) := by decide +kernel
theorem dX8_doRoll_106 : decode cX8_doRoll 106 = .ok (.getfield 20, 3) := by decide +kernel
theorem dX8_doRoll_109 : decode cX8_doRoll 109 = .ok (.iload_n 1, 1) := by decide +kernel
theorem dX8_doRoll_110 : decode cX8_doRoll 110 = .ok (.dup2, 1) := by decide +kernel
theorem dX8_doRoll_111 : decode cX8_doRoll 111 = .ok (.iaload, 1) := by decide +kernel
theorem dX8_doRoll_112 : decode cX8_doRoll 112 = .ok (.iload 6, 2) := by decide +kernel
theorem dX8_doRoll_114 : decode cX8_doRoll 114 = .ok (.iadd, 1) := by decide +kernel
theorem dX8_doRoll_115 : decode cX8_doRoll 115 = .ok (.iastore, 1) := by decide +kernel
theorem dX8_doRoll_116 : decode cX8_doRoll 116 = .ok (.aload_n 0, 1) := by decide +kernel
theorem dX8_doRoll_117 : decode cX8_doRoll 117 = .ok (.getfield 23, 3) := by decide +kernel
theorem dX8_doRoll_120 : decode cX8_doRoll 120 = .ok (.iload_n 1, 1) := by decide +kernel
theorem dX8_doRoll_121 : decode cX8_doRoll 121 = .ok (.iload_n 3, 1) := by decide +kernel
theorem dX8_doRoll_122 : decode cX8_doRoll 122 = .ok (.iastore, 1) := by decide +kernel
theorem dX8_doRoll_123 : decode cX8_doRoll 123 = .ok (.aload_n 0, 1) := by decide +kernel
theorem dX8_doRoll_124 : decode cX8_doRoll 124 = .ok (.getfield 29, 3) := by decide +kernel
theorem dX8_doRoll_127 : decode cX8_doRoll 127 = .ok (.iload_n 1, 1) := by decide +kernel
theorem dX8_doRoll_128 : decode cX8_doRoll 128 = .ok (.aload_n 0, 1) := by decide +kernel
theorem dX8_doRoll_129 : decode cX8_doRoll 129 = .ok (.getfield 17, 3) := by decide +kernel
theorem dX8_doRoll_132 : decode cX8_doRoll 132 = .ok (.iload_n 1, 1) := by decide +kernel
theorem dX8_doRoll_133 : decode cX8_doRoll 133 = .ok (.iaload, 1) := by decide +kernel
theorem dX8_doRoll_134 : decode cX8_doRoll 134 = .ok (.iconst 1, 1) := by decide +kernel
theorem dX8_doRoll_135 : decode cX8_doRoll 135 = .ok (.if_icmp .ne 9, 3) := by decide +kernel
theorem dX8_doRoll_138 : decode cX8_doRoll 138 = .ok (.iload_n 2, 1) := by decide +kernel
theorem dX8_doRoll_139 : decode cX8_doRoll 139 = .ok (.iconst 2, 1) := by decide +kernel
theorem dX8_doRoll_140 : decode cX8_doRoll 140 = .ok (.irem, 1) := by decide +kernel
theorem dX8_doRoll_141 : decode cX8_doRoll 141 = .ok (.goto 4, 3) := by decide +kernel
theorem dX8_doRoll_144 : decode cX8_doRoll 144 = .ok (.iconst (-1), 1) := by decide +kernel
theorem dX8_doRoll_145 : decode cX8_doRoll 145 = .ok (.iastore, 1) := by decide +kernel
theorem dX8_doRoll_146 : decode cX8_doRoll 146 = .ok (.aload_n 0, 1) := by decide +kernel
theorem dX8_doRoll_147 : decode cX8_doRoll 147 = .ok (.getfield 17, 3) := by decide +kernel
theorem dX8_doRoll_150 : decode cX8_doRoll 150 = .ok (.iload_n 1, 1) := by decide +kernel
theorem dX8_doRoll_151 : decode cX8_doRoll 151 = .ok (.iaload, 1) := by decide +kernel
theorem dX8_doRoll_152 : decode cX8_doRoll 152 = .ok (.iconst 2, 1) := by decide +kernel
theorem dX8_doRoll_153 : decode cX8_doRoll 153 = .ok (.if_icmp .ne 28, 3) := by decide +kernel
theorem dX8_doRoll_156 : decode cX8_doRoll 156 = .ok (.aload_n 0, 1) := by decide +kernel
theorem dX8_doRoll_157 : decode cX8_doRoll 157 = .ok (.getfield 20, 3) := by decide +kernel
theorem dX8_doRoll_160 : decode cX8_doRoll 160 = .ok (.iload_n 1, 1) := by decide +kernel
theorem dX8_doRoll_161 : decode cX8_doRoll 161 = .ok (.iaload, 1) := by decide +kernel
theorem dX8_doRoll_162 : decode cX8_doRoll 162 = .ok (.bipush 20, 2) := by decide +kernel
theorem dX8_doRoll_164 : decode cX8_doRoll 164 = .ok (.if_icmp .le 17, 3) := by decide +kernel
theorem dX8_doRoll_167 : decode cX8_doRoll 167 = .ok (.aload_n 0, 1) := by decide +kernel
theorem dX8_doRoll_168 : decode cX8_doRoll 168 = .ok (.getfield 20, 3) := by decide +kernel
theorem dX8_doRoll_171 : decode cX8_doRoll 171 = .ok (.iload_n 1, 1) := by decide +kernel
theorem dX8_doRoll_172 : decode cX8_doRoll 172 = .ok (.iconst 0, 1) := by decide +kernel
theorem dX8_doRoll_173 : decode cX8_doRoll 173 = .ok (.iastore, 1) := by decide +kernel
theorem dX8_doRoll_174 : decode cX8_doRoll 174 = .ok (.aload_n 0, 1) := by decide +kernel
theorem dX8_doRoll_175 : decode cX8_doRoll 175 = .ok (.getfield 23, 3) := by decide +kernel
theorem dX8_doRoll_178 : decode cX8_doRoll 178 = .ok (.iload_n 1, 1) := by decide +kernel
theorem dX8_doRoll_179 : decode cX8_doRoll 179 = .ok (.iconst (-1), 1) := by decide +kernel
theorem dX8_doRoll_180 : decode cX8_doRoll 180 = .ok (.iastore, 1) := by decide +kernel
theorem dX8_doRoll_181 : decode cX8_doRoll 181 = .ok (.return_, 1) := by decide +kernel
theorem dX8_may_0 : decode cX8_may 0 = .ok (.aload_n 0, 1) := by decide +kernel
theorem dX8_may_1 : decode cX8_may 1 = .ok (.iload_n 1, 1) := by decide +kernel
theorem dX8_may_2 : decode cX8_may 2 = .ok (.invokevirtual 123, 3) := by decide +kernel
theorem dX8_may_5 : decode cX8_may 5 = .ok (.ifCond .ne 6, 3) := by decide +kernel
theorem dX8_may_8 : decode cX8_may 8 = .ok (.bipush (-101), 2) := by decide +kernel
theorem dX8_may_10 : decode cX8_may 10 = .ok (.ireturn, 1) := by decide +kernel
theorem dX8_may_11 : decode cX8_may 11 = .ok (.iload_n 2, 1) := by decide +kernel
theorem dX8_may_12 : decode cX8_may 12 = .ok (.iconst 0, 1) := by decide +kernel
theorem dX8_may_13 : decode cX8_may 13 = .ok (.iconst 3, 1) := by decide +kernel
theorem dX8_may_14 : decode cX8_may 14 = .ok (.invokestatic 66, 3) := by decide +kernel
theorem dX8_may_17 : decode cX8_may 17 = .ok (.ifCond .ne 8, 3) := by decide +kernel
theorem dX8_may_20 : decode cX8_may 20 = .ok (.bipush (-102), 2) := by decide +kernel
theorem dX8_may_22 : decode cX8_may 22 = .ok (.goto 17, 3) := by decide +kernel
theorem dX8_may_25 : decode cX8_may 25 = .ok (.aload_n 0, 1) := by decide +kernel
theorem dX8_may_26 : decode cX8_may 26 = .ok (.iload_n 1, 1) := by decide +kernel
theorem dX8_may_27 : decode cX8_may 27 = .ok (.iload_n 2, 1) := by decide +kernel
theorem dX8_may_28 : decode cX8_may 28 = .ok (.invokevirtual 139, 3) := by decide +kernel
theorem dX8_may_31 : decode cX8_may 31 = .ok (.ifCond .eq 7, 3) := by decide +kernel
theorem dX8_may_34 : decode cX8_may 34 = .ok (.iconst 1, 1) := by decide +kernel
theorem dX8_may_35 : decode cX8_may 35 = .ok (.goto 4, 3) := by decide +kernel
theorem dX8_may_38 : decode cX8_may 38 = .ok (.iconst 0, 1) := by decide +kernel
theorem dX8_may_39 : decode cX8_may 39 = .ok (.ireturn, 1) := by decide +kernel
theorem dX8_roll_0 : decode cX8_roll 0 = .ok (.aload_n 0, 1) := by decide +kernel
theorem dX8_roll_1 : decode cX8_roll 1 = .ok (.iload_n 1, 1) := by decide +kernel
theorem dX8_roll_2 : decode cX8_roll 2 = .ok (.invokevirtual 123, 3) := by decide +kernel
theorem dX8_roll_5 : decode cX8_roll 5 = .ok (.ifCond .ne 6, 3) := by decide +kernel
theorem dX8_roll_8 : decode cX8_roll 8 = .ok (.bipush (-101), 2) := by decide +kernel
theorem dX8_roll_10 : decode cX8_roll 10 = .ok (.ireturn, 1) := by decide +kernel
theorem dX8_roll_11 : decode cX8_roll 11 = .ok (.iload_n 2, 1) := by decide +kernel
theorem dX8_roll_12 : decode cX8_roll 12 = .ok (.iconst 0, 1) := by decide +kernel
theorem dX8_roll_13 : decode cX8_roll 13 = .ok (.iconst 3, 1) := by decide +kernel
theorem dX8_roll_14 : decode cX8_roll 14 = .ok (.invokestatic 66, 3) := by decide +kernel
theorem dX8_roll_17 : decode cX8_roll 17 = .ok (.ifCond .ne 6, 3) := by decide +kernel
theorem dX8_roll_20 : decode cX8_roll 20 = .ok (.bipush (-102), 2) := by decide +kernel
theorem dX8_roll_22 : decode cX8_roll 22 = .ok (.ireturn, 1) := by decide +kernel
theorem dX8_roll_23 : decode cX8_roll 23 = .ok (.aload_n 0, 1) := by decide +kernel
theorem dX8_roll_24 : decode cX8_roll 24 = .ok (.iload_n 1, 1) := by decide +kernel
theorem dX8_roll_25 : decode cX8_roll 25 = .ok (.iload_n 2, 1) := by decide +kernel
theorem dX8_roll_26 : decode cX8_roll 26 = .ok (.invokevirtual 139, 3) := by decide +kernel
theorem dX8_roll_29 : decode cX8_roll 29 = .ok (.ifCond .ne 6, 3) := by decide +kernel
theorem dX8_roll_32 : decode cX8_roll 32 = .ok (.bipush (-103), 2) := by decide +kernel
theorem dX8_roll_34 : decode cX8_roll 34 = .ok (.ireturn, 1) := by decide +kernel
theorem dX8_roll_35 : decode cX8_roll 35 = .ok (.aload_n 0, 1) := by decide +kernel
theorem dX8_roll_36 : decode cX8_roll 36 = .ok (.iload_n 1, 1) := by decide +kernel
theorem dX8_roll_37 : decode cX8_roll 37 = .ok (.iload_n 2, 1) := by decide +kernel
theorem dX8_roll_38 : decode cX8_roll 38 = .ok (.invokevirtual 143, 3) := by decide +kernel
theorem dX8_roll_41 : decode cX8_roll 41 = .ok (.aload_n 0, 1) := by decide +kernel
theorem dX8_roll_42 : decode cX8_roll 42 = .ok (.getfield 20, 3) := by decide +kernel
theorem dX8_roll_45 : decode cX8_roll 45 = .ok (.iload_n 1, 1) := by decide +kernel
theorem dX8_roll_46 : decode cX8_roll 46 = .ok (.iaload, 1) := by decide +kernel
theorem dX8_roll_47 : decode cX8_roll 47 = .ok (.ireturn, 1) := by decide +kernel
theorem dX8_areBeside_0 : decode cX8_areBeside 0 = .ok (.iconst 0, 1) := by decide +kernel
theorem dX8_areBeside_1 : decode cX8_areBeside 1 = .ok (.istore_n 2, 1) := by decide +kernel
theorem dX8_areBeside_2 : decode cX8_areBeside 2 = .ok (.iconst 0, 1) := by decide +kernel
theorem dX8_areBeside_3 : decode cX8_areBeside 3 = .ok (.istore_n 3, 1) := by decide +kernel
theorem dX8_areBeside_4 : decode cX8_areBeside 4 = .ok (.iload_n 3, 1) := by decide +kernel
theorem dX8_areBeside_5 : decode cX8_areBeside 5 = .ok (.iconst 4, 1) := by decide +kernel
theorem dX8_areBeside_6 : decode cX8_areBeside 6 = .ok (.if_icmp .ge 28, 3) := by decide +kernel
theorem dX8_areBeside_9 : decode cX8_areBeside 9 = .ok (.iload_n 2, 1) := by decide +kernel
theorem dX8_areBeside_10 : decode cX8_areBeside 10 = .ok (.ifCond .ne 12, 3) := by decide +kernel
theorem dX8_areBeside_13 : decode cX8_areBeside 13 = .ok (.iload_n 0, 1) := by decide +kernel
theorem dX8_areBeside_14 : decode cX8_areBeside 14 = .ok (.iload_n 3, 1) := by decide +kernel
theorem dX8_areBeside_15 : decode cX8_areBeside 15 = .ok (.invokestatic 136, 3) := by decide +kernel
theorem dX8_areBeside_18 : decode cX8_areBeside 18 = .ok (.iload_n 1, 1) := by decide +kernel
theorem dX8_areBeside_19 : decode cX8_areBeside 19 = .ok (.if_icmp .ne 7, 3) := by decide +kernel
theorem dX8_areBeside_22 : decode cX8_areBeside 22 = .ok (.iconst 1, 1) := by decide +kernel
theorem dX8_areBeside_23 : decode cX8_areBeside 23 = .ok (.goto 4, 3) := by decide +kernel
theorem dX8_areBeside_26 : decode cX8_areBeside 26 = .ok (.iconst 0, 1) := by decide +kernel
theorem dX8_areBeside_27 : decode cX8_areBeside 27 = .ok (.istore_n 2, 1) := by decide +kernel
theorem dX8_areBeside_28 : decode cX8_areBeside 28 = .ok (.iinc 3 1, 3) := by decide +kernel
theorem dX8_areBeside_31 : decode cX8_areBeside 31 = .ok (.goto (-27), 3) := by decide +kernel
theorem dX8_areBeside_34 : decode cX8_areBeside 34 = .ok (.iload_n 2, 1) := by decide +kernel
theorem dX8_areBeside_35 : decode cX8_areBeside 35 = .ok (.ireturn, 1) := by decide +kernel
theorem dX8_standMany_0 : decode cX8_standMany 0 = .ok (.iconst 0, 1) := by decide +kernel
theorem dX8_standMany_1 : decode cX8_standMany 1 = .ok (.istore_n 2, 1) := by decide +kernel
theorem dX8_standMany_2 : decode cX8_standMany 2 = .ok (.iconst 0, 1) := by decide +kernel
theorem dX8_standMany_3 : decode cX8_standMany 3 = .ok (.istore_n 3, 1) := by decide +kernel
theorem dX8_standMany_4 : decode cX8_standMany 4 = .ok (.iload_n 3, 1) := by decide +kernel
theorem dX8_standMany_5 : decode cX8_standMany 5 = .ok (.aload_n 0, 1) := by decide +kernel
theorem dX8_standMany_6 : decode cX8_standMany 6 = .ok (.getfield 92, 3) := by decide +kernel
theorem dX8_standMany_9 : decode cX8_standMany 9 = .ok (.if_icmp .ge 27, 3) := by decide +kernel
theorem dX8_standMany_12 : decode cX8_standMany 12 = .ok (.iload_n 2, 1) := by decide +kernel
theorem dX8_standMany_13 : decode cX8_standMany 13 = .ok (.aload_n 0, 1) := by decide +kernel
theorem dX8_standMany_14 : decode cX8_standMany 14 = .ok (.getfield 23, 3) := by decide +kernel
theorem dX8_standMany_17 : decode cX8_standMany 17 = .ok (.iload_n 3, 1) := by decide +kernel
theorem dX8_standMany_18 : decode cX8_standMany 18 = .ok (.iaload, 1) := by decide +kernel
theorem dX8_standMany_19 : decode cX8_standMany 19 = .ok (.iload_n 1, 1) := by decide +kernel
theorem dX8_standMany_20 : decode cX8_standMany 20 = .ok (.if_icmp .ne 7, 3) := by decide +kernel
theorem dX8_standMany_23 : decode cX8_standMany 23 = .ok (.iconst 1, 1) := by decide +kernel
theorem dX8_standMany_24 : decode cX8_standMany 24 = .ok (.goto 4, 3) := by decide +kernel
theorem dX8_standMany_27 : decode cX8_standMany 27 = .ok (.iconst 0, 1) := by decide +kernel
theorem dX8_standMany_28 : decode cX8_standMany 28 = .ok (.iadd, 1) := by decide +kernel
theorem dX8_standMany_29 : decode cX8_standMany 29 = .ok (.istore_n 2, 1) := by decide +kernel
theorem dX8_standMany_30 : decode cX8_standMany 30 = .ok (.iinc 3 1, 3) := by decide +kernel
theorem dX8_standMany_33 : decode cX8_standMany 33 = .ok (.goto (-29), 3) := by decide +kernel
theorem dX8_standMany_36 : decode cX8_standMany 36 = .ok (.iload_n 2, 1) := by decide +kernel
theorem dX8_standMany_37 : decode cX8_standMany 37 = .ok (.ireturn, 1) := by decide +kernel
theorem dX8_mayLift_0 : decode cX8_mayLift 0 = .ok (.aload_n 0, 1) := by decide +kernel
theorem dX8_mayLift_1 : decode cX8_mayLift 1 = .ok (.iload_n 1, 1) := by decide +kernel
theorem dX8_mayLift_2 : decode cX8_mayLift 2 = .ok (.invokevirtual 133, 3) := by decide +kernel
theorem dX8_mayLift_5 : decode cX8_mayLift 5 = .ok (.ifCond .eq 36, 3) := by decide +kernel
theorem dX8_mayLift_8 : decode cX8_mayLift 8 = .ok (.aload_n 0, 1) := by decide +kernel
theorem dX8_mayLift_9 : decode cX8_mayLift 9 = .ok (.getfield 23, 3) := by decide +kernel
theorem dX8_mayLift_12 : decode cX8_mayLift 12 = .ok (.iload_n 2, 1) := by decide +kernel
theorem dX8_mayLift_13 : decode cX8_mayLift 13 = .ok (.iaload, 1) := by decide +kernel
theorem dX8_mayLift_14 : decode cX8_mayLift 14 = .ok (.iconst (-1), 1) := by decide +kernel
theorem dX8_mayLift_15 : decode cX8_mayLift 15 = .ok (.if_icmp .eq 26, 3) := by decide +kernel
theorem dX8_mayLift_18 : decode cX8_mayLift 18 = .ok (.aload_n 0, 1) := by decide +kernel
theorem dX8_mayLift_19 : decode cX8_mayLift 19 = .ok (.iload_n 2, 1) := by decide +kernel
theorem dX8_mayLift_20 : decode cX8_mayLift 20 = .ok (.invokevirtual 130, 3) := by decide +kernel
theorem dX8_mayLift_23 : decode cX8_mayLift 23 = .ok (.iconst (-1), 1) := by decide +kernel
theorem dX8_mayLift_24 : decode cX8_mayLift 24 = .ok (.if_icmp .ne 17, 3) := by decide +kernel
theorem dX8_mayLift_27 : decode cX8_mayLift 27 = .ok (.iconst 2, 1) := by decide +kernel
theorem dX8_mayLift_28 : decode cX8_mayLift 28 = .ok (.aload_n 0, 1) := by decide +kernel
theorem dX8_mayLift_29 : decode cX8_mayLift 29 = .ok (.iload_n 1, 1) := by decide +kernel
theorem dX8_mayLift_30 : decode cX8_mayLift 30 = .ok (.invokevirtual 117, 3) := by decide +kernel
theorem dX8_mayLift_33 : decode cX8_mayLift 33 = .ok (.imul, 1) := by decide +kernel
theorem dX8_mayLift_34 : decode cX8_mayLift 34 = .ok (.aload_n 0, 1) := by decide +kernel
theorem dX8_mayLift_35 : decode cX8_mayLift 35 = .ok (.getfield 13, 3) := by decide +kernel
theorem dX8_mayLift_38 : decode cX8_mayLift 38 = .ok (.if_icmp .le 5, 3) := by decide +kernel
theorem dX8_mayLift_41 : decode cX8_mayLift 41 = .ok (.iconst 0, 1) := by decide +kernel
theorem dX8_mayLift_42 : decode cX8_mayLift 42 = .ok (.ireturn, 1) := by decide +kernel
theorem dX8_mayLift_43 : decode cX8_mayLift 43 = .ok (.aload_n 0, 1) := by decide +kernel
theorem dX8_mayLift_44 : decode cX8_mayLift 44 = .ok (.getfield 23, 3) := by decide +kernel
theorem dX8_mayLift_47 : decode cX8_mayLift 47 = .ok (.iload_n 1, 1) := by decide +kernel
theorem dX8_mayLift_48 : decode cX8_mayLift 48 = .ok (.iaload, 1) := by decide +kernel
theorem dX8_mayLift_49 : decode cX8_mayLift 49 = .ok (.aload_n 0, 1) := by decide +kernel
theorem dX8_mayLift_50 : decode cX8_mayLift 50 = .ok (.getfield 23, 3) := by decide +kernel
theorem dX8_mayLift_53 : decode cX8_mayLift 53 = .ok (.iload_n 2, 1) := by decide +kernel
theorem dX8_mayLift_54 : decode cX8_mayLift 54 = .ok (.iaload, 1) := by decide +kernel
theorem dX8_mayLift_55 : decode cX8_mayLift 55 = .ok (.invokestatic 147, 3) := by decide +kernel
theorem dX8_mayLift_58 : decode cX8_mayLift 58 = .ok (.ifCond .eq 36, 3) := by decide +kernel
theorem dX8_mayLift_61 : decode cX8_mayLift 61 = .ok (.aload_n 0, 1) := by decide +kernel
theorem dX8_mayLift_62 : decode cX8_mayLift 62 = .ok (.getfield 20, 3) := by decide +kernel
theorem dX8_mayLift_65 : decode cX8_mayLift 65 = .ok (.iload_n 2, 1) := by decide +kernel
theorem dX8_mayLift_66 : decode cX8_mayLift 66 = .ok (.iaload, 1) := by decide +kernel
theorem dX8_mayLift_67 : decode cX8_mayLift 67 = .ok (.aload_n 0, 1) := by decide +kernel
theorem dX8_mayLift_68 : decode cX8_mayLift 68 = .ok (.getfield 20, 3) := by decide +kernel
theorem dX8_mayLift_71 : decode cX8_mayLift 71 = .ok (.iload_n 1, 1) := by decide +kernel
theorem dX8_mayLift_72 : decode cX8_mayLift 72 = .ok (.iaload, 1) := by decide +kernel
theorem dX8_mayLift_73 : decode cX8_mayLift 73 = .ok (.if_icmp .le 21, 3) := by decide +kernel
theorem dX8_mayLift_76 : decode cX8_mayLift 76 = .ok (.aload_n 0, 1) := by decide +kernel
theorem dX8_mayLift_77 : decode cX8_mayLift 77 = .ok (.aload_n 0, 1) := by decide +kernel
theorem dX8_mayLift_78 : decode cX8_mayLift 78 = .ok (.getfield 23, 3) := by decide +kernel
theorem dX8_mayLift_81 : decode cX8_mayLift 81 = .ok (.iload_n 2, 1) := by decide +kernel
theorem dX8_mayLift_82 : decode cX8_mayLift 82 = .ok (.iaload, 1) := by decide +kernel
theorem dX8_mayLift_83 : decode cX8_mayLift 83 = .ok (.invokevirtual 150, 3) := by decide +kernel
theorem dX8_mayLift_86 : decode cX8_mayLift 86 = .ok (.iconst 3, 1) := by decide +kernel
theorem dX8_mayLift_87 : decode cX8_mayLift 87 = .ok (.if_icmp .ge 7, 3) := by decide +kernel
theorem dX8_mayLift_90 : decode cX8_mayLift 90 = .ok (.iconst 1, 1) := by decide +kernel
theorem dX8_mayLift_91 : decode cX8_mayLift 91 = .ok (.goto 4, 3) := by decide +kernel
theorem dX8_mayLift_94 : decode cX8_mayLift 94 = .ok (.iconst 0, 1) := by decide +kernel
theorem dX8_mayLift_95 : decode cX8_mayLift 95 = .ok (.ireturn, 1) := by decide +kernel
theorem dX8_lift_0 : decode cX8_lift 0 = .ok (.aload_n 0, 1) := by decide +kernel
theorem dX8_lift_1 : decode cX8_lift 1 = .ok (.iload_n 1, 1) := by decide +kernel
theorem dX8_lift_2 : decode cX8_lift 2 = .ok (.invokevirtual 123, 3) := by decide +kernel
theorem dX8_lift_5 : decode cX8_lift 5 = .ok (.ifCond .eq 16, 3) := by decide +kernel
theorem dX8_lift_8 : decode cX8_lift 8 = .ok (.aload_n 0, 1) := by decide +kernel
theorem dX8_lift_9 : decode cX8_lift 9 = .ok (.iload_n 2, 1) := by decide +kernel
theorem dX8_lift_10 : decode cX8_lift 10 = .ok (.invokevirtual 123, 3) := by decide +kernel
theorem dX8_lift_13 : decode cX8_lift 13 = .ok (.ifCond .eq 8, 3) := by decide +kernel
theorem dX8_lift_16 : decode cX8_lift 16 = .ok (.iload_n 1, 1) := by decide +kernel
theorem dX8_lift_17 : decode cX8_lift 17 = .ok (.iload_n 2, 1) := by decide +kernel
theorem dX8_lift_18 : decode cX8_lift 18 = .ok (.if_icmp .ne 6, 3) := by decide +kernel
theorem dX8_lift_21 : decode cX8_lift 21 = .ok (.bipush (-101), 2) := by decide +kernel
theorem dX8_lift_23 : decode cX8_lift 23 = .ok (.ireturn, 1) := by decide +kernel
theorem dX8_lift_24 : decode cX8_lift 24 = .ok (.aload_n 0, 1) := by decide +kernel
theorem dX8_lift_25 : decode cX8_lift 25 = .ok (.iload_n 1, 1) := by decide +kernel
theorem dX8_lift_26 : decode cX8_lift 26 = .ok (.iload_n 2, 1) := by decide +kernel
theorem dX8_lift_27 : decode cX8_lift 27 = .ok (.invokevirtual 153, 3) := by decide +kernel
theorem dX8_lift_30 : decode cX8_lift 30 = .ok (.ifCond .ne 6, 3) := by decide +kernel
theorem dX8_lift_33 : decode cX8_lift 33 = .ok (.bipush (-103), 2) := by decide +kernel
theorem dX8_lift_35 : decode cX8_lift 35 = .ok (.ireturn, 1) := by decide +kernel
theorem dX8_lift_36 : decode cX8_lift 36 = .ok (.aload_n 0, 1) := by decide +kernel
theorem dX8_lift_37 : decode cX8_lift 37 = .ok (.getfield 23, 3) := by decide +kernel
theorem dX8_lift_40 : decode cX8_lift 40 = .ok (.iload_n 1, 1) := by decide +kernel
theorem dX8_lift_41 : decode cX8_lift 41 = .ok (.aload_n 0, 1) := by decide +kernel
theorem dX8_lift_42 : decode cX8_lift 42 = .ok (.getfield 23, 3) := by decide +kernel
theorem dX8_lift_45 : decode cX8_lift 45 = .ok (.iload_n 2, 1) := by decide +kernel
theorem dX8_lift_46 : decode cX8_lift 46 = .ok (.iaload, 1) := by decide +kernel
theorem dX8_lift_47 : decode cX8_lift 47 = .ok (.iastore, 1) := by decide +kernel
theorem dX8_lift_48 : decode cX8_lift 48 = .ok (.aload_n 0, 1) := by decide +kernel
theorem dX8_lift_49 : decode cX8_lift 49 = .ok (.getfield 26, 3) := by decide +kernel
theorem dX8_lift_52 : decode cX8_lift 52 = .ok (.iload_n 1, 1) := by decide +kernel
theorem dX8_lift_53 : decode cX8_lift 53 = .ok (.iload_n 2, 1) := by decide +kernel
theorem dX8_lift_54 : decode cX8_lift 54 = .ok (.iastore, 1) := by decide +kernel
theorem dX8_lift_55 : decode cX8_lift 55 = .ok (.aload_n 0, 1) := by decide +kernel
theorem dX8_lift_56 : decode cX8_lift 56 = .ok (.aload_n 0, 1) := by decide +kernel
theorem dX8_lift_57 : decode cX8_lift 57 = .ok (.getfield 23, 3) := by decide +kernel
theorem dX8_lift_60 : decode cX8_lift 60 = .ok (.iload_n 2, 1) := by decide +kernel
theorem dX8_lift_61 : decode cX8_lift 61 = .ok (.iaload, 1) := by decide +kernel
theorem dX8_lift_62 : decode cX8_lift 62 = .ok (.invokevirtual 110, 3) := by decide +kernel
theorem dX8_lift_65 : decode cX8_lift 65 = .ok (.ireturn, 1) := by decide +kernel
theorem dX8_loss_0 : decode cX8_loss 0 = .ok (.iload_n 0, 1) := by decide +kernel
theorem dX8_loss_1 : decode cX8_loss 1 = .ok (.iconst 4, 1) := by decide +kernel
theorem dX8_loss_2 : decode cX8_loss 2 = .ok (.if_icmp .ne 9, 3) := by decide +kernel
theorem dX8_loss_5 : decode cX8_loss 5 = .ok (.iconst 2, 1) := by decide +kernel
theorem dX8_loss_6 : decode cX8_loss 6 = .ok (.iload_n 1, 1) := by decide +kernel
theorem dX8_loss_7 : decode cX8_loss 7 = .ok (.imul, 1) := by decide +kernel
theorem dX8_loss_8 : decode cX8_loss 8 = .ok (.goto 15, 3) := by decide +kernel
theorem dX8_loss_11 : decode cX8_loss 11 = .ok (.iload_n 0, 1) := by decide +kernel
theorem dX8_loss_12 : decode cX8_loss 12 = .ok (.iconst 1, 1) := by decide +kernel
theorem dX8_loss_13 : decode cX8_loss 13 = .ok (.if_icmp .ne 9, 3) := by decide +kernel
theorem dX8_loss_16 : decode cX8_loss 16 = .ok (.iload_n 1, 1) := by decide +kernel
theorem dX8_loss_17 : decode cX8_loss 17 = .ok (.iconst 1, 1) := by decide +kernel
theorem dX8_loss_18 : decode cX8_loss 18 = .ok (.iadd, 1) := by decide +kernel
theorem dX8_loss_19 : decode cX8_loss 19 = .ok (.goto 4, 3) := by decide +kernel
theorem dX8_loss_22 : decode cX8_loss 22 = .ok (.iload_n 1, 1) := by decide +kernel
theorem dX8_loss_23 : decode cX8_loss 23 = .ok (.ireturn, 1) := by decide +kernel
theorem dX8_day_0 : decode cX8_day 0 = .ok (.iload_n 1, 1) := by decide +kernel
theorem dX8_day_1 : decode cX8_day 1 = .ok (.iconst 0, 1) := by decide +kernel
theorem dX8_day_2 : decode cX8_day 2 = .ok (.bipush 9, 2) := by decide +kernel
theorem dX8_day_4 : decode cX8_day 4 = .ok (.invokestatic 66, 3) := by decide +kernel
theorem dX8_day_7 : decode cX8_day 7 = .ok (.ifCond .ne 6, 3) := by decide +kernel
theorem dX8_day_10 : decode cX8_day 10 = .ok (.bipush (-102), 2) := by decide +kernel
theorem dX8_day_12 : decode cX8_day 12 = .ok (.ireturn, 1) := by decide +kernel
theorem dX8_day_13 : decode cX8_day 13 = .ok (.aload_n 0, 1) := by decide +kernel
theorem dX8_day_14 : decode cX8_day 14 = .ok (.getfield 82, 3) := by decide +kernel
theorem dX8_day_17 : decode cX8_day 17 = .ok (.ifCond .ne 6, 3) := by decide +kernel
theorem dX8_day_20 : decode cX8_day 20 = .ok (.bipush (-103), 2) := by decide +kernel
theorem dX8_day_22 : decode cX8_day 22 = .ok (.ireturn, 1) := by decide +kernel
theorem dX8_day_23 : decode cX8_day 23 = .ok (.iconst 0, 1) := by decide +kernel
theorem dX8_day_24 : decode cX8_day 24 = .ok (.istore_n 2, 1) := by decide +kernel
theorem dX8_day_25 : decode cX8_day 25 = .ok (.iconst 0, 1) := by decide +kernel
theorem dX8_day_26 : decode cX8_day 26 = .ok (.istore_n 3, 1) := by decide +kernel
theorem dX8_day_27 : decode cX8_day 27 = .ok (.iload_n 3, 1) := by decide +kernel
theorem dX8_day_28 : decode cX8_day 28 = .ok (.aload_n 0, 1) := by decide +kernel
theorem dX8_day_29 : decode cX8_day 29 = .ok (.getfield 92, 3) := by decide +kernel
theorem dX8_day_32 : decode cX8_day 32 = .ok (.if_icmp .ge 55, 3) := by decide +kernel
theorem dX8_day_35 : decode cX8_day 35 = .ok (.aload_n 0, 1) := by decide +kernel
theorem dX8_day_36 : decode cX8_day 36 = .ok (.getfield 23, 3) := by decide +kernel
theorem dX8_day_39 : decode cX8_day 39 = .ok (.iload_n 3, 1) := by decide +kernel
theorem dX8_day_40 : decode cX8_day 40 = .ok (.iaload, 1) := by decide +kernel
theorem dX8_day_41 : decode cX8_day 41 = .ok (.iconst (-1), 1) := by decide +kernel
theorem dX8_day_42 : decode cX8_day 42 = .ok (.if_icmp .eq 39, 3) := by decide +kernel
theorem dX8_day_45 : decode cX8_day 45 = .ok (.aload_n 0, 1) := by decide +kernel
theorem dX8_day_46 : decode cX8_day 46 = .ok (.getfield 20, 3) := by decide +kernel
theorem dX8_day_49 : decode cX8_day 49 = .ok (.iload_n 3, 1) := by decide +kernel
theorem dX8_day_50 : decode cX8_day 50 = .ok (.iaload, 1) := by decide +kernel
theorem dX8_day_51 : decode cX8_day 51 = .ok (.aload_n 0, 1) := by decide +kernel
theorem dX8_day_52 : decode cX8_day 52 = .ok (.getfield 17, 3) := by decide +kernel
theorem dX8_day_55 : decode cX8_day 55 = .ok (.iload_n 3, 1) := by decide +kernel
theorem dX8_day_56 : decode cX8_day 56 = .ok (.iaload, 1) := by decide +kernel
theorem dX8_day_57 : decode cX8_day 57 = .ok (.iload_n 1, 1) := by decide +kernel
theorem dX8_day_58 : decode cX8_day 58 = .ok (.invokestatic 156, 3) := by decide +kernel
theorem dX8_day_61 : decode cX8_day 61 = .ok (.isub, 1) := by decide +kernel
theorem dX8_day_62 : decode cX8_day 62 = .ok (.istore 4, 2) := by decide +kernel
theorem dX8_day_64 : decode cX8_day 64 = .ok (.aload_n 0, 1) := by decide +kernel
theorem dX8_day_65 : decode cX8_day 65 = .ok (.getfield 20, 3) := by decide +kernel
theorem dX8_day_68 : decode cX8_day 68 = .ok (.iload_n 3, 1) := by decide +kernel
theorem dX8_day_69 : decode cX8_day 69 = .ok (.iload 4, 2) := by decide +kernel
theorem dX8_day_71 : decode cX8_day 71 = .ok (.ifCond .ge 7, 3) := by decide +kernel
theorem dX8_day_74 : decode cX8_day 74 = .ok (.iconst 0, 1) := by decide +kernel
theorem dX8_day_75 : decode cX8_day 75 = .ok (.goto 5, 3) := by decide +kernel
theorem dX8_day_78 : decode cX8_day 78 = .ok (.iload 4, 2) := by decide +kernel
theorem dX8_day_80 : decode cX8_day 80 = .ok (.iastore, 1) := by decide +kernel
theorem dX8_day_81 : decode cX8_day 81 = .ok (.iinc 3 1, 3) := by decide +kernel
theorem dX8_day_84 : decode cX8_day 84 = .ok (.goto (-57), 3) := by decide +kernel
theorem dX8_day_87 : decode cX8_day 87 = .ok (.iconst 0, 1) := by decide +kernel
theorem dX8_day_88 : decode cX8_day 88 = .ok (.istore_n 3, 1) := by decide +kernel
theorem dX8_day_89 : decode cX8_day 89 = .ok (.iload_n 3, 1) := by decide +kernel
theorem dX8_day_90 : decode cX8_day 90 = .ok (.aload_n 0, 1) := by decide +kernel
theorem dX8_day_91 : decode cX8_day 91 = .ok (.getfield 92, 3) := by decide +kernel
theorem dX8_day_94 : decode cX8_day 94 = .ok (.if_icmp .ge 36, 3) := by decide +kernel
theorem dX8_day_97 : decode cX8_day 97 = .ok (.aload_n 0, 1) := by decide +kernel
theorem dX8_day_98 : decode cX8_day 98 = .ok (.getfield 23, 3) := by decide +kernel
theorem dX8_day_101 : decode cX8_day 101 = .ok (.iload_n 3, 1) := by decide +kernel
theorem dX8_day_102 : decode cX8_day 102 = .ok (.iaload, 1) := by decide +kernel
theorem dX8_day_103 : decode cX8_day 103 = .ok (.iconst (-1), 1) := by decide +kernel
theorem dX8_day_104 : decode cX8_day 104 = .ok (.if_icmp .eq 20, 3) := by decide +kernel
theorem dX8_day_107 : decode cX8_day 107 = .ok (.aload_n 0, 1) := by decide +kernel
theorem dX8_day_108 : decode cX8_day 108 = .ok (.getfield 20, 3) := by decide +kernel
theorem dX8_day_111 : decode cX8_day 111 = .ok (.iload_n 3, 1) := by decide +kernel
theorem dX8_day_112 : decode cX8_day 112 = .ok (.iaload, 1) := by decide +kernel
theorem dX8_day_113 : decode cX8_day 113 = .ok (.ifCond .ne 11, 3) := by decide +kernel
theorem dX8_day_116 : decode cX8_day 116 = .ok (.aload_n 0, 1) := by decide +kernel
theorem dX8_day_117 : decode cX8_day 117 = .ok (.iload_n 3, 1) := by decide +kernel
theorem dX8_day_118 : decode cX8_day 118 = .ok (.invokevirtual 159, 3) := by decide +kernel
theorem dX8_day_121 : decode cX8_day 121 = .ok (.iinc 2 1, 3) := by decide +kernel
theorem dX8_day_124 : decode cX8_day 124 = .ok (.iinc 3 1, 3) := by decide +kernel
theorem dX8_day_127 : decode cX8_day 127 = .ok (.goto (-38), 3) := by decide +kernel
theorem dX8_day_130 : decode cX8_day 130 = .ok (.aload_n 0, 1) := by decide +kernel
theorem dX8_day_131 : decode cX8_day 131 = .ok (.dup, 1) := by decide +kernel
theorem dX8_day_132 : decode cX8_day 132 = .ok (.getfield 89, 3) := by decide +kernel
theorem dX8_day_135 : decode cX8_day 135 = .ok (.iconst 1, 1) := by decide +kernel
theorem dX8_day_136 : decode cX8_day 136 = .ok (.iadd, 1) := by decide +kernel
theorem dX8_day_137 : decode cX8_day 137 = .ok (.putfield 89, 3) := by decide +kernel
theorem dX8_day_140 : decode cX8_day 140 = .ok (.iload_n 2, 1) := by decide +kernel
theorem dX8_day_141 : decode cX8_day 141 = .ok (.ireturn, 1) := by decide +kernel
theorem dX8_goAway_0 : decode cX8_goAway 0 = .ok (.aload_n 0, 1) := by decide +kernel
theorem dX8_goAway_1 : decode cX8_goAway 1 = .ok (.getfield 26, 3) := by decide +kernel
theorem dX8_goAway_4 : decode cX8_goAway 4 = .ok (.iload_n 1, 1) := by decide +kernel
theorem dX8_goAway_5 : decode cX8_goAway 5 = .ok (.iaload, 1) := by decide +kernel
theorem dX8_goAway_6 : decode cX8_goAway 6 = .ok (.istore_n 2, 1) := by decide +kernel
theorem dX8_goAway_7 : decode cX8_goAway 7 = .ok (.aload_n 0, 1) := by decide +kernel
theorem dX8_goAway_8 : decode cX8_goAway 8 = .ok (.getfield 23, 3) := by decide +kernel
theorem dX8_goAway_11 : decode cX8_goAway 11 = .ok (.iload_n 1, 1) := by decide +kernel
theorem dX8_goAway_12 : decode cX8_goAway 12 = .ok (.iconst (-1), 1) := by decide +kernel
theorem dX8_goAway_13 : decode cX8_goAway 13 = .ok (.iastore, 1) := by decide +kernel
theorem dX8_goAway_14 : decode cX8_goAway 14 = .ok (.aload_n 0, 1) := by decide +kernel
theorem dX8_goAway_15 : decode cX8_goAway 15 = .ok (.getfield 26, 3) := by decide +kernel
theorem dX8_goAway_18 : decode cX8_goAway 18 = .ok (.iload_n 1, 1) := by decide +kernel
theorem dX8_goAway_19 : decode cX8_goAway 19 = .ok (.iconst (-1), 1) := by decide +kernel
theorem dX8_goAway_20 : decode cX8_goAway 20 = .ok (.iastore, 1) := by decide +kernel
theorem dX8_goAway_21 : decode cX8_goAway 21 = .ok (.iconst 0, 1) := by decide +kernel
theorem dX8_goAway_22 : decode cX8_goAway 22 = .ok (.istore_n 3, 1) := by decide +kernel
theorem dX8_goAway_23 : decode cX8_goAway 23 = .ok (.iload_n 3, 1) := by decide +kernel
theorem dX8_goAway_24 : decode cX8_goAway 24 = .ok (.aload_n 0, 1) := by decide +kernel
theorem dX8_goAway_25 : decode cX8_goAway 25 = .ok (.getfield 92, 3) := by decide +kernel
theorem dX8_goAway_28 : decode cX8_goAway 28 = .ok (.if_icmp .ge 35, 3) := by decide +kernel
theorem dX8_goAway_31 : decode cX8_goAway 31 = .ok (.aload_n 0, 1) := by decide +kernel
theorem dX8_goAway_32 : decode cX8_goAway 32 = .ok (.getfield 26, 3) := by decide +kernel
theorem dX8_goAway_35 : decode cX8_goAway 35 = .ok (.iload_n 3, 1) := by decide +kernel
theorem dX8_goAway_36 : decode cX8_goAway 36 = .ok (.aload_n 0, 1) := by decide +kernel
theorem dX8_goAway_37 : decode cX8_goAway 37 = .ok (.getfield 26, 3) := by decide +kernel
theorem dX8_goAway_40 : decode cX8_goAway 40 = .ok (.iload_n 3, 1) := by decide +kernel
theorem dX8_goAway_41 : decode cX8_goAway 41 = .ok (.iaload, 1) := by decide +kernel
theorem dX8_goAway_42 : decode cX8_goAway 42 = .ok (.iload_n 1, 1) := by decide +kernel
theorem dX8_goAway_43 : decode cX8_goAway 43 = .ok (.if_icmp .ne 7, 3) := by decide +kernel
theorem dX8_goAway_46 : decode cX8_goAway 46 = .ok (.iload_n 2, 1) := by decide +kernel
theorem dX8_goAway_47 : decode cX8_goAway 47 = .ok (.goto 9, 3) := by decide +kernel
theorem dX8_goAway_50 : decode cX8_goAway 50 = .ok (.aload_n 0, 1) := by decide +kernel
theorem dX8_goAway_51 : decode cX8_goAway 51 = .ok (.getfield 26, 3) := by decide +kernel
theorem dX8_goAway_54 : decode cX8_goAway 54 = .ok (.iload_n 3, 1) := by decide +kernel
theorem dX8_goAway_55 : decode cX8_goAway 55 = .ok (.iaload, 1) := by decide +kernel
theorem dX8_goAway_56 : decode cX8_goAway 56 = .ok (.iastore, 1) := by decide +kernel
theorem dX8_goAway_57 : decode cX8_goAway 57 = .ok (.iinc 3 1, 3) := by decide +kernel
theorem dX8_goAway_60 : decode cX8_goAway 60 = .ok (.goto (-37), 3) := by decide +kernel
theorem dX8_goAway_63 : decode cX8_goAway 63 = .ok (.return_, 1) := by decide +kernel
theorem dX8_save_0 : decode cX8_save 0 = .ok (.iconst 0, 1) := by decide +kernel
theorem dX8_save_1 : decode cX8_save 1 = .ok (.istore_n 2, 1) := by decide +kernel
theorem dX8_save_2 : decode cX8_save 2 = .ok (.iload_n 2, 1) := by decide +kernel
theorem dX8_save_3 : decode cX8_save 3 = .ok (.bipush 20, 2) := by decide +kernel
theorem dX8_save_5 : decode cX8_save 5 = .ok (.if_icmp .ge 21, 3) := by decide +kernel
theorem dX8_save_8 : decode cX8_save 8 = .ok (.aload_n 0, 1) := by decide +kernel
theorem dX8_save_9 : decode cX8_save 9 = .ok (.getfield 36, 3) := by decide +kernel
theorem dX8_save_12 : decode cX8_save 12 = .ok (.iload_n 2, 1) := by decide +kernel
theorem dX8_save_13 : decode cX8_save 13 = .ok (.aload_n 0, 1) := by decide +kernel
theorem dX8_save_14 : decode cX8_save 14 = .ok (.getfield 7, 3) := by decide +kernel
theorem dX8_save_17 : decode cX8_save 17 = .ok (.iload_n 2, 1) := by decide +kernel
theorem dX8_save_18 : decode cX8_save 18 = .ok (.iaload, 1) := by decide +kernel
theorem dX8_save_19 : decode cX8_save 19 = .ok (.iastore, 1) := by decide +kernel
theorem dX8_save_20 : decode cX8_save 20 = .ok (.iinc 2 1, 3) := by decide +kernel
theorem dX8_save_23 : decode cX8_save 23 = .ok (.goto (-21), 3) := by decide +kernel
theorem dX8_save_26 : decode cX8_save 26 = .ok (.aload_n 0, 1) := by decide +kernel
theorem dX8_save_27 : decode cX8_save 27 = .ok (.aload_n 0, 1) := by decide +kernel
theorem dX8_save_28 : decode cX8_save 28 = .ok (.getfield 20, 3) := by decide +kernel
theorem dX8_save_31 : decode cX8_save 31 = .ok (.iload_n 1, 1) := by decide +kernel
theorem dX8_save_32 : decode cX8_save 32 = .ok (.iaload, 1) := by decide +kernel
theorem dX8_save_33 : decode cX8_save 33 = .ok (.putfield 163, 3) := by decide +kernel
theorem dX8_save_36 : decode cX8_save 36 = .ok (.aload_n 0, 1) := by decide +kernel
theorem dX8_save_37 : decode cX8_save 37 = .ok (.aload_n 0, 1) := by decide +kernel
theorem dX8_save_38 : decode cX8_save 38 = .ok (.getfield 23, 3) := by decide +kernel
theorem dX8_save_41 : decode cX8_save 41 = .ok (.iload_n 1, 1) := by decide +kernel
theorem dX8_save_42 : decode cX8_save 42 = .ok (.iaload, 1) := by decide +kernel
theorem dX8_save_43 : decode cX8_save 43 = .ok (.putfield 166, 3) := by decide +kernel
theorem dX8_save_46 : decode cX8_save 46 = .ok (.aload_n 0, 1) := by decide +kernel
theorem dX8_save_47 : decode cX8_save 47 = .ok (.aload_n 0, 1) := by decide +kernel
theorem dX8_save_48 : decode cX8_save 48 = .ok (.getfield 29, 3) := by decide +kernel
theorem dX8_save_51 : decode cX8_save 51 = .ok (.iload_n 1, 1) := by decide +kernel
theorem dX8_save_52 : decode cX8_save 52 = .ok (.iaload, 1) := by decide +kernel
theorem dX8_save_53 : decode cX8_save 53 = .ok (.putfield 169, 3) := by decide +kernel
theorem dX8_save_56 : decode cX8_save 56 = .ok (.return_, 1) := by decide +kernel
theorem dX8_back_0 : decode cX8_back 0 = .ok (.iconst 0, 1) := by decide +kernel
theorem dX8_back_1 : decode cX8_back 1 = .ok (.istore_n 2, 1) := by decide +kernel
theorem dX8_back_2 : decode cX8_back 2 = .ok (.iload_n 2, 1) := by decide +kernel
theorem dX8_back_3 : decode cX8_back 3 = .ok (.bipush 20, 2) := by decide +kernel
theorem dX8_back_5 : decode cX8_back 5 = .ok (.if_icmp .ge 21, 3) := by decide +kernel
theorem dX8_back_8 : decode cX8_back 8 = .ok (.aload_n 0, 1) := by decide +kernel
theorem dX8_back_9 : decode cX8_back 9 = .ok (.getfield 7, 3) := by decide +kernel
theorem dX8_back_12 : decode cX8_back 12 = .ok (.iload_n 2, 1) := by decide +kernel
theorem dX8_back_13 : decode cX8_back 13 = .ok (.aload_n 0, 1) := by decide +kernel
theorem dX8_back_14 : decode cX8_back 14 = .ok (.getfield 36, 3) := by decide +kernel
theorem dX8_back_17 : decode cX8_back 17 = .ok (.iload_n 2, 1) := by decide +kernel
theorem dX8_back_18 : decode cX8_back 18 = .ok (.iaload, 1) := by decide +kernel
theorem dX8_back_19 : decode cX8_back 19 = .ok (.iastore, 1) := by decide +kernel
theorem dX8_back_20 : decode cX8_back 20 = .ok (.iinc 2 1, 3) := by decide +kernel
theorem dX8_back_23 : decode cX8_back 23 = .ok (.goto (-21), 3) := by decide +kernel
theorem dX8_back_26 : decode cX8_back 26 = .ok (.aload_n 0, 1) := by decide +kernel
theorem dX8_back_27 : decode cX8_back 27 = .ok (.getfield 20, 3) := by decide +kernel
theorem dX8_back_30 : decode cX8_back 30 = .ok (.iload_n 1, 1) := by decide +kernel
theorem dX8_back_31 : decode cX8_back 31 = .ok (.aload_n 0, 1) := by decide +kernel
theorem dX8_back_32 : decode cX8_back 32 = .ok (.getfield 163, 3) := by decide +kernel
theorem dX8_back_35 : decode cX8_back 35 = .ok (.iastore, 1) := by decide +kernel
theorem dX8_back_36 : decode cX8_back 36 = .ok (.aload_n 0, 1) := by decide +kernel
theorem dX8_back_37 : decode cX8_back 37 = .ok (.getfield 23, 3) := by decide +kernel
theorem dX8_back_40 : decode cX8_back 40 = .ok (.iload_n 1, 1) := by decide +kernel
theorem dX8_back_41 : decode cX8_back 41 = .ok (.aload_n 0, 1) := by decide +kernel
theorem dX8_back_42 : decode cX8_back 42 = .ok (.getfield 166, 3) := by decide +kernel
theorem dX8_back_45 : decode cX8_back 45 = .ok (.iastore, 1) := by decide +kernel
theorem dX8_back_46 : decode cX8_back 46 = .ok (.aload_n 0, 1) := by decide +kernel
theorem dX8_back_47 : decode cX8_back 47 = .ok (.getfield 29, 3) := by decide +kernel
theorem dX8_back_50 : decode cX8_back 50 = .ok (.iload_n 1, 1) := by decide +kernel
theorem dX8_back_51 : decode cX8_back 51 = .ok (.aload_n 0, 1) := by decide +kernel
theorem dX8_back_52 : decode cX8_back 52 = .ok (.getfield 169, 3) := by decide +kernel
theorem dX8_back_55 : decode cX8_back 55 = .ok (.iastore, 1) := by decide +kernel
theorem dX8_back_56 : decode cX8_back 56 = .ok (.return_, 1) := by decide +kernel
theorem dX8_power_0 : decode cX8_power 0 = .ok (.iconst 1, 1) := by decide +kernel
theorem dX8_power_1 : decode cX8_power 1 = .ok (.istore_n 1, 1) := by decide +kernel
theorem dX8_power_2 : decode cX8_power 2 = .ok (.iconst 0, 1) := by decide +kernel
theorem dX8_power_3 : decode cX8_power 3 = .ok (.istore_n 2, 1) := by decide +kernel
theorem dX8_power_4 : decode cX8_power 4 = .ok (.iload_n 2, 1) := by decide +kernel
theorem dX8_power_5 : decode cX8_power 5 = .ok (.iload_n 0, 1) := by decide +kernel
theorem dX8_power_6 : decode cX8_power 6 = .ok (.if_icmp .ge 13, 3) := by decide +kernel
theorem dX8_power_9 : decode cX8_power 9 = .ok (.iload_n 1, 1) := by decide +kernel
theorem dX8_power_10 : decode cX8_power 10 = .ok (.iconst 4, 1) := by decide +kernel
theorem dX8_power_11 : decode cX8_power 11 = .ok (.imul, 1) := by decide +kernel
theorem dX8_power_12 : decode cX8_power 12 = .ok (.istore_n 1, 1) := by decide +kernel
theorem dX8_power_13 : decode cX8_power 13 = .ok (.iinc 2 1, 3) := by decide +kernel
theorem dX8_power_16 : decode cX8_power 16 = .ok (.goto (-12), 3) := by decide +kernel
theorem dX8_power_19 : decode cX8_power 19 = .ok (.iload_n 1, 1) := by decide +kernel
theorem dX8_power_20 : decode cX8_power 20 = .ok (.ireturn, 1) := by decide +kernel
theorem dX8_rollsBy_0 : decode cX8_rollsBy 0 = .ok (.iload_n 2, 1) := by decide +kernel
theorem dX8_rollsBy_1 : decode cX8_rollsBy 1 = .ok (.istore 4, 2) := by decide +kernel
theorem dX8_rollsBy_3 : decode cX8_rollsBy 3 = .ok (.iconst 1, 1) := by decide +kernel
theorem dX8_rollsBy_4 : decode cX8_rollsBy 4 = .ok (.istore 5, 2) := by decide +kernel
theorem dX8_rollsBy_6 : decode cX8_rollsBy 6 = .ok (.iload_n 3, 1) := by decide +kernel
theorem dX8_rollsBy_7 : decode cX8_rollsBy 7 = .ok (.iconst 1, 1) := by decide +kernel
theorem dX8_rollsBy_8 : decode cX8_rollsBy 8 = .ok (.isub, 1) := by decide +kernel
theorem dX8_rollsBy_9 : decode cX8_rollsBy 9 = .ok (.istore 6, 2) := by decide +kernel
theorem dX8_rollsBy_11 : decode cX8_rollsBy 11 = .ok (.iload 6, 2) := by decide +kernel
theorem dX8_rollsBy_13 : decode cX8_rollsBy 13 = .ok (.ifCond .lt 55, 3) := by decide +kernel
theorem dX8_rollsBy_16 : decode cX8_rollsBy 16 = .ok (.iload 5, 2) := by decide +kernel
theorem dX8_rollsBy_18 : decode cX8_rollsBy 18 = .ok (.ifCond .eq 50, 3) := by decide +kernel
theorem dX8_rollsBy_21 : decode cX8_rollsBy 21 = .ok (.iload 4, 2) := by decide +kernel
theorem dX8_rollsBy_23 : decode cX8_rollsBy 23 = .ok (.iload 6, 2) := by decide +kernel
theorem dX8_rollsBy_25 : decode cX8_rollsBy 25 = .ok (.invokestatic 172, 3) := by decide +kernel
theorem dX8_rollsBy_28 : decode cX8_rollsBy 28 = .ok (.idiv, 1) := by decide +kernel
theorem dX8_rollsBy_29 : decode cX8_rollsBy 29 = .ok (.istore 7, 2) := by decide +kernel
theorem dX8_rollsBy_31 : decode cX8_rollsBy 31 = .ok (.iload 4, 2) := by decide +kernel
theorem dX8_rollsBy_33 : decode cX8_rollsBy 33 = .ok (.iload 6, 2) := by decide +kernel
theorem dX8_rollsBy_35 : decode cX8_rollsBy 35 = .ok (.invokestatic 172, 3) := by decide +kernel
theorem dX8_rollsBy_38 : decode cX8_rollsBy 38 = .ok (.irem, 1) := by decide +kernel
theorem dX8_rollsBy_39 : decode cX8_rollsBy 39 = .ok (.istore 4, 2) := by decide +kernel
theorem dX8_rollsBy_41 : decode cX8_rollsBy 41 = .ok (.aload_n 0, 1) := by decide +kernel
theorem dX8_rollsBy_42 : decode cX8_rollsBy 42 = .ok (.iload_n 1, 1) := by decide +kernel
theorem dX8_rollsBy_43 : decode cX8_rollsBy 43 = .ok (.iload 7, 2) := by decide +kernel
theorem dX8_rollsBy_45 : decode cX8_rollsBy 45 = .ok (.invokevirtual 139, 3) := by decide +kernel
theorem dX8_rollsBy_48 : decode cX8_rollsBy 48 = .ok (.istore 5, 2) := by decide +kernel
theorem dX8_rollsBy_50 : decode cX8_rollsBy 50 = .ok (.iload 5, 2) := by decide +kernel
theorem dX8_rollsBy_52 : decode cX8_rollsBy 52 = .ok (.ifCond .eq 10, 3) := by decide +kernel
theorem dX8_rollsBy_55 : decode cX8_rollsBy 55 = .ok (.aload_n 0, 1) := by decide +kernel
theorem dX8_rollsBy_56 : decode cX8_rollsBy 56 = .ok (.iload_n 1, 1) := by decide +kernel
theorem dX8_rollsBy_57 : decode cX8_rollsBy 57 = .ok (.iload 7, 2) := by decide +kernel
theorem dX8_rollsBy_59 : decode cX8_rollsBy 59 = .ok (.invokevirtual 143, 3) := by decide +kernel
theorem dX8_rollsBy_62 : decode cX8_rollsBy 62 = .ok (.iinc 6 (-1), 3) := by decide +kernel
theorem dX8_rollsBy_65 : decode cX8_rollsBy 65 = .ok (.goto (-54), 3) := by decide +kernel
theorem dX8_rollsBy_68 : decode cX8_rollsBy 68 = .ok (.iload 5, 2) := by decide +kernel
theorem dX8_rollsBy_70 : decode cX8_rollsBy 70 = .ok (.ireturn, 1) := by decide +kernel
theorem dX8_layLargest_0 : decode cX8_layLargest 0 = .ok (.aload_n 0, 1) := by decide +kernel
theorem dX8_layLargest_1 : decode cX8_layLargest 1 = .ok (.aload_n 0, 1) := by decide +kernel
theorem dX8_layLargest_2 : decode cX8_layLargest 2 = .ok (.getfield 20, 3) := by decide +kernel
theorem dX8_layLargest_5 : decode cX8_layLargest 5 = .ok (.iload_n 1, 1) := by decide +kernel
theorem dX8_layLargest_6 : decode cX8_layLargest 6 = .ok (.iaload, 1) := by decide +kernel
theorem dX8_layLargest_7 : decode cX8_layLargest 7 = .ok (.putfield 175, 3) := by decide +kernel
theorem dX8_layLargest_10 : decode cX8_layLargest 10 = .ok (.aload_n 0, 1) := by decide +kernel
theorem dX8_layLargest_11 : decode cX8_layLargest 11 = .ok (.iconst (-1), 1) := by decide +kernel
theorem dX8_layLargest_12 : decode cX8_layLargest 12 = .ok (.putfield 178, 3) := by decide +kernel
theorem dX8_layLargest_15 : decode cX8_layLargest 15 = .ok (.aload_n 0, 1) := by decide +kernel
theorem dX8_layLargest_16 : decode cX8_layLargest 16 = .ok (.iload_n 1, 1) := by decide +kernel
theorem dX8_layLargest_17 : decode cX8_layLargest 17 = .ok (.invokevirtual 181, 3) := by decide +kernel
theorem dX8_layLargest_20 : decode cX8_layLargest 20 = .ok (.iconst 1, 1) := by decide +kernel
theorem dX8_layLargest_21 : decode cX8_layLargest 21 = .ok (.istore_n 3, 1) := by decide +kernel
theorem dX8_layLargest_22 : decode cX8_layLargest 22 = .ok (.iload_n 3, 1) := by decide +kernel
theorem dX8_layLargest_23 : decode cX8_layLargest 23 = .ok (.iload_n 2, 1) := by decide +kernel
theorem dX8_layLargest_24 : decode cX8_layLargest 24 = .ok (.if_icmp .gt 83, 3) := by decide +kernel
theorem dX8_layLargest_27 : decode cX8_layLargest 27 = .ok (.iconst 0, 1) := by decide +kernel
theorem dX8_layLargest_28 : decode cX8_layLargest 28 = .ok (.istore 4, 2) := by decide +kernel
theorem dX8_layLargest_30 : decode cX8_layLargest 30 = .ok (.iload 4, 2) := by decide +kernel
theorem dX8_layLargest_32 : decode cX8_layLargest 32 = .ok (.iload_n 3, 1) := by decide +kernel
theorem dX8_layLargest_33 : decode cX8_layLargest 33 = .ok (.invokestatic 172, 3) := by decide +kernel
theorem dX8_layLargest_36 : decode cX8_layLargest 36 = .ok (.if_icmp .ge 65, 3) := by decide +kernel
theorem dX8_layLargest_39 : decode cX8_layLargest 39 = .ok (.aload_n 0, 1) := by decide +kernel
theorem dX8_layLargest_40 : decode cX8_layLargest 40 = .ok (.iload_n 1, 1) := by decide +kernel
theorem dX8_layLargest_41 : decode cX8_layLargest 41 = .ok (.iload 4, 2) := by decide +kernel
theorem dX8_layLargest_43 : decode cX8_layLargest 43 = .ok (.iload_n 3, 1) := by decide +kernel
theorem dX8_layLargest_44 : decode cX8_layLargest 44 = .ok (.invokevirtual 184, 3) := by decide +kernel
theorem dX8_layLargest_47 : decode cX8_layLargest 47 = .ok (.istore 5, 2) := by decide +kernel
theorem dX8_layLargest_49 : decode cX8_layLargest 49 = .ok (.aload_n 0, 1) := by decide +kernel
theorem dX8_layLargest_50 : decode cX8_layLargest 50 = .ok (.getfield 20, 3) := by decide +kernel
theorem dX8_layLargest_53 : decode cX8_layLargest 53 = .ok (.iload_n 1, 1) := by decide +kernel
theorem dX8_layLargest_54 : decode cX8_layLargest 54 = .ok (.iaload, 1) := by decide +kernel
theorem dX8_layLargest_55 : decode cX8_layLargest 55 = .ok (.istore 6, 2) := by decide +kernel
theorem dX8_layLargest_57 : decode cX8_layLargest 57 = .ok (.aload_n 0, 1) := by decide +kernel
theorem dX8_layLargest_58 : decode cX8_layLargest 58 = .ok (.iload_n 1, 1) := by decide +kernel
theorem dX8_layLargest_59 : decode cX8_layLargest 59 = .ok (.invokevirtual 187, 3) := by decide +kernel
theorem dX8_layLargest_62 : decode cX8_layLargest 62 = .ok (.iload 5, 2) := by decide +kernel
theorem dX8_layLargest_64 : decode cX8_layLargest 64 = .ok (.ifCond .eq 31, 3) := by decide +kernel
theorem dX8_layLargest_67 : decode cX8_layLargest 67 = .ok (.iload 6, 2) := by decide +kernel
theorem dX8_layLargest_69 : decode cX8_layLargest 69 = .ok (.aload_n 0, 1) := by decide +kernel
theorem dX8_layLargest_70 : decode cX8_layLargest 70 = .ok (.getfield 175, 3) := by decide +kernel
theorem dX8_layLargest_73 : decode cX8_layLargest 73 = .ok (.if_icmp .le 22, 3) := by decide +kernel
theorem dX8_layLargest_76 : decode cX8_layLargest 76 = .ok (.aload_n 0, 1) := by decide +kernel
theorem dX8_layLargest_77 : decode cX8_layLargest 77 = .ok (.iload 6, 2) := by decide +kernel
theorem dX8_layLargest_79 : decode cX8_layLargest 79 = .ok (.putfield 175, 3) := by decide +kernel
theorem dX8_layLargest_82 : decode cX8_layLargest 82 = .ok (.aload_n 0, 1) := by decide +kernel
theorem dX8_layLargest_83 : decode cX8_layLargest 83 = .ok (.iload 4, 2) := by decide +kernel
theorem dX8_layLargest_85 : decode cX8_layLargest 85 = .ok (.iload_n 3, 1) := by decide +kernel
theorem dX8_layLargest_86 : decode cX8_layLargest 86 = .ok (.iconst 1, 1) := by decide +kernel
theorem dX8_layLargest_87 : decode cX8_layLargest 87 = .ok (.isub, 1) := by decide +kernel
theorem dX8_layLargest_88 : decode cX8_layLargest 88 = .ok (.invokestatic 172, 3) := by decide +kernel
theorem dX8_layLargest_91 : decode cX8_layLargest 91 = .ok (.idiv, 1) := by decide +kernel
theorem dX8_layLargest_92 : decode cX8_layLargest 92 = .ok (.putfield 178, 3) := by decide +kernel
theorem dX8_layLargest_95 : decode cX8_layLargest 95 = .ok (.iinc 4 1, 3) := by decide +kernel
theorem dX8_layLargest_98 : decode cX8_layLargest 98 = .ok (.goto (-68), 3) := by decide +kernel
theorem dX8_layLargest_101 : decode cX8_layLargest 101 = .ok (.iinc 3 1, 3) := by decide +kernel
theorem dX8_layLargest_104 : decode cX8_layLargest 104 = .ok (.goto (-82), 3) := by decide +kernel
theorem dX8_layLargest_107 : decode cX8_layLargest 107 = .ok (.return_, 1) := by decide +kernel
theorem dX8_largest_0 : decode cX8_largest 0 = .ok (.aload_n 0, 1) := by decide +kernel
theorem dX8_largest_1 : decode cX8_largest 1 = .ok (.iload_n 1, 1) := by decide +kernel
theorem dX8_largest_2 : decode cX8_largest 2 = .ok (.invokevirtual 123, 3) := by decide +kernel
theorem dX8_largest_5 : decode cX8_largest 5 = .ok (.ifCond .ne 6, 3) := by decide +kernel
theorem dX8_largest_8 : decode cX8_largest 8 = .ok (.bipush (-101), 2) := by decide +kernel
theorem dX8_largest_10 : decode cX8_largest 10 = .ok (.ireturn, 1) := by decide +kernel
theorem dX8_largest_11 : decode cX8_largest 11 = .ok (.iload_n 2, 1) := by decide +kernel
theorem dX8_largest_12 : decode cX8_largest 12 = .ok (.iconst 0, 1) := by decide +kernel
theorem dX8_largest_13 : decode cX8_largest 13 = .ok (.bipush 6, 2) := by decide +kernel
theorem dX8_largest_15 : decode cX8_largest 15 = .ok (.invokestatic 66, 3) := by decide +kernel
theorem dX8_largest_18 : decode cX8_largest 18 = .ok (.ifCond .eq 12, 3) := by decide +kernel
theorem dX8_largest_21 : decode cX8_largest 21 = .ok (.iload_n 3, 1) := by decide +kernel
theorem dX8_largest_22 : decode cX8_largest 22 = .ok (.iconst 0, 1) := by decide +kernel
theorem dX8_largest_23 : decode cX8_largest 23 = .ok (.iconst 1, 1) := by decide +kernel
theorem dX8_largest_24 : decode cX8_largest 24 = .ok (.invokestatic 66, 3) := by decide +kernel
theorem dX8_largest_27 : decode cX8_largest 27 = .ok (.ifCond .ne 6, 3) := by decide +kernel
theorem dX8_largest_30 : decode cX8_largest 30 = .ok (.bipush (-102), 2) := by decide +kernel
theorem dX8_largest_32 : decode cX8_largest 32 = .ok (.ireturn, 1) := by decide +kernel
theorem dX8_largest_33 : decode cX8_largest 33 = .ok (.aload_n 0, 1) := by decide +kernel
theorem dX8_largest_34 : decode cX8_largest 34 = .ok (.getfield 23, 3) := by decide +kernel
theorem dX8_largest_37 : decode cX8_largest 37 = .ok (.iload_n 1, 1) := by decide +kernel
theorem dX8_largest_38 : decode cX8_largest 38 = .ok (.iaload, 1) := by decide +kernel
theorem dX8_largest_39 : decode cX8_largest 39 = .ok (.iconst (-1), 1) := by decide +kernel
theorem dX8_largest_40 : decode cX8_largest 40 = .ok (.if_icmp .eq 12, 3) := by decide +kernel
theorem dX8_largest_43 : decode cX8_largest 43 = .ok (.aload_n 0, 1) := by decide +kernel
theorem dX8_largest_44 : decode cX8_largest 44 = .ok (.getfield 190, 3) := by decide +kernel
theorem dX8_largest_47 : decode cX8_largest 47 = .ok (.bipush 60, 2) := by decide +kernel
theorem dX8_largest_49 : decode cX8_largest 49 = .ok (.if_icmp .ne 6, 3) := by decide +kernel
theorem dX8_largest_52 : decode cX8_largest 52 = .ok (.bipush (-103), 2) := by decide +kernel
theorem dX8_largest_54 : decode cX8_largest 54 = .ok (.ireturn, 1) := by decide +kernel
theorem dX8_largest_55 : decode cX8_largest 55 = .ok (.aload_n 0, 1) := by decide +kernel
theorem dX8_largest_56 : decode cX8_largest 56 = .ok (.dup, 1) := by decide +kernel
theorem dX8_largest_57 : decode cX8_largest 57 = .ok (.getfield 190, 3) := by decide +kernel
theorem dX8_largest_60 : decode cX8_largest 60 = .ok (.iconst 1, 1) := by decide +kernel
theorem dX8_largest_61 : decode cX8_largest 61 = .ok (.iadd, 1) := by decide +kernel
theorem dX8_largest_62 : decode cX8_largest 62 = .ok (.putfield 190, 3) := by decide +kernel
theorem dX8_largest_65 : decode cX8_largest 65 = .ok (.aload_n 0, 1) := by decide +kernel
theorem dX8_largest_66 : decode cX8_largest 66 = .ok (.iload_n 1, 1) := by decide +kernel
theorem dX8_largest_67 : decode cX8_largest 67 = .ok (.iload_n 2, 1) := by decide +kernel
theorem dX8_largest_68 : decode cX8_largest 68 = .ok (.invokevirtual 193, 3) := by decide +kernel
theorem dX8_largest_71 : decode cX8_largest 71 = .ok (.iload_n 3, 1) := by decide +kernel
theorem dX8_largest_72 : decode cX8_largest 72 = .ok (.ifCond .ne 10, 3) := by decide +kernel
theorem dX8_largest_75 : decode cX8_largest 75 = .ok (.aload_n 0, 1) := by decide +kernel
theorem dX8_largest_76 : decode cX8_largest 76 = .ok (.getfield 175, 3) := by decide +kernel
theorem dX8_largest_79 : decode cX8_largest 79 = .ok (.goto 7, 3) := by decide +kernel
theorem dX8_largest_82 : decode cX8_largest 82 = .ok (.aload_n 0, 1) := by decide +kernel
theorem dX8_largest_83 : decode cX8_largest 83 = .ok (.getfield 178, 3) := by decide +kernel
theorem dX8_largest_86 : decode cX8_largest 86 = .ok (.ireturn, 1) := by decide +kernel
theorem dX8_comesNow_0 : decode cX8_comesNow 0 = .ok (.aload_n 0, 1) := by decide +kernel
theorem dX8_comesNow_1 : decode cX8_comesNow 1 = .ok (.getfield 23, 3) := by decide +kernel
theorem dX8_comesNow_4 : decode cX8_comesNow 4 = .ok (.iload_n 1, 1) := by decide +kernel
theorem dX8_comesNow_5 : decode cX8_comesNow 5 = .ok (.iaload, 1) := by decide +kernel
theorem dX8_comesNow_6 : decode cX8_comesNow 6 = .ok (.iload_n 2, 1) := by decide +kernel
theorem dX8_comesNow_7 : decode cX8_comesNow 7 = .ok (.if_icmp .ne 5, 3) := by decide +kernel
theorem dX8_comesNow_10 : decode cX8_comesNow 10 = .ok (.iconst 0, 1) := by decide +kernel
theorem dX8_comesNow_11 : decode cX8_comesNow 11 = .ok (.ireturn, 1) := by decide +kernel
theorem dX8_comesNow_12 : decode cX8_comesNow 12 = .ok (.aload_n 0, 1) := by decide +kernel
theorem dX8_comesNow_13 : decode cX8_comesNow 13 = .ok (.iload_n 1, 1) := by decide +kernel
theorem dX8_comesNow_14 : decode cX8_comesNow 14 = .ok (.invokevirtual 181, 3) := by decide +kernel
theorem dX8_comesNow_17 : decode cX8_comesNow 17 = .ok (.iconst 1, 1) := by decide +kernel
theorem dX8_comesNow_18 : decode cX8_comesNow 18 = .ok (.istore_n 3, 1) := by decide +kernel
theorem dX8_comesNow_19 : decode cX8_comesNow 19 = .ok (.iload_n 3, 1) := by decide +kernel
theorem dX8_comesNow_20 : decode cX8_comesNow 20 = .ok (.bipush 6, 2) := by decide +kernel
theorem dX8_comesNow_22 : decode cX8_comesNow 22 = .ok (.if_icmp .gt 71, 3) := by decide +kernel
theorem dX8_comesNow_25 : decode cX8_comesNow 25 = .ok (.iconst 0, 1) := by decide +kernel
theorem dX8_comesNow_26 : decode cX8_comesNow 26 = .ok (.istore 4, 2) := by decide +kernel
theorem dX8_comesNow_28 : decode cX8_comesNow 28 = .ok (.iload 4, 2) := by decide +kernel
theorem dX8_comesNow_30 : decode cX8_comesNow 30 = .ok (.iload_n 3, 1) := by decide +kernel
theorem dX8_comesNow_31 : decode cX8_comesNow 31 = .ok (.invokestatic 172, 3) := by decide +kernel
theorem dX8_comesNow_34 : decode cX8_comesNow 34 = .ok (.if_icmp .ge 53, 3) := by decide +kernel
theorem dX8_comesNow_37 : decode cX8_comesNow 37 = .ok (.aload_n 0, 1) := by decide +kernel
theorem dX8_comesNow_38 : decode cX8_comesNow 38 = .ok (.iload_n 1, 1) := by decide +kernel
theorem dX8_comesNow_39 : decode cX8_comesNow 39 = .ok (.iload 4, 2) := by decide +kernel
theorem dX8_comesNow_41 : decode cX8_comesNow 41 = .ok (.iload_n 3, 1) := by decide +kernel
theorem dX8_comesNow_42 : decode cX8_comesNow 42 = .ok (.invokevirtual 184, 3) := by decide +kernel
theorem dX8_comesNow_45 : decode cX8_comesNow 45 = .ok (.istore 5, 2) := by decide +kernel
theorem dX8_comesNow_47 : decode cX8_comesNow 47 = .ok (.aload_n 0, 1) := by decide +kernel
theorem dX8_comesNow_48 : decode cX8_comesNow 48 = .ok (.getfield 23, 3) := by decide +kernel
theorem dX8_comesNow_51 : decode cX8_comesNow 51 = .ok (.iload_n 1, 1) := by decide +kernel
theorem dX8_comesNow_52 : decode cX8_comesNow 52 = .ok (.iaload, 1) := by decide +kernel
theorem dX8_comesNow_53 : decode cX8_comesNow 53 = .ok (.iload_n 2, 1) := by decide +kernel
theorem dX8_comesNow_54 : decode cX8_comesNow 54 = .ok (.if_icmp .ne 7, 3) := by decide +kernel
theorem dX8_comesNow_57 : decode cX8_comesNow 57 = .ok (.iconst 1, 1) := by decide +kernel
theorem dX8_comesNow_58 : decode cX8_comesNow 58 = .ok (.goto 4, 3) := by decide +kernel
theorem dX8_comesNow_61 : decode cX8_comesNow 61 = .ok (.iconst 0, 1) := by decide +kernel
theorem dX8_comesNow_62 : decode cX8_comesNow 62 = .ok (.istore 6, 2) := by decide +kernel
theorem dX8_comesNow_64 : decode cX8_comesNow 64 = .ok (.aload_n 0, 1) := by decide +kernel
theorem dX8_comesNow_65 : decode cX8_comesNow 65 = .ok (.iload_n 1, 1) := by decide +kernel
theorem dX8_comesNow_66 : decode cX8_comesNow 66 = .ok (.invokevirtual 187, 3) := by decide +kernel
theorem dX8_comesNow_69 : decode cX8_comesNow 69 = .ok (.iload 5, 2) := by decide +kernel
theorem dX8_comesNow_71 : decode cX8_comesNow 71 = .ok (.ifCond .eq 10, 3) := by decide +kernel
theorem dX8_comesNow_74 : decode cX8_comesNow 74 = .ok (.iload 6, 2) := by decide +kernel
theorem dX8_comesNow_76 : decode cX8_comesNow 76 = .ok (.ifCond .eq 5, 3) := by decide +kernel
theorem dX8_comesNow_79 : decode cX8_comesNow 79 = .ok (.iload_n 3, 1) := by decide +kernel
theorem dX8_comesNow_80 : decode cX8_comesNow 80 = .ok (.ireturn, 1) := by decide +kernel
theorem dX8_comesNow_81 : decode cX8_comesNow 81 = .ok (.iinc 4 1, 3) := by decide +kernel
theorem dX8_comesNow_84 : decode cX8_comesNow 84 = .ok (.goto (-56), 3) := by decide +kernel
theorem dX8_comesNow_87 : decode cX8_comesNow 87 = .ok (.iinc 3 1, 3) := by decide +kernel
theorem dX8_comesNow_90 : decode cX8_comesNow 90 = .ok (.goto (-71), 3) := by decide +kernel
theorem dX8_comesNow_93 : decode cX8_comesNow 93 = .ok (.iconst (-1), 1) := by decide +kernel
theorem dX8_comesNow_94 : decode cX8_comesNow 94 = .ok (.ireturn, 1) := by decide +kernel
theorem dX8_comes_0 : decode cX8_comes 0 = .ok (.aload_n 0, 1) := by decide +kernel
theorem dX8_comes_1 : decode cX8_comes 1 = .ok (.iload_n 1, 1) := by decide +kernel
theorem dX8_comes_2 : decode cX8_comes 2 = .ok (.invokevirtual 123, 3) := by decide +kernel
theorem dX8_comes_5 : decode cX8_comes 5 = .ok (.ifCond .eq 10, 3) := by decide +kernel
theorem dX8_comes_8 : decode cX8_comes 8 = .ok (.iload_n 2, 1) := by decide +kernel
theorem dX8_comes_9 : decode cX8_comes 9 = .ok (.invokestatic 103, 3) := by decide +kernel
theorem dX8_comes_12 : decode cX8_comes 12 = .ok (.ifCond .ne 6, 3) := by decide +kernel
theorem dX8_comes_15 : decode cX8_comes 15 = .ok (.bipush (-101), 2) := by decide +kernel
theorem dX8_comes_17 : decode cX8_comes 17 = .ok (.ireturn, 1) := by decide +kernel
theorem dX8_comes_18 : decode cX8_comes 18 = .ok (.aload_n 0, 1) := by decide +kernel
theorem dX8_comes_19 : decode cX8_comes 19 = .ok (.getfield 23, 3) := by decide +kernel
theorem dX8_comes_22 : decode cX8_comes 22 = .ok (.iload_n 1, 1) := by decide +kernel
theorem dX8_comes_23 : decode cX8_comes 23 = .ok (.iaload, 1) := by decide +kernel
theorem dX8_comes_24 : decode cX8_comes 24 = .ok (.iconst (-1), 1) := by decide +kernel
theorem dX8_comes_25 : decode cX8_comes 25 = .ok (.if_icmp .eq 12, 3) := by decide +kernel
theorem dX8_comes_28 : decode cX8_comes 28 = .ok (.aload_n 0, 1) := by decide +kernel
theorem dX8_comes_29 : decode cX8_comes 29 = .ok (.getfield 190, 3) := by decide +kernel
theorem dX8_comes_32 : decode cX8_comes 32 = .ok (.bipush 60, 2) := by decide +kernel
theorem dX8_comes_34 : decode cX8_comes 34 = .ok (.if_icmp .ne 6, 3) := by decide +kernel
theorem dX8_comes_37 : decode cX8_comes 37 = .ok (.bipush (-103), 2) := by decide +kernel
theorem dX8_comes_39 : decode cX8_comes 39 = .ok (.ireturn, 1) := by decide +kernel
theorem dX8_comes_40 : decode cX8_comes 40 = .ok (.aload_n 0, 1) := by decide +kernel
theorem dX8_comes_41 : decode cX8_comes 41 = .ok (.dup, 1) := by decide +kernel
theorem dX8_comes_42 : decode cX8_comes 42 = .ok (.getfield 190, 3) := by decide +kernel
theorem dX8_comes_45 : decode cX8_comes 45 = .ok (.iconst 1, 1) := by decide +kernel
theorem dX8_comes_46 : decode cX8_comes 46 = .ok (.iadd, 1) := by decide +kernel
theorem dX8_comes_47 : decode cX8_comes 47 = .ok (.putfield 190, 3) := by decide +kernel
theorem dX8_comes_50 : decode cX8_comes 50 = .ok (.aload_n 0, 1) := by decide +kernel
theorem dX8_comes_51 : decode cX8_comes 51 = .ok (.iload_n 1, 1) := by decide +kernel
theorem dX8_comes_52 : decode cX8_comes 52 = .ok (.iload_n 2, 1) := by decide +kernel
theorem dX8_comes_53 : decode cX8_comes 53 = .ok (.invokevirtual 196, 3) := by decide +kernel
theorem dX8_comes_56 : decode cX8_comes 56 = .ok (.ireturn, 1) := by decide +kernel
theorem dX8_mayStand_0 : decode cX8_mayStand 0 = .ok (.aload_n 0, 1) := by decide +kernel
theorem dX8_mayStand_1 : decode cX8_mayStand 1 = .ok (.getfield 23, 3) := by decide +kernel
theorem dX8_mayStand_4 : decode cX8_mayStand 4 = .ok (.iload_n 1, 1) := by decide +kernel
theorem dX8_mayStand_5 : decode cX8_mayStand 5 = .ok (.iaload, 1) := by decide +kernel
theorem dX8_mayStand_6 : decode cX8_mayStand 6 = .ok (.iconst (-1), 1) := by decide +kernel
theorem dX8_mayStand_7 : decode cX8_mayStand 7 = .ok (.if_icmp .eq 27, 3) := by decide +kernel
theorem dX8_mayStand_10 : decode cX8_mayStand 10 = .ok (.aload_n 0, 1) := by decide +kernel
theorem dX8_mayStand_11 : decode cX8_mayStand 11 = .ok (.getfield 23, 3) := by decide +kernel
theorem dX8_mayStand_14 : decode cX8_mayStand 14 = .ok (.iload_n 2, 1) := by decide +kernel
theorem dX8_mayStand_15 : decode cX8_mayStand 15 = .ok (.iaload, 1) := by decide +kernel
theorem dX8_mayStand_16 : decode cX8_mayStand 16 = .ok (.iconst (-1), 1) := by decide +kernel
theorem dX8_mayStand_17 : decode cX8_mayStand 17 = .ok (.if_icmp .eq 17, 3) := by decide +kernel
theorem dX8_mayStand_20 : decode cX8_mayStand 20 = .ok (.aload_n 0, 1) := by decide +kernel
theorem dX8_mayStand_21 : decode cX8_mayStand 21 = .ok (.getfield 23, 3) := by decide +kernel
theorem dX8_mayStand_24 : decode cX8_mayStand 24 = .ok (.iload_n 3, 1) := by decide +kernel
theorem dX8_mayStand_25 : decode cX8_mayStand 25 = .ok (.iaload, 1) := by decide +kernel
theorem dX8_mayStand_26 : decode cX8_mayStand 26 = .ok (.iconst (-1), 1) := by decide +kernel
theorem dX8_mayStand_27 : decode cX8_mayStand 27 = .ok (.if_icmp .eq 7, 3) := by decide +kernel
theorem dX8_mayStand_30 : decode cX8_mayStand 30 = .ok (.iconst 1, 1) := by decide +kernel
theorem dX8_mayStand_31 : decode cX8_mayStand 31 = .ok (.goto 4, 3) := by decide +kernel
theorem dX8_mayStand_34 : decode cX8_mayStand 34 = .ok (.iconst 0, 1) := by decide +kernel
theorem dX8_mayStand_35 : decode cX8_mayStand 35 = .ok (.istore 4, 2) := by decide +kernel
theorem dX8_mayStand_37 : decode cX8_mayStand 37 = .ok (.aload_n 0, 1) := by decide +kernel
theorem dX8_mayStand_38 : decode cX8_mayStand 38 = .ok (.getfield 20, 3) := by decide +kernel
theorem dX8_mayStand_41 : decode cX8_mayStand 41 = .ok (.iload_n 1, 1) := by decide +kernel
theorem dX8_mayStand_42 : decode cX8_mayStand 42 = .ok (.iaload, 1) := by decide +kernel
theorem dX8_mayStand_43 : decode cX8_mayStand 43 = .ok (.aload_n 0, 1) := by decide +kernel
theorem dX8_mayStand_44 : decode cX8_mayStand 44 = .ok (.getfield 20, 3) := by decide +kernel
theorem dX8_mayStand_47 : decode cX8_mayStand 47 = .ok (.iload_n 2, 1) := by decide +kernel
theorem dX8_mayStand_48 : decode cX8_mayStand 48 = .ok (.iaload, 1) := by decide +kernel
theorem dX8_mayStand_49 : decode cX8_mayStand 49 = .ok (.if_icmp .le 22, 3) := by decide +kernel
theorem dX8_mayStand_52 : decode cX8_mayStand 52 = .ok (.aload_n 0, 1) := by decide +kernel
theorem dX8_mayStand_53 : decode cX8_mayStand 53 = .ok (.getfield 20, 3) := by decide +kernel
theorem dX8_mayStand_56 : decode cX8_mayStand 56 = .ok (.iload_n 2, 1) := by decide +kernel
theorem dX8_mayStand_57 : decode cX8_mayStand 57 = .ok (.iaload, 1) := by decide +kernel
theorem dX8_mayStand_58 : decode cX8_mayStand 58 = .ok (.aload_n 0, 1) := by decide +kernel
theorem dX8_mayStand_59 : decode cX8_mayStand 59 = .ok (.getfield 20, 3) := by decide +kernel
theorem dX8_mayStand_62 : decode cX8_mayStand 62 = .ok (.iload_n 3, 1) := by decide +kernel
theorem dX8_mayStand_63 : decode cX8_mayStand 63 = .ok (.iaload, 1) := by decide +kernel
theorem dX8_mayStand_64 : decode cX8_mayStand 64 = .ok (.if_icmp .le 7, 3) := by decide +kernel
theorem dX8_mayStand_67 : decode cX8_mayStand 67 = .ok (.iconst 1, 1) := by decide +kernel
theorem dX8_mayStand_68 : decode cX8_mayStand 68 = .ok (.goto 4, 3) := by decide +kernel
theorem dX8_mayStand_71 : decode cX8_mayStand 71 = .ok (.iconst 0, 1) := by decide +kernel
theorem dX8_mayStand_72 : decode cX8_mayStand 72 = .ok (.istore 5, 2) := by decide +kernel
theorem dX8_mayStand_74 : decode cX8_mayStand 74 = .ok (.iload 4, 2) := by decide +kernel
theorem dX8_mayStand_76 : decode cX8_mayStand 76 = .ok (.ifCond .eq 40, 3) := by decide +kernel
theorem dX8_mayStand_79 : decode cX8_mayStand 79 = .ok (.iload 5, 2) := by decide +kernel
theorem dX8_mayStand_81 : decode cX8_mayStand 81 = .ok (.ifCond .eq 35, 3) := by decide +kernel
theorem dX8_mayStand_84 : decode cX8_mayStand 84 = .ok (.iconst 2, 1) := by decide +kernel
theorem dX8_mayStand_85 : decode cX8_mayStand 85 = .ok (.aload_n 0, 1) := by decide +kernel
theorem dX8_mayStand_86 : decode cX8_mayStand 86 = .ok (.iload_n 2, 1) := by decide +kernel
theorem dX8_mayStand_87 : decode cX8_mayStand 87 = .ok (.invokevirtual 117, 3) := by decide +kernel
theorem dX8_mayStand_90 : decode cX8_mayStand 90 = .ok (.imul, 1) := by decide +kernel
theorem dX8_mayStand_91 : decode cX8_mayStand 91 = .ok (.aload_n 0, 1) := by decide +kernel
theorem dX8_mayStand_92 : decode cX8_mayStand 92 = .ok (.getfield 13, 3) := by decide +kernel
theorem dX8_mayStand_95 : decode cX8_mayStand 95 = .ok (.if_icmp .gt 21, 3) := by decide +kernel
theorem dX8_mayStand_98 : decode cX8_mayStand 98 = .ok (.iconst 2, 1) := by decide +kernel
theorem dX8_mayStand_99 : decode cX8_mayStand 99 = .ok (.aload_n 0, 1) := by decide +kernel
theorem dX8_mayStand_100 : decode cX8_mayStand 100 = .ok (.iload_n 3, 1) := by decide +kernel
theorem dX8_mayStand_101 : decode cX8_mayStand 101 = .ok (.invokevirtual 117, 3) := by decide +kernel
theorem dX8_mayStand_104 : decode cX8_mayStand 104 = .ok (.imul, 1) := by decide +kernel
theorem dX8_mayStand_105 : decode cX8_mayStand 105 = .ok (.aload_n 0, 1) := by decide +kernel
theorem dX8_mayStand_106 : decode cX8_mayStand 106 = .ok (.getfield 13, 3) := by decide +kernel
theorem dX8_mayStand_109 : decode cX8_mayStand 109 = .ok (.if_icmp .gt 7, 3) := by decide +kernel
theorem dX8_mayStand_112 : decode cX8_mayStand 112 = .ok (.iconst 1, 1) := by decide +kernel
theorem dX8_mayStand_113 : decode cX8_mayStand 113 = .ok (.goto 4, 3) := by decide +kernel
theorem dX8_mayStand_116 : decode cX8_mayStand 116 = .ok (.iconst 0, 1) := by decide +kernel
theorem dX8_mayStand_117 : decode cX8_mayStand 117 = .ok (.ireturn, 1) := by decide +kernel
theorem dX8_highestNow_0 : decode cX8_highestNow 0 = .ok (.iconst (-1), 1) := by decide +kernel
theorem dX8_highestNow_1 : decode cX8_highestNow 1 = .ok (.istore_n 2, 1) := by decide +kernel
theorem dX8_highestNow_2 : decode cX8_highestNow 2 = .ok (.iconst (-1), 1) := by decide +kernel
theorem dX8_highestNow_3 : decode cX8_highestNow 3 = .ok (.istore_n 3, 1) := by decide +kernel
theorem dX8_highestNow_4 : decode cX8_highestNow 4 = .ok (.iconst 0, 1) := by decide +kernel
theorem dX8_highestNow_5 : decode cX8_highestNow 5 = .ok (.istore 4, 2) := by decide +kernel
theorem dX8_highestNow_7 : decode cX8_highestNow 7 = .ok (.iload 4, 2) := by decide +kernel
theorem dX8_highestNow_9 : decode cX8_highestNow 9 = .ok (.bipush 64, 2) := by decide +kernel
theorem dX8_highestNow_11 : decode cX8_highestNow 11 = .ok (.if_icmp .ge 158, 3) := by decide +kernel
theorem dX8_highestNow_14 : decode cX8_highestNow 14 = .ok (.iload 4, 2) := by decide +kernel
theorem dX8_highestNow_16 : decode cX8_highestNow 16 = .ok (.bipush 16, 2) := by decide +kernel
theorem dX8_highestNow_18 : decode cX8_highestNow 18 = .ok (.idiv, 1) := by decide +kernel
theorem dX8_highestNow_19 : decode cX8_highestNow 19 = .ok (.istore 5, 2) := by decide +kernel
theorem dX8_highestNow_21 : decode cX8_highestNow 21 = .ok (.iload 4, 2) := by decide +kernel
theorem dX8_highestNow_23 : decode cX8_highestNow 23 = .ok (.iconst 4, 1) := by decide +kernel
theorem dX8_highestNow_24 : decode cX8_highestNow 24 = .ok (.idiv, 1) := by decide +kernel
theorem dX8_highestNow_25 : decode cX8_highestNow 25 = .ok (.iconst 4, 1) := by decide +kernel
theorem dX8_highestNow_26 : decode cX8_highestNow 26 = .ok (.irem, 1) := by decide +kernel
theorem dX8_highestNow_27 : decode cX8_highestNow 27 = .ok (.istore 6, 2) := by decide +kernel
theorem dX8_highestNow_29 : decode cX8_highestNow 29 = .ok (.iload 4, 2) := by decide +kernel
theorem dX8_highestNow_31 : decode cX8_highestNow 31 = .ok (.iconst 4, 1) := by decide +kernel
theorem dX8_highestNow_32 : decode cX8_highestNow 32 = .ok (.irem, 1) := by decide +kernel
theorem dX8_highestNow_33 : decode cX8_highestNow 33 = .ok (.istore 7, 2) := by decide +kernel
theorem dX8_highestNow_35 : decode cX8_highestNow 35 = .ok (.iload 5, 2) := by decide +kernel
theorem dX8_highestNow_37 : decode cX8_highestNow 37 = .ok (.aload_n 0, 1) := by decide +kernel
theorem dX8_highestNow_38 : decode cX8_highestNow 38 = .ok (.getfield 92, 3) := by decide +kernel
theorem dX8_highestNow_41 : decode cX8_highestNow 41 = .ok (.if_icmp .ge 122, 3) := by decide +kernel
theorem dX8_highestNow_44 : decode cX8_highestNow 44 = .ok (.iload 6, 2) := by decide +kernel
theorem dX8_highestNow_46 : decode cX8_highestNow 46 = .ok (.aload_n 0, 1) := by decide +kernel
theorem dX8_highestNow_47 : decode cX8_highestNow 47 = .ok (.getfield 92, 3) := by decide +kernel
theorem dX8_highestNow_50 : decode cX8_highestNow 50 = .ok (.if_icmp .ge 113, 3) := by decide +kernel
theorem dX8_highestNow_53 : decode cX8_highestNow 53 = .ok (.iload 7, 2) := by decide +kernel
theorem dX8_highestNow_55 : decode cX8_highestNow 55 = .ok (.aload_n 0, 1) := by decide +kernel
theorem dX8_highestNow_56 : decode cX8_highestNow 56 = .ok (.getfield 92, 3) := by decide +kernel
theorem dX8_highestNow_59 : decode cX8_highestNow 59 = .ok (.if_icmp .ge 104, 3) := by decide +kernel
theorem dX8_highestNow_62 : decode cX8_highestNow 62 = .ok (.aload_n 0, 1) := by decide +kernel
theorem dX8_highestNow_63 : decode cX8_highestNow 63 = .ok (.iload 5, 2) := by decide +kernel
theorem dX8_highestNow_65 : decode cX8_highestNow 65 = .ok (.iload 6, 2) := by decide +kernel
theorem dX8_highestNow_67 : decode cX8_highestNow 67 = .ok (.iload 7, 2) := by decide +kernel
theorem dX8_highestNow_69 : decode cX8_highestNow 69 = .ok (.invokevirtual 199, 3) := by decide +kernel
theorem dX8_highestNow_72 : decode cX8_highestNow 72 = .ok (.ifCond .eq 91, 3) := by decide +kernel
theorem dX8_highestNow_75 : decode cX8_highestNow 75 = .ok (.aload_n 0, 1) := by decide +kernel
theorem dX8_highestNow_76 : decode cX8_highestNow 76 = .ok (.getfield 20, 3) := by decide +kernel
theorem dX8_highestNow_79 : decode cX8_highestNow 79 = .ok (.iload 5, 2) := by decide +kernel
theorem dX8_highestNow_81 : decode cX8_highestNow 81 = .ok (.iaload, 1) := by decide +kernel
theorem dX8_highestNow_82 : decode cX8_highestNow 82 = .ok (.invokestatic 99, 3) := by decide +kernel
theorem dX8_highestNow_85 : decode cX8_highestNow 85 = .ok (.aload_n 0, 1) := by decide +kernel
theorem dX8_highestNow_86 : decode cX8_highestNow 86 = .ok (.getfield 20, 3) := by decide +kernel
theorem dX8_highestNow_89 : decode cX8_highestNow 89 = .ok (.iload 6, 2) := by decide +kernel
theorem dX8_highestNow_91 : decode cX8_highestNow 91 = .ok (.iaload, 1) := by decide +kernel
theorem dX8_highestNow_92 : decode cX8_highestNow 92 = .ok (.invokestatic 99, 3) := by decide +kernel
theorem dX8_highestNow_95 : decode cX8_highestNow 95 = .ok (.iadd, 1) := by decide +kernel
theorem dX8_highestNow_96 : decode cX8_highestNow 96 = .ok (.aload_n 0, 1) := by decide +kernel
theorem dX8_highestNow_97 : decode cX8_highestNow 97 = .ok (.getfield 20, 3) := by decide +kernel
theorem dX8_highestNow_100 : decode cX8_highestNow 100 = .ok (.iload 7, 2) := by decide +kernel
theorem dX8_highestNow_102 : decode cX8_highestNow 102 = .ok (.iaload, 1) := by decide +kernel
theorem dX8_highestNow_103 : decode cX8_highestNow 103 = .ok (.invokestatic 99, 3) := by decide +kernel
theorem dX8_highestNow_106 : decode cX8_highestNow 106 = .ok (.iadd, 1) := by decide +kernel
theorem dX8_highestNow_107 : decode cX8_highestNow 107 = .ok (.istore 8, 2) := by decide +kernel
theorem dX8_highestNow_109 : decode cX8_highestNow 109 = .ok (.iconst 1, 1) := by decide +kernel
theorem dX8_highestNow_110 : decode cX8_highestNow 110 = .ok (.iload 5, 2) := by decide +kernel
theorem dX8_highestNow_112 : decode cX8_highestNow 112 = .ok (.ishl, 1) := by decide +kernel
theorem dX8_highestNow_113 : decode cX8_highestNow 113 = .ok (.iconst 1, 1) := by decide +kernel
theorem dX8_highestNow_114 : decode cX8_highestNow 114 = .ok (.iload 6, 2) := by decide +kernel
theorem dX8_highestNow_116 : decode cX8_highestNow 116 = .ok (.ishl, 1) := by decide +kernel
theorem dX8_highestNow_117 : decode cX8_highestNow 117 = .ok (.ior, 1) := by decide +kernel
theorem dX8_highestNow_118 : decode cX8_highestNow 118 = .ok (.iconst 1, 1) := by decide +kernel
theorem dX8_highestNow_119 : decode cX8_highestNow 119 = .ok (.iload 7, 2) := by decide +kernel
theorem dX8_highestNow_121 : decode cX8_highestNow 121 = .ok (.ishl, 1) := by decide +kernel
theorem dX8_highestNow_122 : decode cX8_highestNow 122 = .ok (.ior, 1) := by decide +kernel
theorem dX8_highestNow_123 : decode cX8_highestNow 123 = .ok (.istore 9, 2) := by decide +kernel
theorem dX8_highestNow_125 : decode cX8_highestNow 125 = .ok (.iload 8, 2) := by decide +kernel
theorem dX8_highestNow_127 : decode cX8_highestNow 127 = .ok (.iload_n 2, 1) := by decide +kernel
theorem dX8_highestNow_128 : decode cX8_highestNow 128 = .ok (.if_icmp .gt 15, 3) := by decide +kernel
theorem dX8_highestNow_131 : decode cX8_highestNow 131 = .ok (.iload 8, 2) := by decide +kernel
theorem dX8_highestNow_133 : decode cX8_highestNow 133 = .ok (.iload_n 2, 1) := by decide +kernel
theorem dX8_highestNow_134 : decode cX8_highestNow 134 = .ok (.if_icmp .ne 14, 3) := by decide +kernel
theorem dX8_highestNow_137 : decode cX8_highestNow 137 = .ok (.iload 9, 2) := by decide +kernel
theorem dX8_highestNow_139 : decode cX8_highestNow 139 = .ok (.iload_n 3, 1) := by decide +kernel
theorem dX8_highestNow_140 : decode cX8_highestNow 140 = .ok (.if_icmp .ge 8, 3) := by decide +kernel
theorem dX8_highestNow_143 : decode cX8_highestNow 143 = .ok (.iload 9, 2) := by decide +kernel
theorem dX8_highestNow_145 : decode cX8_highestNow 145 = .ok (.goto 4, 3) := by decide +kernel
theorem dX8_highestNow_148 : decode cX8_highestNow 148 = .ok (.iload_n 3, 1) := by decide +kernel
theorem dX8_highestNow_149 : decode cX8_highestNow 149 = .ok (.istore_n 3, 1) := by decide +kernel
theorem dX8_highestNow_150 : decode cX8_highestNow 150 = .ok (.iload 8, 2) := by decide +kernel
theorem dX8_highestNow_152 : decode cX8_highestNow 152 = .ok (.iload_n 2, 1) := by decide +kernel
theorem dX8_highestNow_153 : decode cX8_highestNow 153 = .ok (.if_icmp .le 8, 3) := by decide +kernel
theorem dX8_highestNow_156 : decode cX8_highestNow 156 = .ok (.iload 8, 2) := by decide +kernel
theorem dX8_highestNow_158 : decode cX8_highestNow 158 = .ok (.goto 4, 3) := by decide +kernel
theorem dX8_highestNow_161 : decode cX8_highestNow 161 = .ok (.iload_n 2, 1) := by decide +kernel
theorem dX8_highestNow_162 : decode cX8_highestNow 162 = .ok (.istore_n 2, 1) := by decide +kernel
theorem dX8_highestNow_163 : decode cX8_highestNow 163 = .ok (.iinc 4 1, 3) := by decide +kernel
theorem dX8_highestNow_166 : decode cX8_highestNow 166 = .ok (.goto (-159), 3) := by decide +kernel
theorem dX8_highestNow_169 : decode cX8_highestNow 169 = .ok (.iload_n 1, 1) := by decide +kernel
theorem dX8_highestNow_170 : decode cX8_highestNow 170 = .ok (.ifCond .ne 7, 3) := by decide +kernel
theorem dX8_highestNow_173 : decode cX8_highestNow 173 = .ok (.iload_n 2, 1) := by decide +kernel
theorem dX8_highestNow_174 : decode cX8_highestNow 174 = .ok (.goto 4, 3) := by decide +kernel
theorem dX8_highestNow_177 : decode cX8_highestNow 177 = .ok (.iload_n 3, 1) := by decide +kernel
theorem dX8_highestNow_178 : decode cX8_highestNow 178 = .ok (.ireturn, 1) := by decide +kernel
theorem dX8_highest_0 : decode cX8_highest 0 = .ok (.iload_n 1, 1) := by decide +kernel
theorem dX8_highest_1 : decode cX8_highest 1 = .ok (.iconst 0, 1) := by decide +kernel
theorem dX8_highest_2 : decode cX8_highest 2 = .ok (.iconst 1, 1) := by decide +kernel
theorem dX8_highest_3 : decode cX8_highest 3 = .ok (.invokestatic 66, 3) := by decide +kernel
theorem dX8_highest_6 : decode cX8_highest 6 = .ok (.ifCond .eq 11, 3) := by decide +kernel
theorem dX8_highest_9 : decode cX8_highest 9 = .ok (.aload_n 0, 1) := by decide +kernel
theorem dX8_highest_10 : decode cX8_highest 10 = .ok (.iload_n 1, 1) := by decide +kernel
theorem dX8_highest_11 : decode cX8_highest 11 = .ok (.invokevirtual 202, 3) := by decide +kernel
theorem dX8_highest_14 : decode cX8_highest 14 = .ok (.goto 5, 3) := by decide +kernel
theorem dX8_highest_17 : decode cX8_highest 17 = .ok (.bipush (-102), 2) := by decide +kernel
theorem dX8_highest_19 : decode cX8_highest 19 = .ok (.ireturn, 1) := by decide +kernel
theorem dX8_lastsNow_0 : decode cX8_lastsNow 0 = .ok (.iconst (-1), 1) := by decide +kernel
theorem dX8_lastsNow_1 : decode cX8_lastsNow 1 = .ok (.istore_n 2, 1) := by decide +kernel
theorem dX8_lastsNow_2 : decode cX8_lastsNow 2 = .ok (.iconst 0, 1) := by decide +kernel
theorem dX8_lastsNow_3 : decode cX8_lastsNow 3 = .ok (.istore_n 3, 1) := by decide +kernel
theorem dX8_lastsNow_4 : decode cX8_lastsNow 4 = .ok (.iload_n 3, 1) := by decide +kernel
theorem dX8_lastsNow_5 : decode cX8_lastsNow 5 = .ok (.aload_n 0, 1) := by decide +kernel
theorem dX8_lastsNow_6 : decode cX8_lastsNow 6 = .ok (.getfield 92, 3) := by decide +kernel
theorem dX8_lastsNow_9 : decode cX8_lastsNow 9 = .ok (.if_icmp .ge 65, 3) := by decide +kernel
theorem dX8_lastsNow_12 : decode cX8_lastsNow 12 = .ok (.aload_n 0, 1) := by decide +kernel
theorem dX8_lastsNow_13 : decode cX8_lastsNow 13 = .ok (.getfield 23, 3) := by decide +kernel
theorem dX8_lastsNow_16 : decode cX8_lastsNow 16 = .ok (.iload_n 3, 1) := by decide +kernel
theorem dX8_lastsNow_17 : decode cX8_lastsNow 17 = .ok (.iaload, 1) := by decide +kernel
theorem dX8_lastsNow_18 : decode cX8_lastsNow 18 = .ok (.iconst (-1), 1) := by decide +kernel
theorem dX8_lastsNow_19 : decode cX8_lastsNow 19 = .ok (.if_icmp .eq 49, 3) := by decide +kernel
theorem dX8_lastsNow_22 : decode cX8_lastsNow 22 = .ok (.aload_n 0, 1) := by decide +kernel
theorem dX8_lastsNow_23 : decode cX8_lastsNow 23 = .ok (.getfield 17, 3) := by decide +kernel
theorem dX8_lastsNow_26 : decode cX8_lastsNow 26 = .ok (.iload_n 3, 1) := by decide +kernel
theorem dX8_lastsNow_27 : decode cX8_lastsNow 27 = .ok (.iaload, 1) := by decide +kernel
theorem dX8_lastsNow_28 : decode cX8_lastsNow 28 = .ok (.iload_n 1, 1) := by decide +kernel
theorem dX8_lastsNow_29 : decode cX8_lastsNow 29 = .ok (.invokestatic 156, 3) := by decide +kernel
theorem dX8_lastsNow_32 : decode cX8_lastsNow 32 = .ok (.istore 4, 2) := by decide +kernel
theorem dX8_lastsNow_34 : decode cX8_lastsNow 34 = .ok (.aload_n 0, 1) := by decide +kernel
theorem dX8_lastsNow_35 : decode cX8_lastsNow 35 = .ok (.getfield 20, 3) := by decide +kernel
theorem dX8_lastsNow_38 : decode cX8_lastsNow 38 = .ok (.iload_n 3, 1) := by decide +kernel
theorem dX8_lastsNow_39 : decode cX8_lastsNow 39 = .ok (.iaload, 1) := by decide +kernel
theorem dX8_lastsNow_40 : decode cX8_lastsNow 40 = .ok (.iload 4, 2) := by decide +kernel
theorem dX8_lastsNow_42 : decode cX8_lastsNow 42 = .ok (.iadd, 1) := by decide +kernel
theorem dX8_lastsNow_43 : decode cX8_lastsNow 43 = .ok (.iconst 1, 1) := by decide +kernel
theorem dX8_lastsNow_44 : decode cX8_lastsNow 44 = .ok (.isub, 1) := by decide +kernel
theorem dX8_lastsNow_45 : decode cX8_lastsNow 45 = .ok (.iload 4, 2) := by decide +kernel
theorem dX8_lastsNow_47 : decode cX8_lastsNow 47 = .ok (.idiv, 1) := by decide +kernel
theorem dX8_lastsNow_48 : decode cX8_lastsNow 48 = .ok (.istore 5, 2) := by decide +kernel
theorem dX8_lastsNow_50 : decode cX8_lastsNow 50 = .ok (.iload_n 2, 1) := by decide +kernel
theorem dX8_lastsNow_51 : decode cX8_lastsNow 51 = .ok (.iconst (-1), 1) := by decide +kernel
theorem dX8_lastsNow_52 : decode cX8_lastsNow 52 = .ok (.if_icmp .eq 9, 3) := by decide +kernel
theorem dX8_lastsNow_55 : decode cX8_lastsNow 55 = .ok (.iload 5, 2) := by decide +kernel
theorem dX8_lastsNow_57 : decode cX8_lastsNow 57 = .ok (.iload_n 2, 1) := by decide +kernel
theorem dX8_lastsNow_58 : decode cX8_lastsNow 58 = .ok (.if_icmp .ge 8, 3) := by decide +kernel
theorem dX8_lastsNow_61 : decode cX8_lastsNow 61 = .ok (.iload 5, 2) := by decide +kernel
theorem dX8_lastsNow_63 : decode cX8_lastsNow 63 = .ok (.goto 4, 3) := by decide +kernel
theorem dX8_lastsNow_66 : decode cX8_lastsNow 66 = .ok (.iload_n 2, 1) := by decide +kernel
theorem dX8_lastsNow_67 : decode cX8_lastsNow 67 = .ok (.istore_n 2, 1) := by decide +kernel
theorem dX8_lastsNow_68 : decode cX8_lastsNow 68 = .ok (.iinc 3 1, 3) := by decide +kernel
theorem dX8_lastsNow_71 : decode cX8_lastsNow 71 = .ok (.goto (-67), 3) := by decide +kernel
theorem dX8_lastsNow_74 : decode cX8_lastsNow 74 = .ok (.iload_n 2, 1) := by decide +kernel
theorem dX8_lastsNow_75 : decode cX8_lastsNow 75 = .ok (.ireturn, 1) := by decide +kernel
theorem dX8_lasts_0 : decode cX8_lasts 0 = .ok (.iload_n 1, 1) := by decide +kernel
theorem dX8_lasts_1 : decode cX8_lasts 1 = .ok (.iconst 1, 1) := by decide +kernel
theorem dX8_lasts_2 : decode cX8_lasts 2 = .ok (.bipush 9, 2) := by decide +kernel
theorem dX8_lasts_4 : decode cX8_lasts 4 = .ok (.invokestatic 66, 3) := by decide +kernel
theorem dX8_lasts_7 : decode cX8_lasts 7 = .ok (.ifCond .eq 11, 3) := by decide +kernel
theorem dX8_lasts_10 : decode cX8_lasts 10 = .ok (.aload_n 0, 1) := by decide +kernel
theorem dX8_lasts_11 : decode cX8_lasts 11 = .ok (.iload_n 1, 1) := by decide +kernel
theorem dX8_lasts_12 : decode cX8_lasts 12 = .ok (.invokevirtual 205, 3) := by decide +kernel
theorem dX8_lasts_15 : decode cX8_lasts 15 = .ok (.goto 5, 3) := by decide +kernel
theorem dX8_lasts_18 : decode cX8_lasts 18 = .ok (.bipush (-102), 2) := by decide +kernel
theorem dX8_lasts_20 : decode cX8_lasts 20 = .ok (.ireturn, 1) := by decide +kernel
theorem dX8_bookNow_0 : decode cX8_bookNow 0 = .ok (.iconst 0, 1) := by decide +kernel
theorem dX8_bookNow_1 : decode cX8_bookNow 1 = .ok (.istore 5, 2) := by decide +kernel
theorem dX8_bookNow_3 : decode cX8_bookNow 3 = .ok (.aload_n 0, 1) := by decide +kernel
theorem dX8_bookNow_4 : decode cX8_bookNow 4 = .ok (.iconst 4, 1) := by decide +kernel
theorem dX8_bookNow_5 : decode cX8_bookNow 5 = .ok (.iload_n 1, 1) := by decide +kernel
theorem dX8_bookNow_6 : decode cX8_bookNow 6 = .ok (.iload_n 2, 1) := by decide +kernel
theorem dX8_bookNow_7 : decode cX8_bookNow 7 = .ok (.invokevirtual 113, 3) := by decide +kernel
theorem dX8_bookNow_10 : decode cX8_bookNow 10 = .ok (.aload_n 0, 1) := by decide +kernel
theorem dX8_bookNow_11 : decode cX8_bookNow 11 = .ok (.iconst 4, 1) := by decide +kernel
theorem dX8_bookNow_12 : decode cX8_bookNow 12 = .ok (.invokevirtual 181, 3) := by decide +kernel
theorem dX8_bookNow_15 : decode cX8_bookNow 15 = .ok (.iconst 0, 1) := by decide +kernel
theorem dX8_bookNow_16 : decode cX8_bookNow 16 = .ok (.istore 6, 2) := by decide +kernel
theorem dX8_bookNow_18 : decode cX8_bookNow 18 = .ok (.iload 6, 2) := by decide +kernel
theorem dX8_bookNow_20 : decode cX8_bookNow 20 = .ok (.iload_n 3, 1) := by decide +kernel
theorem dX8_bookNow_21 : decode cX8_bookNow 21 = .ok (.invokestatic 172, 3) := by decide +kernel
theorem dX8_bookNow_24 : decode cX8_bookNow 24 = .ok (.if_icmp .ge 50, 3) := by decide +kernel
theorem dX8_bookNow_27 : decode cX8_bookNow 27 = .ok (.aload_n 0, 1) := by decide +kernel
theorem dX8_bookNow_28 : decode cX8_bookNow 28 = .ok (.iconst 4, 1) := by decide +kernel
theorem dX8_bookNow_29 : decode cX8_bookNow 29 = .ok (.iload 6, 2) := by decide +kernel
theorem dX8_bookNow_31 : decode cX8_bookNow 31 = .ok (.iload_n 3, 1) := by decide +kernel
theorem dX8_bookNow_32 : decode cX8_bookNow 32 = .ok (.invokevirtual 184, 3) := by decide +kernel
theorem dX8_bookNow_35 : decode cX8_bookNow 35 = .ok (.istore 7, 2) := by decide +kernel
theorem dX8_bookNow_37 : decode cX8_bookNow 37 = .ok (.iload 5, 2) := by decide +kernel
theorem dX8_bookNow_39 : decode cX8_bookNow 39 = .ok (.iload 7, 2) := by decide +kernel
theorem dX8_bookNow_41 : decode cX8_bookNow 41 = .ok (.ifCond .eq 18, 3) := by decide +kernel
theorem dX8_bookNow_44 : decode cX8_bookNow 44 = .ok (.aload_n 0, 1) := by decide +kernel
theorem dX8_bookNow_45 : decode cX8_bookNow 45 = .ok (.getfield 20, 3) := by decide +kernel
theorem dX8_bookNow_48 : decode cX8_bookNow 48 = .ok (.iconst 4, 1) := by decide +kernel
theorem dX8_bookNow_49 : decode cX8_bookNow 49 = .ok (.iaload, 1) := by decide +kernel
theorem dX8_bookNow_50 : decode cX8_bookNow 50 = .ok (.iload 4, 2) := by decide +kernel
theorem dX8_bookNow_52 : decode cX8_bookNow 52 = .ok (.if_icmp .ne 7, 3) := by decide +kernel
theorem dX8_bookNow_55 : decode cX8_bookNow 55 = .ok (.iconst 1, 1) := by decide +kernel
theorem dX8_bookNow_56 : decode cX8_bookNow 56 = .ok (.goto 4, 3) := by decide +kernel
theorem dX8_bookNow_59 : decode cX8_bookNow 59 = .ok (.iconst 0, 1) := by decide +kernel
theorem dX8_bookNow_60 : decode cX8_bookNow 60 = .ok (.iadd, 1) := by decide +kernel
theorem dX8_bookNow_61 : decode cX8_bookNow 61 = .ok (.istore 5, 2) := by decide +kernel
theorem dX8_bookNow_63 : decode cX8_bookNow 63 = .ok (.aload_n 0, 1) := by decide +kernel
theorem dX8_bookNow_64 : decode cX8_bookNow 64 = .ok (.iconst 4, 1) := by decide +kernel
theorem dX8_bookNow_65 : decode cX8_bookNow 65 = .ok (.invokevirtual 187, 3) := by decide +kernel
theorem dX8_bookNow_68 : decode cX8_bookNow 68 = .ok (.iinc 6 1, 3) := by decide +kernel
theorem dX8_bookNow_71 : decode cX8_bookNow 71 = .ok (.goto (-53), 3) := by decide +kernel
theorem dX8_bookNow_74 : decode cX8_bookNow 74 = .ok (.iload 5, 2) := by decide +kernel
theorem dX8_bookNow_76 : decode cX8_bookNow 76 = .ok (.ireturn, 1) := by decide +kernel
theorem dX8_book_0 : decode cX8_book 0 = .ok (.iload_n 1, 1) := by decide +kernel
theorem dX8_book_1 : decode cX8_book 1 = .ok (.iconst 0, 1) := by decide +kernel
theorem dX8_book_2 : decode cX8_book 2 = .ok (.iconst 4, 1) := by decide +kernel
theorem dX8_book_3 : decode cX8_book 3 = .ok (.invokestatic 66, 3) := by decide +kernel
theorem dX8_book_6 : decode cX8_book 6 = .ok (.ifCond .ne 6, 3) := by decide +kernel
theorem dX8_book_9 : decode cX8_book 9 = .ok (.bipush (-102), 2) := by decide +kernel
theorem dX8_book_11 : decode cX8_book 11 = .ok (.ireturn, 1) := by decide +kernel
theorem dX8_book_12 : decode cX8_book 12 = .ok (.iload_n 2, 1) := by decide +kernel
theorem dX8_book_13 : decode cX8_book 13 = .ok (.invokestatic 103, 3) := by decide +kernel
theorem dX8_book_16 : decode cX8_book 16 = .ok (.ifCond .ne 6, 3) := by decide +kernel
theorem dX8_book_19 : decode cX8_book 19 = .ok (.bipush (-101), 2) := by decide +kernel
theorem dX8_book_21 : decode cX8_book 21 = .ok (.ireturn, 1) := by decide +kernel
theorem dX8_book_22 : decode cX8_book 22 = .ok (.iload_n 3, 1) := by decide +kernel
theorem dX8_book_23 : decode cX8_book 23 = .ok (.iconst 0, 1) := by decide +kernel
theorem dX8_book_24 : decode cX8_book 24 = .ok (.iconst 5, 1) := by decide +kernel
theorem dX8_book_25 : decode cX8_book 25 = .ok (.invokestatic 66, 3) := by decide +kernel
theorem dX8_book_28 : decode cX8_book 28 = .ok (.ifCond .eq 14, 3) := by decide +kernel
theorem dX8_book_31 : decode cX8_book 31 = .ok (.iload 4, 2) := by decide +kernel
theorem dX8_book_33 : decode cX8_book 33 = .ok (.iconst 0, 1) := by decide +kernel
theorem dX8_book_34 : decode cX8_book 34 = .ok (.bipush 99, 2) := by decide +kernel
theorem dX8_book_36 : decode cX8_book 36 = .ok (.invokestatic 66, 3) := by decide +kernel
theorem dX8_book_39 : decode cX8_book 39 = .ok (.ifCond .ne 6, 3) := by decide +kernel
theorem dX8_book_42 : decode cX8_book 42 = .ok (.bipush (-102), 2) := by decide +kernel
theorem dX8_book_44 : decode cX8_book 44 = .ok (.ireturn, 1) := by decide +kernel
theorem dX8_book_45 : decode cX8_book 45 = .ok (.aload_n 0, 1) := by decide +kernel
theorem dX8_book_46 : decode cX8_book 46 = .ok (.getfield 82, 3) := by decide +kernel
theorem dX8_book_49 : decode cX8_book 49 = .ok (.ifCond .eq 12, 3) := by decide +kernel
theorem dX8_book_52 : decode cX8_book 52 = .ok (.aload_n 0, 1) := by decide +kernel
theorem dX8_book_53 : decode cX8_book 53 = .ok (.getfield 208, 3) := by decide +kernel
theorem dX8_book_56 : decode cX8_book 56 = .ok (.bipush 60, 2) := by decide +kernel
theorem dX8_book_58 : decode cX8_book 58 = .ok (.if_icmp .ne 6, 3) := by decide +kernel
theorem dX8_book_61 : decode cX8_book 61 = .ok (.bipush (-103), 2) := by decide +kernel
theorem dX8_book_63 : decode cX8_book 63 = .ok (.ireturn, 1) := by decide +kernel
theorem dX8_book_64 : decode cX8_book 64 = .ok (.aload_n 0, 1) := by decide +kernel
theorem dX8_book_65 : decode cX8_book 65 = .ok (.dup, 1) := by decide +kernel
theorem dX8_book_66 : decode cX8_book 66 = .ok (.getfield 208, 3) := by decide +kernel
theorem dX8_book_69 : decode cX8_book 69 = .ok (.iconst 1, 1) := by decide +kernel
theorem dX8_book_70 : decode cX8_book 70 = .ok (.iadd, 1) := by decide +kernel
theorem dX8_book_71 : decode cX8_book 71 = .ok (.putfield 208, 3) := by decide +kernel
theorem dX8_book_74 : decode cX8_book 74 = .ok (.aload_n 0, 1) := by decide +kernel
theorem dX8_book_75 : decode cX8_book 75 = .ok (.iload_n 1, 1) := by decide +kernel
theorem dX8_book_76 : decode cX8_book 76 = .ok (.iload_n 2, 1) := by decide +kernel
theorem dX8_book_77 : decode cX8_book 77 = .ok (.iload_n 3, 1) := by decide +kernel
theorem dX8_book_78 : decode cX8_book 78 = .ok (.iload 4, 2) := by decide +kernel
theorem dX8_book_80 : decode cX8_book 80 = .ok (.invokevirtual 211, 3) := by decide +kernel
theorem dX8_book_83 : decode cX8_book 83 = .ok (.ireturn, 1) := by decide +kernel
theorem dX8_draw_0 : decode cX8_draw 0 = .ok (.aload_n 0, 1) := by decide +kernel
theorem dX8_draw_1 : decode cX8_draw 1 = .ok (.ldc2_w 215, 3) := by decide +kernel
theorem dX8_draw_4 : decode cX8_draw 4 = .ok (.aload_n 0, 1) := by decide +kernel
theorem dX8_draw_5 : decode cX8_draw 5 = .ok (.getfield 217, 3) := by decide +kernel
theorem dX8_draw_8 : decode cX8_draw 8 = .ok (.lmul, 1) := by decide +kernel
theorem dX8_draw_9 : decode cX8_draw 9 = .ok (.ldc2_w 221, 3) := by decide +kernel
theorem dX8_draw_12 : decode cX8_draw 12 = .ok (.ladd, 1) := by decide +kernel
theorem dX8_draw_13 : decode cX8_draw 13 = .ok (.ldc2_w 223, 3) := by decide +kernel
theorem dX8_draw_16 : decode cX8_draw 16 = .ok (.land, 1) := by decide +kernel
theorem dX8_draw_17 : decode cX8_draw 17 = .ok (.putfield 217, 3) := by decide +kernel
theorem dX8_draw_20 : decode cX8_draw 20 = .ok (.aload_n 0, 1) := by decide +kernel
theorem dX8_draw_21 : decode cX8_draw 21 = .ok (.getfield 217, 3) := by decide +kernel
theorem dX8_draw_24 : decode cX8_draw 24 = .ok (.ldc2_w 225, 3) := by decide +kernel
theorem dX8_draw_27 : decode cX8_draw 27 = .ok (.ldiv, 1) := by decide +kernel
theorem dX8_draw_28 : decode cX8_draw 28 = .ok (.iload_n 1, 1) := by decide +kernel
theorem dX8_draw_29 : decode cX8_draw 29 = .ok (.i2l, 1) := by decide +kernel
theorem dX8_draw_30 : decode cX8_draw 30 = .ok (.lrem, 1) := by decide +kernel
theorem dX8_draw_31 : decode cX8_draw 31 = .ok (.l2i, 1) := by decide +kernel
theorem dX8_draw_32 : decode cX8_draw 32 = .ok (.ireturn, 1) := by decide +kernel
theorem dX8_sizeAll_0 : decode cX8_sizeAll 0 = .ok (.iconst 0, 1) := by decide +kernel
theorem dX8_sizeAll_1 : decode cX8_sizeAll 1 = .ok (.istore_n 1, 1) := by decide +kernel
theorem dX8_sizeAll_2 : decode cX8_sizeAll 2 = .ok (.iconst 0, 1) := by decide +kernel
theorem dX8_sizeAll_3 : decode cX8_sizeAll 3 = .ok (.istore_n 2, 1) := by decide +kernel
theorem dX8_sizeAll_4 : decode cX8_sizeAll 4 = .ok (.iload_n 2, 1) := by decide +kernel
theorem dX8_sizeAll_5 : decode cX8_sizeAll 5 = .ok (.aload_n 0, 1) := by decide +kernel
theorem dX8_sizeAll_6 : decode cX8_sizeAll 6 = .ok (.getfield 92, 3) := by decide +kernel
theorem dX8_sizeAll_9 : decode cX8_sizeAll 9 = .ok (.if_icmp .ge 18, 3) := by decide +kernel
theorem dX8_sizeAll_12 : decode cX8_sizeAll 12 = .ok (.iload_n 1, 1) := by decide +kernel
theorem dX8_sizeAll_13 : decode cX8_sizeAll 13 = .ok (.aload_n 0, 1) := by decide +kernel
theorem dX8_sizeAll_14 : decode cX8_sizeAll 14 = .ok (.getfield 20, 3) := by decide +kernel
theorem dX8_sizeAll_17 : decode cX8_sizeAll 17 = .ok (.iload_n 2, 1) := by decide +kernel
theorem dX8_sizeAll_18 : decode cX8_sizeAll 18 = .ok (.iaload, 1) := by decide +kernel
theorem dX8_sizeAll_19 : decode cX8_sizeAll 19 = .ok (.iadd, 1) := by decide +kernel
theorem dX8_sizeAll_20 : decode cX8_sizeAll 20 = .ok (.istore_n 1, 1) := by decide +kernel
theorem dX8_sizeAll_21 : decode cX8_sizeAll 21 = .ok (.iinc 2 1, 3) := by decide +kernel
theorem dX8_sizeAll_24 : decode cX8_sizeAll 24 = .ok (.goto (-20), 3) := by decide +kernel
theorem dX8_sizeAll_27 : decode cX8_sizeAll 27 = .ok (.iload_n 1, 1) := by decide +kernel
theorem dX8_sizeAll_28 : decode cX8_sizeAll 28 = .ok (.ireturn, 1) := by decide +kernel
theorem dX8_gamesNow_0 : decode cX8_gamesNow 0 = .ok (.iconst 0, 1) := by decide +kernel
theorem dX8_gamesNow_1 : decode cX8_gamesNow 1 = .ok (.istore 4, 2) := by decide +kernel
theorem dX8_gamesNow_3 : decode cX8_gamesNow 3 = .ok (.iload 4, 2) := by decide +kernel
theorem dX8_gamesNow_5 : decode cX8_gamesNow 5 = .ok (.bipush 20, 2) := by decide +kernel
theorem dX8_gamesNow_7 : decode cX8_gamesNow 7 = .ok (.if_icmp .ge 23, 3) := by decide +kernel
theorem dX8_gamesNow_10 : decode cX8_gamesNow 10 = .ok (.aload_n 0, 1) := by decide +kernel
theorem dX8_gamesNow_11 : decode cX8_gamesNow 11 = .ok (.getfield 48, 3) := by decide +kernel
theorem dX8_gamesNow_14 : decode cX8_gamesNow 14 = .ok (.iload 4, 2) := by decide +kernel
theorem dX8_gamesNow_16 : decode cX8_gamesNow 16 = .ok (.aload_n 0, 1) := by decide +kernel
theorem dX8_gamesNow_17 : decode cX8_gamesNow 17 = .ok (.getfield 7, 3) := by decide +kernel
theorem dX8_gamesNow_20 : decode cX8_gamesNow 20 = .ok (.iload 4, 2) := by decide +kernel
theorem dX8_gamesNow_22 : decode cX8_gamesNow 22 = .ok (.iaload, 1) := by decide +kernel
theorem dX8_gamesNow_23 : decode cX8_gamesNow 23 = .ok (.iastore, 1) := by decide +kernel
theorem dX8_gamesNow_24 : decode cX8_gamesNow 24 = .ok (.iinc 4 1, 3) := by decide +kernel
theorem dX8_gamesNow_27 : decode cX8_gamesNow 27 = .ok (.goto (-24), 3) := by decide +kernel
theorem dX8_gamesNow_30 : decode cX8_gamesNow 30 = .ok (.iconst 0, 1) := by decide +kernel
theorem dX8_gamesNow_31 : decode cX8_gamesNow 31 = .ok (.istore 4, 2) := by decide +kernel
theorem dX8_gamesNow_33 : decode cX8_gamesNow 33 = .ok (.iload 4, 2) := by decide +kernel
theorem dX8_gamesNow_35 : decode cX8_gamesNow 35 = .ok (.aload_n 0, 1) := by decide +kernel
theorem dX8_gamesNow_36 : decode cX8_gamesNow 36 = .ok (.getfield 92, 3) := by decide +kernel
theorem dX8_gamesNow_39 : decode cX8_gamesNow 39 = .ok (.if_icmp .ge 51, 3) := by decide +kernel
theorem dX8_gamesNow_42 : decode cX8_gamesNow 42 = .ok (.aload_n 0, 1) := by decide +kernel
theorem dX8_gamesNow_43 : decode cX8_gamesNow 43 = .ok (.getfield 39, 3) := by decide +kernel
theorem dX8_gamesNow_46 : decode cX8_gamesNow 46 = .ok (.iload 4, 2) := by decide +kernel
theorem dX8_gamesNow_48 : decode cX8_gamesNow 48 = .ok (.aload_n 0, 1) := by decide +kernel
theorem dX8_gamesNow_49 : decode cX8_gamesNow 49 = .ok (.getfield 20, 3) := by decide +kernel
theorem dX8_gamesNow_52 : decode cX8_gamesNow 52 = .ok (.iload 4, 2) := by decide +kernel
theorem dX8_gamesNow_54 : decode cX8_gamesNow 54 = .ok (.iaload, 1) := by decide +kernel
theorem dX8_gamesNow_55 : decode cX8_gamesNow 55 = .ok (.iastore, 1) := by decide +kernel
theorem dX8_gamesNow_56 : decode cX8_gamesNow 56 = .ok (.aload_n 0, 1) := by decide +kernel
theorem dX8_gamesNow_57 : decode cX8_gamesNow 57 = .ok (.getfield 42, 3) := by decide +kernel
theorem dX8_gamesNow_60 : decode cX8_gamesNow 60 = .ok (.iload 4, 2) := by decide +kernel
theorem dX8_gamesNow_62 : decode cX8_gamesNow 62 = .ok (.aload_n 0, 1) := by decide +kernel
theorem dX8_gamesNow_63 : decode cX8_gamesNow 63 = .ok (.getfield 23, 3) := by decide +kernel
theorem dX8_gamesNow_66 : decode cX8_gamesNow 66 = .ok (.iload 4, 2) := by decide +kernel
theorem dX8_gamesNow_68 : decode cX8_gamesNow 68 = .ok (.iaload, 1) := by decide +kernel
theorem dX8_gamesNow_69 : decode cX8_gamesNow 69 = .ok (.iastore, 1) := by decide +kernel
theorem dX8_gamesNow_70 : decode cX8_gamesNow 70 = .ok (.aload_n 0, 1) := by decide +kernel
theorem dX8_gamesNow_71 : decode cX8_gamesNow 71 = .ok (.getfield 45, 3) := by decide +kernel
theorem dX8_gamesNow_74 : decode cX8_gamesNow 74 = .ok (.iload 4, 2) := by decide +kernel
theorem dX8_gamesNow_76 : decode cX8_gamesNow 76 = .ok (.aload_n 0, 1) := by decide +kernel
theorem dX8_gamesNow_77 : decode cX8_gamesNow 77 = .ok (.getfield 29, 3) := by decide +kernel
theorem dX8_gamesNow_80 : decode cX8_gamesNow 80 = .ok (.iload 4, 2) := by decide +kernel
theorem dX8_gamesNow_82 : decode cX8_gamesNow 82 = .ok (.iaload, 1) := by decide +kernel
theorem dX8_gamesNow_83 : decode cX8_gamesNow 83 = .ok (.iastore, 1) := by decide +kernel
theorem dX8_gamesNow_84 : decode cX8_gamesNow 84 = .ok (.iinc 4 1, 3) := by decide +kernel
theorem dX8_gamesNow_87 : decode cX8_gamesNow 87 = .ok (.goto (-54), 3) := by decide +kernel
theorem dX8_gamesNow_90 : decode cX8_gamesNow 90 = .ok (.aload_n 0, 1) := by decide +kernel
theorem dX8_gamesNow_91 : decode cX8_gamesNow 91 = .ok (.iload_n 2, 1) := by decide +kernel
theorem dX8_gamesNow_92 : decode cX8_gamesNow 92 = .ok (.i2l, 1) := by decide +kernel
theorem dX8_gamesNow_93 : decode cX8_gamesNow 93 = .ok (.putfield 217, 3) := by decide +kernel
theorem dX8_gamesNow_96 : decode cX8_gamesNow 96 = .ok (.iconst 0, 1) := by decide +kernel
theorem dX8_gamesNow_97 : decode cX8_gamesNow 97 = .ok (.istore 4, 2) := by decide +kernel
theorem dX8_gamesNow_99 : decode cX8_gamesNow 99 = .ok (.iconst 0, 1) := by decide +kernel
theorem dX8_gamesNow_100 : decode cX8_gamesNow 100 = .ok (.istore 5, 2) := by decide +kernel
theorem dX8_gamesNow_102 : decode cX8_gamesNow 102 = .ok (.iload 5, 2) := by decide +kernel
theorem dX8_gamesNow_104 : decode cX8_gamesNow 104 = .ok (.iload_n 1, 1) := by decide +kernel
theorem dX8_gamesNow_105 : decode cX8_gamesNow 105 = .ok (.if_icmp .ge 48, 3) := by decide +kernel
theorem dX8_gamesNow_108 : decode cX8_gamesNow 108 = .ok (.aload_n 0, 1) := by decide +kernel
theorem dX8_gamesNow_109 : decode cX8_gamesNow 109 = .ok (.aload_n 0, 1) := by decide +kernel
theorem dX8_gamesNow_110 : decode cX8_gamesNow 110 = .ok (.getfield 92, 3) := by decide +kernel
theorem dX8_gamesNow_113 : decode cX8_gamesNow 113 = .ok (.invokevirtual 227, 3) := by decide +kernel
theorem dX8_gamesNow_116 : decode cX8_gamesNow 116 = .ok (.istore 6, 2) := by decide +kernel
theorem dX8_gamesNow_118 : decode cX8_gamesNow 118 = .ok (.aload_n 0, 1) := by decide +kernel
theorem dX8_gamesNow_119 : decode cX8_gamesNow 119 = .ok (.iconst 4, 1) := by decide +kernel
theorem dX8_gamesNow_120 : decode cX8_gamesNow 120 = .ok (.invokevirtual 227, 3) := by decide +kernel
theorem dX8_gamesNow_123 : decode cX8_gamesNow 123 = .ok (.istore 7, 2) := by decide +kernel
theorem dX8_gamesNow_125 : decode cX8_gamesNow 125 = .ok (.aload_n 0, 1) := by decide +kernel
theorem dX8_gamesNow_126 : decode cX8_gamesNow 126 = .ok (.iload 6, 2) := by decide +kernel
theorem dX8_gamesNow_128 : decode cX8_gamesNow 128 = .ok (.iload 7, 2) := by decide +kernel
theorem dX8_gamesNow_130 : decode cX8_gamesNow 130 = .ok (.invokevirtual 139, 3) := by decide +kernel
theorem dX8_gamesNow_133 : decode cX8_gamesNow 133 = .ok (.ifCond .eq 14, 3) := by decide +kernel
theorem dX8_gamesNow_136 : decode cX8_gamesNow 136 = .ok (.aload_n 0, 1) := by decide +kernel
theorem dX8_gamesNow_137 : decode cX8_gamesNow 137 = .ok (.iload 6, 2) := by decide +kernel
theorem dX8_gamesNow_139 : decode cX8_gamesNow 139 = .ok (.iload 7, 2) := by decide +kernel
theorem dX8_gamesNow_141 : decode cX8_gamesNow 141 = .ok (.invokevirtual 143, 3) := by decide +kernel
theorem dX8_gamesNow_144 : decode cX8_gamesNow 144 = .ok (.iinc 4 1, 3) := by decide +kernel
theorem dX8_gamesNow_147 : decode cX8_gamesNow 147 = .ok (.iinc 5 1, 3) := by decide +kernel
theorem dX8_gamesNow_150 : decode cX8_gamesNow 150 = .ok (.goto (-48), 3) := by decide +kernel
theorem dX8_gamesNow_153 : decode cX8_gamesNow 153 = .ok (.iload_n 3, 1) := by decide +kernel
theorem dX8_gamesNow_154 : decode cX8_gamesNow 154 = .ok (.ifCond .ne 10, 3) := by decide +kernel
theorem dX8_gamesNow_157 : decode cX8_gamesNow 157 = .ok (.aload_n 0, 1) := by decide +kernel
theorem dX8_gamesNow_158 : decode cX8_gamesNow 158 = .ok (.invokevirtual 230, 3) := by decide +kernel
theorem dX8_gamesNow_161 : decode cX8_gamesNow 161 = .ok (.goto 30, 3) := by decide +kernel
theorem dX8_gamesNow_164 : decode cX8_gamesNow 164 = .ok (.iload_n 3, 1) := by decide +kernel
theorem dX8_gamesNow_165 : decode cX8_gamesNow 165 = .ok (.iconst 1, 1) := by decide +kernel
theorem dX8_gamesNow_166 : decode cX8_gamesNow 166 = .ok (.if_icmp .ne 8, 3) := by decide +kernel
theorem dX8_gamesNow_169 : decode cX8_gamesNow 169 = .ok (.iload 4, 2) := by decide +kernel
theorem dX8_gamesNow_171 : decode cX8_gamesNow 171 = .ok (.goto 20, 3) := by decide +kernel
theorem dX8_gamesNow_174 : decode cX8_gamesNow 174 = .ok (.iload_n 3, 1) := by decide +kernel
theorem dX8_gamesNow_175 : decode cX8_gamesNow 175 = .ok (.iconst 2, 1) := by decide +kernel
theorem dX8_gamesNow_176 : decode cX8_gamesNow 176 = .ok (.if_icmp .ne 10, 3) := by decide +kernel
theorem dX8_gamesNow_179 : decode cX8_gamesNow 179 = .ok (.aload_n 0, 1) := by decide +kernel
theorem dX8_gamesNow_180 : decode cX8_gamesNow 180 = .ok (.invokevirtual 95, 3) := by decide +kernel
theorem dX8_gamesNow_183 : decode cX8_gamesNow 183 = .ok (.goto 8, 3) := by decide +kernel
theorem dX8_gamesNow_186 : decode cX8_gamesNow 186 = .ok (.aload_n 0, 1) := by decide +kernel
theorem dX8_gamesNow_187 : decode cX8_gamesNow 187 = .ok (.getfield 217, 3) := by decide +kernel
theorem dX8_gamesNow_190 : decode cX8_gamesNow 190 = .ok (.l2i, 1) := by decide +kernel
theorem dX8_gamesNow_191 : decode cX8_gamesNow 191 = .ok (.istore 5, 2) := by decide +kernel
theorem dX8_gamesNow_193 : decode cX8_gamesNow 193 = .ok (.iconst 0, 1) := by decide +kernel
theorem dX8_gamesNow_194 : decode cX8_gamesNow 194 = .ok (.istore 6, 2) := by decide +kernel
theorem dX8_gamesNow_196 : decode cX8_gamesNow 196 = .ok (.iload 6, 2) := by decide +kernel
theorem dX8_gamesNow_198 : decode cX8_gamesNow 198 = .ok (.bipush 20, 2) := by decide +kernel
theorem dX8_gamesNow_200 : decode cX8_gamesNow 200 = .ok (.if_icmp .ge 23, 3) := by decide +kernel
theorem dX8_gamesNow_203 : decode cX8_gamesNow 203 = .ok (.aload_n 0, 1) := by decide +kernel
theorem dX8_gamesNow_204 : decode cX8_gamesNow 204 = .ok (.getfield 7, 3) := by decide +kernel
theorem dX8_gamesNow_207 : decode cX8_gamesNow 207 = .ok (.iload 6, 2) := by decide +kernel
theorem dX8_gamesNow_209 : decode cX8_gamesNow 209 = .ok (.aload_n 0, 1) := by decide +kernel
theorem dX8_gamesNow_210 : decode cX8_gamesNow 210 = .ok (.getfield 48, 3) := by decide +kernel
theorem dX8_gamesNow_213 : decode cX8_gamesNow 213 = .ok (.iload 6, 2) := by decide +kernel
theorem dX8_gamesNow_215 : decode cX8_gamesNow 215 = .ok (.iaload, 1) := by decide +kernel
theorem dX8_gamesNow_216 : decode cX8_gamesNow 216 = .ok (.iastore, 1) := by decide +kernel
theorem dX8_gamesNow_217 : decode cX8_gamesNow 217 = .ok (.iinc 6 1, 3) := by decide +kernel
theorem dX8_gamesNow_220 : decode cX8_gamesNow 220 = .ok (.goto (-24), 3) := by decide +kernel
theorem dX8_gamesNow_223 : decode cX8_gamesNow 223 = .ok (.iconst 0, 1) := by decide +kernel
theorem dX8_gamesNow_224 : decode cX8_gamesNow 224 = .ok (.istore 6, 2) := by decide +kernel
theorem dX8_gamesNow_226 : decode cX8_gamesNow 226 = .ok (.iload 6, 2) := by decide +kernel
theorem dX8_gamesNow_228 : decode cX8_gamesNow 228 = .ok (.aload_n 0, 1) := by decide +kernel
theorem dX8_gamesNow_229 : decode cX8_gamesNow 229 = .ok (.getfield 92, 3) := by decide +kernel
theorem dX8_gamesNow_232 : decode cX8_gamesNow 232 = .ok (.if_icmp .ge 51, 3) := by decide +kernel
theorem dX8_gamesNow_235 : decode cX8_gamesNow 235 = .ok (.aload_n 0, 1) := by decide +kernel
theorem dX8_gamesNow_236 : decode cX8_gamesNow 236 = .ok (.getfield 20, 3) := by decide +kernel
theorem dX8_gamesNow_239 : decode cX8_gamesNow 239 = .ok (.iload 6, 2) := by decide +kernel
theorem dX8_gamesNow_241 : decode cX8_gamesNow 241 = .ok (.aload_n 0, 1) := by decide +kernel
theorem dX8_gamesNow_242 : decode cX8_gamesNow 242 = .ok (.getfield 39, 3) := by decide +kernel
theorem dX8_gamesNow_245 : decode cX8_gamesNow 245 = .ok (.iload 6, 2) := by decide +kernel
theorem dX8_gamesNow_247 : decode cX8_gamesNow 247 = .ok (.iaload, 1) := by decide +kernel
theorem dX8_gamesNow_248 : decode cX8_gamesNow 248 = .ok (.iastore, 1) := by decide +kernel
theorem dX8_gamesNow_249 : decode cX8_gamesNow 249 = .ok (.aload_n 0, 1) := by decide +kernel
theorem dX8_gamesNow_250 : decode cX8_gamesNow 250 = .ok (.getfield 23, 3) := by decide +kernel
theorem dX8_gamesNow_253 : decode cX8_gamesNow 253 = .ok (.iload 6, 2) := by decide +kernel
theorem dX8_gamesNow_255 : decode cX8_gamesNow 255 = .ok (.aload_n 0, 1) := by decide +kernel
theorem dX8_gamesNow_256 : decode cX8_gamesNow 256 = .ok (.getfield 42, 3) := by decide +kernel
theorem dX8_gamesNow_259 : decode cX8_gamesNow 259 = .ok (.iload 6, 2) := by decide +kernel
theorem dX8_gamesNow_261 : decode cX8_gamesNow 261 = .ok (.iaload, 1) := by decide +kernel
theorem dX8_gamesNow_262 : decode cX8_gamesNow 262 = .ok (.iastore, 1) := by decide +kernel
theorem dX8_gamesNow_263 : decode cX8_gamesNow 263 = .ok (.aload_n 0, 1) := by decide +kernel
theorem dX8_gamesNow_264 : decode cX8_gamesNow 264 = .ok (.getfield 29, 3) := by decide +kernel
theorem dX8_gamesNow_267 : decode cX8_gamesNow 267 = .ok (.iload 6, 2) := by decide +kernel
theorem dX8_gamesNow_269 : decode cX8_gamesNow 269 = .ok (.aload_n 0, 1) := by decide +kernel
theorem dX8_gamesNow_270 : decode cX8_gamesNow 270 = .ok (.getfield 45, 3) := by decide +kernel
theorem dX8_gamesNow_273 : decode cX8_gamesNow 273 = .ok (.iload 6, 2) := by decide +kernel
theorem dX8_gamesNow_275 : decode cX8_gamesNow 275 = .ok (.iaload, 1) := by decide +kernel
theorem dX8_gamesNow_276 : decode cX8_gamesNow 276 = .ok (.iastore, 1) := by decide +kernel
theorem dX8_gamesNow_277 : decode cX8_gamesNow 277 = .ok (.iinc 6 1, 3) := by decide +kernel
theorem dX8_gamesNow_280 : decode cX8_gamesNow 280 = .ok (.goto (-54), 3) := by decide +kernel
theorem dX8_gamesNow_283 : decode cX8_gamesNow 283 = .ok (.iload 5, 2) := by decide +kernel
theorem dX8_gamesNow_285 : decode cX8_gamesNow 285 = .ok (.ireturn, 1) := by decide +kernel
theorem dX8_games_0 : decode cX8_games 0 = .ok (.iload_n 1, 1) := by decide +kernel
theorem dX8_games_1 : decode cX8_games 1 = .ok (.iconst 1, 1) := by decide +kernel
theorem dX8_games_2 : decode cX8_games 2 = .ok (.bipush 60, 2) := by decide +kernel
theorem dX8_games_4 : decode cX8_games 4 = .ok (.invokestatic 66, 3) := by decide +kernel
theorem dX8_games_7 : decode cX8_games 7 = .ok (.ifCond .eq 16, 3) := by decide +kernel
theorem dX8_games_10 : decode cX8_games 10 = .ok (.iload_n 2, 1) := by decide +kernel
theorem dX8_games_11 : decode cX8_games 11 = .ok (.ifCond .lt 12, 3) := by decide +kernel
theorem dX8_games_14 : decode cX8_games 14 = .ok (.iload_n 3, 1) := by decide +kernel
theorem dX8_games_15 : decode cX8_games 15 = .ok (.iconst 0, 1) := by decide +kernel
theorem dX8_games_16 : decode cX8_games 16 = .ok (.iconst 3, 1) := by decide +kernel
theorem dX8_games_17 : decode cX8_games 17 = .ok (.invokestatic 66, 3) := by decide +kernel
theorem dX8_games_20 : decode cX8_games 20 = .ok (.ifCond .ne 6, 3) := by decide +kernel
theorem dX8_games_23 : decode cX8_games 23 = .ok (.bipush (-102), 2) := by decide +kernel
theorem dX8_games_25 : decode cX8_games 25 = .ok (.ireturn, 1) := by decide +kernel
theorem dX8_games_26 : decode cX8_games 26 = .ok (.aload_n 0, 1) := by decide +kernel
theorem dX8_games_27 : decode cX8_games 27 = .ok (.getfield 82, 3) := by decide +kernel
theorem dX8_games_30 : decode cX8_games 30 = .ok (.ifCond .eq 20, 3) := by decide +kernel
theorem dX8_games_33 : decode cX8_games 33 = .ok (.aload_n 0, 1) := by decide +kernel
theorem dX8_games_34 : decode cX8_games 34 = .ok (.getfield 92, 3) := by decide +kernel
theorem dX8_games_37 : decode cX8_games 37 = .ok (.ifCond .le 13, 3) := by decide +kernel
theorem dX8_games_40 : decode cX8_games 40 = .ok (.aload_n 0, 1) := by decide +kernel
theorem dX8_games_41 : decode cX8_games 41 = .ok (.iload_n 1, 1) := by decide +kernel
theorem dX8_games_42 : decode cX8_games 42 = .ok (.iload_n 2, 1) := by decide +kernel
theorem dX8_games_43 : decode cX8_games 43 = .ok (.iload_n 3, 1) := by decide +kernel
theorem dX8_games_44 : decode cX8_games 44 = .ok (.invokevirtual 233, 3) := by decide +kernel
theorem dX8_games_47 : decode cX8_games 47 = .ok (.goto 5, 3) := by decide +kernel
theorem dX8_games_50 : decode cX8_games 50 = .ok (.bipush (-103), 2) := by decide +kernel
theorem dX8_games_52 : decode cX8_games 52 = .ok (.ireturn, 1) := by decide +kernel
theorem dX8_image_0 : decode cX8_image 0 = .ok (.aload_n 0, 1) := by decide +kernel
theorem dX8_image_1 : decode cX8_image 1 = .ok (.getfield 82, 3) := by decide +kernel
theorem dX8_image_4 : decode cX8_image 4 = .ok (.ifCond .ne 6, 3) := by decide +kernel
theorem dX8_image_7 : decode cX8_image 7 = .ok (.bipush (-103), 2) := by decide +kernel
theorem dX8_image_9 : decode cX8_image 9 = .ok (.ireturn, 1) := by decide +kernel
theorem dX8_image_10 : decode cX8_image 10 = .ok (.aload_n 0, 1) := by decide +kernel
theorem dX8_image_11 : decode cX8_image 11 = .ok (.iconst 1, 1) := by decide +kernel
theorem dX8_image_12 : decode cX8_image 12 = .ok (.putfield 237, 3) := by decide +kernel
theorem dX8_image_15 : decode cX8_image 15 = .ok (.aload_n 0, 1) := by decide +kernel
theorem dX8_image_16 : decode cX8_image 16 = .ok (.aload_n 0, 1) := by decide +kernel
theorem dX8_image_17 : decode cX8_image 17 = .ok (.getfield 86, 3) := by decide +kernel
theorem dX8_image_20 : decode cX8_image 20 = .ok (.putfield 240, 3) := by decide +kernel
theorem dX8_image_23 : decode cX8_image 23 = .ok (.aload_n 0, 1) := by decide +kernel
theorem dX8_image_24 : decode cX8_image 24 = .ok (.aload_n 0, 1) := by decide +kernel
theorem dX8_image_25 : decode cX8_image 25 = .ok (.getfield 92, 3) := by decide +kernel
theorem dX8_image_28 : decode cX8_image 28 = .ok (.putfield 243, 3) := by decide +kernel
theorem dX8_image_31 : decode cX8_image 31 = .ok (.aload_n 0, 1) := by decide +kernel
theorem dX8_image_32 : decode cX8_image 32 = .ok (.aload_n 0, 1) := by decide +kernel
theorem dX8_image_33 : decode cX8_image 33 = .ok (.getfield 13, 3) := by decide +kernel
theorem dX8_image_36 : decode cX8_image 36 = .ok (.putfield 246, 3) := by decide +kernel
theorem dX8_image_39 : decode cX8_image 39 = .ok (.aload_n 0, 1) := by decide +kernel
theorem dX8_image_40 : decode cX8_image 40 = .ok (.aload_n 0, 1) := by decide +kernel
theorem dX8_image_41 : decode cX8_image 41 = .ok (.getfield 89, 3) := by decide +kernel
theorem dX8_image_44 : decode cX8_image 44 = .ok (.putfield 249, 3) := by decide +kernel
theorem dX8_image_47 : decode cX8_image 47 = .ok (.iconst 0, 1) := by decide +kernel
theorem dX8_image_48 : decode cX8_image 48 = .ok (.istore_n 1, 1) := by decide +kernel
theorem dX8_image_49 : decode cX8_image 49 = .ok (.iload_n 1, 1) := by decide +kernel
theorem dX8_image_50 : decode cX8_image 50 = .ok (.bipush 20, 2) := by decide +kernel
theorem dX8_image_52 : decode cX8_image 52 = .ok (.if_icmp .ge 21, 3) := by decide +kernel
theorem dX8_image_55 : decode cX8_image 55 = .ok (.aload_n 0, 1) := by decide +kernel
theorem dX8_image_56 : decode cX8_image 56 = .ok (.getfield 51, 3) := by decide +kernel
theorem dX8_image_59 : decode cX8_image 59 = .ok (.iload_n 1, 1) := by decide +kernel
theorem dX8_image_60 : decode cX8_image 60 = .ok (.aload_n 0, 1) := by decide +kernel
theorem dX8_image_61 : decode cX8_image 61 = .ok (.getfield 7, 3) := by decide +kernel
theorem dX8_image_64 : decode cX8_image 64 = .ok (.iload_n 1, 1) := by decide +kernel
theorem dX8_image_65 : decode cX8_image 65 = .ok (.iaload, 1) := by decide +kernel
theorem dX8_image_66 : decode cX8_image 66 = .ok (.iastore, 1) := by decide +kernel
theorem dX8_image_67 : decode cX8_image 67 = .ok (.iinc 1 1, 3) := by decide +kernel
theorem dX8_image_70 : decode cX8_image 70 = .ok (.goto (-21), 3) := by decide +kernel
theorem dX8_image_73 : decode cX8_image 73 = .ok (.iconst 0, 1) := by decide +kernel
theorem dX8_image_74 : decode cX8_image 74 = .ok (.istore_n 1, 1) := by decide +kernel
theorem dX8_image_75 : decode cX8_image 75 = .ok (.iload_n 1, 1) := by decide +kernel
theorem dX8_image_76 : decode cX8_image 76 = .ok (.iconst 4, 1) := by decide +kernel
theorem dX8_image_77 : decode cX8_image 77 = .ok (.if_icmp .ge 57, 3) := by decide +kernel
theorem dX8_image_80 : decode cX8_image 80 = .ok (.aload_n 0, 1) := by decide +kernel
theorem dX8_image_81 : decode cX8_image 81 = .ok (.getfield 54, 3) := by decide +kernel
theorem dX8_image_84 : decode cX8_image 84 = .ok (.iload_n 1, 1) := by decide +kernel
theorem dX8_image_85 : decode cX8_image 85 = .ok (.aload_n 0, 1) := by decide +kernel
theorem dX8_image_86 : decode cX8_image 86 = .ok (.getfield 20, 3) := by decide +kernel
theorem dX8_image_89 : decode cX8_image 89 = .ok (.iload_n 1, 1) := by decide +kernel
theorem dX8_image_90 : decode cX8_image 90 = .ok (.iaload, 1) := by decide +kernel
theorem dX8_image_91 : decode cX8_image 91 = .ok (.iastore, 1) := by decide +kernel
theorem dX8_image_92 : decode cX8_image 92 = .ok (.aload_n 0, 1) := by decide +kernel
theorem dX8_image_93 : decode cX8_image 93 = .ok (.getfield 57, 3) := by decide +kernel
theorem dX8_image_96 : decode cX8_image 96 = .ok (.iload_n 1, 1) := by decide +kernel
theorem dX8_image_97 : decode cX8_image 97 = .ok (.aload_n 0, 1) := by decide +kernel
theorem dX8_image_98 : decode cX8_image 98 = .ok (.getfield 23, 3) := by decide +kernel
theorem dX8_image_101 : decode cX8_image 101 = .ok (.iload_n 1, 1) := by decide +kernel
theorem dX8_image_102 : decode cX8_image 102 = .ok (.iaload, 1) := by decide +kernel
theorem dX8_image_103 : decode cX8_image 103 = .ok (.iastore, 1) := by decide +kernel
theorem dX8_image_104 : decode cX8_image 104 = .ok (.aload_n 0, 1) := by decide +kernel
theorem dX8_image_105 : decode cX8_image 105 = .ok (.getfield 60, 3) := by decide +kernel
theorem dX8_image_108 : decode cX8_image 108 = .ok (.iload_n 1, 1) := by decide +kernel
theorem dX8_image_109 : decode cX8_image 109 = .ok (.aload_n 0, 1) := by decide +kernel
theorem dX8_image_110 : decode cX8_image 110 = .ok (.getfield 26, 3) := by decide +kernel
theorem dX8_image_113 : decode cX8_image 113 = .ok (.iload_n 1, 1) := by decide +kernel
theorem dX8_image_114 : decode cX8_image 114 = .ok (.iaload, 1) := by decide +kernel
theorem dX8_image_115 : decode cX8_image 115 = .ok (.iastore, 1) := by decide +kernel
theorem dX8_image_116 : decode cX8_image 116 = .ok (.aload_n 0, 1) := by decide +kernel
theorem dX8_image_117 : decode cX8_image 117 = .ok (.getfield 63, 3) := by decide +kernel
theorem dX8_image_120 : decode cX8_image 120 = .ok (.iload_n 1, 1) := by decide +kernel
theorem dX8_image_121 : decode cX8_image 121 = .ok (.aload_n 0, 1) := by decide +kernel
theorem dX8_image_122 : decode cX8_image 122 = .ok (.getfield 29, 3) := by decide +kernel
theorem dX8_image_125 : decode cX8_image 125 = .ok (.iload_n 1, 1) := by decide +kernel
theorem dX8_image_126 : decode cX8_image 126 = .ok (.iaload, 1) := by decide +kernel
theorem dX8_image_127 : decode cX8_image 127 = .ok (.iastore, 1) := by decide +kernel
theorem dX8_image_128 : decode cX8_image 128 = .ok (.iinc 1 1, 3) := by decide +kernel
theorem dX8_image_131 : decode cX8_image 131 = .ok (.goto (-56), 3) := by decide +kernel
theorem dX8_image_134 : decode cX8_image 134 = .ok (.aload_n 0, 1) := by decide +kernel
theorem dX8_image_135 : decode cX8_image 135 = .ok (.getfield 92, 3) := by decide +kernel
theorem dX8_image_138 : decode cX8_image 138 = .ok (.ireturn, 1) := by decide +kernel
theorem dX8_restore_0 : decode cX8_restore 0 = .ok (.aload_n 0, 1) := by decide +kernel
theorem dX8_restore_1 : decode cX8_restore 1 = .ok (.getfield 237, 3) := by decide +kernel
theorem dX8_restore_4 : decode cX8_restore 4 = .ok (.ifCond .eq 14, 3) := by decide +kernel
theorem dX8_restore_7 : decode cX8_restore 7 = .ok (.aload_n 0, 1) := by decide +kernel
theorem dX8_restore_8 : decode cX8_restore 8 = .ok (.getfield 240, 3) := by decide +kernel
theorem dX8_restore_11 : decode cX8_restore 11 = .ok (.aload_n 0, 1) := by decide +kernel
theorem dX8_restore_12 : decode cX8_restore 12 = .ok (.getfield 86, 3) := by decide +kernel
theorem dX8_restore_15 : decode cX8_restore 15 = .ok (.if_icmp .eq 6, 3) := by decide +kernel
theorem dX8_restore_18 : decode cX8_restore 18 = .ok (.bipush (-103), 2) := by decide +kernel
theorem dX8_restore_20 : decode cX8_restore 20 = .ok (.ireturn, 1) := by decide +kernel
theorem dX8_restore_21 : decode cX8_restore 21 = .ok (.aload_n 0, 1) := by decide +kernel
theorem dX8_restore_22 : decode cX8_restore 22 = .ok (.aload_n 0, 1) := by decide +kernel
theorem dX8_restore_23 : decode cX8_restore 23 = .ok (.getfield 243, 3) := by decide +kernel
theorem dX8_restore_26 : decode cX8_restore 26 = .ok (.putfield 92, 3) := by decide +kernel
theorem dX8_restore_29 : decode cX8_restore 29 = .ok (.aload_n 0, 1) := by decide +kernel
theorem dX8_restore_30 : decode cX8_restore 30 = .ok (.aload_n 0, 1) := by decide +kernel
theorem dX8_restore_31 : decode cX8_restore 31 = .ok (.getfield 246, 3) := by decide +kernel
theorem dX8_restore_34 : decode cX8_restore 34 = .ok (.putfield 13, 3) := by decide +kernel
theorem dX8_restore_37 : decode cX8_restore 37 = .ok (.aload_n 0, 1) := by decide +kernel
theorem dX8_restore_38 : decode cX8_restore 38 = .ok (.aload_n 0, 1) := by decide +kernel
theorem dX8_restore_39 : decode cX8_restore 39 = .ok (.getfield 249, 3) := by decide +kernel
theorem dX8_restore_42 : decode cX8_restore 42 = .ok (.putfield 89, 3) := by decide +kernel
theorem dX8_restore_45 : decode cX8_restore 45 = .ok (.iconst 0, 1) := by decide +kernel
theorem dX8_restore_46 : decode cX8_restore 46 = .ok (.istore_n 1, 1) := by decide +kernel
theorem dX8_restore_47 : decode cX8_restore 47 = .ok (.iload_n 1, 1) := by decide +kernel
theorem dX8_restore_48 : decode cX8_restore 48 = .ok (.bipush 20, 2) := by decide +kernel
theorem dX8_restore_50 : decode cX8_restore 50 = .ok (.if_icmp .ge 21, 3) := by decide +kernel
theorem dX8_restore_53 : decode cX8_restore 53 = .ok (.aload_n 0, 1) := by decide +kernel
theorem dX8_restore_54 : decode cX8_restore 54 = .ok (.getfield 7, 3) := by decide +kernel
theorem dX8_restore_57 : decode cX8_restore 57 = .ok (.iload_n 1, 1) := by decide +kernel
theorem dX8_restore_58 : decode cX8_restore 58 = .ok (.aload_n 0, 1) := by decide +kernel
theorem dX8_restore_59 : decode cX8_restore 59 = .ok (.getfield 51, 3) := by decide +kernel
theorem dX8_restore_62 : decode cX8_restore 62 = .ok (.iload_n 1, 1) := by decide +kernel
theorem dX8_restore_63 : decode cX8_restore 63 = .ok (.iaload, 1) := by decide +kernel
theorem dX8_restore_64 : decode cX8_restore 64 = .ok (.iastore, 1) := by decide +kernel
theorem dX8_restore_65 : decode cX8_restore 65 = .ok (.iinc 1 1, 3) := by decide +kernel
theorem dX8_restore_68 : decode cX8_restore 68 = .ok (.goto (-21), 3) := by decide +kernel
theorem dX8_restore_71 : decode cX8_restore 71 = .ok (.iconst 0, 1) := by decide +kernel
theorem dX8_restore_72 : decode cX8_restore 72 = .ok (.istore_n 1, 1) := by decide +kernel
theorem dX8_restore_73 : decode cX8_restore 73 = .ok (.iload_n 1, 1) := by decide +kernel
theorem dX8_restore_74 : decode cX8_restore 74 = .ok (.iconst 4, 1) := by decide +kernel
theorem dX8_restore_75 : decode cX8_restore 75 = .ok (.if_icmp .ge 57, 3) := by decide +kernel
theorem dX8_restore_78 : decode cX8_restore 78 = .ok (.aload_n 0, 1) := by decide +kernel
theorem dX8_restore_79 : decode cX8_restore 79 = .ok (.getfield 20, 3) := by decide +kernel
theorem dX8_restore_82 : decode cX8_restore 82 = .ok (.iload_n 1, 1) := by decide +kernel
theorem dX8_restore_83 : decode cX8_restore 83 = .ok (.aload_n 0, 1) := by decide +kernel
theorem dX8_restore_84 : decode cX8_restore 84 = .ok (.getfield 54, 3) := by decide +kernel
theorem dX8_restore_87 : decode cX8_restore 87 = .ok (.iload_n 1, 1) := by decide +kernel
theorem dX8_restore_88 : decode cX8_restore 88 = .ok (.iaload, 1) := by decide +kernel
theorem dX8_restore_89 : decode cX8_restore 89 = .ok (.iastore, 1) := by decide +kernel
theorem dX8_restore_90 : decode cX8_restore 90 = .ok (.aload_n 0, 1) := by decide +kernel
theorem dX8_restore_91 : decode cX8_restore 91 = .ok (.getfield 23, 3) := by decide +kernel
theorem dX8_restore_94 : decode cX8_restore 94 = .ok (.iload_n 1, 1) := by decide +kernel
theorem dX8_restore_95 : decode cX8_restore 95 = .ok (.aload_n 0, 1) := by decide +kernel
theorem dX8_restore_96 : decode cX8_restore 96 = .ok (.getfield 57, 3) := by decide +kernel
theorem dX8_restore_99 : decode cX8_restore 99 = .ok (.iload_n 1, 1) := by decide +kernel
theorem dX8_restore_100 : decode cX8_restore 100 = .ok (.iaload, 1) := by decide +kernel
theorem dX8_restore_101 : decode cX8_restore 101 = .ok (.iastore, 1) := by decide +kernel
theorem dX8_restore_102 : decode cX8_restore 102 = .ok (.aload_n 0, 1) := by decide +kernel
theorem dX8_restore_103 : decode cX8_restore 103 = .ok (.getfield 26, 3) := by decide +kernel
theorem dX8_restore_106 : decode cX8_restore 106 = .ok (.iload_n 1, 1) := by decide +kernel
theorem dX8_restore_107 : decode cX8_restore 107 = .ok (.aload_n 0, 1) := by decide +kernel
theorem dX8_restore_108 : decode cX8_restore 108 = .ok (.getfield 60, 3) := by decide +kernel
theorem dX8_restore_111 : decode cX8_restore 111 = .ok (.iload_n 1, 1) := by decide +kernel
theorem dX8_restore_112 : decode cX8_restore 112 = .ok (.iaload, 1) := by decide +kernel
theorem dX8_restore_113 : decode cX8_restore 113 = .ok (.iastore, 1) := by decide +kernel
theorem dX8_restore_114 : decode cX8_restore 114 = .ok (.aload_n 0, 1) := by decide +kernel
theorem dX8_restore_115 : decode cX8_restore 115 = .ok (.getfield 29, 3) := by decide +kernel
theorem dX8_restore_118 : decode cX8_restore 118 = .ok (.iload_n 1, 1) := by decide +kernel
theorem dX8_restore_119 : decode cX8_restore 119 = .ok (.aload_n 0, 1) := by decide +kernel
theorem dX8_restore_120 : decode cX8_restore 120 = .ok (.getfield 63, 3) := by decide +kernel
theorem dX8_restore_123 : decode cX8_restore 123 = .ok (.iload_n 1, 1) := by decide +kernel
theorem dX8_restore_124 : decode cX8_restore 124 = .ok (.iaload, 1) := by decide +kernel
theorem dX8_restore_125 : decode cX8_restore 125 = .ok (.iastore, 1) := by decide +kernel
theorem dX8_restore_126 : decode cX8_restore 126 = .ok (.iinc 1 1, 3) := by decide +kernel
theorem dX8_restore_129 : decode cX8_restore 129 = .ok (.goto (-56), 3) := by decide +kernel
theorem dX8_restore_132 : decode cX8_restore 132 = .ok (.aload_n 0, 1) := by decide +kernel
theorem dX8_restore_133 : decode cX8_restore 133 = .ok (.getfield 92, 3) := by decide +kernel
theorem dX8_restore_136 : decode cX8_restore 136 = .ok (.ireturn, 1) := by decide +kernel
theorem dX8_goneMany_0 : decode cX8_goneMany 0 = .ok (.iconst 0, 1) := by decide +kernel
theorem dX8_goneMany_1 : decode cX8_goneMany 1 = .ok (.istore_n 1, 1) := by decide +kernel
theorem dX8_goneMany_2 : decode cX8_goneMany 2 = .ok (.iconst 0, 1) := by decide +kernel
theorem dX8_goneMany_3 : decode cX8_goneMany 3 = .ok (.istore_n 2, 1) := by decide +kernel
theorem dX8_goneMany_4 : decode cX8_goneMany 4 = .ok (.iload_n 2, 1) := by decide +kernel
theorem dX8_goneMany_5 : decode cX8_goneMany 5 = .ok (.aload_n 0, 1) := by decide +kernel
theorem dX8_goneMany_6 : decode cX8_goneMany 6 = .ok (.getfield 92, 3) := by decide +kernel
theorem dX8_goneMany_9 : decode cX8_goneMany 9 = .ok (.if_icmp .ge 27, 3) := by decide +kernel
theorem dX8_goneMany_12 : decode cX8_goneMany 12 = .ok (.iload_n 1, 1) := by decide +kernel
theorem dX8_goneMany_13 : decode cX8_goneMany 13 = .ok (.aload_n 0, 1) := by decide +kernel
theorem dX8_goneMany_14 : decode cX8_goneMany 14 = .ok (.getfield 23, 3) := by decide +kernel
theorem dX8_goneMany_17 : decode cX8_goneMany 17 = .ok (.iload_n 2, 1) := by decide +kernel
theorem dX8_goneMany_18 : decode cX8_goneMany 18 = .ok (.iaload, 1) := by decide +kernel
theorem dX8_goneMany_19 : decode cX8_goneMany 19 = .ok (.iconst (-1), 1) := by decide +kernel
theorem dX8_goneMany_20 : decode cX8_goneMany 20 = .ok (.if_icmp .ne 7, 3) := by decide +kernel
theorem dX8_goneMany_23 : decode cX8_goneMany 23 = .ok (.iconst 1, 1) := by decide +kernel
theorem dX8_goneMany_24 : decode cX8_goneMany 24 = .ok (.goto 4, 3) := by decide +kernel
theorem dX8_goneMany_27 : decode cX8_goneMany 27 = .ok (.iconst 0, 1) := by decide +kernel
theorem dX8_goneMany_28 : decode cX8_goneMany 28 = .ok (.iadd, 1) := by decide +kernel
theorem dX8_goneMany_29 : decode cX8_goneMany 29 = .ok (.istore_n 1, 1) := by decide +kernel
theorem dX8_goneMany_30 : decode cX8_goneMany 30 = .ok (.iinc 2 1, 3) := by decide +kernel
theorem dX8_goneMany_33 : decode cX8_goneMany 33 = .ok (.goto (-29), 3) := by decide +kernel
theorem dX8_goneMany_36 : decode cX8_goneMany 36 = .ok (.iload_n 1, 1) := by decide +kernel
theorem dX8_goneMany_37 : decode cX8_goneMany 37 = .ok (.ireturn, 1) := by decide +kernel
theorem dX8_greenMany_0 : decode cX8_greenMany 0 = .ok (.iconst 0, 1) := by decide +kernel
theorem dX8_greenMany_1 : decode cX8_greenMany 1 = .ok (.istore_n 1, 1) := by decide +kernel
theorem dX8_greenMany_2 : decode cX8_greenMany 2 = .ok (.iconst 0, 1) := by decide +kernel
theorem dX8_greenMany_3 : decode cX8_greenMany 3 = .ok (.istore_n 2, 1) := by decide +kernel
theorem dX8_greenMany_4 : decode cX8_greenMany 4 = .ok (.iload_n 2, 1) := by decide +kernel
theorem dX8_greenMany_5 : decode cX8_greenMany 5 = .ok (.bipush 20, 2) := by decide +kernel
theorem dX8_greenMany_7 : decode cX8_greenMany 7 = .ok (.if_icmp .ge 33, 3) := by decide +kernel
theorem dX8_greenMany_10 : decode cX8_greenMany 10 = .ok (.iload_n 1, 1) := by decide +kernel
theorem dX8_greenMany_11 : decode cX8_greenMany 11 = .ok (.aload_n 0, 1) := by decide +kernel
theorem dX8_greenMany_12 : decode cX8_greenMany 12 = .ok (.getfield 82, 3) := by decide +kernel
theorem dX8_greenMany_15 : decode cX8_greenMany 15 = .ok (.ifCond .eq 16, 3) := by decide +kernel
theorem dX8_greenMany_18 : decode cX8_greenMany 18 = .ok (.aload_n 0, 1) := by decide +kernel
theorem dX8_greenMany_19 : decode cX8_greenMany 19 = .ok (.getfield 7, 3) := by decide +kernel
theorem dX8_greenMany_22 : decode cX8_greenMany 22 = .ok (.iload_n 2, 1) := by decide +kernel
theorem dX8_greenMany_23 : decode cX8_greenMany 23 = .ok (.iaload, 1) := by decide +kernel
theorem dX8_greenMany_24 : decode cX8_greenMany 24 = .ok (.ifCond .ne 7, 3) := by decide +kernel
theorem dX8_greenMany_27 : decode cX8_greenMany 27 = .ok (.iconst 1, 1) := by decide +kernel
theorem dX8_greenMany_28 : decode cX8_greenMany 28 = .ok (.goto 4, 3) := by decide +kernel
theorem dX8_greenMany_31 : decode cX8_greenMany 31 = .ok (.iconst 0, 1) := by decide +kernel
theorem dX8_greenMany_32 : decode cX8_greenMany 32 = .ok (.iadd, 1) := by decide +kernel
theorem dX8_greenMany_33 : decode cX8_greenMany 33 = .ok (.istore_n 1, 1) := by decide +kernel
theorem dX8_greenMany_34 : decode cX8_greenMany 34 = .ok (.iinc 2 1, 3) := by decide +kernel
theorem dX8_greenMany_37 : decode cX8_greenMany 37 = .ok (.goto (-33), 3) := by decide +kernel
theorem dX8_greenMany_40 : decode cX8_greenMany 40 = .ok (.iload_n 1, 1) := by decide +kernel
theorem dX8_greenMany_41 : decode cX8_greenMany 41 = .ok (.ireturn, 1) := by decide +kernel
theorem dX8_howMany_0 : decode cX8_howMany 0 = .ok (.iload_n 1, 1) := by decide +kernel
theorem dX8_howMany_1 : decode cX8_howMany 1 = .ok (.tableswitch 123 0 11 #[63, 68, 73, 78, 83, 88, 93, 98, 103, 108, 113, 118], 63) := by decide +kernel
theorem dX8_howMany_64 : decode cX8_howMany 64 = .ok (.aload_n 0, 1) := by decide +kernel
theorem dX8_howMany_65 : decode cX8_howMany 65 = .ok (.invokevirtual 95, 3) := by decide +kernel
theorem dX8_howMany_68 : decode cX8_howMany 68 = .ok (.ireturn, 1) := by decide +kernel
theorem dX8_howMany_69 : decode cX8_howMany 69 = .ok (.aload_n 0, 1) := by decide +kernel
theorem dX8_howMany_70 : decode cX8_howMany 70 = .ok (.getfield 92, 3) := by decide +kernel
theorem dX8_howMany_73 : decode cX8_howMany 73 = .ok (.ireturn, 1) := by decide +kernel
theorem dX8_howMany_74 : decode cX8_howMany 74 = .ok (.aload_n 0, 1) := by decide +kernel
theorem dX8_howMany_75 : decode cX8_howMany 75 = .ok (.invokevirtual 252, 3) := by decide +kernel
theorem dX8_howMany_78 : decode cX8_howMany 78 = .ok (.ireturn, 1) := by decide +kernel
theorem dX8_howMany_79 : decode cX8_howMany 79 = .ok (.aload_n 0, 1) := by decide +kernel
theorem dX8_howMany_80 : decode cX8_howMany 80 = .ok (.invokevirtual 255, 3) := by decide +kernel
theorem dX8_howMany_83 : decode cX8_howMany 83 = .ok (.ireturn, 1) := by decide +kernel
theorem dX8_howMany_84 : decode cX8_howMany 84 = .ok (.aload_n 0, 1) := by decide +kernel
theorem dX8_howMany_85 : decode cX8_howMany 85 = .ok (.getfield 79, 3) := by decide +kernel
theorem dX8_howMany_88 : decode cX8_howMany 88 = .ok (.ireturn, 1) := by decide +kernel
theorem dX8_howMany_89 : decode cX8_howMany 89 = .ok (.aload_n 0, 1) := by decide +kernel
theorem dX8_howMany_90 : decode cX8_howMany 90 = .ok (.getfield 13, 3) := by decide +kernel
theorem dX8_howMany_93 : decode cX8_howMany 93 = .ok (.ireturn, 1) := by decide +kernel
theorem dX8_howMany_94 : decode cX8_howMany 94 = .ok (.aload_n 0, 1) := by decide +kernel
theorem dX8_howMany_95 : decode cX8_howMany 95 = .ok (.getfield 89, 3) := by decide +kernel
theorem dX8_howMany_98 : decode cX8_howMany 98 = .ok (.ireturn, 1) := by decide +kernel
theorem dX8_howMany_99 : decode cX8_howMany 99 = .ok (.aload_n 0, 1) := by decide +kernel
theorem dX8_howMany_100 : decode cX8_howMany 100 = .ok (.invokevirtual 230, 3) := by decide +kernel
theorem dX8_howMany_103 : decode cX8_howMany 103 = .ok (.ireturn, 1) := by decide +kernel
theorem dX8_howMany_104 : decode cX8_howMany 104 = .ok (.aload_n 0, 1) := by decide +kernel
theorem dX8_howMany_105 : decode cX8_howMany 105 = .ok (.getfield 70, 3) := by decide +kernel
theorem dX8_howMany_108 : decode cX8_howMany 108 = .ok (.ireturn, 1) := by decide +kernel
theorem dX8_howMany_109 : decode cX8_howMany 109 = .ok (.aload_n 0, 1) := by decide +kernel
theorem dX8_howMany_110 : decode cX8_howMany 110 = .ok (.getfield 86, 3) := by decide +kernel
theorem dX8_howMany_113 : decode cX8_howMany 113 = .ok (.ireturn, 1) := by decide +kernel
theorem dX8_howMany_114 : decode cX8_howMany 114 = .ok (.aload_n 0, 1) := by decide +kernel
theorem dX8_howMany_115 : decode cX8_howMany 115 = .ok (.getfield 190, 3) := by decide +kernel
theorem dX8_howMany_118 : decode cX8_howMany 118 = .ok (.ireturn, 1) := by decide +kernel
theorem dX8_howMany_119 : decode cX8_howMany 119 = .ok (.aload_n 0, 1) := by decide +kernel
theorem dX8_howMany_120 : decode cX8_howMany 120 = .ok (.getfield 208, 3) := by decide +kernel
theorem dX8_howMany_123 : decode cX8_howMany 123 = .ok (.ireturn, 1) := by decide +kernel
theorem dX8_howMany_124 : decode cX8_howMany 124 = .ok (.bipush (-102), 2) := by decide +kernel
theorem dX8_howMany_126 : decode cX8_howMany 126 = .ok (.ireturn, 1) := by decide +kernel
theorem dX8_count_0 : decode cX8_count 0 = .ok (.aload_n 0, 1) := by decide +kernel
theorem dX8_count_1 : decode cX8_count 1 = .ok (.iload_n 1, 1) := by decide +kernel
theorem dX8_count_2 : decode cX8_count 2 = .ok (.invokevirtual 258, 3) := by decide +kernel
theorem dX8_count_5 : decode cX8_count 5 = .ok (.ireturn, 1) := by decide +kernel
theorem dX8_mix_0 : decode cX8_mix 0 = .ok (.aload_n 0, 1) := by decide +kernel
theorem dX8_mix_1 : decode cX8_mix 1 = .ok (.ldc2_w 261, 3) := by decide +kernel
theorem dX8_mix_4 : decode cX8_mix 4 = .ok (.aload_n 0, 1) := by decide +kernel
theorem dX8_mix_5 : decode cX8_mix 5 = .ok (.getfield 263, 3) := by decide +kernel
theorem dX8_mix_8 : decode cX8_mix 8 = .ok (.lmul, 1) := by decide +kernel
theorem dX8_mix_9 : decode cX8_mix 9 = .ok (.lload_n 1, 1) := by decide +kernel
theorem dX8_mix_10 : decode cX8_mix 10 = .ok (.ladd, 1) := by decide +kernel
theorem dX8_mix_11 : decode cX8_mix 11 = .ok (.putfield 263, 3) := by decide +kernel
theorem dX8_mix_14 : decode cX8_mix 14 = .ok (.return_, 1) := by decide +kernel
theorem dX8_digest_0 : decode cX8_digest 0 = .ok (.aload_n 0, 1) := by decide +kernel
theorem dX8_digest_1 : decode cX8_digest 1 = .ok (.ldc2_w 266, 3) := by decide +kernel
theorem dX8_digest_4 : decode cX8_digest 4 = .ok (.putfield 263, 3) := by decide +kernel
theorem dX8_digest_7 : decode cX8_digest 7 = .ok (.iconst 0, 1) := by decide +kernel
theorem dX8_digest_8 : decode cX8_digest 8 = .ok (.istore_n 1, 1) := by decide +kernel
theorem dX8_digest_9 : decode cX8_digest 9 = .ok (.iload_n 1, 1) := by decide +kernel
theorem dX8_digest_10 : decode cX8_digest 10 = .ok (.bipush 20, 2) := by decide +kernel
theorem dX8_digest_12 : decode cX8_digest 12 = .ok (.if_icmp .ge 47, 3) := by decide +kernel
theorem dX8_digest_15 : decode cX8_digest 15 = .ok (.aload_n 0, 1) := by decide +kernel
theorem dX8_digest_16 : decode cX8_digest 16 = .ok (.getfield 82, 3) := by decide +kernel
theorem dX8_digest_19 : decode cX8_digest 19 = .ok (.ifCond .eq 40, 3) := by decide +kernel
theorem dX8_digest_22 : decode cX8_digest 22 = .ok (.aload_n 0, 1) := by decide +kernel
theorem dX8_digest_23 : decode cX8_digest 23 = .ok (.aload_n 0, 1) := by decide +kernel
theorem dX8_digest_24 : decode cX8_digest 24 = .ok (.getfield 7, 3) := by decide +kernel
theorem dX8_digest_27 : decode cX8_digest 27 = .ok (.iload_n 1, 1) := by decide +kernel
theorem dX8_digest_28 : decode cX8_digest 28 = .ok (.iaload, 1) := by decide +kernel
theorem dX8_digest_29 : decode cX8_digest 29 = .ok (.i2l, 1) := by decide +kernel
theorem dX8_digest_30 : decode cX8_digest 30 = .ok (.invokevirtual 268, 3) := by decide +kernel
theorem dX8_digest_33 : decode cX8_digest 33 = .ok (.aload_n 0, 1) := by decide +kernel
theorem dX8_digest_34 : decode cX8_digest 34 = .ok (.aload_n 0, 1) := by decide +kernel
theorem dX8_digest_35 : decode cX8_digest 35 = .ok (.iload_n 1, 1) := by decide +kernel
theorem dX8_digest_36 : decode cX8_digest 36 = .ok (.invokevirtual 107, 3) := by decide +kernel
theorem dX8_digest_39 : decode cX8_digest 39 = .ok (.i2l, 1) := by decide +kernel
theorem dX8_digest_40 : decode cX8_digest 40 = .ok (.invokevirtual 268, 3) := by decide +kernel
theorem dX8_digest_43 : decode cX8_digest 43 = .ok (.aload_n 0, 1) := by decide +kernel
theorem dX8_digest_44 : decode cX8_digest 44 = .ok (.aload_n 0, 1) := by decide +kernel
theorem dX8_digest_45 : decode cX8_digest 45 = .ok (.iload_n 1, 1) := by decide +kernel
theorem dX8_digest_46 : decode cX8_digest 46 = .ok (.invokevirtual 110, 3) := by decide +kernel
theorem dX8_digest_49 : decode cX8_digest 49 = .ok (.i2l, 1) := by decide +kernel
theorem dX8_digest_50 : decode cX8_digest 50 = .ok (.invokevirtual 268, 3) := by decide +kernel
theorem dX8_digest_53 : decode cX8_digest 53 = .ok (.iinc 1 1, 3) := by decide +kernel
theorem dX8_digest_56 : decode cX8_digest 56 = .ok (.goto (-47), 3) := by decide +kernel
theorem dX8_digest_59 : decode cX8_digest 59 = .ok (.iconst 0, 1) := by decide +kernel
theorem dX8_digest_60 : decode cX8_digest 60 = .ok (.istore_n 1, 1) := by decide +kernel
theorem dX8_digest_61 : decode cX8_digest 61 = .ok (.iload_n 1, 1) := by decide +kernel
theorem dX8_digest_62 : decode cX8_digest 62 = .ok (.aload_n 0, 1) := by decide +kernel
theorem dX8_digest_63 : decode cX8_digest 63 = .ok (.getfield 92, 3) := by decide +kernel
theorem dX8_digest_66 : decode cX8_digest 66 = .ok (.if_icmp .ge 65, 3) := by decide +kernel
theorem dX8_digest_69 : decode cX8_digest 69 = .ok (.iconst 0, 1) := by decide +kernel
theorem dX8_digest_70 : decode cX8_digest 70 = .ok (.istore_n 2, 1) := by decide +kernel
theorem dX8_digest_71 : decode cX8_digest 71 = .ok (.iload_n 2, 1) := by decide +kernel
theorem dX8_digest_72 : decode cX8_digest 72 = .ok (.bipush 7, 2) := by decide +kernel
theorem dX8_digest_74 : decode cX8_digest 74 = .ok (.if_icmp .ge 20, 3) := by decide +kernel
theorem dX8_digest_77 : decode cX8_digest 77 = .ok (.aload_n 0, 1) := by decide +kernel
theorem dX8_digest_78 : decode cX8_digest 78 = .ok (.aload_n 0, 1) := by decide +kernel
theorem dX8_digest_79 : decode cX8_digest 79 = .ok (.iload_n 1, 1) := by decide +kernel
theorem dX8_digest_80 : decode cX8_digest 80 = .ok (.iload_n 2, 1) := by decide +kernel
theorem dX8_digest_81 : decode cX8_digest 81 = .ok (.invokevirtual 126, 3) := by decide +kernel
theorem dX8_digest_84 : decode cX8_digest 84 = .ok (.i2l, 1) := by decide +kernel
theorem dX8_digest_85 : decode cX8_digest 85 = .ok (.invokevirtual 268, 3) := by decide +kernel
theorem dX8_digest_88 : decode cX8_digest 88 = .ok (.iinc 2 1, 3) := by decide +kernel
theorem dX8_digest_91 : decode cX8_digest 91 = .ok (.goto (-20), 3) := by decide +kernel
theorem dX8_digest_94 : decode cX8_digest 94 = .ok (.iconst 0, 1) := by decide +kernel
theorem dX8_digest_95 : decode cX8_digest 95 = .ok (.istore_n 2, 1) := by decide +kernel
theorem dX8_digest_96 : decode cX8_digest 96 = .ok (.iload_n 2, 1) := by decide +kernel
theorem dX8_digest_97 : decode cX8_digest 97 = .ok (.iconst 4, 1) := by decide +kernel
theorem dX8_digest_98 : decode cX8_digest 98 = .ok (.if_icmp .ge 27, 3) := by decide +kernel
theorem dX8_digest_101 : decode cX8_digest 101 = .ok (.aload_n 0, 1) := by decide +kernel
theorem dX8_digest_102 : decode cX8_digest 102 = .ok (.aload_n 0, 1) := by decide +kernel
theorem dX8_digest_103 : decode cX8_digest 103 = .ok (.iload_n 1, 1) := by decide +kernel
theorem dX8_digest_104 : decode cX8_digest 104 = .ok (.iload_n 2, 1) := by decide +kernel
theorem dX8_digest_105 : decode cX8_digest 105 = .ok (.invokevirtual 139, 3) := by decide +kernel
theorem dX8_digest_108 : decode cX8_digest 108 = .ok (.ifCond .eq 7, 3) := by decide +kernel
theorem dX8_digest_111 : decode cX8_digest 111 = .ok (.lconst 1, 1) := by decide +kernel
theorem dX8_digest_112 : decode cX8_digest 112 = .ok (.goto 4, 3) := by decide +kernel
theorem dX8_digest_115 : decode cX8_digest 115 = .ok (.lconst 0, 1) := by decide +kernel
theorem dX8_digest_116 : decode cX8_digest 116 = .ok (.invokevirtual 268, 3) := by decide +kernel
theorem dX8_digest_119 : decode cX8_digest 119 = .ok (.iinc 2 1, 3) := by decide +kernel
theorem dX8_digest_122 : decode cX8_digest 122 = .ok (.goto (-26), 3) := by decide +kernel
theorem dX8_digest_125 : decode cX8_digest 125 = .ok (.iinc 1 1, 3) := by decide +kernel
theorem dX8_digest_128 : decode cX8_digest 128 = .ok (.goto (-67), 3) := by decide +kernel
theorem dX8_digest_131 : decode cX8_digest 131 = .ok (.aload_n 0, 1) := by decide +kernel
theorem dX8_digest_132 : decode cX8_digest 132 = .ok (.aload_n 0, 1) := by decide +kernel
theorem dX8_digest_133 : decode cX8_digest 133 = .ok (.iconst 0, 1) := by decide +kernel
theorem dX8_digest_134 : decode cX8_digest 134 = .ok (.invokevirtual 202, 3) := by decide +kernel
theorem dX8_digest_137 : decode cX8_digest 137 = .ok (.i2l, 1) := by decide +kernel
theorem dX8_digest_138 : decode cX8_digest 138 = .ok (.invokevirtual 268, 3) := by decide +kernel
theorem dX8_digest_141 : decode cX8_digest 141 = .ok (.aload_n 0, 1) := by decide +kernel
theorem dX8_digest_142 : decode cX8_digest 142 = .ok (.aload_n 0, 1) := by decide +kernel
theorem dX8_digest_143 : decode cX8_digest 143 = .ok (.iconst 1, 1) := by decide +kernel
theorem dX8_digest_144 : decode cX8_digest 144 = .ok (.invokevirtual 202, 3) := by decide +kernel
theorem dX8_digest_147 : decode cX8_digest 147 = .ok (.i2l, 1) := by decide +kernel
theorem dX8_digest_148 : decode cX8_digest 148 = .ok (.invokevirtual 268, 3) := by decide +kernel
theorem dX8_digest_151 : decode cX8_digest 151 = .ok (.aload_n 0, 1) := by decide +kernel
theorem dX8_digest_152 : decode cX8_digest 152 = .ok (.aload_n 0, 1) := by decide +kernel
theorem dX8_digest_153 : decode cX8_digest 153 = .ok (.iconst 1, 1) := by decide +kernel
theorem dX8_digest_154 : decode cX8_digest 154 = .ok (.invokevirtual 205, 3) := by decide +kernel
theorem dX8_digest_157 : decode cX8_digest 157 = .ok (.i2l, 1) := by decide +kernel
theorem dX8_digest_158 : decode cX8_digest 158 = .ok (.invokevirtual 268, 3) := by decide +kernel
theorem dX8_digest_161 : decode cX8_digest 161 = .ok (.iconst 0, 1) := by decide +kernel
theorem dX8_digest_162 : decode cX8_digest 162 = .ok (.istore_n 1, 1) := by decide +kernel
theorem dX8_digest_163 : decode cX8_digest 163 = .ok (.iload_n 1, 1) := by decide +kernel
theorem dX8_digest_164 : decode cX8_digest 164 = .ok (.aload_n 0, 1) := by decide +kernel
theorem dX8_digest_165 : decode cX8_digest 165 = .ok (.getfield 70, 3) := by decide +kernel
theorem dX8_digest_168 : decode cX8_digest 168 = .ok (.if_icmp .ge 20, 3) := by decide +kernel
theorem dX8_digest_171 : decode cX8_digest 171 = .ok (.aload_n 0, 1) := by decide +kernel
theorem dX8_digest_172 : decode cX8_digest 172 = .ok (.aload_n 0, 1) := by decide +kernel
theorem dX8_digest_173 : decode cX8_digest 173 = .ok (.getfield 32, 3) := by decide +kernel
theorem dX8_digest_176 : decode cX8_digest 176 = .ok (.iload_n 1, 1) := by decide +kernel
theorem dX8_digest_177 : decode cX8_digest 177 = .ok (.baload, 1) := by decide +kernel
theorem dX8_digest_178 : decode cX8_digest 178 = .ok (.i2l, 1) := by decide +kernel
theorem dX8_digest_179 : decode cX8_digest 179 = .ok (.invokevirtual 268, 3) := by decide +kernel
theorem dX8_digest_182 : decode cX8_digest 182 = .ok (.iinc 1 1, 3) := by decide +kernel
theorem dX8_digest_185 : decode cX8_digest 185 = .ok (.goto (-22), 3) := by decide +kernel
theorem dX8_digest_188 : decode cX8_digest 188 = .ok (.iconst 0, 1) := by decide +kernel
theorem dX8_digest_189 : decode cX8_digest 189 = .ok (.istore_n 1, 1) := by decide +kernel
theorem dX8_digest_190 : decode cX8_digest 190 = .ok (.iload_n 1, 1) := by decide +kernel
theorem dX8_digest_191 : decode cX8_digest 191 = .ok (.bipush 12, 2) := by decide +kernel
theorem dX8_digest_193 : decode cX8_digest 193 = .ok (.if_icmp .ge 19, 3) := by decide +kernel
theorem dX8_digest_196 : decode cX8_digest 196 = .ok (.aload_n 0, 1) := by decide +kernel
theorem dX8_digest_197 : decode cX8_digest 197 = .ok (.aload_n 0, 1) := by decide +kernel
theorem dX8_digest_198 : decode cX8_digest 198 = .ok (.iload_n 1, 1) := by decide +kernel
theorem dX8_digest_199 : decode cX8_digest 199 = .ok (.invokevirtual 258, 3) := by decide +kernel
theorem dX8_digest_202 : decode cX8_digest 202 = .ok (.i2l, 1) := by decide +kernel
theorem dX8_digest_203 : decode cX8_digest 203 = .ok (.invokevirtual 268, 3) := by decide +kernel
theorem dX8_digest_206 : decode cX8_digest 206 = .ok (.iinc 1 1, 3) := by decide +kernel
theorem dX8_digest_209 : decode cX8_digest 209 = .ok (.goto (-19), 3) := by decide +kernel
theorem dX8_digest_212 : decode cX8_digest 212 = .ok (.aload_n 0, 1) := by decide +kernel
theorem dX8_digest_213 : decode cX8_digest 213 = .ok (.getfield 263, 3) := by decide +kernel
theorem dX8_digest_216 : decode cX8_digest 216 = .ok (.lreturn, 1) := by decide +kernel
end
section
theorem dL_law_0 : decode cL_law 0 = .ok (.new 7, 3) := by decide +kernel
theorem dL_law_3 : decode cL_law 3 = .ok (.dup, 1) := by decide +kernel
theorem dL_law_4 : decode cL_law 4 = .ok (.invokespecial 9, 3) := by decide +kernel
theorem dL_law_7 : decode cL_law 7 = .ok (.astore_n 1, 1) := by decide +kernel
theorem dL_law_8 : decode cL_law 8 = .ok (.new 10, 3) := by decide +kernel
theorem dL_law_11 : decode cL_law 11 = .ok (.dup, 1) := by decide +kernel
theorem dL_law_12 : decode cL_law 12 = .ok (.invokespecial 12, 3) := by decide +kernel
theorem dL_law_15 : decode cL_law 15 = .ok (.astore_n 2, 1) := by decide +kernel
theorem dL_law_16 : decode cL_law 16 = .ok (.iconst 0, 1) := by decide +kernel
theorem dL_law_17 : decode cL_law 17 = .ok (.istore_n 3, 1) := by decide +kernel
theorem dL_law_18 : decode cL_law 18 = .ok (.iload_n 3, 1) := by decide +kernel
theorem dL_law_19 : decode cL_law 19 = .ok (.aload_n 0, 1) := by decide +kernel
theorem dL_law_20 : decode cL_law 20 = .ok (.arraylength, 1) := by decide +kernel
theorem dL_law_21 : decode cL_law 21 = .ok (.iconst 5, 1) := by decide +kernel
theorem dL_law_22 : decode cL_law 22 = .ok (.isub, 1) := by decide +kernel
theorem dL_law_23 : decode cL_law 23 = .ok (.if_icmp .gt 743, 3) := by decide +kernel
theorem dL_law_26 : decode cL_law 26 = .ok (.aload_n 0, 1) := by decide +kernel
theorem dL_law_27 : decode cL_law 27 = .ok (.iload_n 3, 1) := by decide +kernel
theorem dL_law_28 : decode cL_law 28 = .ok (.iaload, 1) := by decide +kernel
theorem dL_law_29 : decode cL_law 29 = .ok (.bipush 31, 2) := by decide +kernel
theorem dL_law_31 : decode cL_law 31 = .ok (.iand, 1) := by decide +kernel
theorem dL_law_32 : decode cL_law 32 = .ok (.tableswitch 728 0 22 #[108, 131, 144, 157, 170, 203, 226, 259, 292, 325, 358, 391, 424, 447, 490, 523, 546, 569, 622, 665, 678, 691, 714], 108) := by decide +kernel
theorem dL_law_140 : decode cL_law 140 = .ok (.aload_n 1, 1) := by decide +kernel
theorem dL_law_141 : decode cL_law 141 = .ok (.aload_n 0, 1) := by decide +kernel
theorem dL_law_142 : decode cL_law 142 = .ok (.iload_n 3, 1) := by decide +kernel
theorem dL_law_143 : decode cL_law 143 = .ok (.iconst 1, 1) := by decide +kernel
theorem dL_law_144 : decode cL_law 144 = .ok (.iadd, 1) := by decide +kernel
theorem dL_law_145 : decode cL_law 145 = .ok (.iaload, 1) := by decide +kernel
theorem dL_law_146 : decode cL_law 146 = .ok (.invokevirtual 13, 3) := by decide +kernel
theorem dL_law_149 : decode cL_law 149 = .ok (.aload_n 2, 1) := by decide +kernel
theorem dL_law_150 : decode cL_law 150 = .ok (.aload_n 0, 1) := by decide +kernel
theorem dL_law_151 : decode cL_law 151 = .ok (.iload_n 3, 1) := by decide +kernel
theorem dL_law_152 : decode cL_law 152 = .ok (.iconst 1, 1) := by decide +kernel
theorem dL_law_153 : decode cL_law 153 = .ok (.iadd, 1) := by decide +kernel
theorem dL_law_154 : decode cL_law 154 = .ok (.iaload, 1) := by decide +kernel
theorem dL_law_155 : decode cL_law 155 = .ok (.invokevirtual 17, 3) := by decide +kernel
theorem dL_law_158 : decode cL_law 158 = .ok (.if_icmp .eq 602, 3) := by decide +kernel
theorem dL_law_161 : decode cL_law 161 = .ok (.iconst 0, 1) := by decide +kernel
theorem dL_law_162 : decode cL_law 162 = .ok (.ireturn, 1) := by decide +kernel
theorem dL_law_163 : decode cL_law 163 = .ok (.aload_n 1, 1) := by decide +kernel
theorem dL_law_164 : decode cL_law 164 = .ok (.invokevirtual 18, 3) := by decide +kernel
theorem dL_law_167 : decode cL_law 167 = .ok (.aload_n 2, 1) := by decide +kernel
theorem dL_law_168 : decode cL_law 168 = .ok (.invokevirtual 22, 3) := by decide +kernel
theorem dL_law_171 : decode cL_law 171 = .ok (.if_icmp .eq 589, 3) := by decide +kernel
theorem dL_law_174 : decode cL_law 174 = .ok (.iconst 0, 1) := by decide +kernel
theorem dL_law_175 : decode cL_law 175 = .ok (.ireturn, 1) := by decide +kernel
theorem dL_law_176 : decode cL_law 176 = .ok (.aload_n 1, 1) := by decide +kernel
theorem dL_law_177 : decode cL_law 177 = .ok (.invokevirtual 23, 3) := by decide +kernel
theorem dL_law_180 : decode cL_law 180 = .ok (.aload_n 2, 1) := by decide +kernel
theorem dL_law_181 : decode cL_law 181 = .ok (.invokevirtual 26, 3) := by decide +kernel
theorem dL_law_184 : decode cL_law 184 = .ok (.if_icmp .eq 576, 3) := by decide +kernel
theorem dL_law_187 : decode cL_law 187 = .ok (.iconst 0, 1) := by decide +kernel
theorem dL_law_188 : decode cL_law 188 = .ok (.ireturn, 1) := by decide +kernel
theorem dL_law_189 : decode cL_law 189 = .ok (.aload_n 1, 1) := by decide +kernel
theorem dL_law_190 : decode cL_law 190 = .ok (.invokevirtual 27, 3) := by decide +kernel
theorem dL_law_193 : decode cL_law 193 = .ok (.aload_n 2, 1) := by decide +kernel
theorem dL_law_194 : decode cL_law 194 = .ok (.invokevirtual 30, 3) := by decide +kernel
theorem dL_law_197 : decode cL_law 197 = .ok (.if_icmp .eq 563, 3) := by decide +kernel
theorem dL_law_200 : decode cL_law 200 = .ok (.iconst 0, 1) := by decide +kernel
theorem dL_law_201 : decode cL_law 201 = .ok (.ireturn, 1) := by decide +kernel
theorem dL_law_202 : decode cL_law 202 = .ok (.aload_n 1, 1) := by decide +kernel
theorem dL_law_203 : decode cL_law 203 = .ok (.aload_n 0, 1) := by decide +kernel
theorem dL_law_204 : decode cL_law 204 = .ok (.iload_n 3, 1) := by decide +kernel
theorem dL_law_205 : decode cL_law 205 = .ok (.iconst 1, 1) := by decide +kernel
theorem dL_law_206 : decode cL_law 206 = .ok (.iadd, 1) := by decide +kernel
theorem dL_law_207 : decode cL_law 207 = .ok (.iaload, 1) := by decide +kernel
theorem dL_law_208 : decode cL_law 208 = .ok (.aload_n 0, 1) := by decide +kernel
theorem dL_law_209 : decode cL_law 209 = .ok (.iload_n 3, 1) := by decide +kernel
theorem dL_law_210 : decode cL_law 210 = .ok (.iconst 2, 1) := by decide +kernel
theorem dL_law_211 : decode cL_law 211 = .ok (.iadd, 1) := by decide +kernel
theorem dL_law_212 : decode cL_law 212 = .ok (.iaload, 1) := by decide +kernel
theorem dL_law_213 : decode cL_law 213 = .ok (.invokevirtual 31, 3) := by decide +kernel
theorem dL_law_216 : decode cL_law 216 = .ok (.aload_n 2, 1) := by decide +kernel
theorem dL_law_217 : decode cL_law 217 = .ok (.aload_n 0, 1) := by decide +kernel
theorem dL_law_218 : decode cL_law 218 = .ok (.iload_n 3, 1) := by decide +kernel
theorem dL_law_219 : decode cL_law 219 = .ok (.iconst 1, 1) := by decide +kernel
theorem dL_law_220 : decode cL_law 220 = .ok (.iadd, 1) := by decide +kernel
theorem dL_law_221 : decode cL_law 221 = .ok (.iaload, 1) := by decide +kernel
theorem dL_law_222 : decode cL_law 222 = .ok (.aload_n 0, 1) := by decide +kernel
theorem dL_law_223 : decode cL_law 223 = .ok (.iload_n 3, 1) := by decide +kernel
theorem dL_law_224 : decode cL_law 224 = .ok (.iconst 2, 1) := by decide +kernel
theorem dL_law_225 : decode cL_law 225 = .ok (.iadd, 1) := by decide +kernel
theorem dL_law_226 : decode cL_law 226 = .ok (.iaload, 1) := by decide +kernel
theorem dL_law_227 : decode cL_law 227 = .ok (.invokevirtual 35, 3) := by decide +kernel
theorem dL_law_230 : decode cL_law 230 = .ok (.if_icmp .eq 530, 3) := by decide +kernel
theorem dL_law_233 : decode cL_law 233 = .ok (.iconst 0, 1) := by decide +kernel
theorem dL_law_234 : decode cL_law 234 = .ok (.ireturn, 1) := by decide +kernel
theorem dL_law_235 : decode cL_law 235 = .ok (.aload_n 1, 1) := by decide +kernel
theorem dL_law_236 : decode cL_law 236 = .ok (.aload_n 0, 1) := by decide +kernel
theorem dL_law_237 : decode cL_law 237 = .ok (.iload_n 3, 1) := by decide +kernel
theorem dL_law_238 : decode cL_law 238 = .ok (.iconst 1, 1) := by decide +kernel
theorem dL_law_239 : decode cL_law 239 = .ok (.iadd, 1) := by decide +kernel
theorem dL_law_240 : decode cL_law 240 = .ok (.iaload, 1) := by decide +kernel
theorem dL_law_241 : decode cL_law 241 = .ok (.invokevirtual 36, 3) := by decide +kernel
theorem dL_law_244 : decode cL_law 244 = .ok (.aload_n 2, 1) := by decide +kernel
theorem dL_law_245 : decode cL_law 245 = .ok (.aload_n 0, 1) := by decide +kernel
theorem dL_law_246 : decode cL_law 246 = .ok (.iload_n 3, 1) := by decide +kernel
theorem dL_law_247 : decode cL_law 247 = .ok (.iconst 1, 1) := by decide +kernel
theorem dL_law_248 : decode cL_law 248 = .ok (.iadd, 1) := by decide +kernel
theorem dL_law_249 : decode cL_law 249 = .ok (.iaload, 1) := by decide +kernel
theorem dL_law_250 : decode cL_law 250 = .ok (.invokevirtual 39, 3) := by decide +kernel
theorem dL_law_253 : decode cL_law 253 = .ok (.if_icmp .eq 507, 3) := by decide +kernel
theorem dL_law_256 : decode cL_law 256 = .ok (.iconst 0, 1) := by decide +kernel
theorem dL_law_257 : decode cL_law 257 = .ok (.ireturn, 1) := by decide +kernel
theorem dL_law_258 : decode cL_law 258 = .ok (.aload_n 1, 1) := by decide +kernel
theorem dL_law_259 : decode cL_law 259 = .ok (.aload_n 0, 1) := by decide +kernel
theorem dL_law_260 : decode cL_law 260 = .ok (.iload_n 3, 1) := by decide +kernel
theorem dL_law_261 : decode cL_law 261 = .ok (.iconst 1, 1) := by decide +kernel
theorem dL_law_262 : decode cL_law 262 = .ok (.iadd, 1) := by decide +kernel
theorem dL_law_263 : decode cL_law 263 = .ok (.iaload, 1) := by decide +kernel
theorem dL_law_264 : decode cL_law 264 = .ok (.aload_n 0, 1) := by decide +kernel
theorem dL_law_265 : decode cL_law 265 = .ok (.iload_n 3, 1) := by decide +kernel
theorem dL_law_266 : decode cL_law 266 = .ok (.iconst 2, 1) := by decide +kernel
theorem dL_law_267 : decode cL_law 267 = .ok (.iadd, 1) := by decide +kernel
theorem dL_law_268 : decode cL_law 268 = .ok (.iaload, 1) := by decide +kernel
theorem dL_law_269 : decode cL_law 269 = .ok (.invokevirtual 40, 3) := by decide +kernel
theorem dL_law_272 : decode cL_law 272 = .ok (.aload_n 2, 1) := by decide +kernel
theorem dL_law_273 : decode cL_law 273 = .ok (.aload_n 0, 1) := by decide +kernel
theorem dL_law_274 : decode cL_law 274 = .ok (.iload_n 3, 1) := by decide +kernel
theorem dL_law_275 : decode cL_law 275 = .ok (.iconst 1, 1) := by decide +kernel
theorem dL_law_276 : decode cL_law 276 = .ok (.iadd, 1) := by decide +kernel
theorem dL_law_277 : decode cL_law 277 = .ok (.iaload, 1) := by decide +kernel
theorem dL_law_278 : decode cL_law 278 = .ok (.aload_n 0, 1) := by decide +kernel
theorem dL_law_279 : decode cL_law 279 = .ok (.iload_n 3, 1) := by decide +kernel
theorem dL_law_280 : decode cL_law 280 = .ok (.iconst 2, 1) := by decide +kernel
theorem dL_law_281 : decode cL_law 281 = .ok (.iadd, 1) := by decide +kernel
theorem dL_law_282 : decode cL_law 282 = .ok (.iaload, 1) := by decide +kernel
theorem dL_law_283 : decode cL_law 283 = .ok (.invokevirtual 43, 3) := by decide +kernel
theorem dL_law_286 : decode cL_law 286 = .ok (.if_icmp .eq 474, 3) := by decide +kernel
theorem dL_law_289 : decode cL_law 289 = .ok (.iconst 0, 1) := by decide +kernel
theorem dL_law_290 : decode cL_law 290 = .ok (.ireturn, 1) := by decide +kernel
theorem dL_law_291 : decode cL_law 291 = .ok (.aload_n 1, 1) := by decide +kernel
theorem dL_law_292 : decode cL_law 292 = .ok (.aload_n 0, 1) := by decide +kernel
theorem dL_law_293 : decode cL_law 293 = .ok (.iload_n 3, 1) := by decide +kernel
theorem dL_law_294 : decode cL_law 294 = .ok (.iconst 1, 1) := by decide +kernel
theorem dL_law_295 : decode cL_law 295 = .ok (.iadd, 1) := by decide +kernel
theorem dL_law_296 : decode cL_law 296 = .ok (.iaload, 1) := by decide +kernel
theorem dL_law_297 : decode cL_law 297 = .ok (.aload_n 0, 1) := by decide +kernel
theorem dL_law_298 : decode cL_law 298 = .ok (.iload_n 3, 1) := by decide +kernel
theorem dL_law_299 : decode cL_law 299 = .ok (.iconst 2, 1) := by decide +kernel
theorem dL_law_300 : decode cL_law 300 = .ok (.iadd, 1) := by decide +kernel
theorem dL_law_301 : decode cL_law 301 = .ok (.iaload, 1) := by decide +kernel
theorem dL_law_302 : decode cL_law 302 = .ok (.invokevirtual 44, 3) := by decide +kernel
theorem dL_law_305 : decode cL_law 305 = .ok (.aload_n 2, 1) := by decide +kernel
theorem dL_law_306 : decode cL_law 306 = .ok (.aload_n 0, 1) := by decide +kernel
theorem dL_law_307 : decode cL_law 307 = .ok (.iload_n 3, 1) := by decide +kernel
theorem dL_law_308 : decode cL_law 308 = .ok (.iconst 1, 1) := by decide +kernel
theorem dL_law_309 : decode cL_law 309 = .ok (.iadd, 1) := by decide +kernel
theorem dL_law_310 : decode cL_law 310 = .ok (.iaload, 1) := by decide +kernel
theorem dL_law_311 : decode cL_law 311 = .ok (.aload_n 0, 1) := by decide +kernel
theorem dL_law_312 : decode cL_law 312 = .ok (.iload_n 3, 1) := by decide +kernel
theorem dL_law_313 : decode cL_law 313 = .ok (.iconst 2, 1) := by decide +kernel
theorem dL_law_314 : decode cL_law 314 = .ok (.iadd, 1) := by decide +kernel
theorem dL_law_315 : decode cL_law 315 = .ok (.iaload, 1) := by decide +kernel
theorem dL_law_316 : decode cL_law 316 = .ok (.invokevirtual 47, 3) := by decide +kernel
theorem dL_law_319 : decode cL_law 319 = .ok (.if_icmp .eq 441, 3) := by decide +kernel
theorem dL_law_322 : decode cL_law 322 = .ok (.iconst 0, 1) := by decide +kernel
theorem dL_law_323 : decode cL_law 323 = .ok (.ireturn, 1) := by decide +kernel
theorem dL_law_324 : decode cL_law 324 = .ok (.aload_n 1, 1) := by decide +kernel
theorem dL_law_325 : decode cL_law 325 = .ok (.aload_n 0, 1) := by decide +kernel
theorem dL_law_326 : decode cL_law 326 = .ok (.iload_n 3, 1) := by decide +kernel
theorem dL_law_327 : decode cL_law 327 = .ok (.iconst 1, 1) := by decide +kernel
theorem dL_law_328 : decode cL_law 328 = .ok (.iadd, 1) := by decide +kernel
theorem dL_law_329 : decode cL_law 329 = .ok (.iaload, 1) := by decide +kernel
theorem dL_law_330 : decode cL_law 330 = .ok (.aload_n 0, 1) := by decide +kernel
theorem dL_law_331 : decode cL_law 331 = .ok (.iload_n 3, 1) := by decide +kernel
theorem dL_law_332 : decode cL_law 332 = .ok (.iconst 2, 1) := by decide +kernel
theorem dL_law_333 : decode cL_law 333 = .ok (.iadd, 1) := by decide +kernel
theorem dL_law_334 : decode cL_law 334 = .ok (.iaload, 1) := by decide +kernel
theorem dL_law_335 : decode cL_law 335 = .ok (.invokevirtual 48, 3) := by decide +kernel
theorem dL_law_338 : decode cL_law 338 = .ok (.aload_n 2, 1) := by decide +kernel
theorem dL_law_339 : decode cL_law 339 = .ok (.aload_n 0, 1) := by decide +kernel
theorem dL_law_340 : decode cL_law 340 = .ok (.iload_n 3, 1) := by decide +kernel
theorem dL_law_341 : decode cL_law 341 = .ok (.iconst 1, 1) := by decide +kernel
theorem dL_law_342 : decode cL_law 342 = .ok (.iadd, 1) := by decide +kernel
theorem dL_law_343 : decode cL_law 343 = .ok (.iaload, 1) := by decide +kernel
theorem dL_law_344 : decode cL_law 344 = .ok (.aload_n 0, 1) := by decide +kernel
theorem dL_law_345 : decode cL_law 345 = .ok (.iload_n 3, 1) := by decide +kernel
theorem dL_law_346 : decode cL_law 346 = .ok (.iconst 2, 1) := by decide +kernel
theorem dL_law_347 : decode cL_law 347 = .ok (.iadd, 1) := by decide +kernel
theorem dL_law_348 : decode cL_law 348 = .ok (.iaload, 1) := by decide +kernel
theorem dL_law_349 : decode cL_law 349 = .ok (.invokevirtual 51, 3) := by decide +kernel
theorem dL_law_352 : decode cL_law 352 = .ok (.if_icmp .eq 408, 3) := by decide +kernel
theorem dL_law_355 : decode cL_law 355 = .ok (.iconst 0, 1) := by decide +kernel
theorem dL_law_356 : decode cL_law 356 = .ok (.ireturn, 1) := by decide +kernel
theorem dL_law_357 : decode cL_law 357 = .ok (.aload_n 1, 1) := by decide +kernel
theorem dL_law_358 : decode cL_law 358 = .ok (.aload_n 0, 1) := by decide +kernel
theorem dL_law_359 : decode cL_law 359 = .ok (.iload_n 3, 1) := by decide +kernel
theorem dL_law_360 : decode cL_law 360 = .ok (.iconst 1, 1) := by decide +kernel
theorem dL_law_361 : decode cL_law 361 = .ok (.iadd, 1) := by decide +kernel
theorem dL_law_362 : decode cL_law 362 = .ok (.iaload, 1) := by decide +kernel
theorem dL_law_363 : decode cL_law 363 = .ok (.aload_n 0, 1) := by decide +kernel
theorem dL_law_364 : decode cL_law 364 = .ok (.iload_n 3, 1) := by decide +kernel
theorem dL_law_365 : decode cL_law 365 = .ok (.iconst 2, 1) := by decide +kernel
theorem dL_law_366 : decode cL_law 366 = .ok (.iadd, 1) := by decide +kernel
theorem dL_law_367 : decode cL_law 367 = .ok (.iaload, 1) := by decide +kernel
theorem dL_law_368 : decode cL_law 368 = .ok (.invokevirtual 52, 3) := by decide +kernel
theorem dL_law_371 : decode cL_law 371 = .ok (.aload_n 2, 1) := by decide +kernel
theorem dL_law_372 : decode cL_law 372 = .ok (.aload_n 0, 1) := by decide +kernel
theorem dL_law_373 : decode cL_law 373 = .ok (.iload_n 3, 1) := by decide +kernel
theorem dL_law_374 : decode cL_law 374 = .ok (.iconst 1, 1) := by decide +kernel
theorem dL_law_375 : decode cL_law 375 = .ok (.iadd, 1) := by decide +kernel
theorem dL_law_376 : decode cL_law 376 = .ok (.iaload, 1) := by decide +kernel
theorem dL_law_377 : decode cL_law 377 = .ok (.aload_n 0, 1) := by decide +kernel
theorem dL_law_378 : decode cL_law 378 = .ok (.iload_n 3, 1) := by decide +kernel
theorem dL_law_379 : decode cL_law 379 = .ok (.iconst 2, 1) := by decide +kernel
theorem dL_law_380 : decode cL_law 380 = .ok (.iadd, 1) := by decide +kernel
theorem dL_law_381 : decode cL_law 381 = .ok (.iaload, 1) := by decide +kernel
theorem dL_law_382 : decode cL_law 382 = .ok (.invokevirtual 55, 3) := by decide +kernel
theorem dL_law_385 : decode cL_law 385 = .ok (.if_icmp .eq 375, 3) := by decide +kernel
theorem dL_law_388 : decode cL_law 388 = .ok (.iconst 0, 1) := by decide +kernel
theorem dL_law_389 : decode cL_law 389 = .ok (.ireturn, 1) := by decide +kernel
theorem dL_law_390 : decode cL_law 390 = .ok (.aload_n 1, 1) := by decide +kernel
theorem dL_law_391 : decode cL_law 391 = .ok (.aload_n 0, 1) := by decide +kernel
theorem dL_law_392 : decode cL_law 392 = .ok (.iload_n 3, 1) := by decide +kernel
theorem dL_law_393 : decode cL_law 393 = .ok (.iconst 1, 1) := by decide +kernel
theorem dL_law_394 : decode cL_law 394 = .ok (.iadd, 1) := by decide +kernel
theorem dL_law_395 : decode cL_law 395 = .ok (.iaload, 1) := by decide +kernel
theorem dL_law_396 : decode cL_law 396 = .ok (.aload_n 0, 1) := by decide +kernel
theorem dL_law_397 : decode cL_law 397 = .ok (.iload_n 3, 1) := by decide +kernel
theorem dL_law_398 : decode cL_law 398 = .ok (.iconst 2, 1) := by decide +kernel
theorem dL_law_399 : decode cL_law 399 = .ok (.iadd, 1) := by decide +kernel
theorem dL_law_400 : decode cL_law 400 = .ok (.iaload, 1) := by decide +kernel
theorem dL_law_401 : decode cL_law 401 = .ok (.invokevirtual 56, 3) := by decide +kernel
theorem dL_law_404 : decode cL_law 404 = .ok (.aload_n 2, 1) := by decide +kernel
theorem dL_law_405 : decode cL_law 405 = .ok (.aload_n 0, 1) := by decide +kernel
theorem dL_law_406 : decode cL_law 406 = .ok (.iload_n 3, 1) := by decide +kernel
theorem dL_law_407 : decode cL_law 407 = .ok (.iconst 1, 1) := by decide +kernel
theorem dL_law_408 : decode cL_law 408 = .ok (.iadd, 1) := by decide +kernel
theorem dL_law_409 : decode cL_law 409 = .ok (.iaload, 1) := by decide +kernel
theorem dL_law_410 : decode cL_law 410 = .ok (.aload_n 0, 1) := by decide +kernel
theorem dL_law_411 : decode cL_law 411 = .ok (.iload_n 3, 1) := by decide +kernel
theorem dL_law_412 : decode cL_law 412 = .ok (.iconst 2, 1) := by decide +kernel
theorem dL_law_413 : decode cL_law 413 = .ok (.iadd, 1) := by decide +kernel
theorem dL_law_414 : decode cL_law 414 = .ok (.iaload, 1) := by decide +kernel
theorem dL_law_415 : decode cL_law 415 = .ok (.invokevirtual 59, 3) := by decide +kernel
theorem dL_law_418 : decode cL_law 418 = .ok (.if_icmp .eq 342, 3) := by decide +kernel
theorem dL_law_421 : decode cL_law 421 = .ok (.iconst 0, 1) := by decide +kernel
theorem dL_law_422 : decode cL_law 422 = .ok (.ireturn, 1) := by decide +kernel
theorem dL_law_423 : decode cL_law 423 = .ok (.aload_n 1, 1) := by decide +kernel
theorem dL_law_424 : decode cL_law 424 = .ok (.aload_n 0, 1) := by decide +kernel
theorem dL_law_425 : decode cL_law 425 = .ok (.iload_n 3, 1) := by decide +kernel
theorem dL_law_426 : decode cL_law 426 = .ok (.iconst 1, 1) := by decide +kernel
theorem dL_law_427 : decode cL_law 427 = .ok (.iadd, 1) := by decide +kernel
theorem dL_law_428 : decode cL_law 428 = .ok (.iaload, 1) := by decide +kernel
theorem dL_law_429 : decode cL_law 429 = .ok (.aload_n 0, 1) := by decide +kernel
theorem dL_law_430 : decode cL_law 430 = .ok (.iload_n 3, 1) := by decide +kernel
theorem dL_law_431 : decode cL_law 431 = .ok (.iconst 2, 1) := by decide +kernel
theorem dL_law_432 : decode cL_law 432 = .ok (.iadd, 1) := by decide +kernel
theorem dL_law_433 : decode cL_law 433 = .ok (.iaload, 1) := by decide +kernel
theorem dL_law_434 : decode cL_law 434 = .ok (.invokevirtual 60, 3) := by decide +kernel
theorem dL_law_437 : decode cL_law 437 = .ok (.aload_n 2, 1) := by decide +kernel
theorem dL_law_438 : decode cL_law 438 = .ok (.aload_n 0, 1) := by decide +kernel
theorem dL_law_439 : decode cL_law 439 = .ok (.iload_n 3, 1) := by decide +kernel
theorem dL_law_440 : decode cL_law 440 = .ok (.iconst 1, 1) := by decide +kernel
theorem dL_law_441 : decode cL_law 441 = .ok (.iadd, 1) := by decide +kernel
theorem dL_law_442 : decode cL_law 442 = .ok (.iaload, 1) := by decide +kernel
theorem dL_law_443 : decode cL_law 443 = .ok (.aload_n 0, 1) := by decide +kernel
theorem dL_law_444 : decode cL_law 444 = .ok (.iload_n 3, 1) := by decide +kernel
theorem dL_law_445 : decode cL_law 445 = .ok (.iconst 2, 1) := by decide +kernel
theorem dL_law_446 : decode cL_law 446 = .ok (.iadd, 1) := by decide +kernel
theorem dL_law_447 : decode cL_law 447 = .ok (.iaload, 1) := by decide +kernel
theorem dL_law_448 : decode cL_law 448 = .ok (.invokevirtual 63, 3) := by decide +kernel
theorem dL_law_451 : decode cL_law 451 = .ok (.if_icmp .eq 309, 3) := by decide +kernel
theorem dL_law_454 : decode cL_law 454 = .ok (.iconst 0, 1) := by decide +kernel
theorem dL_law_455 : decode cL_law 455 = .ok (.ireturn, 1) := by decide +kernel
theorem dL_law_456 : decode cL_law 456 = .ok (.aload_n 1, 1) := by decide +kernel
theorem dL_law_457 : decode cL_law 457 = .ok (.aload_n 0, 1) := by decide +kernel
theorem dL_law_458 : decode cL_law 458 = .ok (.iload_n 3, 1) := by decide +kernel
theorem dL_law_459 : decode cL_law 459 = .ok (.iconst 1, 1) := by decide +kernel
theorem dL_law_460 : decode cL_law 460 = .ok (.iadd, 1) := by decide +kernel
theorem dL_law_461 : decode cL_law 461 = .ok (.iaload, 1) := by decide +kernel
theorem dL_law_462 : decode cL_law 462 = .ok (.invokevirtual 64, 3) := by decide +kernel
theorem dL_law_465 : decode cL_law 465 = .ok (.aload_n 2, 1) := by decide +kernel
theorem dL_law_466 : decode cL_law 466 = .ok (.aload_n 0, 1) := by decide +kernel
theorem dL_law_467 : decode cL_law 467 = .ok (.iload_n 3, 1) := by decide +kernel
theorem dL_law_468 : decode cL_law 468 = .ok (.iconst 1, 1) := by decide +kernel
theorem dL_law_469 : decode cL_law 469 = .ok (.iadd, 1) := by decide +kernel
theorem dL_law_470 : decode cL_law 470 = .ok (.iaload, 1) := by decide +kernel
theorem dL_law_471 : decode cL_law 471 = .ok (.invokevirtual 67, 3) := by decide +kernel
theorem dL_law_474 : decode cL_law 474 = .ok (.if_icmp .eq 286, 3) := by decide +kernel
theorem dL_law_477 : decode cL_law 477 = .ok (.iconst 0, 1) := by decide +kernel
theorem dL_law_478 : decode cL_law 478 = .ok (.ireturn, 1) := by decide +kernel
theorem dL_law_479 : decode cL_law 479 = .ok (.aload_n 1, 1) := by decide +kernel
theorem dL_law_480 : decode cL_law 480 = .ok (.aload_n 0, 1) := by decide +kernel
theorem dL_law_481 : decode cL_law 481 = .ok (.iload_n 3, 1) := by decide +kernel
theorem dL_law_482 : decode cL_law 482 = .ok (.iconst 1, 1) := by decide +kernel
theorem dL_law_483 : decode cL_law 483 = .ok (.iadd, 1) := by decide +kernel
theorem dL_law_484 : decode cL_law 484 = .ok (.iaload, 1) := by decide +kernel
theorem dL_law_485 : decode cL_law 485 = .ok (.aload_n 0, 1) := by decide +kernel
theorem dL_law_486 : decode cL_law 486 = .ok (.iload_n 3, 1) := by decide +kernel
theorem dL_law_487 : decode cL_law 487 = .ok (.iconst 2, 1) := by decide +kernel
theorem dL_law_488 : decode cL_law 488 = .ok (.iadd, 1) := by decide +kernel
theorem dL_law_489 : decode cL_law 489 = .ok (.iaload, 1) := by decide +kernel
theorem dL_law_490 : decode cL_law 490 = .ok (.aload_n 0, 1) := by decide +kernel
theorem dL_law_491 : decode cL_law 491 = .ok (.iload_n 3, 1) := by decide +kernel
theorem dL_law_492 : decode cL_law 492 = .ok (.iconst 3, 1) := by decide +kernel
theorem dL_law_493 : decode cL_law 493 = .ok (.iadd, 1) := by decide +kernel
theorem dL_law_494 : decode cL_law 494 = .ok (.iaload, 1) := by decide +kernel
theorem dL_law_495 : decode cL_law 495 = .ok (.invokevirtual 68, 3) := by decide +kernel
theorem dL_law_498 : decode cL_law 498 = .ok (.aload_n 2, 1) := by decide +kernel
theorem dL_law_499 : decode cL_law 499 = .ok (.aload_n 0, 1) := by decide +kernel
theorem dL_law_500 : decode cL_law 500 = .ok (.iload_n 3, 1) := by decide +kernel
theorem dL_law_501 : decode cL_law 501 = .ok (.iconst 1, 1) := by decide +kernel
theorem dL_law_502 : decode cL_law 502 = .ok (.iadd, 1) := by decide +kernel
theorem dL_law_503 : decode cL_law 503 = .ok (.iaload, 1) := by decide +kernel
theorem dL_law_504 : decode cL_law 504 = .ok (.aload_n 0, 1) := by decide +kernel
theorem dL_law_505 : decode cL_law 505 = .ok (.iload_n 3, 1) := by decide +kernel
theorem dL_law_506 : decode cL_law 506 = .ok (.iconst 2, 1) := by decide +kernel
theorem dL_law_507 : decode cL_law 507 = .ok (.iadd, 1) := by decide +kernel
theorem dL_law_508 : decode cL_law 508 = .ok (.iaload, 1) := by decide +kernel
theorem dL_law_509 : decode cL_law 509 = .ok (.aload_n 0, 1) := by decide +kernel
theorem dL_law_510 : decode cL_law 510 = .ok (.iload_n 3, 1) := by decide +kernel
theorem dL_law_511 : decode cL_law 511 = .ok (.iconst 3, 1) := by decide +kernel
theorem dL_law_512 : decode cL_law 512 = .ok (.iadd, 1) := by decide +kernel
theorem dL_law_513 : decode cL_law 513 = .ok (.iaload, 1) := by decide +kernel
theorem dL_law_514 : decode cL_law 514 = .ok (.invokevirtual 72, 3) := by decide +kernel
theorem dL_law_517 : decode cL_law 517 = .ok (.if_icmp .eq 243, 3) := by decide +kernel
theorem dL_law_520 : decode cL_law 520 = .ok (.iconst 0, 1) := by decide +kernel
theorem dL_law_521 : decode cL_law 521 = .ok (.ireturn, 1) := by decide +kernel
theorem dL_law_522 : decode cL_law 522 = .ok (.aload_n 1, 1) := by decide +kernel
theorem dL_law_523 : decode cL_law 523 = .ok (.aload_n 0, 1) := by decide +kernel
theorem dL_law_524 : decode cL_law 524 = .ok (.iload_n 3, 1) := by decide +kernel
theorem dL_law_525 : decode cL_law 525 = .ok (.iconst 1, 1) := by decide +kernel
theorem dL_law_526 : decode cL_law 526 = .ok (.iadd, 1) := by decide +kernel
theorem dL_law_527 : decode cL_law 527 = .ok (.iaload, 1) := by decide +kernel
theorem dL_law_528 : decode cL_law 528 = .ok (.aload_n 0, 1) := by decide +kernel
theorem dL_law_529 : decode cL_law 529 = .ok (.iload_n 3, 1) := by decide +kernel
theorem dL_law_530 : decode cL_law 530 = .ok (.iconst 2, 1) := by decide +kernel
theorem dL_law_531 : decode cL_law 531 = .ok (.iadd, 1) := by decide +kernel
theorem dL_law_532 : decode cL_law 532 = .ok (.iaload, 1) := by decide +kernel
theorem dL_law_533 : decode cL_law 533 = .ok (.invokevirtual 73, 3) := by decide +kernel
theorem dL_law_536 : decode cL_law 536 = .ok (.aload_n 2, 1) := by decide +kernel
theorem dL_law_537 : decode cL_law 537 = .ok (.aload_n 0, 1) := by decide +kernel
theorem dL_law_538 : decode cL_law 538 = .ok (.iload_n 3, 1) := by decide +kernel
theorem dL_law_539 : decode cL_law 539 = .ok (.iconst 1, 1) := by decide +kernel
theorem dL_law_540 : decode cL_law 540 = .ok (.iadd, 1) := by decide +kernel
theorem dL_law_541 : decode cL_law 541 = .ok (.iaload, 1) := by decide +kernel
theorem dL_law_542 : decode cL_law 542 = .ok (.aload_n 0, 1) := by decide +kernel
theorem dL_law_543 : decode cL_law 543 = .ok (.iload_n 3, 1) := by decide +kernel
theorem dL_law_544 : decode cL_law 544 = .ok (.iconst 2, 1) := by decide +kernel
theorem dL_law_545 : decode cL_law 545 = .ok (.iadd, 1) := by decide +kernel
theorem dL_law_546 : decode cL_law 546 = .ok (.iaload, 1) := by decide +kernel
theorem dL_law_547 : decode cL_law 547 = .ok (.invokevirtual 76, 3) := by decide +kernel
theorem dL_law_550 : decode cL_law 550 = .ok (.if_icmp .eq 210, 3) := by decide +kernel
theorem dL_law_553 : decode cL_law 553 = .ok (.iconst 0, 1) := by decide +kernel
theorem dL_law_554 : decode cL_law 554 = .ok (.ireturn, 1) := by decide +kernel
theorem dL_law_555 : decode cL_law 555 = .ok (.aload_n 1, 1) := by decide +kernel
theorem dL_law_556 : decode cL_law 556 = .ok (.aload_n 0, 1) := by decide +kernel
theorem dL_law_557 : decode cL_law 557 = .ok (.iload_n 3, 1) := by decide +kernel
theorem dL_law_558 : decode cL_law 558 = .ok (.iconst 1, 1) := by decide +kernel
theorem dL_law_559 : decode cL_law 559 = .ok (.iadd, 1) := by decide +kernel
theorem dL_law_560 : decode cL_law 560 = .ok (.iaload, 1) := by decide +kernel
theorem dL_law_561 : decode cL_law 561 = .ok (.invokevirtual 77, 3) := by decide +kernel
theorem dL_law_564 : decode cL_law 564 = .ok (.aload_n 2, 1) := by decide +kernel
theorem dL_law_565 : decode cL_law 565 = .ok (.aload_n 0, 1) := by decide +kernel
theorem dL_law_566 : decode cL_law 566 = .ok (.iload_n 3, 1) := by decide +kernel
theorem dL_law_567 : decode cL_law 567 = .ok (.iconst 1, 1) := by decide +kernel
theorem dL_law_568 : decode cL_law 568 = .ok (.iadd, 1) := by decide +kernel
theorem dL_law_569 : decode cL_law 569 = .ok (.iaload, 1) := by decide +kernel
theorem dL_law_570 : decode cL_law 570 = .ok (.invokevirtual 80, 3) := by decide +kernel
theorem dL_law_573 : decode cL_law 573 = .ok (.if_icmp .eq 187, 3) := by decide +kernel
theorem dL_law_576 : decode cL_law 576 = .ok (.iconst 0, 1) := by decide +kernel
theorem dL_law_577 : decode cL_law 577 = .ok (.ireturn, 1) := by decide +kernel
theorem dL_law_578 : decode cL_law 578 = .ok (.aload_n 1, 1) := by decide +kernel
theorem dL_law_579 : decode cL_law 579 = .ok (.aload_n 0, 1) := by decide +kernel
theorem dL_law_580 : decode cL_law 580 = .ok (.iload_n 3, 1) := by decide +kernel
theorem dL_law_581 : decode cL_law 581 = .ok (.iconst 1, 1) := by decide +kernel
theorem dL_law_582 : decode cL_law 582 = .ok (.iadd, 1) := by decide +kernel
theorem dL_law_583 : decode cL_law 583 = .ok (.iaload, 1) := by decide +kernel
theorem dL_law_584 : decode cL_law 584 = .ok (.invokevirtual 81, 3) := by decide +kernel
theorem dL_law_587 : decode cL_law 587 = .ok (.aload_n 2, 1) := by decide +kernel
theorem dL_law_588 : decode cL_law 588 = .ok (.aload_n 0, 1) := by decide +kernel
theorem dL_law_589 : decode cL_law 589 = .ok (.iload_n 3, 1) := by decide +kernel
theorem dL_law_590 : decode cL_law 590 = .ok (.iconst 1, 1) := by decide +kernel
theorem dL_law_591 : decode cL_law 591 = .ok (.iadd, 1) := by decide +kernel
theorem dL_law_592 : decode cL_law 592 = .ok (.iaload, 1) := by decide +kernel
theorem dL_law_593 : decode cL_law 593 = .ok (.invokevirtual 84, 3) := by decide +kernel
theorem dL_law_596 : decode cL_law 596 = .ok (.if_icmp .eq 164, 3) := by decide +kernel
theorem dL_law_599 : decode cL_law 599 = .ok (.iconst 0, 1) := by decide +kernel
theorem dL_law_600 : decode cL_law 600 = .ok (.ireturn, 1) := by decide +kernel
theorem dL_law_601 : decode cL_law 601 = .ok (.aload_n 1, 1) := by decide +kernel
theorem dL_law_602 : decode cL_law 602 = .ok (.aload_n 0, 1) := by decide +kernel
theorem dL_law_603 : decode cL_law 603 = .ok (.iload_n 3, 1) := by decide +kernel
theorem dL_law_604 : decode cL_law 604 = .ok (.iconst 1, 1) := by decide +kernel
theorem dL_law_605 : decode cL_law 605 = .ok (.iadd, 1) := by decide +kernel
theorem dL_law_606 : decode cL_law 606 = .ok (.iaload, 1) := by decide +kernel
theorem dL_law_607 : decode cL_law 607 = .ok (.aload_n 0, 1) := by decide +kernel
theorem dL_law_608 : decode cL_law 608 = .ok (.iload_n 3, 1) := by decide +kernel
theorem dL_law_609 : decode cL_law 609 = .ok (.iconst 2, 1) := by decide +kernel
theorem dL_law_610 : decode cL_law 610 = .ok (.iadd, 1) := by decide +kernel
theorem dL_law_611 : decode cL_law 611 = .ok (.iaload, 1) := by decide +kernel
theorem dL_law_612 : decode cL_law 612 = .ok (.aload_n 0, 1) := by decide +kernel
theorem dL_law_613 : decode cL_law 613 = .ok (.iload_n 3, 1) := by decide +kernel
theorem dL_law_614 : decode cL_law 614 = .ok (.iconst 3, 1) := by decide +kernel
theorem dL_law_615 : decode cL_law 615 = .ok (.iadd, 1) := by decide +kernel
theorem dL_law_616 : decode cL_law 616 = .ok (.iaload, 1) := by decide +kernel
theorem dL_law_617 : decode cL_law 617 = .ok (.aload_n 0, 1) := by decide +kernel
theorem dL_law_618 : decode cL_law 618 = .ok (.iload_n 3, 1) := by decide +kernel
theorem dL_law_619 : decode cL_law 619 = .ok (.iconst 4, 1) := by decide +kernel
theorem dL_law_620 : decode cL_law 620 = .ok (.iadd, 1) := by decide +kernel
theorem dL_law_621 : decode cL_law 621 = .ok (.iaload, 1) := by decide +kernel
theorem dL_law_622 : decode cL_law 622 = .ok (.invokevirtual 85, 3) := by decide +kernel
theorem dL_law_625 : decode cL_law 625 = .ok (.aload_n 2, 1) := by decide +kernel
theorem dL_law_626 : decode cL_law 626 = .ok (.aload_n 0, 1) := by decide +kernel
theorem dL_law_627 : decode cL_law 627 = .ok (.iload_n 3, 1) := by decide +kernel
theorem dL_law_628 : decode cL_law 628 = .ok (.iconst 1, 1) := by decide +kernel
theorem dL_law_629 : decode cL_law 629 = .ok (.iadd, 1) := by decide +kernel
theorem dL_law_630 : decode cL_law 630 = .ok (.iaload, 1) := by decide +kernel
theorem dL_law_631 : decode cL_law 631 = .ok (.aload_n 0, 1) := by decide +kernel
theorem dL_law_632 : decode cL_law 632 = .ok (.iload_n 3, 1) := by decide +kernel
theorem dL_law_633 : decode cL_law 633 = .ok (.iconst 2, 1) := by decide +kernel
theorem dL_law_634 : decode cL_law 634 = .ok (.iadd, 1) := by decide +kernel
theorem dL_law_635 : decode cL_law 635 = .ok (.iaload, 1) := by decide +kernel
theorem dL_law_636 : decode cL_law 636 = .ok (.aload_n 0, 1) := by decide +kernel
theorem dL_law_637 : decode cL_law 637 = .ok (.iload_n 3, 1) := by decide +kernel
theorem dL_law_638 : decode cL_law 638 = .ok (.iconst 3, 1) := by decide +kernel
theorem dL_law_639 : decode cL_law 639 = .ok (.iadd, 1) := by decide +kernel
theorem dL_law_640 : decode cL_law 640 = .ok (.iaload, 1) := by decide +kernel
theorem dL_law_641 : decode cL_law 641 = .ok (.aload_n 0, 1) := by decide +kernel
theorem dL_law_642 : decode cL_law 642 = .ok (.iload_n 3, 1) := by decide +kernel
theorem dL_law_643 : decode cL_law 643 = .ok (.iconst 4, 1) := by decide +kernel
theorem dL_law_644 : decode cL_law 644 = .ok (.iadd, 1) := by decide +kernel
theorem dL_law_645 : decode cL_law 645 = .ok (.iaload, 1) := by decide +kernel
theorem dL_law_646 : decode cL_law 646 = .ok (.invokevirtual 89, 3) := by decide +kernel
theorem dL_law_649 : decode cL_law 649 = .ok (.if_icmp .eq 111, 3) := by decide +kernel
theorem dL_law_652 : decode cL_law 652 = .ok (.iconst 0, 1) := by decide +kernel
theorem dL_law_653 : decode cL_law 653 = .ok (.ireturn, 1) := by decide +kernel
theorem dL_law_654 : decode cL_law 654 = .ok (.aload_n 1, 1) := by decide +kernel
theorem dL_law_655 : decode cL_law 655 = .ok (.aload_n 0, 1) := by decide +kernel
theorem dL_law_656 : decode cL_law 656 = .ok (.iload_n 3, 1) := by decide +kernel
theorem dL_law_657 : decode cL_law 657 = .ok (.iconst 1, 1) := by decide +kernel
theorem dL_law_658 : decode cL_law 658 = .ok (.iadd, 1) := by decide +kernel
theorem dL_law_659 : decode cL_law 659 = .ok (.iaload, 1) := by decide +kernel
theorem dL_law_660 : decode cL_law 660 = .ok (.aload_n 0, 1) := by decide +kernel
theorem dL_law_661 : decode cL_law 661 = .ok (.iload_n 3, 1) := by decide +kernel
theorem dL_law_662 : decode cL_law 662 = .ok (.iconst 2, 1) := by decide +kernel
theorem dL_law_663 : decode cL_law 663 = .ok (.iadd, 1) := by decide +kernel
theorem dL_law_664 : decode cL_law 664 = .ok (.iaload, 1) := by decide +kernel
theorem dL_law_665 : decode cL_law 665 = .ok (.aload_n 0, 1) := by decide +kernel
theorem dL_law_666 : decode cL_law 666 = .ok (.iload_n 3, 1) := by decide +kernel
theorem dL_law_667 : decode cL_law 667 = .ok (.iconst 3, 1) := by decide +kernel
theorem dL_law_668 : decode cL_law 668 = .ok (.iadd, 1) := by decide +kernel
theorem dL_law_669 : decode cL_law 669 = .ok (.iaload, 1) := by decide +kernel
theorem dL_law_670 : decode cL_law 670 = .ok (.invokevirtual 90, 3) := by decide +kernel
theorem dL_law_673 : decode cL_law 673 = .ok (.aload_n 2, 1) := by decide +kernel
theorem dL_law_674 : decode cL_law 674 = .ok (.aload_n 0, 1) := by decide +kernel
theorem dL_law_675 : decode cL_law 675 = .ok (.iload_n 3, 1) := by decide +kernel
theorem dL_law_676 : decode cL_law 676 = .ok (.iconst 1, 1) := by decide +kernel
theorem dL_law_677 : decode cL_law 677 = .ok (.iadd, 1) := by decide +kernel
theorem dL_law_678 : decode cL_law 678 = .ok (.iaload, 1) := by decide +kernel
theorem dL_law_679 : decode cL_law 679 = .ok (.aload_n 0, 1) := by decide +kernel
theorem dL_law_680 : decode cL_law 680 = .ok (.iload_n 3, 1) := by decide +kernel
theorem dL_law_681 : decode cL_law 681 = .ok (.iconst 2, 1) := by decide +kernel
theorem dL_law_682 : decode cL_law 682 = .ok (.iadd, 1) := by decide +kernel
theorem dL_law_683 : decode cL_law 683 = .ok (.iaload, 1) := by decide +kernel
theorem dL_law_684 : decode cL_law 684 = .ok (.aload_n 0, 1) := by decide +kernel
theorem dL_law_685 : decode cL_law 685 = .ok (.iload_n 3, 1) := by decide +kernel
theorem dL_law_686 : decode cL_law 686 = .ok (.iconst 3, 1) := by decide +kernel
theorem dL_law_687 : decode cL_law 687 = .ok (.iadd, 1) := by decide +kernel
theorem dL_law_688 : decode cL_law 688 = .ok (.iaload, 1) := by decide +kernel
theorem dL_law_689 : decode cL_law 689 = .ok (.invokevirtual 93, 3) := by decide +kernel
theorem dL_law_692 : decode cL_law 692 = .ok (.if_icmp .eq 68, 3) := by decide +kernel
theorem dL_law_695 : decode cL_law 695 = .ok (.iconst 0, 1) := by decide +kernel
theorem dL_law_696 : decode cL_law 696 = .ok (.ireturn, 1) := by decide +kernel
theorem dL_law_697 : decode cL_law 697 = .ok (.aload_n 1, 1) := by decide +kernel
theorem dL_law_698 : decode cL_law 698 = .ok (.invokevirtual 94, 3) := by decide +kernel
theorem dL_law_701 : decode cL_law 701 = .ok (.aload_n 2, 1) := by decide +kernel
theorem dL_law_702 : decode cL_law 702 = .ok (.invokevirtual 97, 3) := by decide +kernel
theorem dL_law_705 : decode cL_law 705 = .ok (.if_icmp .eq 55, 3) := by decide +kernel
theorem dL_law_708 : decode cL_law 708 = .ok (.iconst 0, 1) := by decide +kernel
theorem dL_law_709 : decode cL_law 709 = .ok (.ireturn, 1) := by decide +kernel
theorem dL_law_710 : decode cL_law 710 = .ok (.aload_n 1, 1) := by decide +kernel
theorem dL_law_711 : decode cL_law 711 = .ok (.invokevirtual 98, 3) := by decide +kernel
theorem dL_law_714 : decode cL_law 714 = .ok (.aload_n 2, 1) := by decide +kernel
theorem dL_law_715 : decode cL_law 715 = .ok (.invokevirtual 101, 3) := by decide +kernel
theorem dL_law_718 : decode cL_law 718 = .ok (.if_icmp .eq 42, 3) := by decide +kernel
theorem dL_law_721 : decode cL_law 721 = .ok (.iconst 0, 1) := by decide +kernel
theorem dL_law_722 : decode cL_law 722 = .ok (.ireturn, 1) := by decide +kernel
theorem dL_law_723 : decode cL_law 723 = .ok (.aload_n 1, 1) := by decide +kernel
theorem dL_law_724 : decode cL_law 724 = .ok (.aload_n 0, 1) := by decide +kernel
theorem dL_law_725 : decode cL_law 725 = .ok (.iload_n 3, 1) := by decide +kernel
theorem dL_law_726 : decode cL_law 726 = .ok (.iconst 1, 1) := by decide +kernel
theorem dL_law_727 : decode cL_law 727 = .ok (.iadd, 1) := by decide +kernel
theorem dL_law_728 : decode cL_law 728 = .ok (.iaload, 1) := by decide +kernel
theorem dL_law_729 : decode cL_law 729 = .ok (.invokevirtual 102, 3) := by decide +kernel
theorem dL_law_732 : decode cL_law 732 = .ok (.aload_n 2, 1) := by decide +kernel
theorem dL_law_733 : decode cL_law 733 = .ok (.aload_n 0, 1) := by decide +kernel
theorem dL_law_734 : decode cL_law 734 = .ok (.iload_n 3, 1) := by decide +kernel
theorem dL_law_735 : decode cL_law 735 = .ok (.iconst 1, 1) := by decide +kernel
theorem dL_law_736 : decode cL_law 736 = .ok (.iadd, 1) := by decide +kernel
theorem dL_law_737 : decode cL_law 737 = .ok (.iaload, 1) := by decide +kernel
theorem dL_law_738 : decode cL_law 738 = .ok (.invokevirtual 105, 3) := by decide +kernel
theorem dL_law_741 : decode cL_law 741 = .ok (.if_icmp .eq 19, 3) := by decide +kernel
theorem dL_law_744 : decode cL_law 744 = .ok (.iconst 0, 1) := by decide +kernel
theorem dL_law_745 : decode cL_law 745 = .ok (.ireturn, 1) := by decide +kernel
theorem dL_law_746 : decode cL_law 746 = .ok (.aload_n 1, 1) := by decide +kernel
theorem dL_law_747 : decode cL_law 747 = .ok (.invokevirtual 106, 3) := by decide +kernel
theorem dL_law_750 : decode cL_law 750 = .ok (.aload_n 2, 1) := by decide +kernel
theorem dL_law_751 : decode cL_law 751 = .ok (.invokevirtual 110, 3) := by decide +kernel
theorem dL_law_754 : decode cL_law 754 = .ok (.lcmp, 1) := by decide +kernel
theorem dL_law_755 : decode cL_law 755 = .ok (.ifCond .eq 5, 3) := by decide +kernel
theorem dL_law_758 : decode cL_law 758 = .ok (.iconst 0, 1) := by decide +kernel
theorem dL_law_759 : decode cL_law 759 = .ok (.ireturn, 1) := by decide +kernel
theorem dL_law_760 : decode cL_law 760 = .ok (.iinc 3 5, 3) := by decide +kernel
theorem dL_law_763 : decode cL_law 763 = .ok (.goto (-745), 3) := by decide +kernel
theorem dL_law_766 : decode cL_law 766 = .ok (.iconst 1, 1) := by decide +kernel
theorem dL_law_767 : decode cL_law 767 = .ok (.ireturn, 1) := by decide +kernel
end
section
/-! the words that every method of ours is given: the tables' rows of the lasting kind -/
def TB : List Cond := lw_tbl.filter goodWord
theorem tb_in {w : Cond} (h : w ∈ lw_tbl) (g : goodWord w = true) : w ∈ TB := List.mem_filter.mpr ⟨h, g⟩
theorem tb_lw {w : Cond} (h : w ∈ TB) : w ∈ lw_tbl := (List.mem_filter.mp h).1
theorem tb_good : GoodIn TB TB := fun w h => ⟨h, good_of_word (List.mem_filter.mp h).2⟩
theorem tb_cons {c : Cond} (hc : c ∈ TB) : GoodIn TB (c :: TB) := fun w h => (List.mem_cons.mp h).elim (fun e => by rw [e]; exact tb_good c hc) (tb_good w)
/-- is i a place of a row of n? -/
def ok (i : Int32) (n : Nat) : Bool := decide (¬ (i < 0 ∨ n ≤ i.toNatClampNeg))
theorem ok_in {i : Int32} {n : Nat} (h : ok i n = true) : vp_in i n := of_decide_eq_true (p := ¬ (i < 0 ∨ n ≤ i.toNatClampNeg)) h
theorem vp_lt {i : Int32} {n : Nat} (h : vp_in i n) : i.toNatClampNeg < n := Nat.not_le.mp fun q => h (Or.inr q)
theorem ok_lt {i : Int32} {n : Nat} (h : ok i n = true) : i.toNatClampNeg < n := vp_lt (ok_in h)
/-- the five constants of the enum, and the row KINDS -/
def kcF : List (String × String × String × List Int32) := [("SnowBalls$Kind", "number", "I", [0, 1, 2, 3, 4]), ("SnowBalls$Kind", "weightTimes", "I", [1, 1, 1, 2, 2]), ("SnowBalls$Kind", "moreBreadth", "I", [0, 1, 0, 0, 0]), ("SnowBalls$Kind", "takesAllFrom", "I", [4, 4, 10, 0, 0]), ("SnowBalls$Kind", "meltTimes", "I", [1, 1, 1, 1, 2]), ("SnowBalls$Kind", "moreMelt", "I", [0, 1, 0, 0, 0])]
def kcN : List String := ["BALL", "DRUM", "POWDER", "WET", "SLUSH"]
def gE (kc : Nat → Nat) (kt : Nat) (A : Nat → Prop) (U : State) (H : Heap) : Prop :=
  va_En "SnowBalls$Kind" "LSnowBalls$Kind;" kcN kcF kc A U H ∧ va_Z "SnowBalls" "KINDS" "[LSnowBalls$Kind;" (.ref kt) A U H ∧ va_T (.object "SnowBalls$Kind") kt 5 (fun j => .ref (kc j)) A U H
theorem gE.moved {kc : Nat → Nat} {kt : Nat} {A : Nat → Prop} {u U : State} {H : Heap} (hvm : u.vm.Alike U.vm) (h : gE kc kt A u H) : gE kc kt A U H := ⟨h.1.moved hvm, h.2.1.moved hvm, h.2.2.moved hvm⟩
theorem gE.kept {kc : Nat → Nat} {kt : Nat} {A : Nat → Prop} {U : State} {H H1 : Heap} (h : gE kc kt A U H) (hq : ∀ a : Nat, a < H.size → ¬ A a → H1[a]? = H[a]?) : gE kc kt A U H1 := ⟨h.1.kept hq, h.2.1.kept hq, h.2.2.kept hq⟩
theorem gE.narrow {kc : Nat → Nat} {kt : Nat} {A B : Nat → Prop} {U : State} {H : Heap} (h : gE kc kt A U H) (hAB : ∀ q, B q → A q) : gE kc kt B U H := ⟨h.1.narrow hAB, h.2.1.narrow hAB, h.2.2.narrow hAB⟩
/-- what stays the same while a body is walked -/
def gF (p : Program) (s : State) (m : MethodId) (args : Array Value) (c : Code) (cc : ByteArray) (nL : Nat) (own : String) (D : va_G) (tys : List (ClassId × FieldType)) (kc : Nat → Nat) (kt : Nat) (A : Nat → Prop) : Prop :=
  CallFix p m c cc nL s args TB own ∧ va_K D vwCl tys s ∧ (∀ q, s.heap.size ≤ q → A q) ∧ gE kc kt A s s.heap
/-- the walk, told beside what the body computes: F is what is still to be computed, Q what is to hold behind it -/
def Sw (p : Program) (l : Launch) (e : Env) (R : Room) (s : State) (m : MethodId) (args : Array Value) (below : List Frame) (meth : Method) (c : Code) (cells slots : Nat) (D : va_G) (A : Nat → Prop) (nL : Nat) {ρ : Type} (Q : ρ → State → Prop) (F : Option ρ) (w : va_W) (lv : List (Nat × Value)) (pc : Nat) (st : List Value) : Prop :=
  ∀ (r : ρ), F = some r → ∀ (H : Heap) (locs : List Loc) (ls : Array Slot), va_P D vwCl w H → va_D A w → va_S A s.heap H locs → lv_has ls nL lv → W p l e R s m args below meth c H locs cells slots (Q r) (F0 m pc ls st)
section SW
variable {p : Program} {l : Launch} {e : Env} {R : Room} {s : State} {m : MethodId} {args : Array Value} {below : List Frame} {meth : Method} {c : Code} {cells slots : Nat} {cc : ByteArray} {nL : Nat} {own : String} {D : va_G} {tys : List (ClassId × FieldType)} {kc : Nat → Nat} {kt : Nat} {A : Nat → Prop} {ρ : Type} {Q : ρ → State → Prop} {F Ft Ff : Option ρ} {w w' : va_W} {lv lv' : List (Nat × Value)} {pc : Nat} {st : List Value}
theorem s_iconst (K : gF p s m args c cc nL own D tys kc kt A) {n : Int} {v : Int32} (d : decode cc pc = .ok (.iconst n, 1)) (hv : Int32.ofInt n = v) (k : Sw p l e R s m args below meth c cells slots D A nL Q F w lv (pc + 1) (.int v :: st)) : Sw p l e R s m args below meth c cells slots D A nL Q F w lv pc (st) :=
  fun r hr H locs ls hP hD hS hl => lv_iconst K.1.1 K.1.2.1 d hv (k r hr H locs ls hP hD hS hl)
theorem s_bipush (K : gF p s m args c cc nL own D tys kc kt A) {n : Int} {v : Int32} (d : decode cc pc = .ok (.bipush n, 2)) (hv : (Int8.ofInt n).toInt32 = v) (k : Sw p l e R s m args below meth c cells slots D A nL Q F w lv (pc + 2) (.int v :: st)) : Sw p l e R s m args below meth c cells slots D A nL Q F w lv pc (st) :=
  fun r hr H locs ls hP hD hS hl => lv_bipush K.1.1 K.1.2.1 d hv (k r hr H locs ls hP hD hS hl)
theorem s_sipush (K : gF p s m args c cc nL own D tys kc kt A) {n : Int} {v : Int32} (d : decode cc pc = .ok (.sipush n, 3)) (hv : (Int16.ofInt n).toInt32 = v) (k : Sw p l e R s m args below meth c cells slots D A nL Q F w lv (pc + 3) (.int v :: st)) : Sw p l e R s m args below meth c cells slots D A nL Q F w lv pc (st) :=
  fun r hr H locs ls hP hD hS hl => lv_sipush K.1.1 K.1.2.1 d hv (k r hr H locs ls hP hD hS hl)
theorem s_lconst (K : gF p s m args c cc nL own D tys kc kt A) {n : Fin 2} {v : Int64} (d : decode cc pc = .ok (.lconst n, 1)) (hv : Int64.ofNat (n : Nat) = v) (k : Sw p l e R s m args below meth c cells slots D A nL Q F w lv (pc + 1) (.long v :: st)) : Sw p l e R s m args below meth c cells slots D A nL Q F w lv pc (st) :=
  fun r hr H locs ls hP hD hS hl => lv_lconst K.1.1 K.1.2.1 d hv (k r hr H locs ls hP hD hS hl)
theorem s_iload_n (K : gF p s m args c cc nL own D tys kc kt A) {k0 : Fin 4} {i : Nat} {x : Int32} (d : decode cc pc = .ok (.iload_n k0, 1)) (hi : (k0 : Nat) = i) (j : Nat) (hj : lv[j]? = some (i, .int x)) (k : Sw p l e R s m args below meth c cells slots D A nL Q F w lv (pc + 1) (.int x :: st)) : Sw p l e R s m args below meth c cells slots D A nL Q F w lv pc (st) :=
  fun r hr H locs ls hP hD hS hl => lv_iload_n K.1.1 K.1.2.1 d hi (lv_at hl j hj) (k r hr H locs ls hP hD hS hl)
theorem s_iload (K : gF p s m args c cc nL own D tys kc kt A) {i : Nat} {x : Int32} (d : decode cc pc = .ok (.iload i, 2)) (j : Nat) (hj : lv[j]? = some (i, .int x)) (k : Sw p l e R s m args below meth c cells slots D A nL Q F w lv (pc + 2) (.int x :: st)) : Sw p l e R s m args below meth c cells slots D A nL Q F w lv pc (st) :=
  fun r hr H locs ls hP hD hS hl => lv_iload K.1.1 K.1.2.1 d (lv_at hl j hj) (k r hr H locs ls hP hD hS hl)
theorem s_lload_n (K : gF p s m args c cc nL own D tys kc kt A) {k0 : Fin 4} {i : Nat} {x : Int64} (d : decode cc pc = .ok (.lload_n k0, 1)) (hi : (k0 : Nat) = i) (j : Nat) (hj : lv[j]? = some (i, .long x)) (k : Sw p l e R s m args below meth c cells slots D A nL Q F w lv (pc + 1) (.long x :: st)) : Sw p l e R s m args below meth c cells slots D A nL Q F w lv pc (st) :=
  fun r hr H locs ls hP hD hS hl => lv_lload_n K.1.1 K.1.2.1 d hi (lv_at hl j hj) (k r hr H locs ls hP hD hS hl)
theorem s_lload (K : gF p s m args c cc nL own D tys kc kt A) {i : Nat} {x : Int64} (d : decode cc pc = .ok (.lload i, 2)) (j : Nat) (hj : lv[j]? = some (i, .long x)) (k : Sw p l e R s m args below meth c cells slots D A nL Q F w lv (pc + 2) (.long x :: st)) : Sw p l e R s m args below meth c cells slots D A nL Q F w lv pc (st) :=
  fun r hr H locs ls hP hD hS hl => lv_lload K.1.1 K.1.2.1 d (lv_at hl j hj) (k r hr H locs ls hP hD hS hl)
theorem s_aload_n (K : gF p s m args c cc nL own D tys kc kt A) {k0 : Fin 4} {i : Nat} {x : Nat} (d : decode cc pc = .ok (.aload_n k0, 1)) (hi : (k0 : Nat) = i) (j : Nat) (hj : lv[j]? = some (i, .ref x)) (k : Sw p l e R s m args below meth c cells slots D A nL Q F w lv (pc + 1) (.ref x :: st)) : Sw p l e R s m args below meth c cells slots D A nL Q F w lv pc (st) :=
  fun r hr H locs ls hP hD hS hl => lv_aload_n K.1.1 K.1.2.1 d hi (lv_at hl j hj) (k r hr H locs ls hP hD hS hl)
theorem s_aload (K : gF p s m args c cc nL own D tys kc kt A) {i : Nat} {x : Nat} (d : decode cc pc = .ok (.aload i, 2)) (j : Nat) (hj : lv[j]? = some (i, .ref x)) (k : Sw p l e R s m args below meth c cells slots D A nL Q F w lv (pc + 2) (.ref x :: st)) : Sw p l e R s m args below meth c cells slots D A nL Q F w lv pc (st) :=
  fun r hr H locs ls hP hD hS hl => lv_aload K.1.1 K.1.2.1 d (lv_at hl j hj) (k r hr H locs ls hP hD hS hl)
theorem s_istore_n (K : gF p s m args c cc nL own D tys kc kt A) {k0 : Fin 4} {i : Nat} {x : Int32} (d : decode cc pc = .ok (.istore_n k0, 1)) (hi : (k0 : Nat) = i) (hn : i < nL) (hl2 : (i, Value.int x) :: lv.filter (fun q => !(q.1 == i) && !(q.1 + 1 == i && q.2.category == 2)) = lv') (k : Sw p l e R s m args below meth c cells slots D A nL Q F w lv' (pc + 1) st) : Sw p l e R s m args below meth c cells slots D A nL Q F w lv pc (.int x :: st) :=
  fun r hr H locs ls hP hD hS hl => lv_istore_n K.1.1 K.1.2.1 d hi hl hn hl2 (fun ls2 hl3 => k r hr H locs ls2 hP hD hS hl3)
theorem s_istore (K : gF p s m args c cc nL own D tys kc kt A) {i : Nat} {x : Int32} (d : decode cc pc = .ok (.istore i, 2))  (hn : i < nL) (hl2 : (i, Value.int x) :: lv.filter (fun q => !(q.1 == i) && !(q.1 + 1 == i && q.2.category == 2)) = lv') (k : Sw p l e R s m args below meth c cells slots D A nL Q F w lv' (pc + 2) st) : Sw p l e R s m args below meth c cells slots D A nL Q F w lv pc (.int x :: st) :=
  fun r hr H locs ls hP hD hS hl => lv_istore K.1.1 K.1.2.1 d hl hn hl2 (fun ls2 hl3 => k r hr H locs ls2 hP hD hS hl3)
theorem s_astore_n (K : gF p s m args c cc nL own D tys kc kt A) {k0 : Fin 4} {i : Nat} {x : Nat} (d : decode cc pc = .ok (.astore_n k0, 1)) (hi : (k0 : Nat) = i) (hn : i < nL) (hl2 : (i, Value.ref x) :: lv.filter (fun q => !(q.1 == i) && !(q.1 + 1 == i && q.2.category == 2)) = lv') (k : Sw p l e R s m args below meth c cells slots D A nL Q F w lv' (pc + 1) st) : Sw p l e R s m args below meth c cells slots D A nL Q F w lv pc (.ref x :: st) :=
  fun r hr H locs ls hP hD hS hl => lv_astore_n K.1.1 K.1.2.1 d hi hl hn hl2 (fun ls2 hl3 => k r hr H locs ls2 hP hD hS hl3)
theorem s_astore (K : gF p s m args c cc nL own D tys kc kt A) {i : Nat} {x : Nat} (d : decode cc pc = .ok (.astore i, 2))  (hn : i < nL) (hl2 : (i, Value.ref x) :: lv.filter (fun q => !(q.1 == i) && !(q.1 + 1 == i && q.2.category == 2)) = lv') (k : Sw p l e R s m args below meth c cells slots D A nL Q F w lv' (pc + 2) st) : Sw p l e R s m args below meth c cells slots D A nL Q F w lv pc (.ref x :: st) :=
  fun r hr H locs ls hP hD hS hl => lv_astore K.1.1 K.1.2.1 d hl hn hl2 (fun ls2 hl3 => k r hr H locs ls2 hP hD hS hl3)
theorem s_lstore_n (K : gF p s m args c cc nL own D tys kc kt A) {k0 : Fin 4} {i : Nat} {x : Int64} (d : decode cc pc = .ok (.lstore_n k0, 1)) (hi : (k0 : Nat) = i) (hn : i + 1 < nL) (hl2 : (i, Value.long x) :: lv.filter (fun q => !(q.1 == i) && (!(q.1 == i + 1) && !(q.1 + 1 == i && q.2.category == 2))) = lv') (k : Sw p l e R s m args below meth c cells slots D A nL Q F w lv' (pc + 1) st) : Sw p l e R s m args below meth c cells slots D A nL Q F w lv pc (.long x :: st) :=
  fun r hr H locs ls hP hD hS hl => lv_lstore_n K.1.1 K.1.2.1 d hi hl hn hl2 (fun ls2 hl3 => k r hr H locs ls2 hP hD hS hl3)
theorem s_lstore (K : gF p s m args c cc nL own D tys kc kt A) {i : Nat} {x : Int64} (d : decode cc pc = .ok (.lstore i, 2))  (hn : i + 1 < nL) (hl2 : (i, Value.long x) :: lv.filter (fun q => !(q.1 == i) && (!(q.1 == i + 1) && !(q.1 + 1 == i && q.2.category == 2))) = lv') (k : Sw p l e R s m args below meth c cells slots D A nL Q F w lv' (pc + 2) st) : Sw p l e R s m args below meth c cells slots D A nL Q F w lv pc (.long x :: st) :=
  fun r hr H locs ls hP hD hS hl => lv_lstore K.1.1 K.1.2.1 d hl hn hl2 (fun ls2 hl3 => k r hr H locs ls2 hP hD hS hl3)
theorem s_iinc (K : gF p s m args c cc nL own D tys kc kt A) {i : Nat} {n : Int} {x v : Int32} (d : decode cc pc = .ok (.iinc i n, 3)) (j : Nat) (hj : lv[j]? = some (i, .int x)) (hv : x + Int32.ofInt n = v) (hn : i < nL) (hl2 : (i, Value.int v) :: lv.filter (fun q => !(q.1 == i) && !(q.1 + 1 == i && q.2.category == 2)) = lv') (k : Sw p l e R s m args below meth c cells slots D A nL Q F w lv' (pc + 3) st) : Sw p l e R s m args below meth c cells slots D A nL Q F w lv pc st :=
  fun r hr H locs ls hP hD hS hl => lv_iinc K.1.1 K.1.2.1 d hl hj hv hn hl2 (fun ls2 hl3 => k r hr H locs ls2 hP hD hS hl3)
theorem s_iadd (K : gF p s m args c cc nL own D tys kc kt A) {x y : Int32} (d : decode cc pc = .ok (.iadd, 1))  (k : Sw p l e R s m args below meth c cells slots D A nL Q F w lv (pc + 1) (.int (x + y) :: st)) : Sw p l e R s m args below meth c cells slots D A nL Q F w lv pc (.int y :: .int x :: st) :=
  fun r hr H locs ls hP hD hS hl => lv_iadd K.1.1 K.1.2.1 d (k r hr H locs ls hP hD hS hl)
theorem s_isub (K : gF p s m args c cc nL own D tys kc kt A) {x y : Int32} (d : decode cc pc = .ok (.isub, 1))  (k : Sw p l e R s m args below meth c cells slots D A nL Q F w lv (pc + 1) (.int (x - y) :: st)) : Sw p l e R s m args below meth c cells slots D A nL Q F w lv pc (.int y :: .int x :: st) :=
  fun r hr H locs ls hP hD hS hl => lv_isub K.1.1 K.1.2.1 d (k r hr H locs ls hP hD hS hl)
theorem s_imul (K : gF p s m args c cc nL own D tys kc kt A) {x y : Int32} (d : decode cc pc = .ok (.imul, 1))  (k : Sw p l e R s m args below meth c cells slots D A nL Q F w lv (pc + 1) (.int (x * y) :: st)) : Sw p l e R s m args below meth c cells slots D A nL Q F w lv pc (.int y :: .int x :: st) :=
  fun r hr H locs ls hP hD hS hl => lv_imul K.1.1 K.1.2.1 d (k r hr H locs ls hP hD hS hl)
theorem s_iand (K : gF p s m args c cc nL own D tys kc kt A) {x y : Int32} (d : decode cc pc = .ok (.iand, 1))  (k : Sw p l e R s m args below meth c cells slots D A nL Q F w lv (pc + 1) (.int (x &&& y) :: st)) : Sw p l e R s m args below meth c cells slots D A nL Q F w lv pc (.int y :: .int x :: st) :=
  fun r hr H locs ls hP hD hS hl => lv_iand K.1.1 K.1.2.1 d (k r hr H locs ls hP hD hS hl)
theorem s_ior (K : gF p s m args c cc nL own D tys kc kt A) {x y : Int32} (d : decode cc pc = .ok (.ior, 1))  (k : Sw p l e R s m args below meth c cells slots D A nL Q F w lv (pc + 1) (.int (x ||| y) :: st)) : Sw p l e R s m args below meth c cells slots D A nL Q F w lv pc (.int y :: .int x :: st) :=
  fun r hr H locs ls hP hD hS hl => lv_ior K.1.1 K.1.2.1 d (k r hr H locs ls hP hD hS hl)
theorem s_ixor (K : gF p s m args c cc nL own D tys kc kt A) {x y : Int32} (d : decode cc pc = .ok (.ixor, 1))  (k : Sw p l e R s m args below meth c cells slots D A nL Q F w lv (pc + 1) (.int (x ^^^ y) :: st)) : Sw p l e R s m args below meth c cells slots D A nL Q F w lv pc (.int y :: .int x :: st) :=
  fun r hr H locs ls hP hD hS hl => lv_ixor K.1.1 K.1.2.1 d (k r hr H locs ls hP hD hS hl)
theorem s_ishl (K : gF p s m args c cc nL own D tys kc kt A) {x y : Int32} (d : decode cc pc = .ok (.ishl, 1))  (k : Sw p l e R s m args below meth c cells slots D A nL Q F w lv (pc + 1) (.int (x <<< (y &&& 31)) :: st)) : Sw p l e R s m args below meth c cells slots D A nL Q F w lv pc (.int y :: .int x :: st) :=
  fun r hr H locs ls hP hD hS hl => lv_ishl K.1.1 K.1.2.1 d (k r hr H locs ls hP hD hS hl)
theorem s_ishr (K : gF p s m args c cc nL own D tys kc kt A) {x y : Int32} (d : decode cc pc = .ok (.ishr, 1))  (k : Sw p l e R s m args below meth c cells slots D A nL Q F w lv (pc + 1) (.int (x >>> (y &&& 31)) :: st)) : Sw p l e R s m args below meth c cells slots D A nL Q F w lv pc (.int y :: .int x :: st) :=
  fun r hr H locs ls hP hD hS hl => lv_ishr K.1.1 K.1.2.1 d (k r hr H locs ls hP hD hS hl)
theorem s_iushr (K : gF p s m args c cc nL own D tys kc kt A) {x y : Int32} (d : decode cc pc = .ok (.iushr, 1))  (k : Sw p l e R s m args below meth c cells slots D A nL Q F w lv (pc + 1) (.int ((x.toUInt32 >>> (y.toUInt32 &&& Int32.toUInt32 31)).toInt32) :: st)) : Sw p l e R s m args below meth c cells slots D A nL Q F w lv pc (.int y :: .int x :: st) :=
  fun r hr H locs ls hP hD hS hl => lv_iushr K.1.1 K.1.2.1 d rfl (k r hr H locs ls hP hD hS hl)
theorem s_idiv (K : gF p s m args c cc nL own D tys kc kt A) {x y : Int32} (d : decode cc pc = .ok (.idiv, 1)) (hne : ¬ y = 0) (k : Sw p l e R s m args below meth c cells slots D A nL Q F w lv (pc + 1) (.int (x / y) :: st)) : Sw p l e R s m args below meth c cells slots D A nL Q F w lv pc (.int y :: .int x :: st) :=
  fun r hr H locs ls hP hD hS hl => lv_idiv K.1.1 K.1.2.1 d hne (k r hr H locs ls hP hD hS hl)
theorem s_irem (K : gF p s m args c cc nL own D tys kc kt A) {x y : Int32} (d : decode cc pc = .ok (.irem, 1)) (hne : ¬ y = 0) (k : Sw p l e R s m args below meth c cells slots D A nL Q F w lv (pc + 1) (.int (x - x / y * y) :: st)) : Sw p l e R s m args below meth c cells slots D A nL Q F w lv pc (.int y :: .int x :: st) :=
  fun r hr H locs ls hP hD hS hl => lv_irem K.1.1 K.1.2.1 d hne (k r hr H locs ls hP hD hS hl)
theorem s_ladd (K : gF p s m args c cc nL own D tys kc kt A) {x y : Int64} (d : decode cc pc = .ok (.ladd, 1))  (k : Sw p l e R s m args below meth c cells slots D A nL Q F w lv (pc + 1) (.long (x + y) :: st)) : Sw p l e R s m args below meth c cells slots D A nL Q F w lv pc (.long y :: .long x :: st) :=
  fun r hr H locs ls hP hD hS hl => lv_ladd K.1.1 K.1.2.1 d (k r hr H locs ls hP hD hS hl)
theorem s_lsub (K : gF p s m args c cc nL own D tys kc kt A) {x y : Int64} (d : decode cc pc = .ok (.lsub, 1))  (k : Sw p l e R s m args below meth c cells slots D A nL Q F w lv (pc + 1) (.long (x - y) :: st)) : Sw p l e R s m args below meth c cells slots D A nL Q F w lv pc (.long y :: .long x :: st) :=
  fun r hr H locs ls hP hD hS hl => lv_lsub K.1.1 K.1.2.1 d (k r hr H locs ls hP hD hS hl)
theorem s_lmul (K : gF p s m args c cc nL own D tys kc kt A) {x y : Int64} (d : decode cc pc = .ok (.lmul, 1))  (k : Sw p l e R s m args below meth c cells slots D A nL Q F w lv (pc + 1) (.long (x * y) :: st)) : Sw p l e R s m args below meth c cells slots D A nL Q F w lv pc (.long y :: .long x :: st) :=
  fun r hr H locs ls hP hD hS hl => lv_lmul K.1.1 K.1.2.1 d (k r hr H locs ls hP hD hS hl)
theorem s_land (K : gF p s m args c cc nL own D tys kc kt A) {x y : Int64} (d : decode cc pc = .ok (.land, 1))  (k : Sw p l e R s m args below meth c cells slots D A nL Q F w lv (pc + 1) (.long (x &&& y) :: st)) : Sw p l e R s m args below meth c cells slots D A nL Q F w lv pc (.long y :: .long x :: st) :=
  fun r hr H locs ls hP hD hS hl => lv_land K.1.1 K.1.2.1 d (k r hr H locs ls hP hD hS hl)
theorem s_ldiv (K : gF p s m args c cc nL own D tys kc kt A) {x y : Int64} (d : decode cc pc = .ok (.ldiv, 1)) (hne : ¬ y = 0) (k : Sw p l e R s m args below meth c cells slots D A nL Q F w lv (pc + 1) (.long (x / y) :: st)) : Sw p l e R s m args below meth c cells slots D A nL Q F w lv pc (.long y :: .long x :: st) :=
  fun r hr H locs ls hP hD hS hl => lv_ldiv K.1.1 K.1.2.1 d hne (k r hr H locs ls hP hD hS hl)
theorem s_lrem (K : gF p s m args c cc nL own D tys kc kt A) {x y : Int64} (d : decode cc pc = .ok (.lrem, 1)) (hne : ¬ y = 0) (k : Sw p l e R s m args below meth c cells slots D A nL Q F w lv (pc + 1) (.long (x - x / y * y) :: st)) : Sw p l e R s m args below meth c cells slots D A nL Q F w lv pc (.long y :: .long x :: st) :=
  fun r hr H locs ls hP hD hS hl => lv_lrem K.1.1 K.1.2.1 d hne (k r hr H locs ls hP hD hS hl)
theorem s_i2l (K : gF p s m args c cc nL own D tys kc kt A) {x : Int32} (d : decode cc pc = .ok (.i2l, 1))  (k : Sw p l e R s m args below meth c cells slots D A nL Q F w lv (pc + 1) (.long x.toInt64 :: st)) : Sw p l e R s m args below meth c cells slots D A nL Q F w lv pc (.int x :: st) :=
  fun r hr H locs ls hP hD hS hl => lv_i2l K.1.1 K.1.2.1 d rfl (k r hr H locs ls hP hD hS hl)
theorem s_l2i (K : gF p s m args c cc nL own D tys kc kt A) {x : Int64} (d : decode cc pc = .ok (.l2i, 1))  (k : Sw p l e R s m args below meth c cells slots D A nL Q F w lv (pc + 1) (.int x.toInt32 :: st)) : Sw p l e R s m args below meth c cells slots D A nL Q F w lv pc (.long x :: st) :=
  fun r hr H locs ls hP hD hS hl => lv_l2i K.1.1 K.1.2.1 d rfl (k r hr H locs ls hP hD hS hl)
theorem s_i2b (K : gF p s m args c cc nL own D tys kc kt A) {x : Int32} (d : decode cc pc = .ok (.i2b, 1))  (k : Sw p l e R s m args below meth c cells slots D A nL Q F w lv (pc + 1) (.int x.toInt8.toInt32 :: st)) : Sw p l e R s m args below meth c cells slots D A nL Q F w lv pc (.int x :: st) :=
  fun r hr H locs ls hP hD hS hl => lv_i2b K.1.1 K.1.2.1 d rfl (k r hr H locs ls hP hD hS hl)
theorem s_i2c (K : gF p s m args c cc nL own D tys kc kt A) {x : Int32} (d : decode cc pc = .ok (.i2c, 1))  (k : Sw p l e R s m args below meth c cells slots D A nL Q F w lv (pc + 1) (.int (x.toUInt32 % 65536).toInt32 :: st)) : Sw p l e R s m args below meth c cells slots D A nL Q F w lv pc (.int x :: st) :=
  fun r hr H locs ls hP hD hS hl => lv_i2c K.1.1 K.1.2.1 d rfl (k r hr H locs ls hP hD hS hl)
theorem s_lcmp (K : gF p s m args c cc nL own D tys kc kt A) {x y : Int64} (d : decode cc pc = .ok (.lcmp, 1))  (k : Sw p l e R s m args below meth c cells slots D A nL Q F w lv (pc + 1) (.int (lg_cmp x y) :: st)) : Sw p l e R s m args below meth c cells slots D A nL Q F w lv pc (.long y :: .long x :: st) :=
  fun r hr H locs ls hP hD hS hl => W.lcmp K.1.1 K.1.2.1 d (k r hr H locs ls hP hD hS hl)
theorem s_dup (K : gF p s m args c cc nL own D tys kc kt A) {a : Value} (d : decode cc pc = .ok (.dup, 1)) (ha : a.category = 1) (k : Sw p l e R s m args below meth c cells slots D A nL Q F w lv (pc + 1) (a :: a :: st)) : Sw p l e R s m args below meth c cells slots D A nL Q F w lv pc (a :: st) :=
  fun r hr H locs ls hP hD hS hl => lv_dup K.1.1 K.1.2.1 d ha (k r hr H locs ls hP hD hS hl)
theorem s_pop (K : gF p s m args c cc nL own D tys kc kt A) {a : Value} (d : decode cc pc = .ok (.pop, 1)) (ha : a.category = 1) (k : Sw p l e R s m args below meth c cells slots D A nL Q F w lv (pc + 1) (st)) : Sw p l e R s m args below meth c cells slots D A nL Q F w lv pc (a :: st) :=
  fun r hr H locs ls hP hD hS hl => lv_pop K.1.1 K.1.2.1 d ha (k r hr H locs ls hP hD hS hl)
theorem s_dup2 (K : gF p s m args c cc nL own D tys kc kt A) {a b : Value} (d : decode cc pc = .ok (.dup2, 1)) (ha : a.category = 1) (hb : b.category = 1) (k : Sw p l e R s m args below meth c cells slots D A nL Q F w lv (pc + 1) (a :: b :: a :: b :: st)) : Sw p l e R s m args below meth c cells slots D A nL Q F w lv pc (a :: b :: st) :=
  fun r hr H locs ls hP hD hS hl => lv_dup2_11 K.1.1 K.1.2.1 d ha hb (k r hr H locs ls hP hD hS hl)
theorem s_ldc2 (K : gF p s m args c cc nL own D tys kc kt A) {index : Nat} {v : Int64} (d : decode cc pc = .ok (.ldc2_w index, 3)) (hw : Cond.constantLong own index v ∈ TB) (k : Sw p l e R s m args below meth c cells slots D A nL Q F w lv (pc + 3) (.long v :: st)) : Sw p l e R s m args below meth c cells slots D A nL Q F w lv pc (st) :=
  fun r hr H locs ls hP hD hS hl => lv_ldc2 K.1.1 K.1.2.1 K.1.2.2.2.1 (K.1.2.2.2.2 _ hw) d (k r hr H locs ls hP hD hS hl)
theorem s_ldcw (K : gF p s m args c cc nL own D tys kc kt A) {index : Nat} {v : Int32} (d : decode cc pc = .ok (.ldc_w index, 3)) (hw : Cond.constant own index v ∈ TB) (k : Sw p l e R s m args below meth c cells slots D A nL Q F w lv (pc + 3) (.int v :: st)) : Sw p l e R s m args below meth c cells slots D A nL Q F w lv pc (st) :=
  fun r hr H locs ls hP hD hS hl => lv_ldcw K.1.1 K.1.2.1 K.1.2.2.2.1 (K.1.2.2.2.2 _ hw) d (k r hr H locs ls hP hD hS hl)
theorem s_goto (K : gF p s m args c cc nL own D tys kc kt A) {off : Int} {tgt : Nat} (d : decode cc pc = .ok (.goto off, 3)) (ht : (pc : Int) + off = (tgt : Int)) (k : Sw p l e R s m args below meth c cells slots D A nL Q F w lv tgt st) : Sw p l e R s m args below meth c cells slots D A nL Q F w lv pc st :=
  fun r hr H locs ls hP hD hS hl => lv_goto K.1.1 K.1.2.1 d ht (k r hr H locs ls hP hD hS hl)
theorem s_if_eq (K : gF p s m args c cc nL own D tys kc kt A) {x : Int32} {off : Int} {tgt : Nat} (d : decode cc pc = .ok (.ifCond .eq off, 3)) (ht : (pc : Int) + off = (tgt : Int)) (kt : x = 0 → Sw p l e R s m args below meth c cells slots D A nL Q Ft w lv tgt st) (kf : ¬ x = 0 → Sw p l e R s m args below meth c cells slots D A nL Q Ff w lv (pc + 3) st) : Sw p l e R s m args below meth c cells slots D A nL Q (if x = 0 then Ft else Ff) w lv pc (.int x :: st) :=
  fun r hr H locs ls hP hD hS hl => lv_if_eq K.1.1 K.1.2.1 d ht (fun h => kt h r (by rw [if_pos h] at hr; exact hr) H locs ls hP hD hS hl) (fun h => kf h r (by rw [if_neg h] at hr; exact hr) H locs ls hP hD hS hl)
theorem s_if_eqT (K : gF p s m args c cc nL own D tys kc kt A) {x : Int32} {off : Int} {tgt : Nat} (d : decode cc pc = .ok (.ifCond .eq off, 3)) (ht : (pc : Int) + off = (tgt : Int)) (h0 : x = 0) (kt : Sw p l e R s m args below meth c cells slots D A nL Q F w lv tgt st) : Sw p l e R s m args below meth c cells slots D A nL Q F w lv pc (.int x :: st) :=
  fun r hr H locs ls hP hD hS hl => lv_if_eq K.1.1 K.1.2.1 d ht (fun _ => kt r hr H locs ls hP hD hS hl) (fun h => absurd h0 h)
theorem s_if_eqF (K : gF p s m args c cc nL own D tys kc kt A) {x : Int32} {off : Int} (d : decode cc pc = .ok (.ifCond .eq off, 3)) (tgt : Nat) (ht : (pc : Int) + off = (tgt : Int)) (h0 : ¬ x = 0) (kf : Sw p l e R s m args below meth c cells slots D A nL Q F w lv (pc + 3) st) : Sw p l e R s m args below meth c cells slots D A nL Q F w lv pc (.int x :: st) :=
  fun r hr H locs ls hP hD hS hl => lv_if_eq K.1.1 K.1.2.1 d ht (fun h => absurd h h0) (fun _ => kf r hr H locs ls hP hD hS hl)
theorem s_if_ne (K : gF p s m args c cc nL own D tys kc kt A) {x : Int32} {off : Int} {tgt : Nat} (d : decode cc pc = .ok (.ifCond .ne off, 3)) (ht : (pc : Int) + off = (tgt : Int)) (kf : x = 0 → Sw p l e R s m args below meth c cells slots D A nL Q Ff w lv (pc + 3) st) (kt : ¬ x = 0 → Sw p l e R s m args below meth c cells slots D A nL Q Ft w lv tgt st) : Sw p l e R s m args below meth c cells slots D A nL Q (if x = 0 then Ff else Ft) w lv pc (.int x :: st) :=
  fun r hr H locs ls hP hD hS hl => lv_if_ne K.1.1 K.1.2.1 d ht (fun h => kt h r (by rw [if_neg h] at hr; exact hr) H locs ls hP hD hS hl) (fun h => kf h r (by rw [if_pos h] at hr; exact hr) H locs ls hP hD hS hl)
theorem s_if_neT (K : gF p s m args c cc nL own D tys kc kt A) {x : Int32} {off : Int} {tgt : Nat} (d : decode cc pc = .ok (.ifCond .ne off, 3)) (ht : (pc : Int) + off = (tgt : Int)) (h0 : ¬ x = 0) (kt : Sw p l e R s m args below meth c cells slots D A nL Q F w lv tgt st) : Sw p l e R s m args below meth c cells slots D A nL Q F w lv pc (.int x :: st) :=
  fun r hr H locs ls hP hD hS hl => lv_if_ne K.1.1 K.1.2.1 d ht (fun _ => kt r hr H locs ls hP hD hS hl) (fun h => absurd h h0)
theorem s_if_neF (K : gF p s m args c cc nL own D tys kc kt A) {x : Int32} {off : Int} (d : decode cc pc = .ok (.ifCond .ne off, 3)) (tgt : Nat) (ht : (pc : Int) + off = (tgt : Int)) (h0 : x = 0) (kf : Sw p l e R s m args below meth c cells slots D A nL Q F w lv (pc + 3) st) : Sw p l e R s m args below meth c cells slots D A nL Q F w lv pc (.int x :: st) :=
  fun r hr H locs ls hP hD hS hl => lv_if_ne K.1.1 K.1.2.1 d ht (fun h => absurd h0 h) (fun _ => kf r hr H locs ls hP hD hS hl)
theorem s_if_lt (K : gF p s m args c cc nL own D tys kc kt A) {x : Int32} {off : Int} {tgt : Nat} (d : decode cc pc = .ok (.ifCond .lt off, 3)) (ht : (pc : Int) + off = (tgt : Int)) (kt : x < 0 → Sw p l e R s m args below meth c cells slots D A nL Q Ft w lv tgt st) (kf : ¬ x < 0 → Sw p l e R s m args below meth c cells slots D A nL Q Ff w lv (pc + 3) st) : Sw p l e R s m args below meth c cells slots D A nL Q (if x < 0 then Ft else Ff) w lv pc (.int x :: st) :=
  fun r hr H locs ls hP hD hS hl => lv_if_lt K.1.1 K.1.2.1 d ht (fun h => kt h r (by rw [if_pos h] at hr; exact hr) H locs ls hP hD hS hl) (fun h => kf h r (by rw [if_neg h] at hr; exact hr) H locs ls hP hD hS hl)
theorem s_if_ltT (K : gF p s m args c cc nL own D tys kc kt A) {x : Int32} {off : Int} {tgt : Nat} (d : decode cc pc = .ok (.ifCond .lt off, 3)) (ht : (pc : Int) + off = (tgt : Int)) (h0 : x < 0) (kt : Sw p l e R s m args below meth c cells slots D A nL Q F w lv tgt st) : Sw p l e R s m args below meth c cells slots D A nL Q F w lv pc (.int x :: st) :=
  fun r hr H locs ls hP hD hS hl => lv_if_lt K.1.1 K.1.2.1 d ht (fun _ => kt r hr H locs ls hP hD hS hl) (fun h => absurd h0 h)
theorem s_if_ltF (K : gF p s m args c cc nL own D tys kc kt A) {x : Int32} {off : Int} (d : decode cc pc = .ok (.ifCond .lt off, 3)) (tgt : Nat) (ht : (pc : Int) + off = (tgt : Int)) (h0 : ¬ x < 0) (kf : Sw p l e R s m args below meth c cells slots D A nL Q F w lv (pc + 3) st) : Sw p l e R s m args below meth c cells slots D A nL Q F w lv pc (.int x :: st) :=
  fun r hr H locs ls hP hD hS hl => lv_if_lt K.1.1 K.1.2.1 d ht (fun h => absurd h h0) (fun _ => kf r hr H locs ls hP hD hS hl)
theorem s_if_ge (K : gF p s m args c cc nL own D tys kc kt A) {x : Int32} {off : Int} {tgt : Nat} (d : decode cc pc = .ok (.ifCond .ge off, 3)) (ht : (pc : Int) + off = (tgt : Int)) (kt : 0 ≤ x → Sw p l e R s m args below meth c cells slots D A nL Q Ft w lv tgt st) (kf : ¬ 0 ≤ x → Sw p l e R s m args below meth c cells slots D A nL Q Ff w lv (pc + 3) st) : Sw p l e R s m args below meth c cells slots D A nL Q (if 0 ≤ x then Ft else Ff) w lv pc (.int x :: st) :=
  fun r hr H locs ls hP hD hS hl => lv_if_ge K.1.1 K.1.2.1 d ht (fun h => kt h r (by rw [if_pos h] at hr; exact hr) H locs ls hP hD hS hl) (fun h => kf h r (by rw [if_neg h] at hr; exact hr) H locs ls hP hD hS hl)
theorem s_if_geT (K : gF p s m args c cc nL own D tys kc kt A) {x : Int32} {off : Int} {tgt : Nat} (d : decode cc pc = .ok (.ifCond .ge off, 3)) (ht : (pc : Int) + off = (tgt : Int)) (h0 : 0 ≤ x) (kt : Sw p l e R s m args below meth c cells slots D A nL Q F w lv tgt st) : Sw p l e R s m args below meth c cells slots D A nL Q F w lv pc (.int x :: st) :=
  fun r hr H locs ls hP hD hS hl => lv_if_ge K.1.1 K.1.2.1 d ht (fun _ => kt r hr H locs ls hP hD hS hl) (fun h => absurd h0 h)
theorem s_if_geF (K : gF p s m args c cc nL own D tys kc kt A) {x : Int32} {off : Int} (d : decode cc pc = .ok (.ifCond .ge off, 3)) (tgt : Nat) (ht : (pc : Int) + off = (tgt : Int)) (h0 : ¬ 0 ≤ x) (kf : Sw p l e R s m args below meth c cells slots D A nL Q F w lv (pc + 3) st) : Sw p l e R s m args below meth c cells slots D A nL Q F w lv pc (.int x :: st) :=
  fun r hr H locs ls hP hD hS hl => lv_if_ge K.1.1 K.1.2.1 d ht (fun h => absurd h h0) (fun _ => kf r hr H locs ls hP hD hS hl)
theorem s_if_gt (K : gF p s m args c cc nL own D tys kc kt A) {x : Int32} {off : Int} {tgt : Nat} (d : decode cc pc = .ok (.ifCond .gt off, 3)) (ht : (pc : Int) + off = (tgt : Int)) (kt : 0 < x → Sw p l e R s m args below meth c cells slots D A nL Q Ft w lv tgt st) (kf : ¬ 0 < x → Sw p l e R s m args below meth c cells slots D A nL Q Ff w lv (pc + 3) st) : Sw p l e R s m args below meth c cells slots D A nL Q (if 0 < x then Ft else Ff) w lv pc (.int x :: st) :=
  fun r hr H locs ls hP hD hS hl => lv_if_gt K.1.1 K.1.2.1 d ht (fun h => kt h r (by rw [if_pos h] at hr; exact hr) H locs ls hP hD hS hl) (fun h => kf h r (by rw [if_neg h] at hr; exact hr) H locs ls hP hD hS hl)
theorem s_if_gtT (K : gF p s m args c cc nL own D tys kc kt A) {x : Int32} {off : Int} {tgt : Nat} (d : decode cc pc = .ok (.ifCond .gt off, 3)) (ht : (pc : Int) + off = (tgt : Int)) (h0 : 0 < x) (kt : Sw p l e R s m args below meth c cells slots D A nL Q F w lv tgt st) : Sw p l e R s m args below meth c cells slots D A nL Q F w lv pc (.int x :: st) :=
  fun r hr H locs ls hP hD hS hl => lv_if_gt K.1.1 K.1.2.1 d ht (fun _ => kt r hr H locs ls hP hD hS hl) (fun h => absurd h0 h)
theorem s_if_gtF (K : gF p s m args c cc nL own D tys kc kt A) {x : Int32} {off : Int} (d : decode cc pc = .ok (.ifCond .gt off, 3)) (tgt : Nat) (ht : (pc : Int) + off = (tgt : Int)) (h0 : ¬ 0 < x) (kf : Sw p l e R s m args below meth c cells slots D A nL Q F w lv (pc + 3) st) : Sw p l e R s m args below meth c cells slots D A nL Q F w lv pc (.int x :: st) :=
  fun r hr H locs ls hP hD hS hl => lv_if_gt K.1.1 K.1.2.1 d ht (fun h => absurd h h0) (fun _ => kf r hr H locs ls hP hD hS hl)
theorem s_if_le (K : gF p s m args c cc nL own D tys kc kt A) {x : Int32} {off : Int} {tgt : Nat} (d : decode cc pc = .ok (.ifCond .le off, 3)) (ht : (pc : Int) + off = (tgt : Int)) (kt : x ≤ 0 → Sw p l e R s m args below meth c cells slots D A nL Q Ft w lv tgt st) (kf : ¬ x ≤ 0 → Sw p l e R s m args below meth c cells slots D A nL Q Ff w lv (pc + 3) st) : Sw p l e R s m args below meth c cells slots D A nL Q (if x ≤ 0 then Ft else Ff) w lv pc (.int x :: st) :=
  fun r hr H locs ls hP hD hS hl => lv_if_le K.1.1 K.1.2.1 d ht (fun h => kt h r (by rw [if_pos h] at hr; exact hr) H locs ls hP hD hS hl) (fun h => kf h r (by rw [if_neg h] at hr; exact hr) H locs ls hP hD hS hl)
theorem s_if_leT (K : gF p s m args c cc nL own D tys kc kt A) {x : Int32} {off : Int} {tgt : Nat} (d : decode cc pc = .ok (.ifCond .le off, 3)) (ht : (pc : Int) + off = (tgt : Int)) (h0 : x ≤ 0) (kt : Sw p l e R s m args below meth c cells slots D A nL Q F w lv tgt st) : Sw p l e R s m args below meth c cells slots D A nL Q F w lv pc (.int x :: st) :=
  fun r hr H locs ls hP hD hS hl => lv_if_le K.1.1 K.1.2.1 d ht (fun _ => kt r hr H locs ls hP hD hS hl) (fun h => absurd h0 h)
theorem s_if_leF (K : gF p s m args c cc nL own D tys kc kt A) {x : Int32} {off : Int} (d : decode cc pc = .ok (.ifCond .le off, 3)) (tgt : Nat) (ht : (pc : Int) + off = (tgt : Int)) (h0 : ¬ x ≤ 0) (kf : Sw p l e R s m args below meth c cells slots D A nL Q F w lv (pc + 3) st) : Sw p l e R s m args below meth c cells slots D A nL Q F w lv pc (.int x :: st) :=
  fun r hr H locs ls hP hD hS hl => lv_if_le K.1.1 K.1.2.1 d ht (fun h => absurd h h0) (fun _ => kf r hr H locs ls hP hD hS hl)
theorem s_icmp_eq (K : gF p s m args c cc nL own D tys kc kt A) {x y : Int32} {off : Int} {tgt : Nat} (d : decode cc pc = .ok (.if_icmp .eq off, 3)) (ht : (pc : Int) + off = (tgt : Int)) (kt : x = y → Sw p l e R s m args below meth c cells slots D A nL Q Ft w lv tgt st) (kf : ¬ x = y → Sw p l e R s m args below meth c cells slots D A nL Q Ff w lv (pc + 3) st) : Sw p l e R s m args below meth c cells slots D A nL Q (if x = y then Ft else Ff) w lv pc (.int y :: .int x :: st) :=
  fun r hr H locs ls hP hD hS hl => lv_icmp_eq K.1.1 K.1.2.1 d ht (fun h => kt h r (by rw [if_pos h] at hr; exact hr) H locs ls hP hD hS hl) (fun h => kf h r (by rw [if_neg h] at hr; exact hr) H locs ls hP hD hS hl)
theorem s_icmp_eqT (K : gF p s m args c cc nL own D tys kc kt A) {x y : Int32} {off : Int} {tgt : Nat} (d : decode cc pc = .ok (.if_icmp .eq off, 3)) (ht : (pc : Int) + off = (tgt : Int)) (h0 : x = y) (kt : Sw p l e R s m args below meth c cells slots D A nL Q F w lv tgt st) : Sw p l e R s m args below meth c cells slots D A nL Q F w lv pc (.int y :: .int x :: st) :=
  fun r hr H locs ls hP hD hS hl => lv_icmp_eq K.1.1 K.1.2.1 d ht (fun _ => kt r hr H locs ls hP hD hS hl) (fun h => absurd h0 h)
theorem s_icmp_eqF (K : gF p s m args c cc nL own D tys kc kt A) {x y : Int32} {off : Int} (d : decode cc pc = .ok (.if_icmp .eq off, 3)) (tgt : Nat) (ht : (pc : Int) + off = (tgt : Int)) (h0 : ¬ x = y) (kf : Sw p l e R s m args below meth c cells slots D A nL Q F w lv (pc + 3) st) : Sw p l e R s m args below meth c cells slots D A nL Q F w lv pc (.int y :: .int x :: st) :=
  fun r hr H locs ls hP hD hS hl => lv_icmp_eq K.1.1 K.1.2.1 d ht (fun h => absurd h h0) (fun _ => kf r hr H locs ls hP hD hS hl)
theorem s_icmp_ne (K : gF p s m args c cc nL own D tys kc kt A) {x y : Int32} {off : Int} {tgt : Nat} (d : decode cc pc = .ok (.if_icmp .ne off, 3)) (ht : (pc : Int) + off = (tgt : Int)) (kf : x = y → Sw p l e R s m args below meth c cells slots D A nL Q Ff w lv (pc + 3) st) (kt : ¬ x = y → Sw p l e R s m args below meth c cells slots D A nL Q Ft w lv tgt st) : Sw p l e R s m args below meth c cells slots D A nL Q (if x = y then Ff else Ft) w lv pc (.int y :: .int x :: st) :=
  fun r hr H locs ls hP hD hS hl => lv_icmp_ne K.1.1 K.1.2.1 d ht (fun h => kt h r (by rw [if_neg h] at hr; exact hr) H locs ls hP hD hS hl) (fun h => kf h r (by rw [if_pos h] at hr; exact hr) H locs ls hP hD hS hl)
theorem s_icmp_neT (K : gF p s m args c cc nL own D tys kc kt A) {x y : Int32} {off : Int} {tgt : Nat} (d : decode cc pc = .ok (.if_icmp .ne off, 3)) (ht : (pc : Int) + off = (tgt : Int)) (h0 : ¬ x = y) (kt : Sw p l e R s m args below meth c cells slots D A nL Q F w lv tgt st) : Sw p l e R s m args below meth c cells slots D A nL Q F w lv pc (.int y :: .int x :: st) :=
  fun r hr H locs ls hP hD hS hl => lv_icmp_ne K.1.1 K.1.2.1 d ht (fun _ => kt r hr H locs ls hP hD hS hl) (fun h => absurd h h0)
theorem s_icmp_neF (K : gF p s m args c cc nL own D tys kc kt A) {x y : Int32} {off : Int} (d : decode cc pc = .ok (.if_icmp .ne off, 3)) (tgt : Nat) (ht : (pc : Int) + off = (tgt : Int)) (h0 : x = y) (kf : Sw p l e R s m args below meth c cells slots D A nL Q F w lv (pc + 3) st) : Sw p l e R s m args below meth c cells slots D A nL Q F w lv pc (.int y :: .int x :: st) :=
  fun r hr H locs ls hP hD hS hl => lv_icmp_ne K.1.1 K.1.2.1 d ht (fun h => absurd h0 h) (fun _ => kf r hr H locs ls hP hD hS hl)
theorem s_icmp_lt (K : gF p s m args c cc nL own D tys kc kt A) {x y : Int32} {off : Int} {tgt : Nat} (d : decode cc pc = .ok (.if_icmp .lt off, 3)) (ht : (pc : Int) + off = (tgt : Int)) (kt : x < y → Sw p l e R s m args below meth c cells slots D A nL Q Ft w lv tgt st) (kf : ¬ x < y → Sw p l e R s m args below meth c cells slots D A nL Q Ff w lv (pc + 3) st) : Sw p l e R s m args below meth c cells slots D A nL Q (if x < y then Ft else Ff) w lv pc (.int y :: .int x :: st) :=
  fun r hr H locs ls hP hD hS hl => lv_icmp_lt K.1.1 K.1.2.1 d ht (fun h => kt h r (by rw [if_pos h] at hr; exact hr) H locs ls hP hD hS hl) (fun h => kf h r (by rw [if_neg h] at hr; exact hr) H locs ls hP hD hS hl)
theorem s_icmp_ltT (K : gF p s m args c cc nL own D tys kc kt A) {x y : Int32} {off : Int} {tgt : Nat} (d : decode cc pc = .ok (.if_icmp .lt off, 3)) (ht : (pc : Int) + off = (tgt : Int)) (h0 : x < y) (kt : Sw p l e R s m args below meth c cells slots D A nL Q F w lv tgt st) : Sw p l e R s m args below meth c cells slots D A nL Q F w lv pc (.int y :: .int x :: st) :=
  fun r hr H locs ls hP hD hS hl => lv_icmp_lt K.1.1 K.1.2.1 d ht (fun _ => kt r hr H locs ls hP hD hS hl) (fun h => absurd h0 h)
theorem s_icmp_ltF (K : gF p s m args c cc nL own D tys kc kt A) {x y : Int32} {off : Int} (d : decode cc pc = .ok (.if_icmp .lt off, 3)) (tgt : Nat) (ht : (pc : Int) + off = (tgt : Int)) (h0 : ¬ x < y) (kf : Sw p l e R s m args below meth c cells slots D A nL Q F w lv (pc + 3) st) : Sw p l e R s m args below meth c cells slots D A nL Q F w lv pc (.int y :: .int x :: st) :=
  fun r hr H locs ls hP hD hS hl => lv_icmp_lt K.1.1 K.1.2.1 d ht (fun h => absurd h h0) (fun _ => kf r hr H locs ls hP hD hS hl)
theorem s_icmp_ge (K : gF p s m args c cc nL own D tys kc kt A) {x y : Int32} {off : Int} {tgt : Nat} (d : decode cc pc = .ok (.if_icmp .ge off, 3)) (ht : (pc : Int) + off = (tgt : Int)) (kt : y ≤ x → Sw p l e R s m args below meth c cells slots D A nL Q Ft w lv tgt st) (kf : ¬ y ≤ x → Sw p l e R s m args below meth c cells slots D A nL Q Ff w lv (pc + 3) st) : Sw p l e R s m args below meth c cells slots D A nL Q (if y ≤ x then Ft else Ff) w lv pc (.int y :: .int x :: st) :=
  fun r hr H locs ls hP hD hS hl => lv_icmp_ge K.1.1 K.1.2.1 d ht (fun h => kt h r (by rw [if_pos h] at hr; exact hr) H locs ls hP hD hS hl) (fun h => kf h r (by rw [if_neg h] at hr; exact hr) H locs ls hP hD hS hl)
theorem s_icmp_geT (K : gF p s m args c cc nL own D tys kc kt A) {x y : Int32} {off : Int} {tgt : Nat} (d : decode cc pc = .ok (.if_icmp .ge off, 3)) (ht : (pc : Int) + off = (tgt : Int)) (h0 : y ≤ x) (kt : Sw p l e R s m args below meth c cells slots D A nL Q F w lv tgt st) : Sw p l e R s m args below meth c cells slots D A nL Q F w lv pc (.int y :: .int x :: st) :=
  fun r hr H locs ls hP hD hS hl => lv_icmp_ge K.1.1 K.1.2.1 d ht (fun _ => kt r hr H locs ls hP hD hS hl) (fun h => absurd h0 h)
theorem s_icmp_geF (K : gF p s m args c cc nL own D tys kc kt A) {x y : Int32} {off : Int} (d : decode cc pc = .ok (.if_icmp .ge off, 3)) (tgt : Nat) (ht : (pc : Int) + off = (tgt : Int)) (h0 : ¬ y ≤ x) (kf : Sw p l e R s m args below meth c cells slots D A nL Q F w lv (pc + 3) st) : Sw p l e R s m args below meth c cells slots D A nL Q F w lv pc (.int y :: .int x :: st) :=
  fun r hr H locs ls hP hD hS hl => lv_icmp_ge K.1.1 K.1.2.1 d ht (fun h => absurd h h0) (fun _ => kf r hr H locs ls hP hD hS hl)
theorem s_icmp_gt (K : gF p s m args c cc nL own D tys kc kt A) {x y : Int32} {off : Int} {tgt : Nat} (d : decode cc pc = .ok (.if_icmp .gt off, 3)) (ht : (pc : Int) + off = (tgt : Int)) (kt : y < x → Sw p l e R s m args below meth c cells slots D A nL Q Ft w lv tgt st) (kf : ¬ y < x → Sw p l e R s m args below meth c cells slots D A nL Q Ff w lv (pc + 3) st) : Sw p l e R s m args below meth c cells slots D A nL Q (if y < x then Ft else Ff) w lv pc (.int y :: .int x :: st) :=
  fun r hr H locs ls hP hD hS hl => lv_icmp_gt K.1.1 K.1.2.1 d ht (fun h => kt h r (by rw [if_pos h] at hr; exact hr) H locs ls hP hD hS hl) (fun h => kf h r (by rw [if_neg h] at hr; exact hr) H locs ls hP hD hS hl)
theorem s_icmp_gtT (K : gF p s m args c cc nL own D tys kc kt A) {x y : Int32} {off : Int} {tgt : Nat} (d : decode cc pc = .ok (.if_icmp .gt off, 3)) (ht : (pc : Int) + off = (tgt : Int)) (h0 : y < x) (kt : Sw p l e R s m args below meth c cells slots D A nL Q F w lv tgt st) : Sw p l e R s m args below meth c cells slots D A nL Q F w lv pc (.int y :: .int x :: st) :=
  fun r hr H locs ls hP hD hS hl => lv_icmp_gt K.1.1 K.1.2.1 d ht (fun _ => kt r hr H locs ls hP hD hS hl) (fun h => absurd h0 h)
theorem s_icmp_gtF (K : gF p s m args c cc nL own D tys kc kt A) {x y : Int32} {off : Int} (d : decode cc pc = .ok (.if_icmp .gt off, 3)) (tgt : Nat) (ht : (pc : Int) + off = (tgt : Int)) (h0 : ¬ y < x) (kf : Sw p l e R s m args below meth c cells slots D A nL Q F w lv (pc + 3) st) : Sw p l e R s m args below meth c cells slots D A nL Q F w lv pc (.int y :: .int x :: st) :=
  fun r hr H locs ls hP hD hS hl => lv_icmp_gt K.1.1 K.1.2.1 d ht (fun h => absurd h h0) (fun _ => kf r hr H locs ls hP hD hS hl)
theorem s_icmp_le (K : gF p s m args c cc nL own D tys kc kt A) {x y : Int32} {off : Int} {tgt : Nat} (d : decode cc pc = .ok (.if_icmp .le off, 3)) (ht : (pc : Int) + off = (tgt : Int)) (kt : x ≤ y → Sw p l e R s m args below meth c cells slots D A nL Q Ft w lv tgt st) (kf : ¬ x ≤ y → Sw p l e R s m args below meth c cells slots D A nL Q Ff w lv (pc + 3) st) : Sw p l e R s m args below meth c cells slots D A nL Q (if x ≤ y then Ft else Ff) w lv pc (.int y :: .int x :: st) :=
  fun r hr H locs ls hP hD hS hl => lv_icmp_le K.1.1 K.1.2.1 d ht (fun h => kt h r (by rw [if_pos h] at hr; exact hr) H locs ls hP hD hS hl) (fun h => kf h r (by rw [if_neg h] at hr; exact hr) H locs ls hP hD hS hl)
theorem s_icmp_leT (K : gF p s m args c cc nL own D tys kc kt A) {x y : Int32} {off : Int} {tgt : Nat} (d : decode cc pc = .ok (.if_icmp .le off, 3)) (ht : (pc : Int) + off = (tgt : Int)) (h0 : x ≤ y) (kt : Sw p l e R s m args below meth c cells slots D A nL Q F w lv tgt st) : Sw p l e R s m args below meth c cells slots D A nL Q F w lv pc (.int y :: .int x :: st) :=
  fun r hr H locs ls hP hD hS hl => lv_icmp_le K.1.1 K.1.2.1 d ht (fun _ => kt r hr H locs ls hP hD hS hl) (fun h => absurd h0 h)
theorem s_icmp_leF (K : gF p s m args c cc nL own D tys kc kt A) {x y : Int32} {off : Int} (d : decode cc pc = .ok (.if_icmp .le off, 3)) (tgt : Nat) (ht : (pc : Int) + off = (tgt : Int)) (h0 : ¬ x ≤ y) (kf : Sw p l e R s m args below meth c cells slots D A nL Q F w lv (pc + 3) st) : Sw p l e R s m args below meth c cells slots D A nL Q F w lv pc (.int y :: .int x :: st) :=
  fun r hr H locs ls hP hD hS hl => lv_icmp_le K.1.1 K.1.2.1 d ht (fun h => absurd h h0) (fun _ => kf r hr H locs ls hP hD hS hl)
theorem s_acmp_eq (K : gF p s m args c cc nL own D tys kc kt A) {i j : Nat} {off : Int} {tgt : Nat} (d : decode cc pc = .ok (.if_acmp .eq off, 3)) (ht : (pc : Int) + off = (tgt : Int)) (hi : i < 5) (hj : j < 5) (kt : i = j → Sw p l e R s m args below meth c cells slots D A nL Q Ft w lv tgt st) (kf : ¬ i = j → Sw p l e R s m args below meth c cells slots D A nL Q Ff w lv (pc + 3) st) : Sw p l e R s m args below meth c cells slots D A nL Q (if i = j then Ft else Ff) w lv pc (.ref (kc j) :: .ref (kc i) :: st) :=
  fun r hr H locs ls hP hD hS hl => lv_acmp_eq (rx := some (kc i)) (ry := some (kc j)) K.1.1 K.1.2.1 d ht (fun h => by have h2 := K.2.2.2.1.2 i j hi hj (Option.some.inj h); exact kt h2 r (by rw [if_pos h2] at hr; exact hr) H locs ls hP hD hS hl) (fun h => by have h2 : ¬ i = j := fun q => h (by rw [q]); exact kf h2 r (by rw [if_neg h2] at hr; exact hr) H locs ls hP hD hS hl)
theorem s_acmp_ne (K : gF p s m args c cc nL own D tys kc kt A) {i j : Nat} {off : Int} {tgt : Nat} (d : decode cc pc = .ok (.if_acmp .ne off, 3)) (ht : (pc : Int) + off = (tgt : Int)) (hi : i < 5) (hj : j < 5) (kf : i = j → Sw p l e R s m args below meth c cells slots D A nL Q Ff w lv (pc + 3) st) (kt : ¬ i = j → Sw p l e R s m args below meth c cells slots D A nL Q Ft w lv tgt st) : Sw p l e R s m args below meth c cells slots D A nL Q (if i = j then Ff else Ft) w lv pc (.ref (kc j) :: .ref (kc i) :: st) :=
  fun r hr H locs ls hP hD hS hl => lv_acmp_ne (rx := some (kc i)) (ry := some (kc j)) K.1.1 K.1.2.1 d ht (fun h => by have h2 : ¬ i = j := fun q => h (by rw [q]); exact kt h2 r (by rw [if_neg h2] at hr; exact hr) H locs ls hP hD hS hl) (fun h => by have h2 := K.2.2.2.1.2 i j hi hj (Option.some.inj h); exact kf h2 r (by rw [if_pos h2] at hr; exact hr) H locs ls hP hD hS hl)
theorem s_swIn (K : gF p s m args c cc nL own D tys kc kt A) {dflt lo hi : Int} {offs : Array Int} {len : Nat} {x : Int32} {off : Int} (v : Int32) (tgt : Nat) (d : decode cc pc = .ok (.tableswitch dflt lo hi offs, len)) (h1 : ¬ v.toInt < lo ∧ ¬ hi < v.toInt) (ho : offs[(v.toInt - lo).toNat]? = some off) (ht : (pc : Int) + off = (tgt : Int)) (hx : x = v) (k : Sw p l e R s m args below meth c cells slots D A nL Q F w lv tgt st) : Sw p l e R s m args below meth c cells slots D A nL Q F w lv pc (.int x :: st) :=
  fun r hr H locs ls hP hD hS hl => by subst hx; exact lv_tableIn K.1.1 K.1.2.1 d h1.1 h1.2 ho ht (k r hr H locs ls hP hD hS hl)
theorem s_swOut (K : gF p s m args c cc nL own D tys kc kt A) {dflt lo hi : Int} {offs : Array Int} {len : Nat} {x : Int32} (tgt : Nat) (d : decode cc pc = .ok (.tableswitch dflt lo hi offs, len)) (h1 : x.toInt < lo ∨ hi < x.toInt) (ht : (pc : Int) + dflt = (tgt : Int)) (k : Sw p l e R s m args below meth c cells slots D A nL Q F w lv tgt st) : Sw p l e R s m args below meth c cells slots D A nL Q F w lv pc (.int x :: st) :=
  fun r hr H locs ls hP hD hS hl => lv_tableOut K.1.1 K.1.2.1 d h1 ht (k r hr H locs ls hP hD hS hl)
theorem sw_out {x : Int32} {n : Nat} (hn : n < 100) (h : ∀ j : Nat, j < n + 1 → ¬ x = nI j) : x.toInt < 0 ∨ (n : Int) < x.toInt := by
  by_cases h1 : x.toInt < 0
  · exact Or.inl h1
  · right
    refine Int.not_le.mp fun h2 => ?_
    have h0 : ¬ x < 0 := fun q => h1 (by rw [Int32.lt_iff_toInt_lt] at q; exact q)
    obtain ⟨j, hj, rfl⟩ := nI_of h0
    rw [nI_toInt hj] at h2
    exact h j (by omega) rfl
theorem s_ite {b : Prop} [Decidable b] (kt : b → Sw p l e R s m args below meth c cells slots D A nL Q Ft w lv pc st) (kf : ¬ b → Sw p l e R s m args below meth c cells slots D A nL Q Ff w lv pc st) : Sw p l e R s m args below meth c cells slots D A nL Q (if b then Ft else Ff) w lv pc st :=
  fun r hr H locs ls hP hD hS hl => by
    by_cases h : b
    · rw [if_pos h] at hr; exact kt h r hr H locs ls hP hD hS hl
    · rw [if_neg h] at hr; exact kf h r hr H locs ls hP hD hS hl
theorem s_ck {b : Prop} [Decidable b] (k : b → Sw p l e R s m args below meth c cells slots D A nL Q F w lv pc st) : Sw p l e R s m args below meth c cells slots D A nL Q (if b then F else none) w lv pc st :=
  fun r hr H locs ls hP hD hS hl => by
    by_cases h : b
    · rw [if_pos h] at hr; exact k h r hr H locs ls hP hD hS hl
    · rw [if_neg h] at hr; cases hr
theorem s_none : Sw p l e R s m args below meth c cells slots D A nL Q none w lv pc st := fun r hr => by cases hr
theorem s_bind {α : Type} {x : Option α} {f : α → Option ρ} (k : ∀ q, x = some q → Sw p l e R s m args below meth c cells slots D A nL Q (f q) w lv pc st) : Sw p l e R s m args below meth c cells slots D A nL Q (x.bind f) w lv pc st :=
  fun r hr H locs ls hP hD hS hl => by
    cases hx : x with
    | none => rw [hx] at hr; cases hr
    | some q => rw [hx] at hr; exact k q hx r hr H locs ls hP hD hS hl
theorem s_lv (ks : List Nat) (hk : lv_pick lv ks = lv') (k : Sw p l e R s m args below meth c cells slots D A nL Q F w lv' pc st) : Sw p l e R s m args below meth c cells slots D A nL Q F w lv pc st :=
  fun r hr H locs ls hP hD hS hl => k r hr H locs ls hP hD hS (lv_sub hl ks hk)
theorem s_eq {F' : Option ρ} (h : F = F') (k : Sw p l e R s m args below meth c cells slots D A nL Q F' w lv pc st) : Sw p l e R s m args below meth c cells slots D A nL Q F w lv pc st := by rw [h]; exact k
theorem s_get (K : gF p s m args c cc nL own D tys kc kt A) (q0 : Nat) {a ci : Nat} {fs : List Value} {C ref : String} {T : u_T} {N index : Nat} (he : w[q0]? = some (a, .inr (ci, fs))) (hc : vwCl[ci]? = some (C, T, N)) (hin : ∀ w ∈ u_ws C T N, w ∈ TB) (k0 : Nat) (hk : k0 < N) (hlink : Cond.fieldLink own index ref (T k0).2.1 (T k0).2.2.1 ∈ TB) (hsame : (T k0).1 = ref) {v : Value} (hv : fs[k0]? = some v) (d : decode cc pc = .ok (.getfield index, 3)) (k : Sw p l e R s m args below meth c cells slots D A nL Q F w lv (pc + 3) (v :: st)) : Sw p l e R s m args below meth c cells slots D A nL Q F w lv pc (.ref a :: st) :=
  fun r hr H locs ls hP hD hS hl => va_get K.1.1 K.1.2.1 K.1.2.2.2.2 hin K.1.2.2.2.1 K.2.1 hP q0 he hc k0 hk (K.1.2.2.2.2 _ hlink) (fun x h => by rw [← hsame]; exact h) hv d (k r hr H locs ls hP hD hS hl)
theorem s_put (K : gF p s m args c cc nL own D tys kc kt A) (q0 : Nat) {a ci : Nat} {fs : List Value} {C ref : String} {T : u_T} {N index : Nat} (he : w[q0]? = some (a, .inr (ci, fs))) (hc : vwCl[ci]? = some (C, T, N)) (hin : ∀ w ∈ u_ws C T N, w ∈ TB) {ty0 : Nat → FieldType} (hty : ∀ k, k < N → parseFieldDescriptor (T k).2.2.1 = some (ty0 k)) (hnm : ∀ a, a < N → ∀ b, b < N → a ≠ b → (T a).2.1 ≠ (T b).2.1) (k0 : Nat) (hk : k0 < N) (hlink : Cond.fieldLink own index ref (T k0).2.1 (T k0).2.2.1 ∈ TB) (hsame : (T k0).1 = ref) (hfin : (T k0).2.2.2 = false) {v : Value} (hn : narrow (ty0 k0) v = v) (hfit : fits (ty0 k0) v = true) (hl0 : k0 < fs.length) (hw : w.set q0 (a, .inr (ci, fs.set k0 v)) = w') (d : decode cc pc = .ok (.putfield index, 3)) (k : Sw p l e R s m args below meth c cells slots D A nL Q F w' lv (pc + 3) st) : Sw p l e R s m args below meth c cells slots D A nL Q F w lv pc (v :: .ref a :: st) :=
  fun r hr H locs ls hP hD hS hl => va_put K.1.1 K.1.2.1 K.1.2.2.2.2 hin ty0 hty hnm K.1.2.2.2.1 K.2.1 hP hD hS q0 he hc k0 hk (K.1.2.2.2.2 _ hlink) (fun x h => by rw [← hsame]; exact h) hfin (hty k0 hk) hn hfit hl0 d (fun H1 locs1 hP1 hD1 hS1 => k r hr H1 locs1 ls (hw ▸ hP1) (hw ▸ hD1) hS1 hl)
theorem s_putF (K : gF p s m args c cc nL own D tys kc kt A) (q0 : Nat) {a ci : Nat} {fs : List Value} {C ref : String} {T : u_T} {N index : Nat} (he : w[q0]? = some (a, .inr (ci, fs))) (hc : vwCl[ci]? = some (C, T, N)) (hin : ∀ w ∈ u_ws C T N, w ∈ TB) {ty0 : Nat → FieldType} (hty : ∀ k, k < N → parseFieldDescriptor (T k).2.2.1 = some (ty0 k)) (hnm : ∀ a, a < N → ∀ b, b < N → a ≠ b → (T a).2.1 ≠ (T b).2.1) (hinit : meth.name = "<init>") (k0 : Nat) (hk : k0 < N) (hlink : Cond.fieldLink own index ref (T k0).2.1 (T k0).2.2.1 ∈ TB) (hsame : (T k0).1 = ref) (hdecl : (T k0).1 = own) (hfin : (T k0).2.2.2 = true) {v : Value} (hn : narrow (ty0 k0) v = v) (hfit : fits (ty0 k0) v = true) (hl0 : k0 < fs.length) (hw : w.set q0 (a, .inr (ci, fs.set k0 v)) = w') (d : decode cc pc = .ok (.putfield index, 3)) (k : Sw p l e R s m args below meth c cells slots D A nL Q F w' lv (pc + 3) st) : Sw p l e R s m args below meth c cells slots D A nL Q F w lv pc (v :: .ref a :: st) :=
  fun r hr H locs ls hP hD hS hl => va_putF K.1.1 K.1.2.1 K.1.2.2.2.2 hin ty0 hty hnm K.1.2.2.2.1 K.2.1 hP hD hS q0 he hc k0 hk (K.1.2.2.2.2 _ hlink) (fun x h => by rw [← hsame]; exact h) hfin hinit hdecl (hty k0 hk) hn hfit hl0 d (fun H1 locs1 hP1 hD1 hS1 => k r hr H1 locs1 ls (hw ▸ hP1) (hw ▸ hD1) hS1 hl)
theorem s_getE (K : gF p s m args c cc nL own D tys kc kt A) {i index : Nat} {ref : String} (q : String × String × String × List Int32) (hq : q ∈ kcF) (hi : i < 5) (hlink : Cond.fieldLink own index ref q.2.1 q.2.2.1 ∈ TB) (hsame : q.1 = ref) (d : decode cc pc = .ok (.getfield index, 3)) (k : Sw p l e R s m args below meth c cells slots D A nL Q F w lv (pc + 3) (.int (q.2.2.2.getD i 0) :: st)) : Sw p l e R s m args below meth c cells slots D A nL Q F w lv pc (.ref (kc i) :: st) :=
  fun r hr H locs ls hP hD hS hl => va_getE K.1.1 K.1.2.1 K.2.2.2.1 hi hS K.1.2.2.2.1 hq (K.1.2.2.2.2 _ hlink) (fun x h => by rw [← hsame]; exact h) d (k r hr H locs ls hP hD hS hl)
theorem s_getsK (K : gF p s m args c cc nL own D tys kc kt A) {index : Nat} {ref nm : String} (i : Nat) (hi : i < 5) (hnm : kcN.getD i "" = nm) (hlink : Cond.fieldLink own index "SnowBalls$Kind" nm "LSnowBalls$Kind;" ∈ TB) (d : decode cc pc = .ok (.getstatic index, 3)) (k : Sw p l e R s m args below meth c cells slots D A nL Q F w lv (pc + 3) (.ref (kc i) :: st)) : Sw p l e R s m args below meth c cells slots D A nL Q F w lv pc st :=
  fun r hr H locs ls hP hD hS hl => by subst hnm; exact va_gets K.1.1 K.1.2.1 (K.2.2.2.1.1 i hi).1 hS K.1.2.2.2.1 (K.1.2.2.2.2 _ hlink) (fun x h => h) d (k r hr H locs ls hP hD hS hl)
theorem s_getsT (K : gF p s m args c cc nL own D tys kc kt A) {index : Nat} (hlink : Cond.fieldLink own index "SnowBalls" "KINDS" "[LSnowBalls$Kind;" ∈ TB) (d : decode cc pc = .ok (.getstatic index, 3)) (k : Sw p l e R s m args below meth c cells slots D A nL Q F w lv (pc + 3) (.ref kt :: st)) : Sw p l e R s m args below meth c cells slots D A nL Q F w lv pc st :=
  fun r hr H locs ls hP hD hS hl => va_gets K.1.1 K.1.2.1 K.2.2.2.2.1 hS K.1.2.2.2.1 (K.1.2.2.2.2 _ hlink) (fun x h => h) d (k r hr H locs ls hP hD hS hl)
theorem s_aldT (K : gF p s m args c cc nL own D tys kc kt A) {i : Int32} (hi : vp_in i 5) (d : decode cc pc = .ok (.aaload, 1)) (k : Sw p l e R s m args below meth c cells slots D A nL Q F w lv (pc + 1) (.ref (kc i.toNatClampNeg) :: st)) : Sw p l e R s m args below meth c cells slots D A nL Q F w lv pc (.int i :: .ref kt :: st) :=
  fun r hr H locs ls hP hD hS hl => vb_tq K.1.1 K.1.2.1 K.2.2.2.2.2 hS hi (v := .ref (kc i.toNatClampNeg)) rfl d (k r hr H locs ls hP hD hS hl)
theorem s_lenT (K : gF p s m args c cc nL own D tys kc kt A) (d : decode cc pc = .ok (.arraylength, 1)) (k : Sw p l e R s m args below meth c cells slots D A nL Q F w lv (pc + 1) (.int 5 :: st)) : Sw p l e R s m args below meth c cells slots D A nL Q F w lv pc (.ref kt :: st) :=
  fun r hr H locs ls hP hD hS hl => va_tlen K.1.1 K.1.2.1 K.2.2.2.2.2 hS (v := 5) rfl d (k r hr H locs ls hP hD hS hl)
theorem s_iald (K : gF p s m args c cc nL own D tys kc kt A) (q0 t0 : Nat) {a : Nat} {cA : ClassId} {n : Nat} {f : Nat → Int32} (ha : w[q0]? = some (a, .inl (cA, n, .inl f))) (ht : tys[t0]? = some (cA, .int)) {i : Int32} {j : Nat} (hin : vp_in i n) (hj : i.toNatClampNeg = j) (d : decode cc pc = .ok (.iaload, 1)) (k : Sw p l e R s m args below meth c cells slots D A nL Q F w lv (pc + 1) (.int (f j) :: st)) : Sw p l e R s m args below meth c cells slots D A nL Q F w lv pc (.int i :: .ref a :: st) :=
  fun r hr H locs ls hP hD hS hl => va_iald K.1.1 K.1.2.1 K.2.1 hP q0 t0 ha ht hin d (by rw [hj]; exact k r hr H locs ls hP hD hS hl)
theorem s_bald (K : gF p s m args c cc nL own D tys kc kt A) (q0 t0 : Nat) {a : Nat} {cA : ClassId} {n : Nat} {f : Nat → Int32} (ha : w[q0]? = some (a, .inl (cA, n, .inl f))) (ht : tys[t0]? = some (cA, .byte)) {i : Int32} {j : Nat} (hin : vp_in i n) (hj : i.toNatClampNeg = j) (d : decode cc pc = .ok (.baload, 1)) (k : Sw p l e R s m args below meth c cells slots D A nL Q F w lv (pc + 1) (.int (f j) :: st)) : Sw p l e R s m args below meth c cells slots D A nL Q F w lv pc (.int i :: .ref a :: st) :=
  fun r hr H locs ls hP hD hS hl => va_bald K.1.1 K.1.2.1 K.2.1 hP q0 t0 ha ht hin d (by rw [hj]; exact k r hr H locs ls hP hD hS hl)
theorem s_cald (K : gF p s m args c cc nL own D tys kc kt A) (q0 t0 : Nat) {a : Nat} {cA : ClassId} {n : Nat} {f : Nat → Int32} (ha : w[q0]? = some (a, .inl (cA, n, .inl f))) (ht : tys[t0]? = some (cA, .char)) {i : Int32} {j : Nat} (hin : vp_in i n) (hj : i.toNatClampNeg = j) (d : decode cc pc = .ok (.caload, 1)) (k : Sw p l e R s m args below meth c cells slots D A nL Q F w lv (pc + 1) (.int (f j) :: st)) : Sw p l e R s m args below meth c cells slots D A nL Q F w lv pc (.int i :: .ref a :: st) :=
  fun r hr H locs ls hP hD hS hl => va_cald K.1.1 K.1.2.1 K.2.1 hP q0 t0 ha ht hin d (by rw [hj]; exact k r hr H locs ls hP hD hS hl)
theorem s_iast (K : gF p s m args c cc nL own D tys kc kt A) (q0 t0 : Nat) {a : Nat} {cA : ClassId} {n : Nat} {f : Nat → Int32} (ha : w[q0]? = some (a, .inl (cA, n, .inl f))) (ht : tys[t0]? = some (cA, .int)) {i x : Int32} {j : Nat} (hin : vp_in i n) (hj : i.toNatClampNeg = j) (hw : w.set q0 (a, .inl (cA, n, .inl (upd f j x))) = w') (d : decode cc pc = .ok (.iastore, 1)) (k : Sw p l e R s m args below meth c cells slots D A nL Q F w' lv (pc + 1) st) : Sw p l e R s m args below meth c cells slots D A nL Q F w lv pc (.int x :: .int i :: .ref a :: st) :=
  fun r hr H locs ls hP hD hS hl => by subst hj; exact va_iast K.1.1 K.1.2.1 K.2.1 hP hD hS q0 t0 ha ht hin d (fun H1 locs1 hP1 hD1 hS1 => k r hr H1 locs1 ls (hw ▸ hP1) (hw ▸ hD1) hS1 hl)
theorem s_bast (K : gF p s m args c cc nL own D tys kc kt A) (q0 t0 : Nat) {a : Nat} {cA : ClassId} {n : Nat} {f : Nat → Int32} (ha : w[q0]? = some (a, .inl (cA, n, .inl f))) (ht : tys[t0]? = some (cA, .byte)) {i x : Int32} {j : Nat} (hin : vp_in i n) (hj : i.toNatClampNeg = j) (hw : w.set q0 (a, .inl (cA, n, .inl (upd f j (vp_nar .byte x)))) = w') (d : decode cc pc = .ok (.bastore, 1)) (k : Sw p l e R s m args below meth c cells slots D A nL Q F w' lv (pc + 1) st) : Sw p l e R s m args below meth c cells slots D A nL Q F w lv pc (.int x :: .int i :: .ref a :: st) :=
  fun r hr H locs ls hP hD hS hl => by subst hj; exact va_bast K.1.1 K.1.2.1 K.2.1 hP hD hS q0 t0 ha ht hin d (fun H1 locs1 hP1 hD1 hS1 => k r hr H1 locs1 ls (hw ▸ hP1) (hw ▸ hD1) hS1 hl)
theorem s_cast (K : gF p s m args c cc nL own D tys kc kt A) (q0 t0 : Nat) {a : Nat} {cA : ClassId} {n : Nat} {f : Nat → Int32} (ha : w[q0]? = some (a, .inl (cA, n, .inl f))) (ht : tys[t0]? = some (cA, .char)) {i x : Int32} {j : Nat} (hin : vp_in i n) (hj : i.toNatClampNeg = j) (hw : w.set q0 (a, .inl (cA, n, .inl (upd f j (vp_nar .char x)))) = w') (d : decode cc pc = .ok (.castore, 1)) (k : Sw p l e R s m args below meth c cells slots D A nL Q F w' lv (pc + 1) st) : Sw p l e R s m args below meth c cells slots D A nL Q F w lv pc (.int x :: .int i :: .ref a :: st) :=
  fun r hr H locs ls hP hD hS hl => by subst hj; exact va_cast K.1.1 K.1.2.1 K.2.1 hP hD hS q0 t0 ha ht hin d (fun H1 locs1 hP1 hD1 hS1 => k r hr H1 locs1 ls (hw ▸ hP1) (hw ▸ hD1) hS1 hl)
theorem s_aldq (K : gF p s m args c cc nL own D tys kc kt A) (q0 t0 : Nat) {a : Nat} {cA : ClassId} {C : String} {n : Nat} {f : Nat → Option Nat} (ha : w[q0]? = some (a, .inl (cA, n, .inr (.inr (.inr (.inr f)))))) (ht : tys[t0]? = some (cA, .object C)) {i : Int32} {j : Nat} (hin : vp_in i n) (hj : i.toNatClampNeg = j) (d : decode cc pc = .ok (.aaload, 1)) (k : Sw p l e R s m args below meth c cells slots D A nL Q F w lv (pc + 1) (va_rf (f j) :: st)) : Sw p l e R s m args below meth c cells slots D A nL Q F w lv pc (.int i :: .ref a :: st) :=
  fun r hr H locs ls hP hD hS hl => va_aldq K.1.1 K.1.2.1 K.2.1 hP q0 t0 ha ht hin d (by rw [hj]; exact k r hr H locs ls hP hD hS hl)
theorem s_alen (K : gF p s m args c cc nL own D tys kc kt A) (q0 t0 : Nat) {a : Nat} {cA : ClassId} {x : vp_A} {ty : FieldType} (ha : w[q0]? = some (a, .inl (cA, x))) (ht : tys[t0]? = some (cA, ty)) {v : Int32} (hv : Int32.ofNat x.1 = v) (d : decode cc pc = .ok (.arraylength, 1)) (k : Sw p l e R s m args below meth c cells slots D A nL Q F w lv (pc + 1) (.int v :: st)) : Sw p l e R s m args below meth c cells slots D A nL Q F w lv pc (.ref a :: st) :=
  fun r hr H locs ls hP hD hS hl => va_alen K.1.1 K.1.2.1 K.2.1 hP q0 t0 ha ht hv d (k r hr H locs ls hP hD hS hl)
theorem s_min (K : gF p s m args c cc nL own D tys kc kt A) {x y : Int32} {index : Nat} (hlink : Cond.methodLink own index Lib.Math.min.name ∈ TB) (hstat : Cond.static Lib.Math.min.name ∈ TB) (hini : Cond.initialized "java/lang/Math" ∈ TB) (hcode : Cond.code Lib.Math.min.name Lib.Math.min.code 2 (some .int) ∈ TB) (hf : 1 ≤ R.frames) (hlo : (st.map fun v => v.category).sum + 13 ≤ R.locals) (hc : cells ≤ R.cells) (hs : slots ≤ R.slots) (d : decode cc pc = .ok (.invokestatic index, 3)) (k : Sw p l e R s m args below meth c cells slots D A nL Q F w lv (pc + 3) (.int (if y < x then y else x) :: st)) : Sw p l e R s m args below meth c cells slots D A nL Q F w lv pc (.int y :: .int x :: st) :=
  fun r hr H locs ls hP hD hS hl => va_mmin K.1.1 K.1.2.1 (K.1.2.2.1.trans hl.1.symm) K.1.2.2.2.1 (K.1.2.2.2.2 _ hlink) (K.1.2.2.2.2 _ hstat) (K.1.2.2.2.2 _ hini) (K.1.2.2.2.2 _ hcode) hf hlo hc hs d (k r hr H locs ls hP hD hS hl)
end SW
end
section
theorem t1_in {w : Cond} (h : w ∈ tables_1_1) : w ∈ lw_tbl := List.mem_append_right _ (List.mem_append_left _ h)
theorem t2_in {w : Cond} (h : w ∈ tables_1_2) : w ∈ lw_tbl := List.mem_append_right _ (List.mem_append_right _ (List.mem_append_left _ h))
theorem t3_in {w : Cond} (h : w ∈ tables_1_3) : w ∈ lw_tbl := List.mem_append_right _ (List.mem_append_right _ (List.mem_append_right _ (List.mem_append_left _ h)))
theorem t4_in {w : Cond} (h : w ∈ tables_1_4) : w ∈ lw_tbl := List.mem_append_right _ (List.mem_append_right _ (List.mem_append_right _ (List.mem_append_right _ h)))
theorem s_in {w : Cond} (h : w ∈ k2_sels lw_privs) : w ∈ lw_tbl := List.mem_append_left _ h
theorem t_0 : Cond.initialized "SnowBallsLaw" ∈ TB := tb_in (t1_in (List.mem_of_getElem? (i := 0) rfl)) rfl
theorem t_1 : Cond.initialized RX7 ∈ TB := tb_in (t1_in (List.mem_of_getElem? (i := 1) rfl)) rfl
theorem t_2 : Cond.initialized RX4 ∈ TB := tb_in (t1_in (List.mem_of_getElem? (i := 2) rfl)) rfl
theorem t_3 : Cond.initialized RX1 ∈ TB := tb_in (t1_in (List.mem_of_getElem? (i := 3) rfl)) rfl
theorem t_4 : Cond.initialized RJx29ce0 ∈ TB := tb_in (t1_in (List.mem_of_getElem? (i := 4) rfl)) rfl
theorem t_5 : Cond.initialized RX2 ∈ TB := tb_in (t1_in (List.mem_of_getElem? (i := 5) rfl)) rfl
theorem t_6 : Cond.initialized RX5 ∈ TB := tb_in (t1_in (List.mem_of_getElem? (i := 6) rfl)) rfl
theorem t_7 : Cond.initialized RX3 ∈ TB := tb_in (t1_in (List.mem_of_getElem? (i := 7) rfl)) rfl
theorem t_8 : Cond.initialized RX0 ∈ TB := tb_in (t1_in (List.mem_of_getElem? (i := 8) rfl)) rfl
theorem t_9 : Cond.initialized RX6 ∈ TB := tb_in (t1_in (List.mem_of_getElem? (i := 9) rfl)) rfl
theorem t_10 : Cond.initialized RX8 ∈ TB := tb_in (t1_in (List.mem_of_getElem? (i := 10) rfl)) rfl
theorem t_11 : Cond.initialized RJ9 ∈ TB := tb_in (t1_in (List.mem_of_getElem? (i := 11) rfl)) rfl
theorem t_12 : Cond.initialized RJ6 ∈ TB := tb_in (t1_in (List.mem_of_getElem? (i := 12) rfl)) rfl
theorem t_13 : Cond.classLink "SnowBallsLaw" 7 RX7 ∈ TB := tb_in (t1_in (List.mem_of_getElem? (i := 13) rfl)) rfl
theorem t_14 : Cond.instantiable RX7 12 ∈ TB := tb_in (t1_in (List.mem_of_getElem? (i := 14) rfl)) rfl
theorem t_15 : Cond.methodLink "SnowBallsLaw" 9 yX7_init ∈ TB := tb_in (t1_in (List.mem_of_getElem? (i := 15) rfl)) rfl
theorem t_16 : Cond.instanceMethod yX7_init ∈ TB := tb_in (t1_in (List.mem_of_getElem? (i := 16) rfl)) rfl
theorem t_17 : Cond.code yX7_init cX7_init 1 none ∈ TB := tb_in (t1_in (List.mem_of_getElem? (i := 17) rfl)) rfl
theorem t_18 : Cond.methodLink RX7 3 Lib.objectInit ∈ TB := tb_in (t1_in (List.mem_of_getElem? (i := 18) rfl)) rfl
theorem t_19 : Cond.instanceMethod Lib.objectInit ∈ TB := tb_in (t1_in (List.mem_of_getElem? (i := 19) rfl)) rfl
theorem t_20 : Cond.code Lib.objectInit ⟨#[0xb1]⟩ 1 none ∈ TB := tb_in (t1_in (List.mem_of_getElem? (i := 20) rfl)) rfl
theorem t_21 : Cond.classLink RX7 13 RX4 ∈ TB := tb_in (t1_in (List.mem_of_getElem? (i := 21) rfl)) rfl
theorem t_22 : Cond.instantiable RX4 6 ∈ TB := tb_in (t1_in (List.mem_of_getElem? (i := 22) rfl)) rfl
theorem t_23 : Cond.methodLink RX7 15 yX4_init ∈ TB := tb_in (t1_in (List.mem_of_getElem? (i := 23) rfl)) rfl
theorem t_24 : Cond.instanceMethod yX4_init ∈ TB := tb_in (t1_in (List.mem_of_getElem? (i := 24) rfl)) rfl
theorem t_25 : Cond.code yX4_init cX4_init 2 none ∈ TB := tb_in (t1_in (List.mem_of_getElem? (i := 25) rfl)) rfl
theorem t_26 : Cond.methodLink RX4 3 Lib.objectInit ∈ TB := tb_in (t1_in (List.mem_of_getElem? (i := 26) rfl)) rfl
theorem t_27 : Cond.classLink RX4 15 RX1 ∈ TB := tb_in (t1_in (List.mem_of_getElem? (i := 27) rfl)) rfl
theorem t_28 : Cond.arrayOver (.object "SnowBalls$Ball") ∈ TB := tb_in (t1_in (List.mem_of_getElem? (i := 28) rfl)) rfl
theorem t_29 : Cond.instantiable RX1 5 ∈ TB := tb_in (t1_in (List.mem_of_getElem? (i := 29) rfl)) rfl
theorem t_30 : Cond.methodLink RX4 21 yX1_init ∈ TB := tb_in (t1_in (List.mem_of_getElem? (i := 30) rfl)) rfl
theorem t_31 : Cond.instanceMethod yX1_init ∈ TB := tb_in (t1_in (List.mem_of_getElem? (i := 31) rfl)) rfl
theorem t_32 : Cond.code yX1_init cX1_init 1 none ∈ TB := tb_in (t1_in (List.mem_of_getElem? (i := 32) rfl)) rfl
theorem t_33 : Cond.methodLink RX1 3 Lib.objectInit ∈ TB := tb_in (t1_in (List.mem_of_getElem? (i := 33) rfl)) rfl
theorem t_34 : Cond.fieldLink RX1 9 "SnowBalls$Kind" "BALL" "LSnowBalls$Kind;" ∈ TB := tb_in (t1_in (List.mem_of_getElem? (i := 34) rfl)) rfl
theorem t_35 : Cond.laysStatic RX2 "BALL" "LSnowBalls$Kind;" ∈ TB := tb_in (t1_in (List.mem_of_getElem? (i := 35) rfl)) rfl
theorem t_36 : Cond.fieldLink RX1 15 "SnowBalls$Ball" "kind" "LSnowBalls$Kind;" ∈ TB := tb_in (t1_in (List.mem_of_getElem? (i := 36) rfl)) rfl
theorem t_37 : Cond.fieldLink RX7 130 "SnowBalls$Ball" "kind" "LSnowBalls$Kind;" ∈ TB := tb_in (t1_in (List.mem_of_getElem? (i := 37) rfl)) rfl
theorem t_38 : Cond.fieldLink RX4 80 "SnowBalls$Ball" "kind" "LSnowBalls$Kind;" ∈ TB := tb_in (t1_in (List.mem_of_getElem? (i := 38) rfl)) rfl
theorem t_39 : Cond.fieldLink RX1 20 "SnowBalls$Ball" "size" "I" ∈ TB := tb_in (t1_in (List.mem_of_getElem? (i := 39) rfl)) rfl
theorem t_40 : Cond.fieldLink RX3 21 "SnowBalls$Ball" "size" "I" ∈ TB := tb_in (t1_in (List.mem_of_getElem? (i := 40) rfl)) rfl
theorem t_41 : Cond.fieldLink RX6 19 "SnowBalls$Ball" "size" "I" ∈ TB := tb_in (t1_in (List.mem_of_getElem? (i := 41) rfl)) rfl
theorem t_42 : Cond.fieldLink RX4 39 "SnowBalls$Ball" "size" "I" ∈ TB := tb_in (t1_in (List.mem_of_getElem? (i := 42) rfl)) rfl
theorem t_43 : Cond.fieldLink RX7 139 "SnowBalls$Ball" "size" "I" ∈ TB := tb_in (t1_in (List.mem_of_getElem? (i := 43) rfl)) rfl
theorem t_44 : Cond.fieldLink RX1 24 "SnowBalls$Ball" "place" "I" ∈ TB := tb_in (t1_in (List.mem_of_getElem? (i := 44) rfl)) rfl
theorem t_45 : Cond.fieldLink RX0 18 "SnowBalls$Ball" "place" "I" ∈ TB := tb_in (t1_in (List.mem_of_getElem? (i := 45) rfl)) rfl
theorem t_46 : Cond.fieldLink RX4 46 "SnowBalls$Ball" "place" "I" ∈ TB := tb_in (t1_in (List.mem_of_getElem? (i := 46) rfl)) rfl
theorem t_47 : Cond.fieldLink RX7 142 "SnowBalls$Ball" "place" "I" ∈ TB := tb_in (t1_in (List.mem_of_getElem? (i := 47) rfl)) rfl
theorem t_48 : Cond.fieldLink RX1 27 "SnowBalls$Ball" "on" "I" ∈ TB := tb_in (t1_in (List.mem_of_getElem? (i := 48) rfl)) rfl
theorem t_49 : Cond.fieldLink RX4 49 "SnowBalls$Ball" "on" "I" ∈ TB := tb_in (t1_in (List.mem_of_getElem? (i := 49) rfl)) rfl
theorem t_50 : Cond.fieldLink RX7 145 "SnowBalls$Ball" "on" "I" ∈ TB := tb_in (t1_in (List.mem_of_getElem? (i := 50) rfl)) rfl
theorem t_51 : Cond.fieldLink RX1 30 "SnowBalls$Ball" "axis" "I" ∈ TB := tb_in (t1_in (List.mem_of_getElem? (i := 51) rfl)) rfl
theorem t_52 : Cond.fieldLink RX7 154 "SnowBalls$Ball" "axis" "I" ∈ TB := tb_in (t1_in (List.mem_of_getElem? (i := 52) rfl)) rfl
theorem t_53 : Cond.fieldLink RX4 96 "SnowBalls$Ball" "axis" "I" ∈ TB := tb_in (t1_in (List.mem_of_getElem? (i := 53) rfl)) rfl
theorem t_54 : Cond.lays RX1 "SnowBalls$Ball" "kind" "LSnowBalls$Kind;" ∈ TB := tb_in (t1_in (List.mem_of_getElem? (i := 54) rfl)) rfl
theorem t_56 : Cond.lays RX1 "SnowBalls$Ball" "size" "I" ∈ TB := tb_in (t1_in (List.mem_of_getElem? (i := 56) rfl)) rfl
theorem t_58 : Cond.lays RX1 "SnowBalls$Ball" "place" "I" ∈ TB := tb_in (t1_in (List.mem_of_getElem? (i := 58) rfl)) rfl
theorem t_60 : Cond.lays RX1 "SnowBalls$Ball" "on" "I" ∈ TB := tb_in (t1_in (List.mem_of_getElem? (i := 60) rfl)) rfl
theorem t_62 : Cond.lays RX1 "SnowBalls$Ball" "axis" "I" ∈ TB := tb_in (t1_in (List.mem_of_getElem? (i := 62) rfl)) rfl
theorem t_65 : Cond.arrayClass .char ∈ TB := tb_in (t1_in (List.mem_of_getElem? (i := 65) rfl)) rfl
theorem t_66 : Cond.arrayClass .int ∈ TB := tb_in (t1_in (List.mem_of_getElem? (i := 66) rfl)) rfl
theorem t_67 : Cond.fieldLink RX4 9 "SnowBalls$Lawn" "depths" "[I" ∈ TB := tb_in (t1_in (List.mem_of_getElem? (i := 67) rfl)) rfl
theorem t_68 : Cond.fieldLink RX7 66 "SnowBalls$Lawn" "depths" "[I" ∈ TB := tb_in (t1_in (List.mem_of_getElem? (i := 68) rfl)) rfl
theorem t_69 : Cond.fieldLink RX4 17 "SnowBalls$Lawn" "balls" "[LSnowBalls$Ball;" ∈ TB := tb_in (t1_in (List.mem_of_getElem? (i := 69) rfl)) rfl
theorem t_70 : Cond.fieldLink RX7 113 "SnowBalls$Lawn" "balls" "[LSnowBalls$Ball;" ∈ TB := tb_in (t1_in (List.mem_of_getElem? (i := 70) rfl)) rfl
theorem t_71 : Cond.fieldLink RX4 26 "SnowBalls$Lawn" "ballCount" "I" ∈ TB := tb_in (t1_in (List.mem_of_getElem? (i := 71) rfl)) rfl
theorem t_72 : Cond.fieldLink RX7 110 "SnowBalls$Lawn" "ballCount" "I" ∈ TB := tb_in (t1_in (List.mem_of_getElem? (i := 72) rfl)) rfl
theorem t_73 : Cond.fieldLink RX4 36 "SnowBalls$Lawn" "wetness" "I" ∈ TB := tb_in (t1_in (List.mem_of_getElem? (i := 73) rfl)) rfl
theorem t_74 : Cond.fieldLink RX7 74 "SnowBalls$Lawn" "wetness" "I" ∈ TB := tb_in (t1_in (List.mem_of_getElem? (i := 74) rfl)) rfl
theorem t_75 : Cond.fieldLink RX4 22 "SnowBalls$Lawn" "strength" "I" ∈ TB := tb_in (t1_in (List.mem_of_getElem? (i := 75) rfl)) rfl
theorem t_76 : Cond.fieldLink RX7 101 "SnowBalls$Lawn" "strength" "I" ∈ TB := tb_in (t1_in (List.mem_of_getElem? (i := 76) rfl)) rfl
theorem t_77 : Cond.fieldLink RX4 29 "SnowBalls$Lawn" "days" "I" ∈ TB := tb_in (t1_in (List.mem_of_getElem? (i := 77) rfl)) rfl
theorem t_78 : Cond.fieldLink RX7 242 "SnowBalls$Lawn" "days" "I" ∈ TB := tb_in (t1_in (List.mem_of_getElem? (i := 78) rfl)) rfl
theorem t_79 : Cond.laysFinal RX4 "SnowBalls$Lawn" "depths" "[I" ∈ TB := tb_in (t1_in (List.mem_of_getElem? (i := 79) rfl)) rfl
theorem t_81 : Cond.laysFinal RX4 "SnowBalls$Lawn" "balls" "[LSnowBalls$Ball;" ∈ TB := tb_in (t1_in (List.mem_of_getElem? (i := 81) rfl)) rfl
theorem t_83 : Cond.lays RX4 "SnowBalls$Lawn" "ballCount" "I" ∈ TB := tb_in (t1_in (List.mem_of_getElem? (i := 83) rfl)) rfl
theorem t_85 : Cond.lays RX4 "SnowBalls$Lawn" "wetness" "I" ∈ TB := tb_in (t1_in (List.mem_of_getElem? (i := 85) rfl)) rfl
theorem t_87 : Cond.lays RX4 "SnowBalls$Lawn" "strength" "I" ∈ TB := tb_in (t1_in (List.mem_of_getElem? (i := 87) rfl)) rfl
theorem t_89 : Cond.lays RX4 "SnowBalls$Lawn" "days" "I" ∈ TB := tb_in (t1_in (List.mem_of_getElem? (i := 89) rfl)) rfl
theorem t_92 : Cond.classLink RX7 26 RX3 ∈ TB := tb_in (t1_in (List.mem_of_getElem? (i := 92) rfl)) rfl
theorem t_93 : Cond.instantiable RX3 3 ∈ TB := tb_in (t1_in (List.mem_of_getElem? (i := 93) rfl)) rfl
theorem t_94 : Cond.methodLinkNest RX7 28 yX3_init RX7 ∈ TB := tb_in (t1_in (List.mem_of_getElem? (i := 94) rfl)) rfl
theorem t_95 : Cond.instanceMethod yX3_init ∈ TB := tb_in (t1_in (List.mem_of_getElem? (i := 95) rfl)) rfl
theorem t_96 : Cond.code yX3_init cX3_init 1 none ∈ TB := tb_in (t1_in (List.mem_of_getElem? (i := 96) rfl)) rfl
theorem t_97 : Cond.methodLinkNest RX3 3 yX5_init RX7 ∈ TB := tb_in (t1_in (List.mem_of_getElem? (i := 97) rfl)) rfl
theorem t_98 : Cond.instanceMethod yX5_init ∈ TB := tb_in (t1_in (List.mem_of_getElem? (i := 98) rfl)) rfl
theorem t_99 : Cond.code yX5_init cX5_init 1 none ∈ TB := tb_in (t1_in (List.mem_of_getElem? (i := 99) rfl)) rfl
theorem t_100 : Cond.methodLink RX5 1 Lib.objectInit ∈ TB := tb_in (t1_in (List.mem_of_getElem? (i := 100) rfl)) rfl
theorem t_101 : Cond.fieldLink RX3 9 "SnowBalls$Largest" "size" "I" ∈ TB := tb_in (t1_in (List.mem_of_getElem? (i := 101) rfl)) rfl
theorem t_102 : Cond.fieldLink RX7 197 "SnowBalls$Largest" "size" "I" ∈ TB := tb_in (t1_in (List.mem_of_getElem? (i := 102) rfl)) rfl
theorem t_103 : Cond.fieldLink RX3 15 "SnowBalls$Largest" "firstSide" "I" ∈ TB := tb_in (t1_in (List.mem_of_getElem? (i := 103) rfl)) rfl
theorem t_104 : Cond.fieldLink RX7 198 "SnowBalls$Largest" "firstSide" "I" ∈ TB := tb_in (t1_in (List.mem_of_getElem? (i := 104) rfl)) rfl
theorem t_105 : Cond.fieldLink RX3 18 "SnowBalls$Largest" "fewest" "I" ∈ TB := tb_in (t1_in (List.mem_of_getElem? (i := 105) rfl)) rfl
theorem t_106 : Cond.lays RX3 "SnowBalls$Largest" "size" "I" ∈ TB := tb_in (t1_in (List.mem_of_getElem? (i := 106) rfl)) rfl
theorem t_108 : Cond.lays RX3 "SnowBalls$Largest" "firstSide" "I" ∈ TB := tb_in (t1_in (List.mem_of_getElem? (i := 108) rfl)) rfl
theorem t_110 : Cond.lays RX3 "SnowBalls$Largest" "fewest" "I" ∈ TB := tb_in (t1_in (List.mem_of_getElem? (i := 110) rfl)) rfl
theorem t_113 : Cond.classLink RX7 33 RX0 ∈ TB := tb_in (t1_in (List.mem_of_getElem? (i := 113) rfl)) rfl
theorem t_114 : Cond.instantiable RX0 2 ∈ TB := tb_in (t1_in (List.mem_of_getElem? (i := 114) rfl)) rfl
theorem t_115 : Cond.methodLinkNest RX7 35 yX0_init RX7 ∈ TB := tb_in (t1_in (List.mem_of_getElem? (i := 115) rfl)) rfl
theorem t_116 : Cond.instanceMethod yX0_init ∈ TB := tb_in (t1_in (List.mem_of_getElem? (i := 116) rfl)) rfl
theorem t_117 : Cond.code yX0_init cX0_init 1 none ∈ TB := tb_in (t1_in (List.mem_of_getElem? (i := 117) rfl)) rfl
theorem t_118 : Cond.methodLinkNest RX0 3 yX5_init RX7 ∈ TB := tb_in (t1_in (List.mem_of_getElem? (i := 118) rfl)) rfl
theorem t_119 : Cond.fieldLink RX0 15 "SnowBalls$Arrival" "fewest" "I" ∈ TB := tb_in (t1_in (List.mem_of_getElem? (i := 119) rfl)) rfl
theorem t_120 : Cond.fieldLink RX7 204 "SnowBalls$Arrival" "fewest" "I" ∈ TB := tb_in (t1_in (List.mem_of_getElem? (i := 120) rfl)) rfl
theorem t_121 : Cond.fieldLink RX0 9 "SnowBalls$Arrival" "target" "I" ∈ TB := tb_in (t1_in (List.mem_of_getElem? (i := 121) rfl)) rfl
theorem t_122 : Cond.lays RX0 "SnowBalls$Arrival" "fewest" "I" ∈ TB := tb_in (t1_in (List.mem_of_getElem? (i := 122) rfl)) rfl
theorem t_124 : Cond.lays RX0 "SnowBalls$Arrival" "target" "I" ∈ TB := tb_in (t1_in (List.mem_of_getElem? (i := 124) rfl)) rfl
theorem t_127 : Cond.classLink RX7 40 RX6 ∈ TB := tb_in (t1_in (List.mem_of_getElem? (i := 127) rfl)) rfl
theorem t_128 : Cond.instantiable RX6 3 ∈ TB := tb_in (t1_in (List.mem_of_getElem? (i := 128) rfl)) rfl
theorem t_129 : Cond.methodLinkNest RX7 42 yX6_init RX7 ∈ TB := tb_in (t1_in (List.mem_of_getElem? (i := 129) rfl)) rfl
theorem t_130 : Cond.instanceMethod yX6_init ∈ TB := tb_in (t1_in (List.mem_of_getElem? (i := 130) rfl)) rfl
theorem t_131 : Cond.code yX6_init cX6_init 1 none ∈ TB := tb_in (t1_in (List.mem_of_getElem? (i := 131) rfl)) rfl
theorem t_132 : Cond.methodLinkNest RX6 1 yX5_init RX7 ∈ TB := tb_in (t1_in (List.mem_of_getElem? (i := 132) rfl)) rfl
theorem t_133 : Cond.fieldLink RX6 16 "SnowBalls$Ways" "ways" "I" ∈ TB := tb_in (t1_in (List.mem_of_getElem? (i := 133) rfl)) rfl
theorem t_134 : Cond.fieldLink RX7 222 "SnowBalls$Ways" "ways" "I" ∈ TB := tb_in (t1_in (List.mem_of_getElem? (i := 134) rfl)) rfl
theorem t_135 : Cond.fieldLink RX6 7 "SnowBalls$Ways" "rolls" "I" ∈ TB := tb_in (t1_in (List.mem_of_getElem? (i := 135) rfl)) rfl
theorem t_136 : Cond.fieldLink RX6 13 "SnowBalls$Ways" "size" "I" ∈ TB := tb_in (t1_in (List.mem_of_getElem? (i := 136) rfl)) rfl
theorem t_137 : Cond.lays RX6 "SnowBalls$Ways" "ways" "I" ∈ TB := tb_in (t1_in (List.mem_of_getElem? (i := 137) rfl)) rfl
theorem t_139 : Cond.lays RX6 "SnowBalls$Ways" "rolls" "I" ∈ TB := tb_in (t1_in (List.mem_of_getElem? (i := 139) rfl)) rfl
theorem t_141 : Cond.lays RX6 "SnowBalls$Ways" "size" "I" ∈ TB := tb_in (t1_in (List.mem_of_getElem? (i := 141) rfl)) rfl
theorem t_144 : Cond.fieldLink RX7 9 "SnowBalls" "page" "[C" ∈ TB := tb_in (t1_in (List.mem_of_getElem? (i := 144) rfl)) rfl
theorem t_145 : Cond.fieldLink RX7 16 "SnowBalls" "now" "LSnowBalls$Lawn;" ∈ TB := tb_in (t1_in (List.mem_of_getElem? (i := 145) rfl)) rfl
theorem t_146 : Cond.fieldLink RX7 20 "SnowBalls" "kept" "LSnowBalls$Lawn;" ∈ TB := tb_in (t1_in (List.mem_of_getElem? (i := 146) rfl)) rfl
theorem t_147 : Cond.fieldLink RX7 23 "SnowBalls" "trial" "LSnowBalls$Lawn;" ∈ TB := tb_in (t1_in (List.mem_of_getElem? (i := 147) rfl)) rfl
theorem t_148 : Cond.fieldLink RX7 29 "SnowBalls" "largestSearch" "LSnowBalls$Largest;" ∈ TB := tb_in (t1_in (List.mem_of_getElem? (i := 148) rfl)) rfl
theorem t_149 : Cond.fieldLink RX7 36 "SnowBalls" "arrivalSearch" "LSnowBalls$Arrival;" ∈ TB := tb_in (t1_in (List.mem_of_getElem? (i := 149) rfl)) rfl
theorem t_150 : Cond.fieldLink RX7 43 "SnowBalls" "waysSearch" "LSnowBalls$Ways;" ∈ TB := tb_in (t1_in (List.mem_of_getElem? (i := 150) rfl)) rfl
theorem t_151 : Cond.fieldLink RX7 51 "SnowBalls" "letters" "I" ∈ TB := tb_in (t1_in (List.mem_of_getElem? (i := 151) rfl)) rfl
theorem t_152 : Cond.fieldLink RX7 77 "SnowBalls" "lawnsRead" "I" ∈ TB := tb_in (t1_in (List.mem_of_getElem? (i := 152) rfl)) rfl
theorem t_153 : Cond.fieldLink RX7 184 "SnowBalls" "searches" "I" ∈ TB := tb_in (t1_in (List.mem_of_getElem? (i := 153) rfl)) rfl
theorem t_154 : Cond.fieldLink RX7 216 "SnowBalls" "books" "I" ∈ TB := tb_in (t1_in (List.mem_of_getElem? (i := 154) rfl)) rfl
theorem t_155 : Cond.fieldLink RX7 80 "SnowBalls" "hasImage" "Z" ∈ TB := tb_in (t1_in (List.mem_of_getElem? (i := 155) rfl)) rfl
theorem t_156 : Cond.laysFinal RX7 "SnowBalls" "page" "[C" ∈ TB := tb_in (t1_in (List.mem_of_getElem? (i := 156) rfl)) rfl
theorem t_158 : Cond.laysFinal RX7 "SnowBalls" "now" "LSnowBalls$Lawn;" ∈ TB := tb_in (t1_in (List.mem_of_getElem? (i := 158) rfl)) rfl
theorem t_160 : Cond.laysFinal RX7 "SnowBalls" "kept" "LSnowBalls$Lawn;" ∈ TB := tb_in (t1_in (List.mem_of_getElem? (i := 160) rfl)) rfl
theorem t_162 : Cond.laysFinal RX7 "SnowBalls" "trial" "LSnowBalls$Lawn;" ∈ TB := tb_in (t1_in (List.mem_of_getElem? (i := 162) rfl)) rfl
theorem t_164 : Cond.laysFinal RX7 "SnowBalls" "largestSearch" "LSnowBalls$Largest;" ∈ TB := tb_in (t1_in (List.mem_of_getElem? (i := 164) rfl)) rfl
theorem t_166 : Cond.laysFinal RX7 "SnowBalls" "arrivalSearch" "LSnowBalls$Arrival;" ∈ TB := tb_in (t1_in (List.mem_of_getElem? (i := 166) rfl)) rfl
theorem t_168 : Cond.laysFinal RX7 "SnowBalls" "waysSearch" "LSnowBalls$Ways;" ∈ TB := tb_in (t1_in (List.mem_of_getElem? (i := 168) rfl)) rfl
theorem t_170 : Cond.lays RX7 "SnowBalls" "letters" "I" ∈ TB := tb_in (t1_in (List.mem_of_getElem? (i := 170) rfl)) rfl
theorem t_172 : Cond.lays RX7 "SnowBalls" "lawnsRead" "I" ∈ TB := tb_in (t1_in (List.mem_of_getElem? (i := 172) rfl)) rfl
theorem t_174 : Cond.lays RX7 "SnowBalls" "searches" "I" ∈ TB := tb_in (t1_in (List.mem_of_getElem? (i := 174) rfl)) rfl
theorem t_176 : Cond.lays RX7 "SnowBalls" "books" "I" ∈ TB := tb_in (t1_in (List.mem_of_getElem? (i := 176) rfl)) rfl
theorem t_178 : Cond.lays RX7 "SnowBalls" "hasImage" "Z" ∈ TB := tb_in (t1_in (List.mem_of_getElem? (i := 178) rfl)) rfl
theorem t_181 : Cond.methodLink "SnowBallsLaw" 13 yX7_letter ∈ TB := tb_in (t1_in (List.mem_of_getElem? (i := 181) rfl)) rfl
theorem t_182 : Cond.instanceMethod yX7_letter ∈ TB := tb_in (t1_in (List.mem_of_getElem? (i := 182) rfl)) rfl
theorem t_183 : Cond.selects RX7 yX7_letter yX7_letter ∈ TB := tb_in (t1_in (List.mem_of_getElem? (i := 183) rfl)) rfl
theorem t_184 : Cond.code yX7_letter cX7_letter 2 (some .int) ∈ TB := tb_in (t1_in (List.mem_of_getElem? (i := 184) rfl)) rfl
theorem t_185 : Cond.methodLink RX7 47 yX7_isOutside ∈ TB := tb_in (t1_in (List.mem_of_getElem? (i := 185) rfl)) rfl
theorem t_186 : Cond.static yX7_isOutside ∈ TB := tb_in (t1_in (List.mem_of_getElem? (i := 186) rfl)) rfl
theorem t_187 : Cond.code yX7_isOutside cX7_isOutside 3 (some .boolean) ∈ TB := tb_in (t1_in (List.mem_of_getElem? (i := 187) rfl)) rfl
theorem t_188 : Cond.methodLink "SnowBallsLaw" 18 yX7_blank ∈ TB := tb_in (t1_in (List.mem_of_getElem? (i := 188) rfl)) rfl
theorem t_189 : Cond.instanceMethod yX7_blank ∈ TB := tb_in (t1_in (List.mem_of_getElem? (i := 189) rfl)) rfl
theorem t_190 : Cond.selects RX7 yX7_blank yX7_blank ∈ TB := tb_in (t1_in (List.mem_of_getElem? (i := 190) rfl)) rfl
theorem t_191 : Cond.code yX7_blank cX7_blank 2 (some .int) ∈ TB := tb_in (t1_in (List.mem_of_getElem? (i := 191) rfl)) rfl
theorem t_192 : Cond.methodLink "SnowBallsLaw" 23 yX7_fault ∈ TB := tb_in (t1_in (List.mem_of_getElem? (i := 192) rfl)) rfl
theorem t_193 : Cond.instanceMethod yX7_fault ∈ TB := tb_in (t1_in (List.mem_of_getElem? (i := 193) rfl)) rfl
theorem t_194 : Cond.selects RX7 yX7_fault yX7_fault ∈ TB := tb_in (t1_in (List.mem_of_getElem? (i := 194) rfl)) rfl
theorem t_195 : Cond.code yX7_fault cX7_fault 2 (some .int) ∈ TB := tb_in (t1_in (List.mem_of_getElem? (i := 195) rfl)) rfl
theorem t_196 : Cond.methodLink RX7 55 yX7_belongsAt ∈ TB := tb_in (t1_in (List.mem_of_getElem? (i := 196) rfl)) rfl
theorem t_197 : Cond.static yX7_belongsAt ∈ TB := tb_in (t1_in (List.mem_of_getElem? (i := 197) rfl)) rfl
theorem t_198 : Cond.code yX7_belongsAt cX7_belongsAt 2 (some .boolean) ∈ TB := tb_in (t1_in (List.mem_of_getElem? (i := 198) rfl)) rfl
theorem t_199 : Cond.methodLink "SnowBallsLaw" 27 yX7_lawn ∈ TB := tb_in (t1_in (List.mem_of_getElem? (i := 199) rfl)) rfl
theorem t_200 : Cond.instanceMethod yX7_lawn ∈ TB := tb_in (t1_in (List.mem_of_getElem? (i := 200) rfl)) rfl
theorem t_201 : Cond.selects RX7 yX7_lawn yX7_lawn ∈ TB := tb_in (t1_in (List.mem_of_getElem? (i := 201) rfl)) rfl
theorem t_202 : Cond.code yX7_lawn cX7_lawn 2 (some .int) ∈ TB := tb_in (t1_in (List.mem_of_getElem? (i := 202) rfl)) rfl
theorem t_203 : Cond.methodLink RX7 59 yX7_fault ∈ TB := tb_in (t1_in (List.mem_of_getElem? (i := 203) rfl)) rfl
theorem t_204 : Cond.methodLink RX7 63 yX4_clear ∈ TB := tb_in (t1_in (List.mem_of_getElem? (i := 204) rfl)) rfl
theorem t_205 : Cond.instanceMethod yX4_clear ∈ TB := tb_in (t1_in (List.mem_of_getElem? (i := 205) rfl)) rfl
theorem t_206 : Cond.selects RX4 yX4_clear yX4_clear ∈ TB := tb_in (t1_in (List.mem_of_getElem? (i := 206) rfl)) rfl
theorem t_207 : Cond.code yX4_clear cX4_clear 1 none ∈ TB := tb_in (t1_in (List.mem_of_getElem? (i := 207) rfl)) rfl
theorem t_208 : Cond.methodLink RX7 70 yX7_letterOf ∈ TB := tb_in (t1_in (List.mem_of_getElem? (i := 208) rfl)) rfl
theorem t_209 : Cond.static yX7_letterOf ∈ TB := tb_in (t1_in (List.mem_of_getElem? (i := 209) rfl)) rfl
theorem t_210 : Cond.code yX7_letterOf cX7_letterOf 1 (some .int) ∈ TB := tb_in (t1_in (List.mem_of_getElem? (i := 210) rfl)) rfl
theorem t_211 : Cond.methodLink RX7 84 yX4_allDepths ∈ TB := tb_in (t1_in (List.mem_of_getElem? (i := 211) rfl)) rfl
theorem t_212 : Cond.instanceMethod yX4_allDepths ∈ TB := tb_in (t1_in (List.mem_of_getElem? (i := 212) rfl)) rfl
theorem t_213 : Cond.selects RX4 yX4_allDepths yX4_allDepths ∈ TB := tb_in (t1_in (List.mem_of_getElem? (i := 213) rfl)) rfl
theorem t_214 : Cond.code yX4_allDepths cX4_allDepths 6 (some .int) ∈ TB := tb_in (t1_in (List.mem_of_getElem? (i := 214) rfl)) rfl
theorem t_215 : Cond.methodLink "SnowBallsLaw" 31 yX7_place ∈ TB := tb_in (t1_in (List.mem_of_getElem? (i := 215) rfl)) rfl
theorem t_216 : Cond.instanceMethod yX7_place ∈ TB := tb_in (t1_in (List.mem_of_getElem? (i := 216) rfl)) rfl
theorem t_217 : Cond.selects RX7 yX7_place yX7_place ∈ TB := tb_in (t1_in (List.mem_of_getElem? (i := 217) rfl)) rfl
theorem t_218 : Cond.code yX7_place cX7_place 3 (some .int) ∈ TB := tb_in (t1_in (List.mem_of_getElem? (i := 218) rfl)) rfl
theorem t_219 : Cond.methodLink RX7 87 yX7_isPlace ∈ TB := tb_in (t1_in (List.mem_of_getElem? (i := 219) rfl)) rfl
theorem t_220 : Cond.static yX7_isPlace ∈ TB := tb_in (t1_in (List.mem_of_getElem? (i := 220) rfl)) rfl
theorem t_221 : Cond.code yX7_isPlace cX7_isPlace 1 (some .boolean) ∈ TB := tb_in (t1_in (List.mem_of_getElem? (i := 221) rfl)) rfl
theorem t_222 : Cond.methodLink RX7 91 yX7_hasLawn ∈ TB := tb_in (t1_in (List.mem_of_getElem? (i := 222) rfl)) rfl
theorem t_224 : Cond.instanceMethod yX7_hasLawn ∈ TB := tb_in (t1_in (List.mem_of_getElem? (i := 224) rfl)) rfl
theorem t_225 : Cond.code yX7_hasLawn cX7_hasLawn 1 (some .boolean) ∈ TB := tb_in (t1_in (List.mem_of_getElem? (i := 225) rfl)) rfl
theorem t_226 : Cond.methodLink RX7 95 yX4_lowestAt ∈ TB := tb_in (t1_in (List.mem_of_getElem? (i := 226) rfl)) rfl
theorem t_227 : Cond.instanceMethod yX4_lowestAt ∈ TB := tb_in (t1_in (List.mem_of_getElem? (i := 227) rfl)) rfl
theorem t_228 : Cond.selects RX4 yX4_lowestAt yX4_lowestAt ∈ TB := tb_in (t1_in (List.mem_of_getElem? (i := 228) rfl)) rfl
theorem t_229 : Cond.code yX4_lowestAt cX4_lowestAt 3 (some .int) ∈ TB := tb_in (t1_in (List.mem_of_getElem? (i := 229) rfl)) rfl
theorem t_230 : Cond.methodLink RX7 98 yX4_heightAt ∈ TB := tb_in (t1_in (List.mem_of_getElem? (i := 230) rfl)) rfl
theorem t_231 : Cond.instanceMethod yX4_heightAt ∈ TB := tb_in (t1_in (List.mem_of_getElem? (i := 231) rfl)) rfl
theorem t_232 : Cond.selects RX4 yX4_heightAt yX4_heightAt ∈ TB := tb_in (t1_in (List.mem_of_getElem? (i := 232) rfl)) rfl
theorem t_233 : Cond.code yX4_heightAt cX4_heightAt 4 (some .int) ∈ TB := tb_in (t1_in (List.mem_of_getElem? (i := 233) rfl)) rfl
theorem t_234 : Cond.methodLinkNest RX4 52 yX7_rootOf RX7 ∈ TB := tb_in (t1_in (List.mem_of_getElem? (i := 234) rfl)) rfl
theorem t_235 : Cond.static yX7_rootOf ∈ TB := tb_in (t1_in (List.mem_of_getElem? (i := 235) rfl)) rfl
theorem t_236 : Cond.code yX7_rootOf cX7_rootOf 3 (some .int) ∈ TB := tb_in (t1_in (List.mem_of_getElem? (i := 236) rfl)) rfl
theorem t_237 : Cond.methodLink "SnowBallsLaw" 36 yX7_strength ∈ TB := tb_in (t1_in (List.mem_of_getElem? (i := 237) rfl)) rfl
theorem t_238 : Cond.instanceMethod yX7_strength ∈ TB := tb_in (t1_in (List.mem_of_getElem? (i := 238) rfl)) rfl
theorem t_239 : Cond.selects RX7 yX7_strength yX7_strength ∈ TB := tb_in (t1_in (List.mem_of_getElem? (i := 239) rfl)) rfl
theorem t_240 : Cond.code yX7_strength cX7_strength 3 (some .int) ∈ TB := tb_in (t2_in (List.mem_of_getElem? (i := 0) rfl)) rfl
theorem t_241 : Cond.methodLink "SnowBallsLaw" 40 yX7_ball ∈ TB := tb_in (t2_in (List.mem_of_getElem? (i := 1) rfl)) rfl
theorem t_242 : Cond.instanceMethod yX7_ball ∈ TB := tb_in (t2_in (List.mem_of_getElem? (i := 2) rfl)) rfl
theorem t_243 : Cond.selects RX7 yX7_ball yX7_ball ∈ TB := tb_in (t2_in (List.mem_of_getElem? (i := 3) rfl)) rfl
theorem t_244 : Cond.code yX7_ball cX7_ball 3 (some .int) ∈ TB := tb_in (t2_in (List.mem_of_getElem? (i := 4) rfl)) rfl
theorem t_245 : Cond.methodLink RX7 104 yX7_isKind ∈ TB := tb_in (t2_in (List.mem_of_getElem? (i := 5) rfl)) rfl
theorem t_246 : Cond.static yX7_isKind ∈ TB := tb_in (t2_in (List.mem_of_getElem? (i := 6) rfl)) rfl
theorem t_247 : Cond.code yX7_isKind cX7_isKind 1 (some .boolean) ∈ TB := tb_in (t2_in (List.mem_of_getElem? (i := 7) rfl)) rfl
theorem t_248 : Cond.fieldLink RX7 117 "SnowBalls" "KINDS" "[LSnowBalls$Kind;" ∈ TB := tb_in (t2_in (List.mem_of_getElem? (i := 8) rfl)) rfl
theorem t_249 : Cond.laysStatic RX7 "KINDS" "[LSnowBalls$Kind;" ∈ TB := tb_in (t2_in (List.mem_of_getElem? (i := 9) rfl)) rfl
theorem t_250 : Cond.methodLink RX7 107 yX4_isFree ∈ TB := tb_in (t2_in (List.mem_of_getElem? (i := 10) rfl)) rfl
theorem t_251 : Cond.instanceMethod yX4_isFree ∈ TB := tb_in (t2_in (List.mem_of_getElem? (i := 11) rfl)) rfl
theorem t_252 : Cond.selects RX4 yX4_isFree yX4_isFree ∈ TB := tb_in (t2_in (List.mem_of_getElem? (i := 12) rfl)) rfl
theorem t_253 : Cond.code yX4_isFree cX4_isFree 2 (some .boolean) ∈ TB := tb_in (t2_in (List.mem_of_getElem? (i := 13) rfl)) rfl
theorem t_254 : Cond.methodLink RX4 56 yX4_manyAt ∈ TB := tb_in (t2_in (List.mem_of_getElem? (i := 14) rfl)) rfl
theorem t_255 : Cond.instanceMethod yX4_manyAt ∈ TB := tb_in (t2_in (List.mem_of_getElem? (i := 15) rfl)) rfl
theorem t_256 : Cond.selects RX4 yX4_manyAt yX4_manyAt ∈ TB := tb_in (t2_in (List.mem_of_getElem? (i := 16) rfl)) rfl
theorem t_257 : Cond.code yX4_manyAt cX4_manyAt 4 (some .int) ∈ TB := tb_in (t2_in (List.mem_of_getElem? (i := 17) rfl)) rfl
theorem t_258 : Cond.methodLink RX7 121 yX1_begin ∈ TB := tb_in (t2_in (List.mem_of_getElem? (i := 18) rfl)) rfl
theorem t_259 : Cond.instanceMethod yX1_begin ∈ TB := tb_in (t2_in (List.mem_of_getElem? (i := 19) rfl)) rfl
theorem t_260 : Cond.selects RX1 yX1_begin yX1_begin ∈ TB := tb_in (t2_in (List.mem_of_getElem? (i := 20) rfl)) rfl
theorem t_261 : Cond.code yX1_begin cX1_begin 3 none ∈ TB := tb_in (t2_in (List.mem_of_getElem? (i := 21) rfl)) rfl
theorem t_262 : Cond.methodLink "SnowBallsLaw" 44 yX7_about ∈ TB := tb_in (t2_in (List.mem_of_getElem? (i := 22) rfl)) rfl
theorem t_263 : Cond.instanceMethod yX7_about ∈ TB := tb_in (t2_in (List.mem_of_getElem? (i := 23) rfl)) rfl
theorem t_264 : Cond.selects RX7 yX7_about yX7_about ∈ TB := tb_in (t2_in (List.mem_of_getElem? (i := 24) rfl)) rfl
theorem t_265 : Cond.code yX7_about cX7_about 4 (some .int) ∈ TB := tb_in (t2_in (List.mem_of_getElem? (i := 25) rfl)) rfl
theorem t_266 : Cond.methodLink RX7 127 yX7_isBall ∈ TB := tb_in (t2_in (List.mem_of_getElem? (i := 26) rfl)) rfl
theorem t_268 : Cond.instanceMethod yX7_isBall ∈ TB := tb_in (t2_in (List.mem_of_getElem? (i := 28) rfl)) rfl
theorem t_269 : Cond.code yX7_isBall cX7_isBall 2 (some .boolean) ∈ TB := tb_in (t2_in (List.mem_of_getElem? (i := 29) rfl)) rfl
theorem t_270 : Cond.methodLink RX7 148 yX1_weight ∈ TB := tb_in (t2_in (List.mem_of_getElem? (i := 30) rfl)) rfl
theorem t_271 : Cond.instanceMethod yX1_weight ∈ TB := tb_in (t2_in (List.mem_of_getElem? (i := 31) rfl)) rfl
theorem t_272 : Cond.selects RX1 yX1_weight yX1_weight ∈ TB := tb_in (t2_in (List.mem_of_getElem? (i := 32) rfl)) rfl
theorem t_273 : Cond.code yX1_weight cX1_weight 1 (some .int) ∈ TB := tb_in (t2_in (List.mem_of_getElem? (i := 33) rfl)) rfl
theorem t_274 : Cond.methodLink RX1 33 yX2_weight ∈ TB := tb_in (t2_in (List.mem_of_getElem? (i := 34) rfl)) rfl
theorem t_275 : Cond.instanceMethod yX2_weight ∈ TB := tb_in (t2_in (List.mem_of_getElem? (i := 35) rfl)) rfl
theorem t_276 : Cond.selects RX2 yX2_weight yX2_weight ∈ TB := tb_in (t2_in (List.mem_of_getElem? (i := 36) rfl)) rfl
theorem t_277 : Cond.code yX2_weight cX2_weight 2 (some .int) ∈ TB := tb_in (t2_in (List.mem_of_getElem? (i := 37) rfl)) rfl
theorem t_278 : Cond.methodLink RX7 151 yX2_breadth ∈ TB := tb_in (t2_in (List.mem_of_getElem? (i := 38) rfl)) rfl
theorem t_279 : Cond.instanceMethod yX2_breadth ∈ TB := tb_in (t2_in (List.mem_of_getElem? (i := 39) rfl)) rfl
theorem t_280 : Cond.selects RX2 yX2_breadth yX2_breadth ∈ TB := tb_in (t2_in (List.mem_of_getElem? (i := 40) rfl)) rfl
theorem t_281 : Cond.code yX2_breadth cX2_breadth 2 (some .int) ∈ TB := tb_in (t2_in (List.mem_of_getElem? (i := 41) rfl)) rfl
theorem t_282 : Cond.methodLink "SnowBallsLaw" 48 yX7_as ∈ TB := tb_in (t2_in (List.mem_of_getElem? (i := 42) rfl)) rfl
theorem t_283 : Cond.instanceMethod yX7_as ∈ TB := tb_in (t2_in (List.mem_of_getElem? (i := 43) rfl)) rfl
theorem t_284 : Cond.selects RX7 yX7_as yX7_as ∈ TB := tb_in (t2_in (List.mem_of_getElem? (i := 44) rfl)) rfl
theorem t_285 : Cond.code yX7_as cX7_as 3 (some .int) ∈ TB := tb_in (t2_in (List.mem_of_getElem? (i := 45) rfl)) rfl
theorem t_286 : Cond.methodLink RX7 157 yX2_isA ∈ TB := tb_in (t2_in (List.mem_of_getElem? (i := 46) rfl)) rfl
theorem t_287 : Cond.instanceMethod yX2_isA ∈ TB := tb_in (t2_in (List.mem_of_getElem? (i := 47) rfl)) rfl
theorem t_288 : Cond.selects RX2 yX2_isA yX2_isA ∈ TB := tb_in (t2_in (List.mem_of_getElem? (i := 48) rfl)) rfl
theorem t_289 : Cond.code yX2_isA cX2_isA 2 (some .boolean) ∈ TB := tb_in (t2_in (List.mem_of_getElem? (i := 49) rfl)) rfl
theorem t_290 : Cond.fieldLink RX2 3 "SnowBalls$Kind" "BALL" "LSnowBalls$Kind;" ∈ TB := tb_in (t2_in (List.mem_of_getElem? (i := 50) rfl)) rfl
theorem t_291 : Cond.fieldLink RX2 16 "SnowBalls$Kind" "SLUSH" "LSnowBalls$Kind;" ∈ TB := tb_in (t2_in (List.mem_of_getElem? (i := 51) rfl)) rfl
theorem t_292 : Cond.laysStatic RX2 "SLUSH" "LSnowBalls$Kind;" ∈ TB := tb_in (t2_in (List.mem_of_getElem? (i := 52) rfl)) rfl
theorem t_293 : Cond.fieldLink RX2 13 "SnowBalls$Kind" "WET" "LSnowBalls$Kind;" ∈ TB := tb_in (t2_in (List.mem_of_getElem? (i := 53) rfl)) rfl
theorem t_294 : Cond.laysStatic RX2 "WET" "LSnowBalls$Kind;" ∈ TB := tb_in (t2_in (List.mem_of_getElem? (i := 54) rfl)) rfl
theorem t_295 : Cond.methodLink "SnowBallsLaw" 52 yX7_may ∈ TB := tb_in (t2_in (List.mem_of_getElem? (i := 55) rfl)) rfl
theorem t_296 : Cond.instanceMethod yX7_may ∈ TB := tb_in (t2_in (List.mem_of_getElem? (i := 56) rfl)) rfl
theorem t_297 : Cond.selects RX7 yX7_may yX7_may ∈ TB := tb_in (t2_in (List.mem_of_getElem? (i := 57) rfl)) rfl
theorem t_298 : Cond.code yX7_may cX7_may 3 (some .int) ∈ TB := tb_in (t2_in (List.mem_of_getElem? (i := 58) rfl)) rfl
theorem t_299 : Cond.methodLink RX7 161 yX7_isSide ∈ TB := tb_in (t2_in (List.mem_of_getElem? (i := 59) rfl)) rfl
theorem t_300 : Cond.static yX7_isSide ∈ TB := tb_in (t2_in (List.mem_of_getElem? (i := 60) rfl)) rfl
theorem t_301 : Cond.code yX7_isSide cX7_isSide 1 (some .boolean) ∈ TB := tb_in (t2_in (List.mem_of_getElem? (i := 61) rfl)) rfl
theorem t_302 : Cond.methodLink RX7 164 yX4_canRoll ∈ TB := tb_in (t2_in (List.mem_of_getElem? (i := 62) rfl)) rfl
theorem t_303 : Cond.instanceMethod yX4_canRoll ∈ TB := tb_in (t2_in (List.mem_of_getElem? (i := 63) rfl)) rfl
theorem t_304 : Cond.selects RX4 yX4_canRoll yX4_canRoll ∈ TB := tb_in (t2_in (List.mem_of_getElem? (i := 64) rfl)) rfl
theorem t_305 : Cond.code yX4_canRoll cX4_canRoll 5 (some .boolean) ∈ TB := tb_in (t2_in (List.mem_of_getElem? (i := 65) rfl)) rfl
theorem t_306 : Cond.methodLink RX4 63 yX4_standsAlone ∈ TB := tb_in (t2_in (List.mem_of_getElem? (i := 66) rfl)) rfl
theorem t_307 : Cond.instanceMethod yX4_standsAlone ∈ TB := tb_in (t2_in (List.mem_of_getElem? (i := 67) rfl)) rfl
theorem t_308 : Cond.selects RX4 yX4_standsAlone yX4_standsAlone ∈ TB := tb_in (t2_in (List.mem_of_getElem? (i := 68) rfl)) rfl
theorem t_309 : Cond.code yX4_standsAlone cX4_standsAlone 3 (some .boolean) ∈ TB := tb_in (t2_in (List.mem_of_getElem? (i := 69) rfl)) rfl
theorem t_310 : Cond.methodLink RX4 42 yX1_isGone ∈ TB := tb_in (t2_in (List.mem_of_getElem? (i := 70) rfl)) rfl
theorem t_311 : Cond.instanceMethod yX1_isGone ∈ TB := tb_in (t2_in (List.mem_of_getElem? (i := 71) rfl)) rfl
theorem t_312 : Cond.selects RX1 yX1_isGone yX1_isGone ∈ TB := tb_in (t2_in (List.mem_of_getElem? (i := 72) rfl)) rfl
theorem t_313 : Cond.code yX1_isGone cX1_isGone 1 (some .boolean) ∈ TB := tb_in (t2_in (List.mem_of_getElem? (i := 73) rfl)) rfl
theorem t_314 : Cond.methodLink RX4 59 yX4_isTopped ∈ TB := tb_in (t2_in (List.mem_of_getElem? (i := 74) rfl)) rfl
theorem t_315 : Cond.instanceMethod yX4_isTopped ∈ TB := tb_in (t2_in (List.mem_of_getElem? (i := 75) rfl)) rfl
theorem t_316 : Cond.selects RX4 yX4_isTopped yX4_isTopped ∈ TB := tb_in (t2_in (List.mem_of_getElem? (i := 76) rfl)) rfl
theorem t_317 : Cond.code yX4_isTopped cX4_isTopped 3 (some .boolean) ∈ TB := tb_in (t2_in (List.mem_of_getElem? (i := 77) rfl)) rfl
theorem t_318 : Cond.methodLink RX4 66 yX1_weight ∈ TB := tb_in (t2_in (List.mem_of_getElem? (i := 78) rfl)) rfl
theorem t_319 : Cond.methodLink RX4 70 yX1_keepsTo ∈ TB := tb_in (t2_in (List.mem_of_getElem? (i := 79) rfl)) rfl
theorem t_320 : Cond.instanceMethod yX1_keepsTo ∈ TB := tb_in (t2_in (List.mem_of_getElem? (i := 80) rfl)) rfl
theorem t_321 : Cond.selects RX1 yX1_keepsTo yX1_keepsTo ∈ TB := tb_in (t2_in (List.mem_of_getElem? (i := 81) rfl)) rfl
theorem t_322 : Cond.code yX1_keepsTo cX1_keepsTo 2 (some .boolean) ∈ TB := tb_in (t2_in (List.mem_of_getElem? (i := 82) rfl)) rfl
theorem t_323 : Cond.methodLinkNest RX1 37 yX7_axisOf RX7 ∈ TB := tb_in (t2_in (List.mem_of_getElem? (i := 83) rfl)) rfl
theorem t_324 : Cond.static yX7_axisOf ∈ TB := tb_in (t2_in (List.mem_of_getElem? (i := 84) rfl)) rfl
theorem t_325 : Cond.code yX7_axisOf cX7_axisOf 1 (some .int) ∈ TB := tb_in (t2_in (List.mem_of_getElem? (i := 85) rfl)) rfl
theorem t_326 : Cond.methodLinkNest RX4 73 yX7_beside RX7 ∈ TB := tb_in (t2_in (List.mem_of_getElem? (i := 86) rfl)) rfl
theorem t_327 : Cond.static yX7_beside ∈ TB := tb_in (t2_in (List.mem_of_getElem? (i := 87) rfl)) rfl
theorem t_328 : Cond.code yX7_beside cX7_beside 3 (some .int) ∈ TB := tb_in (t2_in (List.mem_of_getElem? (i := 88) rfl)) rfl
theorem t_329 : Cond.methodLink RX4 77 yX4_isFree ∈ TB := tb_in (t2_in (List.mem_of_getElem? (i := 89) rfl)) rfl
theorem t_330 : Cond.methodLink "SnowBallsLaw" 56 yX7_roll ∈ TB := tb_in (t2_in (List.mem_of_getElem? (i := 90) rfl)) rfl
theorem t_331 : Cond.instanceMethod yX7_roll ∈ TB := tb_in (t2_in (List.mem_of_getElem? (i := 91) rfl)) rfl
theorem t_332 : Cond.selects RX7 yX7_roll yX7_roll ∈ TB := tb_in (t2_in (List.mem_of_getElem? (i := 92) rfl)) rfl
theorem t_333 : Cond.code yX7_roll cX7_roll 3 (some .int) ∈ TB := tb_in (t2_in (List.mem_of_getElem? (i := 93) rfl)) rfl
theorem t_334 : Cond.methodLink RX7 168 yX4_push ∈ TB := tb_in (t2_in (List.mem_of_getElem? (i := 94) rfl)) rfl
theorem t_335 : Cond.instanceMethod yX4_push ∈ TB := tb_in (t2_in (List.mem_of_getElem? (i := 95) rfl)) rfl
theorem t_336 : Cond.selects RX4 yX4_push yX4_push ∈ TB := tb_in (t2_in (List.mem_of_getElem? (i := 96) rfl)) rfl
theorem t_337 : Cond.code yX4_push cX4_push 6 (some .int) ∈ TB := tb_in (t2_in (List.mem_of_getElem? (i := 97) rfl)) rfl
theorem t_338 : Cond.methodLink RX4 84 yX2_takes ∈ TB := tb_in (t2_in (List.mem_of_getElem? (i := 98) rfl)) rfl
theorem t_339 : Cond.instanceMethod yX2_takes ∈ TB := tb_in (t2_in (List.mem_of_getElem? (i := 99) rfl)) rfl
theorem t_340 : Cond.selects RX2 yX2_takes yX2_takes ∈ TB := tb_in (t2_in (List.mem_of_getElem? (i := 100) rfl)) rfl
theorem t_341 : Cond.code yX2_takes cX2_takes 5 (some .int) ∈ TB := tb_in (t2_in (List.mem_of_getElem? (i := 101) rfl)) rfl
theorem t_342 : Cond.methodLink RX2 57 yX2_breadth ∈ TB := tb_in (t2_in (List.mem_of_getElem? (i := 102) rfl)) rfl
theorem t_343 : Cond.methodLink RX2 61 Lib.Math.min.name ∈ TB := tb_in (t2_in (List.mem_of_getElem? (i := 103) rfl)) rfl
theorem t_344 : Cond.static Lib.Math.min.name ∈ TB := tb_in (t2_in (List.mem_of_getElem? (i := 104) rfl)) rfl
theorem t_345 : Cond.code Lib.Math.min.name Lib.Math.min.code 2 (some .int) ∈ TB := tb_in (t2_in (List.mem_of_getElem? (i := 105) rfl)) rfl
theorem t_346 : Cond.methodLink RX4 90 yX2_sticks ∈ TB := tb_in (t2_in (List.mem_of_getElem? (i := 106) rfl)) rfl
theorem t_347 : Cond.instanceMethod yX2_sticks ∈ TB := tb_in (t2_in (List.mem_of_getElem? (i := 107) rfl)) rfl
theorem t_348 : Cond.selects RX2 yX2_sticks yX2_sticks ∈ TB := tb_in (t2_in (List.mem_of_getElem? (i := 108) rfl)) rfl
theorem t_349 : Cond.code yX2_sticks cX2_sticks 1 (some .boolean) ∈ TB := tb_in (t2_in (List.mem_of_getElem? (i := 109) rfl)) rfl
theorem t_350 : Cond.fieldLink RX2 7 "SnowBalls$Kind" "DRUM" "LSnowBalls$Kind;" ∈ TB := tb_in (t2_in (List.mem_of_getElem? (i := 110) rfl)) rfl
theorem t_351 : Cond.laysStatic RX2 "DRUM" "LSnowBalls$Kind;" ∈ TB := tb_in (t2_in (List.mem_of_getElem? (i := 111) rfl)) rfl
theorem t_352 : Cond.methodLinkNest RX4 93 yX7_axisOf RX7 ∈ TB := tb_in (t2_in (List.mem_of_getElem? (i := 112) rfl)) rfl
theorem t_353 : Cond.methodLink RX4 99 yX2_crumbles ∈ TB := tb_in (t2_in (List.mem_of_getElem? (i := 113) rfl)) rfl
theorem t_354 : Cond.instanceMethod yX2_crumbles ∈ TB := tb_in (t2_in (List.mem_of_getElem? (i := 114) rfl)) rfl
theorem t_355 : Cond.selects RX2 yX2_crumbles yX2_crumbles ∈ TB := tb_in (t2_in (List.mem_of_getElem? (i := 115) rfl)) rfl
theorem t_356 : Cond.code yX2_crumbles cX2_crumbles 2 (some .boolean) ∈ TB := tb_in (t2_in (List.mem_of_getElem? (i := 116) rfl)) rfl
theorem t_357 : Cond.fieldLink RX2 10 "SnowBalls$Kind" "POWDER" "LSnowBalls$Kind;" ∈ TB := tb_in (t2_in (List.mem_of_getElem? (i := 117) rfl)) rfl
theorem t_358 : Cond.laysStatic RX2 "POWDER" "LSnowBalls$Kind;" ∈ TB := tb_in (t2_in (List.mem_of_getElem? (i := 118) rfl)) rfl
theorem t_359 : Cond.methodLink RX4 102 yX1_leave ∈ TB := tb_in (t2_in (List.mem_of_getElem? (i := 119) rfl)) rfl
theorem t_360 : Cond.instanceMethod yX1_leave ∈ TB := tb_in (t2_in (List.mem_of_getElem? (i := 120) rfl)) rfl
theorem t_361 : Cond.selects RX1 yX1_leave yX1_leave ∈ TB := tb_in (t2_in (List.mem_of_getElem? (i := 121) rfl)) rfl
theorem t_362 : Cond.code yX1_leave cX1_leave 1 none ∈ TB := tb_in (t2_in (List.mem_of_getElem? (i := 122) rfl)) rfl
theorem t_363 : Cond.methodLink "SnowBallsLaw" 60 yX7_lift ∈ TB := tb_in (t2_in (List.mem_of_getElem? (i := 123) rfl)) rfl
theorem t_364 : Cond.instanceMethod yX7_lift ∈ TB := tb_in (t2_in (List.mem_of_getElem? (i := 124) rfl)) rfl
theorem t_365 : Cond.selects RX7 yX7_lift yX7_lift ∈ TB := tb_in (t2_in (List.mem_of_getElem? (i := 125) rfl)) rfl
theorem t_366 : Cond.code yX7_lift cX7_lift 3 (some .int) ∈ TB := tb_in (t2_in (List.mem_of_getElem? (i := 126) rfl)) rfl
theorem t_367 : Cond.methodLink RX7 172 yX4_canLift ∈ TB := tb_in (t2_in (List.mem_of_getElem? (i := 127) rfl)) rfl
theorem t_368 : Cond.instanceMethod yX4_canLift ∈ TB := tb_in (t2_in (List.mem_of_getElem? (i := 128) rfl)) rfl
theorem t_369 : Cond.selects RX4 yX4_canLift yX4_canLift ∈ TB := tb_in (t2_in (List.mem_of_getElem? (i := 129) rfl)) rfl
theorem t_370 : Cond.code yX4_canLift cX4_canLift 5 (some .boolean) ∈ TB := tb_in (t2_in (List.mem_of_getElem? (i := 130) rfl)) rfl
theorem t_371 : Cond.methodLinkNest RX4 105 yX7_areBeside RX7 ∈ TB := tb_in (t2_in (List.mem_of_getElem? (i := 131) rfl)) rfl
theorem t_372 : Cond.static yX7_areBeside ∈ TB := tb_in (t2_in (List.mem_of_getElem? (i := 132) rfl)) rfl
theorem t_373 : Cond.code yX7_areBeside cX7_areBeside 3 (some .boolean) ∈ TB := tb_in (t2_in (List.mem_of_getElem? (i := 133) rfl)) rfl
theorem t_374 : Cond.methodLink RX7 279 yX7_beside ∈ TB := tb_in (t2_in (List.mem_of_getElem? (i := 134) rfl)) rfl
theorem t_375 : Cond.methodLink RX7 175 yX4_raise ∈ TB := tb_in (t2_in (List.mem_of_getElem? (i := 135) rfl)) rfl
theorem t_376 : Cond.instanceMethod yX4_raise ∈ TB := tb_in (t2_in (List.mem_of_getElem? (i := 136) rfl)) rfl
theorem t_377 : Cond.selects RX4 yX4_raise yX4_raise ∈ TB := tb_in (t2_in (List.mem_of_getElem? (i := 137) rfl)) rfl
theorem t_378 : Cond.code yX4_raise cX4_raise 3 (some .int) ∈ TB := tb_in (t2_in (List.mem_of_getElem? (i := 138) rfl)) rfl
theorem t_379 : Cond.methodLink RX4 109 yX4_heightAt ∈ TB := tb_in (t2_in (List.mem_of_getElem? (i := 139) rfl)) rfl
theorem t_380 : Cond.methodLink "SnowBallsLaw" 64 yX7_day ∈ TB := tb_in (t2_in (List.mem_of_getElem? (i := 140) rfl)) rfl
theorem t_381 : Cond.instanceMethod yX7_day ∈ TB := tb_in (t2_in (List.mem_of_getElem? (i := 141) rfl)) rfl
theorem t_382 : Cond.selects RX7 yX7_day yX7_day ∈ TB := tb_in (t2_in (List.mem_of_getElem? (i := 142) rfl)) rfl
theorem t_383 : Cond.code yX7_day cX7_day 2 (some .int) ∈ TB := tb_in (t2_in (List.mem_of_getElem? (i := 143) rfl)) rfl
theorem t_384 : Cond.methodLink RX7 178 yX4_melt ∈ TB := tb_in (t2_in (List.mem_of_getElem? (i := 144) rfl)) rfl
theorem t_385 : Cond.instanceMethod yX4_melt ∈ TB := tb_in (t2_in (List.mem_of_getElem? (i := 145) rfl)) rfl
theorem t_386 : Cond.selects RX4 yX4_melt yX4_melt ∈ TB := tb_in (t2_in (List.mem_of_getElem? (i := 146) rfl)) rfl
theorem t_387 : Cond.code yX4_melt cX4_melt 6 (some .int) ∈ TB := tb_in (t2_in (List.mem_of_getElem? (i := 147) rfl)) rfl
theorem t_388 : Cond.methodLink RX4 112 yX2_melts ∈ TB := tb_in (t2_in (List.mem_of_getElem? (i := 148) rfl)) rfl
theorem t_389 : Cond.instanceMethod yX2_melts ∈ TB := tb_in (t2_in (List.mem_of_getElem? (i := 149) rfl)) rfl
theorem t_390 : Cond.selects RX2 yX2_melts yX2_melts ∈ TB := tb_in (t2_in (List.mem_of_getElem? (i := 150) rfl)) rfl
theorem t_391 : Cond.code yX2_melts cX2_melts 2 (some .int) ∈ TB := tb_in (t2_in (List.mem_of_getElem? (i := 151) rfl)) rfl
theorem t_392 : Cond.methodLink RX4 115 yX4_lower ∈ TB := tb_in (t2_in (List.mem_of_getElem? (i := 152) rfl)) rfl
theorem t_394 : Cond.instanceMethod yX4_lower ∈ TB := tb_in (t2_in (List.mem_of_getElem? (i := 154) rfl)) rfl
theorem t_395 : Cond.code yX4_lower cX4_lower 4 none ∈ TB := tb_in (t2_in (List.mem_of_getElem? (i := 155) rfl)) rfl
theorem t_396 : Cond.methodLink "SnowBallsLaw" 68 yX7_largest ∈ TB := tb_in (t2_in (List.mem_of_getElem? (i := 156) rfl)) rfl
theorem t_397 : Cond.instanceMethod yX7_largest ∈ TB := tb_in (t2_in (List.mem_of_getElem? (i := 157) rfl)) rfl
theorem t_398 : Cond.selects RX7 yX7_largest yX7_largest ∈ TB := tb_in (t2_in (List.mem_of_getElem? (i := 158) rfl)) rfl
theorem t_399 : Cond.code yX7_largest cX7_largest 4 (some .int) ∈ TB := tb_in (t2_in (List.mem_of_getElem? (i := 159) rfl)) rfl
theorem t_400 : Cond.methodLink RX7 181 yX7_maySearch ∈ TB := tb_in (t2_in (List.mem_of_getElem? (i := 160) rfl)) rfl
theorem t_402 : Cond.instanceMethod yX7_maySearch ∈ TB := tb_in (t2_in (List.mem_of_getElem? (i := 162) rfl)) rfl
theorem t_403 : Cond.code yX7_maySearch cX7_maySearch 2 (some .boolean) ∈ TB := tb_in (t2_in (List.mem_of_getElem? (i := 163) rfl)) rfl
theorem t_404 : Cond.methodLink RX7 276 yX1_isGone ∈ TB := tb_in (t2_in (List.mem_of_getElem? (i := 164) rfl)) rfl
theorem t_405 : Cond.methodLink RX7 187 yX3_begin ∈ TB := tb_in (t2_in (List.mem_of_getElem? (i := 165) rfl)) rfl
theorem t_406 : Cond.instanceMethod yX3_begin ∈ TB := tb_in (t2_in (List.mem_of_getElem? (i := 166) rfl)) rfl
theorem t_407 : Cond.selects RX3 yX3_begin yX3_begin ∈ TB := tb_in (t2_in (List.mem_of_getElem? (i := 167) rfl)) rfl
theorem t_408 : Cond.code yX3_begin cX3_begin 1 none ∈ TB := tb_in (t2_in (List.mem_of_getElem? (i := 168) rfl)) rfl
theorem t_409 : Cond.methodLink RX7 189 yX4_copyFrom ∈ TB := tb_in (t2_in (List.mem_of_getElem? (i := 169) rfl)) rfl
theorem t_410 : Cond.instanceMethod yX4_copyFrom ∈ TB := tb_in (t2_in (List.mem_of_getElem? (i := 170) rfl)) rfl
theorem t_411 : Cond.selects RX4 yX4_copyFrom yX4_copyFrom ∈ TB := tb_in (t2_in (List.mem_of_getElem? (i := 171) rfl)) rfl
theorem t_412 : Cond.code yX4_copyFrom cX4_copyFrom 3 none ∈ TB := tb_in (t2_in (List.mem_of_getElem? (i := 172) rfl)) rfl
theorem t_413 : Cond.methodLink RX4 32 yX1_copyFrom ∈ TB := tb_in (t2_in (List.mem_of_getElem? (i := 173) rfl)) rfl
theorem t_414 : Cond.instanceMethod yX1_copyFrom ∈ TB := tb_in (t2_in (List.mem_of_getElem? (i := 174) rfl)) rfl
theorem t_415 : Cond.selects RX1 yX1_copyFrom yX1_copyFrom ∈ TB := tb_in (t2_in (List.mem_of_getElem? (i := 175) rfl)) rfl
theorem t_416 : Cond.code yX1_copyFrom cX1_copyFrom 2 none ∈ TB := tb_in (t2_in (List.mem_of_getElem? (i := 176) rfl)) rfl
theorem t_417 : Cond.methodLink RX7 193 yX7_explore ∈ TB := tb_in (t2_in (List.mem_of_getElem? (i := 177) rfl)) rfl
theorem t_418 : Cond.static yX7_explore ∈ TB := tb_in (t2_in (List.mem_of_getElem? (i := 178) rfl)) rfl
theorem t_419 : Cond.code yX7_explore cX7_explore 13 none ∈ TB := tb_in (t2_in (List.mem_of_getElem? (i := 179) rfl)) rfl
theorem t_420 : Cond.methodLink RX7 290 ⟨"SnowBalls$Search", "meet", "(LSnowBalls$Ball;II)V"⟩ ∈ TB := tb_in (t2_in (List.mem_of_getElem? (i := 180) rfl)) rfl
theorem t_422 : Cond.sameMethod "SnowBalls$Search" "SnowBalls$Search" "meet" "(LSnowBalls$Ball;II)V" ∈ TB := tb_in (t2_in (List.mem_of_getElem? (i := 182) rfl)) rfl
theorem t_423 : Cond.selects RX0 ⟨"SnowBalls$Search", "meet", "(LSnowBalls$Ball;II)V"⟩ yX0_meet ∈ TB := tb_in (t2_in (List.mem_of_getElem? (i := 183) rfl)) rfl
theorem t_424 : Cond.instanceMethod yX0_meet ∈ TB := tb_in (t2_in (List.mem_of_getElem? (i := 184) rfl)) rfl
theorem t_425 : Cond.code yX0_meet cX0_meet 4 none ∈ TB := tb_in (t2_in (List.mem_of_getElem? (i := 185) rfl)) rfl
theorem t_426 : Cond.selects RX3 ⟨"SnowBalls$Search", "meet", "(LSnowBalls$Ball;II)V"⟩ yX3_meet ∈ TB := tb_in (t2_in (List.mem_of_getElem? (i := 186) rfl)) rfl
theorem t_427 : Cond.instanceMethod yX3_meet ∈ TB := tb_in (t2_in (List.mem_of_getElem? (i := 187) rfl)) rfl
theorem t_428 : Cond.code yX3_meet cX3_meet 4 none ∈ TB := tb_in (t2_in (List.mem_of_getElem? (i := 188) rfl)) rfl
theorem t_429 : Cond.selects RX6 ⟨"SnowBalls$Search", "meet", "(LSnowBalls$Ball;II)V"⟩ yX6_meet ∈ TB := tb_in (t2_in (List.mem_of_getElem? (i := 189) rfl)) rfl
theorem t_430 : Cond.instanceMethod yX6_meet ∈ TB := tb_in (t2_in (List.mem_of_getElem? (i := 190) rfl)) rfl
theorem t_431 : Cond.code yX6_meet cX6_meet 4 none ∈ TB := tb_in (t2_in (List.mem_of_getElem? (i := 191) rfl)) rfl
theorem t_432 : Cond.methodLink "SnowBallsLaw" 73 yX7_comes ∈ TB := tb_in (t2_in (List.mem_of_getElem? (i := 192) rfl)) rfl
theorem t_433 : Cond.instanceMethod yX7_comes ∈ TB := tb_in (t2_in (List.mem_of_getElem? (i := 193) rfl)) rfl
theorem t_434 : Cond.selects RX7 yX7_comes yX7_comes ∈ TB := tb_in (t2_in (List.mem_of_getElem? (i := 194) rfl)) rfl
theorem t_435 : Cond.code yX7_comes cX7_comes 3 (some .int) ∈ TB := tb_in (t2_in (List.mem_of_getElem? (i := 195) rfl)) rfl
theorem t_436 : Cond.methodLink RX7 201 yX0_begin ∈ TB := tb_in (t2_in (List.mem_of_getElem? (i := 196) rfl)) rfl
theorem t_437 : Cond.instanceMethod yX0_begin ∈ TB := tb_in (t2_in (List.mem_of_getElem? (i := 197) rfl)) rfl
theorem t_438 : Cond.selects RX0 yX0_begin yX0_begin ∈ TB := tb_in (t2_in (List.mem_of_getElem? (i := 198) rfl)) rfl
theorem t_439 : Cond.code yX0_begin cX0_begin 2 none ∈ TB := tb_in (t2_in (List.mem_of_getElem? (i := 199) rfl)) rfl
theorem t_440 : Cond.methodLink "SnowBallsLaw" 77 yX7_highest ∈ TB := tb_in (t2_in (List.mem_of_getElem? (i := 200) rfl)) rfl
theorem t_441 : Cond.instanceMethod yX7_highest ∈ TB := tb_in (t2_in (List.mem_of_getElem? (i := 201) rfl)) rfl
theorem t_442 : Cond.selects RX7 yX7_highest yX7_highest ∈ TB := tb_in (t2_in (List.mem_of_getElem? (i := 202) rfl)) rfl
theorem t_443 : Cond.code yX7_highest cX7_highest 3 (some .int) ∈ TB := tb_in (t2_in (List.mem_of_getElem? (i := 203) rfl)) rfl
theorem t_444 : Cond.methodLink RX7 207 yX4_highestThree ∈ TB := tb_in (t2_in (List.mem_of_getElem? (i := 204) rfl)) rfl
theorem t_445 : Cond.instanceMethod yX4_highestThree ∈ TB := tb_in (t2_in (List.mem_of_getElem? (i := 205) rfl)) rfl
theorem t_446 : Cond.selects RX4 yX4_highestThree yX4_highestThree ∈ TB := tb_in (t2_in (List.mem_of_getElem? (i := 206) rfl)) rfl
theorem t_447 : Cond.code yX4_highestThree cX4_highestThree 5 (some .int) ∈ TB := tb_in (t2_in (List.mem_of_getElem? (i := 207) rfl)) rfl
theorem t_448 : Cond.methodLink RX4 119 yJ6_bitCount_0f7a4 ∈ TB := tb_in (t2_in (List.mem_of_getElem? (i := 208) rfl)) rfl
theorem t_449 : Cond.static yJ6_bitCount_0f7a4 ∈ TB := tb_in (t2_in (List.mem_of_getElem? (i := 209) rfl)) rfl
theorem t_450 : Cond.code yJ6_bitCount_0f7a4 cJ6_bitCount_0f7a4 1 (some .int) ∈ TB := tb_in (t2_in (List.mem_of_getElem? (i := 210) rfl)) rfl
theorem t_451 : Cond.constant RJ6 265 (1431655765) ∈ TB := tb_in (t2_in (List.mem_of_getElem? (i := 211) rfl)) rfl
theorem t_452 : Cond.constant RJ6 266 (858993459) ∈ TB := tb_in (t2_in (List.mem_of_getElem? (i := 212) rfl)) rfl
theorem t_453 : Cond.constant RJ6 267 (252645135) ∈ TB := tb_in (t2_in (List.mem_of_getElem? (i := 213) rfl)) rfl
theorem t_454 : Cond.methodLink RX4 124 yX4_couldStack ∈ TB := tb_in (t2_in (List.mem_of_getElem? (i := 214) rfl)) rfl
theorem t_456 : Cond.instanceMethod yX4_couldStack ∈ TB := tb_in (t2_in (List.mem_of_getElem? (i := 216) rfl)) rfl
theorem t_457 : Cond.code yX4_couldStack cX4_couldStack 3 (some .boolean) ∈ TB := tb_in (t2_in (List.mem_of_getElem? (i := 217) rfl)) rfl
theorem t_458 : Cond.methodLink RX4 130 yX4_isIn ∈ TB := tb_in (t2_in (List.mem_of_getElem? (i := 218) rfl)) rfl
theorem t_459 : Cond.static yX4_isIn ∈ TB := tb_in (t2_in (List.mem_of_getElem? (i := 219) rfl)) rfl
theorem t_460 : Cond.code yX4_isIn cX4_isIn 2 (some .boolean) ∈ TB := tb_in (t2_in (List.mem_of_getElem? (i := 220) rfl)) rfl
theorem t_461 : Cond.methodLink RX4 133 yX4_couldJoin ∈ TB := tb_in (t2_in (List.mem_of_getElem? (i := 221) rfl)) rfl
theorem t_463 : Cond.instanceMethod yX4_couldJoin ∈ TB := tb_in (t2_in (List.mem_of_getElem? (i := 223) rfl)) rfl
theorem t_464 : Cond.code yX4_couldJoin cX4_couldJoin 5 (some .boolean) ∈ TB := tb_in (t2_in (List.mem_of_getElem? (i := 224) rfl)) rfl
theorem t_465 : Cond.methodLink RX4 127 yX4_heightOfAll ∈ TB := tb_in (t2_in (List.mem_of_getElem? (i := 225) rfl)) rfl
theorem t_466 : Cond.instanceMethod yX4_heightOfAll ∈ TB := tb_in (t2_in (List.mem_of_getElem? (i := 226) rfl)) rfl
theorem t_467 : Cond.selects RX4 yX4_heightOfAll yX4_heightOfAll ∈ TB := tb_in (t2_in (List.mem_of_getElem? (i := 227) rfl)) rfl
theorem t_468 : Cond.code yX4_heightOfAll cX4_heightOfAll 4 (some .int) ∈ TB := tb_in (t2_in (List.mem_of_getElem? (i := 228) rfl)) rfl
theorem t_469 : Cond.methodLink RX7 210 yX4_heightOfAll ∈ TB := tb_in (t2_in (List.mem_of_getElem? (i := 229) rfl)) rfl
theorem t_470 : Cond.methodLink "SnowBallsLaw" 81 yX7_lasts ∈ TB := tb_in (t2_in (List.mem_of_getElem? (i := 230) rfl)) rfl
theorem t_471 : Cond.instanceMethod yX7_lasts ∈ TB := tb_in (t2_in (List.mem_of_getElem? (i := 231) rfl)) rfl
theorem t_472 : Cond.selects RX7 yX7_lasts yX7_lasts ∈ TB := tb_in (t2_in (List.mem_of_getElem? (i := 232) rfl)) rfl
theorem t_473 : Cond.code yX7_lasts cX7_lasts 2 (some .int) ∈ TB := tb_in (t2_in (List.mem_of_getElem? (i := 233) rfl)) rfl
theorem t_474 : Cond.methodLink RX7 213 yX4_daysToFirstGone ∈ TB := tb_in (t2_in (List.mem_of_getElem? (i := 234) rfl)) rfl
theorem t_475 : Cond.instanceMethod yX4_daysToFirstGone ∈ TB := tb_in (t2_in (List.mem_of_getElem? (i := 235) rfl)) rfl
theorem t_476 : Cond.selects RX4 yX4_daysToFirstGone yX4_daysToFirstGone ∈ TB := tb_in (t2_in (List.mem_of_getElem? (i := 236) rfl)) rfl
theorem t_477 : Cond.code yX4_daysToFirstGone cX4_daysToFirstGone 7 (some .int) ∈ TB := tb_in (t2_in (List.mem_of_getElem? (i := 237) rfl)) rfl
theorem t_478 : Cond.methodLink "SnowBallsLaw" 85 yX7_book ∈ TB := tb_in (t2_in (List.mem_of_getElem? (i := 238) rfl)) rfl
theorem t_479 : Cond.instanceMethod yX7_book ∈ TB := tb_in (t2_in (List.mem_of_getElem? (i := 239) rfl)) rfl
theorem t_480 : Cond.selects RX7 yX7_book yX7_book ∈ TB := tb_in (t3_in (List.mem_of_getElem? (i := 0) rfl)) rfl
theorem t_481 : Cond.code yX7_book cX7_book 5 (some .int) ∈ TB := tb_in (t3_in (List.mem_of_getElem? (i := 1) rfl)) rfl
theorem t_482 : Cond.methodLink RX7 219 yX6_begin ∈ TB := tb_in (t3_in (List.mem_of_getElem? (i := 2) rfl)) rfl
theorem t_483 : Cond.instanceMethod yX6_begin ∈ TB := tb_in (t3_in (List.mem_of_getElem? (i := 3) rfl)) rfl
theorem t_484 : Cond.selects RX6 yX6_begin yX6_begin ∈ TB := tb_in (t3_in (List.mem_of_getElem? (i := 4) rfl)) rfl
theorem t_485 : Cond.code yX6_begin cX6_begin 3 none ∈ TB := tb_in (t3_in (List.mem_of_getElem? (i := 5) rfl)) rfl
theorem t_486 : Cond.methodLink "SnowBallsLaw" 90 yX7_games ∈ TB := tb_in (t3_in (List.mem_of_getElem? (i := 6) rfl)) rfl
theorem t_487 : Cond.instanceMethod yX7_games ∈ TB := tb_in (t3_in (List.mem_of_getElem? (i := 7) rfl)) rfl
theorem t_488 : Cond.selects RX7 yX7_games yX7_games ∈ TB := tb_in (t3_in (List.mem_of_getElem? (i := 8) rfl)) rfl
theorem t_489 : Cond.code yX7_games cX7_games 10 (some .int) ∈ TB := tb_in (t3_in (List.mem_of_getElem? (i := 9) rfl)) rfl
theorem t_490 : Cond.methodLink RX7 225 yX7_nextSeed ∈ TB := tb_in (t3_in (List.mem_of_getElem? (i := 10) rfl)) rfl
theorem t_491 : Cond.static yX7_nextSeed ∈ TB := tb_in (t3_in (List.mem_of_getElem? (i := 11) rfl)) rfl
theorem t_492 : Cond.code yX7_nextSeed cX7_nextSeed 2 (some .long) ∈ TB := tb_in (t3_in (List.mem_of_getElem? (i := 12) rfl)) rfl
theorem t_493 : Cond.constantLong RX7 282 (1103515245) ∈ TB := tb_in (t3_in (List.mem_of_getElem? (i := 13) rfl)) rfl
theorem t_494 : Cond.constantLong RX7 284 (12345) ∈ TB := tb_in (t3_in (List.mem_of_getElem? (i := 14) rfl)) rfl
theorem t_495 : Cond.constantLong RX7 286 (2147483648) ∈ TB := tb_in (t3_in (List.mem_of_getElem? (i := 15) rfl)) rfl
theorem t_496 : Cond.methodLink RX7 229 yX7_drawOf ∈ TB := tb_in (t3_in (List.mem_of_getElem? (i := 16) rfl)) rfl
theorem t_497 : Cond.static yX7_drawOf ∈ TB := tb_in (t3_in (List.mem_of_getElem? (i := 17) rfl)) rfl
theorem t_498 : Cond.code yX7_drawOf cX7_drawOf 3 (some .int) ∈ TB := tb_in (t3_in (List.mem_of_getElem? (i := 18) rfl)) rfl
theorem t_499 : Cond.constantLong RX7 288 (65536) ∈ TB := tb_in (t3_in (List.mem_of_getElem? (i := 19) rfl)) rfl
theorem t_500 : Cond.methodLink RX7 233 yX4_allSizes ∈ TB := tb_in (t3_in (List.mem_of_getElem? (i := 20) rfl)) rfl
theorem t_501 : Cond.instanceMethod yX4_allSizes ∈ TB := tb_in (t3_in (List.mem_of_getElem? (i := 21) rfl)) rfl
theorem t_502 : Cond.selects RX4 yX4_allSizes yX4_allSizes ∈ TB := tb_in (t3_in (List.mem_of_getElem? (i := 22) rfl)) rfl
theorem t_503 : Cond.code yX4_allSizes cX4_allSizes 3 (some .int) ∈ TB := tb_in (t3_in (List.mem_of_getElem? (i := 23) rfl)) rfl
theorem t_504 : Cond.methodLink "SnowBallsLaw" 94 yX7_image ∈ TB := tb_in (t3_in (List.mem_of_getElem? (i := 24) rfl)) rfl
theorem t_505 : Cond.instanceMethod yX7_image ∈ TB := tb_in (t3_in (List.mem_of_getElem? (i := 25) rfl)) rfl
theorem t_506 : Cond.selects RX7 yX7_image yX7_image ∈ TB := tb_in (t3_in (List.mem_of_getElem? (i := 26) rfl)) rfl
theorem t_507 : Cond.code yX7_image cX7_image 1 (some .int) ∈ TB := tb_in (t3_in (List.mem_of_getElem? (i := 27) rfl)) rfl
theorem t_508 : Cond.methodLink "SnowBallsLaw" 98 yX7_restore ∈ TB := tb_in (t3_in (List.mem_of_getElem? (i := 28) rfl)) rfl
theorem t_509 : Cond.instanceMethod yX7_restore ∈ TB := tb_in (t3_in (List.mem_of_getElem? (i := 29) rfl)) rfl
theorem t_510 : Cond.selects RX7 yX7_restore yX7_restore ∈ TB := tb_in (t3_in (List.mem_of_getElem? (i := 30) rfl)) rfl
theorem t_511 : Cond.code yX7_restore cX7_restore 1 (some .int) ∈ TB := tb_in (t3_in (List.mem_of_getElem? (i := 31) rfl)) rfl
theorem t_512 : Cond.methodLink "SnowBallsLaw" 102 yX7_count ∈ TB := tb_in (t3_in (List.mem_of_getElem? (i := 32) rfl)) rfl
theorem t_513 : Cond.instanceMethod yX7_count ∈ TB := tb_in (t3_in (List.mem_of_getElem? (i := 33) rfl)) rfl
theorem t_514 : Cond.selects RX7 yX7_count yX7_count ∈ TB := tb_in (t3_in (List.mem_of_getElem? (i := 34) rfl)) rfl
theorem t_515 : Cond.code yX7_count cX7_count 2 (some .int) ∈ TB := tb_in (t3_in (List.mem_of_getElem? (i := 35) rfl)) rfl
theorem t_516 : Cond.methodLink RX7 236 yX4_goneBalls ∈ TB := tb_in (t3_in (List.mem_of_getElem? (i := 36) rfl)) rfl
theorem t_517 : Cond.instanceMethod yX4_goneBalls ∈ TB := tb_in (t3_in (List.mem_of_getElem? (i := 37) rfl)) rfl
theorem t_518 : Cond.selects RX4 yX4_goneBalls yX4_goneBalls ∈ TB := tb_in (t3_in (List.mem_of_getElem? (i := 38) rfl)) rfl
theorem t_519 : Cond.code yX4_goneBalls cX4_goneBalls 3 (some .int) ∈ TB := tb_in (t3_in (List.mem_of_getElem? (i := 39) rfl)) rfl
theorem t_520 : Cond.methodLink RX7 239 yX4_greenPlaces ∈ TB := tb_in (t3_in (List.mem_of_getElem? (i := 40) rfl)) rfl
theorem t_521 : Cond.instanceMethod yX4_greenPlaces ∈ TB := tb_in (t3_in (List.mem_of_getElem? (i := 41) rfl)) rfl
theorem t_522 : Cond.selects RX4 yX4_greenPlaces yX4_greenPlaces ∈ TB := tb_in (t3_in (List.mem_of_getElem? (i := 42) rfl)) rfl
theorem t_523 : Cond.code yX4_greenPlaces cX4_greenPlaces 6 (some .int) ∈ TB := tb_in (t3_in (List.mem_of_getElem? (i := 43) rfl)) rfl
theorem t_524 : Cond.methodLink "SnowBallsLaw" 106 yX7_digest ∈ TB := tb_in (t3_in (List.mem_of_getElem? (i := 44) rfl)) rfl
theorem t_525 : Cond.instanceMethod yX7_digest ∈ TB := tb_in (t3_in (List.mem_of_getElem? (i := 45) rfl)) rfl
theorem t_526 : Cond.selects RX7 yX7_digest yX7_digest ∈ TB := tb_in (t3_in (List.mem_of_getElem? (i := 46) rfl)) rfl
theorem t_527 : Cond.code yX7_digest cX7_digest 4 (some .long) ∈ TB := tb_in (t3_in (List.mem_of_getElem? (i := 47) rfl)) rfl
theorem t_528 : Cond.constantLong RX7 245 (727) ∈ TB := tb_in (t3_in (List.mem_of_getElem? (i := 48) rfl)) rfl
theorem t_529 : Cond.methodLink RX7 247 yX7_digestOfPlaces ∈ TB := tb_in (t3_in (List.mem_of_getElem? (i := 49) rfl)) rfl
theorem t_531 : Cond.instanceMethod yX7_digestOfPlaces ∈ TB := tb_in (t3_in (List.mem_of_getElem? (i := 51) rfl)) rfl
theorem t_532 : Cond.code yX7_digestOfPlaces cX7_digestOfPlaces 7 (some .long) ∈ TB := tb_in (t3_in (List.mem_of_getElem? (i := 52) rfl)) rfl
theorem t_533 : Cond.methodLink RX7 266 yX7_place ∈ TB := tb_in (t3_in (List.mem_of_getElem? (i := 53) rfl)) rfl
theorem t_534 : Cond.methodLink RX7 256 yX7_mixed ∈ TB := tb_in (t3_in (List.mem_of_getElem? (i := 54) rfl)) rfl
theorem t_535 : Cond.static yX7_mixed ∈ TB := tb_in (t3_in (List.mem_of_getElem? (i := 55) rfl)) rfl
theorem t_536 : Cond.code yX7_mixed cX7_mixed 4 (some .long) ∈ TB := tb_in (t3_in (List.mem_of_getElem? (i := 56) rfl)) rfl
theorem t_537 : Cond.constantLong RX7 274 (31) ∈ TB := tb_in (t3_in (List.mem_of_getElem? (i := 57) rfl)) rfl
theorem t_538 : Cond.methodLink RX7 250 yX7_digestOfBalls ∈ TB := tb_in (t3_in (List.mem_of_getElem? (i := 58) rfl)) rfl
theorem t_540 : Cond.instanceMethod yX7_digestOfBalls ∈ TB := tb_in (t3_in (List.mem_of_getElem? (i := 60) rfl)) rfl
theorem t_541 : Cond.code yX7_digestOfBalls cX7_digestOfBalls 7 (some .long) ∈ TB := tb_in (t3_in (List.mem_of_getElem? (i := 61) rfl)) rfl
theorem t_542 : Cond.methodLink RX7 268 yX7_about ∈ TB := tb_in (t3_in (List.mem_of_getElem? (i := 62) rfl)) rfl
theorem t_543 : Cond.methodLink RX7 271 yX7_may ∈ TB := tb_in (t3_in (List.mem_of_getElem? (i := 63) rfl)) rfl
theorem t_544 : Cond.methodLink RX7 253 yX7_highest ∈ TB := tb_in (t3_in (List.mem_of_getElem? (i := 64) rfl)) rfl
theorem t_545 : Cond.methodLink RX7 260 yX7_lasts ∈ TB := tb_in (t3_in (List.mem_of_getElem? (i := 65) rfl)) rfl
theorem t_546 : Cond.methodLink RX7 263 yX7_count ∈ TB := tb_in (t3_in (List.mem_of_getElem? (i := 66) rfl)) rfl
theorem t_547 : Cond.classLink "SnowBallsLaw" 10 RX8 ∈ TB := tb_in (t3_in (List.mem_of_getElem? (i := 67) rfl)) rfl
theorem t_548 : Cond.instantiable RX8 39 ∈ TB := tb_in (t3_in (List.mem_of_getElem? (i := 68) rfl)) rfl
theorem t_549 : Cond.methodLink "SnowBallsLaw" 12 yX8_init ∈ TB := tb_in (t3_in (List.mem_of_getElem? (i := 69) rfl)) rfl
theorem t_550 : Cond.instanceMethod yX8_init ∈ TB := tb_in (t3_in (List.mem_of_getElem? (i := 70) rfl)) rfl
theorem t_551 : Cond.code yX8_init cX8_init 1 none ∈ TB := tb_in (t3_in (List.mem_of_getElem? (i := 71) rfl)) rfl
theorem t_552 : Cond.methodLink RX8 1 Lib.objectInit ∈ TB := tb_in (t3_in (List.mem_of_getElem? (i := 72) rfl)) rfl
theorem t_553 : Cond.fieldLink RX8 82 "SnowBallsModel" "isLawn" "Z" ∈ TB := tb_in (t3_in (List.mem_of_getElem? (i := 73) rfl)) rfl
theorem t_554 : Cond.fieldLink RX8 86 "SnowBallsModel" "lawns" "I" ∈ TB := tb_in (t3_in (List.mem_of_getElem? (i := 74) rfl)) rfl
theorem t_555 : Cond.fieldLink RX8 7 "SnowBallsModel" "depthOf" "[I" ∈ TB := tb_in (t3_in (List.mem_of_getElem? (i := 75) rfl)) rfl
theorem t_556 : Cond.fieldLink RX8 79 "SnowBallsModel" "wetness" "I" ∈ TB := tb_in (t3_in (List.mem_of_getElem? (i := 76) rfl)) rfl
theorem t_557 : Cond.fieldLink RX8 13 "SnowBallsModel" "strength" "I" ∈ TB := tb_in (t3_in (List.mem_of_getElem? (i := 77) rfl)) rfl
theorem t_558 : Cond.fieldLink RX8 89 "SnowBallsModel" "days" "I" ∈ TB := tb_in (t3_in (List.mem_of_getElem? (i := 78) rfl)) rfl
theorem t_559 : Cond.fieldLink RX8 92 "SnowBallsModel" "balls" "I" ∈ TB := tb_in (t3_in (List.mem_of_getElem? (i := 79) rfl)) rfl
theorem t_560 : Cond.fieldLink RX8 17 "SnowBallsModel" "kindOf" "[I" ∈ TB := tb_in (t3_in (List.mem_of_getElem? (i := 80) rfl)) rfl
theorem t_561 : Cond.fieldLink RX8 20 "SnowBallsModel" "sizeOf" "[I" ∈ TB := tb_in (t3_in (List.mem_of_getElem? (i := 81) rfl)) rfl
theorem t_562 : Cond.fieldLink RX8 23 "SnowBallsModel" "placeOf" "[I" ∈ TB := tb_in (t3_in (List.mem_of_getElem? (i := 82) rfl)) rfl
theorem t_563 : Cond.fieldLink RX8 26 "SnowBallsModel" "onOf" "[I" ∈ TB := tb_in (t3_in (List.mem_of_getElem? (i := 83) rfl)) rfl
theorem t_564 : Cond.fieldLink RX8 29 "SnowBallsModel" "sticksOf" "[I" ∈ TB := tb_in (t3_in (List.mem_of_getElem? (i := 84) rfl)) rfl
theorem t_565 : Cond.fieldLink RX8 190 "SnowBallsModel" "asks" "I" ∈ TB := tb_in (t3_in (List.mem_of_getElem? (i := 85) rfl)) rfl
theorem t_566 : Cond.fieldLink RX8 208 "SnowBallsModel" "books" "I" ∈ TB := tb_in (t3_in (List.mem_of_getElem? (i := 86) rfl)) rfl
theorem t_567 : Cond.fieldLink RX8 70 "SnowBallsModel" "pageLength" "I" ∈ TB := tb_in (t3_in (List.mem_of_getElem? (i := 87) rfl)) rfl
theorem t_568 : Cond.fieldLink RX8 32 "SnowBallsModel" "page" "[B" ∈ TB := tb_in (t3_in (List.mem_of_getElem? (i := 88) rfl)) rfl
theorem t_569 : Cond.fieldLink RX8 73 "SnowBallsModel" "faultAt" "I" ∈ TB := tb_in (t3_in (List.mem_of_getElem? (i := 89) rfl)) rfl
theorem t_570 : Cond.fieldLink RX8 36 "SnowBallsModel" "savedDepth" "[I" ∈ TB := tb_in (t3_in (List.mem_of_getElem? (i := 90) rfl)) rfl
theorem t_571 : Cond.fieldLink RX8 163 "SnowBallsModel" "savedSize" "I" ∈ TB := tb_in (t3_in (List.mem_of_getElem? (i := 91) rfl)) rfl
theorem t_572 : Cond.fieldLink RX8 166 "SnowBallsModel" "savedPlace" "I" ∈ TB := tb_in (t3_in (List.mem_of_getElem? (i := 92) rfl)) rfl
theorem t_573 : Cond.fieldLink RX8 169 "SnowBallsModel" "savedSticks" "I" ∈ TB := tb_in (t3_in (List.mem_of_getElem? (i := 93) rfl)) rfl
theorem t_574 : Cond.fieldLink RX8 175 "SnowBallsModel" "bestSize" "I" ∈ TB := tb_in (t3_in (List.mem_of_getElem? (i := 94) rfl)) rfl
theorem t_575 : Cond.fieldLink RX8 178 "SnowBallsModel" "bestFirst" "I" ∈ TB := tb_in (t3_in (List.mem_of_getElem? (i := 95) rfl)) rfl
theorem t_576 : Cond.fieldLink RX8 217 "SnowBallsModel" "seedNow" "J" ∈ TB := tb_in (t3_in (List.mem_of_getElem? (i := 96) rfl)) rfl
theorem t_577 : Cond.fieldLink RX8 39 "SnowBallsModel" "gameSize" "[I" ∈ TB := tb_in (t3_in (List.mem_of_getElem? (i := 97) rfl)) rfl
theorem t_578 : Cond.fieldLink RX8 42 "SnowBallsModel" "gamePlace" "[I" ∈ TB := tb_in (t3_in (List.mem_of_getElem? (i := 98) rfl)) rfl
theorem t_579 : Cond.fieldLink RX8 45 "SnowBallsModel" "gameSticks" "[I" ∈ TB := tb_in (t3_in (List.mem_of_getElem? (i := 99) rfl)) rfl
theorem t_580 : Cond.fieldLink RX8 48 "SnowBallsModel" "gameDepth" "[I" ∈ TB := tb_in (t3_in (List.mem_of_getElem? (i := 100) rfl)) rfl
theorem t_581 : Cond.fieldLink RX8 237 "SnowBallsModel" "isKept" "Z" ∈ TB := tb_in (t3_in (List.mem_of_getElem? (i := 101) rfl)) rfl
theorem t_582 : Cond.fieldLink RX8 240 "SnowBallsModel" "keptLawn" "I" ∈ TB := tb_in (t3_in (List.mem_of_getElem? (i := 102) rfl)) rfl
theorem t_583 : Cond.fieldLink RX8 243 "SnowBallsModel" "keptBalls" "I" ∈ TB := tb_in (t3_in (List.mem_of_getElem? (i := 103) rfl)) rfl
theorem t_584 : Cond.fieldLink RX8 246 "SnowBallsModel" "keptStrength" "I" ∈ TB := tb_in (t3_in (List.mem_of_getElem? (i := 104) rfl)) rfl
theorem t_585 : Cond.fieldLink RX8 249 "SnowBallsModel" "keptDays" "I" ∈ TB := tb_in (t3_in (List.mem_of_getElem? (i := 105) rfl)) rfl
theorem t_586 : Cond.fieldLink RX8 51 "SnowBallsModel" "keptDepth" "[I" ∈ TB := tb_in (t3_in (List.mem_of_getElem? (i := 106) rfl)) rfl
theorem t_587 : Cond.fieldLink RX8 54 "SnowBallsModel" "keptSize" "[I" ∈ TB := tb_in (t3_in (List.mem_of_getElem? (i := 107) rfl)) rfl
theorem t_588 : Cond.fieldLink RX8 57 "SnowBallsModel" "keptPlace" "[I" ∈ TB := tb_in (t3_in (List.mem_of_getElem? (i := 108) rfl)) rfl
theorem t_589 : Cond.fieldLink RX8 60 "SnowBallsModel" "keptOn" "[I" ∈ TB := tb_in (t3_in (List.mem_of_getElem? (i := 109) rfl)) rfl
theorem t_590 : Cond.fieldLink RX8 63 "SnowBallsModel" "keptSticks" "[I" ∈ TB := tb_in (t3_in (List.mem_of_getElem? (i := 110) rfl)) rfl
theorem t_591 : Cond.fieldLink RX8 263 "SnowBallsModel" "h" "J" ∈ TB := tb_in (t3_in (List.mem_of_getElem? (i := 111) rfl)) rfl
theorem t_592 : Cond.lays RX8 "SnowBallsModel" "isLawn" "Z" ∈ TB := tb_in (t3_in (List.mem_of_getElem? (i := 112) rfl)) rfl
theorem t_594 : Cond.lays RX8 "SnowBallsModel" "lawns" "I" ∈ TB := tb_in (t3_in (List.mem_of_getElem? (i := 114) rfl)) rfl
theorem t_596 : Cond.laysFinal RX8 "SnowBallsModel" "depthOf" "[I" ∈ TB := tb_in (t3_in (List.mem_of_getElem? (i := 116) rfl)) rfl
theorem t_598 : Cond.lays RX8 "SnowBallsModel" "wetness" "I" ∈ TB := tb_in (t3_in (List.mem_of_getElem? (i := 118) rfl)) rfl
theorem t_600 : Cond.lays RX8 "SnowBallsModel" "strength" "I" ∈ TB := tb_in (t3_in (List.mem_of_getElem? (i := 120) rfl)) rfl
theorem t_602 : Cond.lays RX8 "SnowBallsModel" "days" "I" ∈ TB := tb_in (t3_in (List.mem_of_getElem? (i := 122) rfl)) rfl
theorem t_604 : Cond.lays RX8 "SnowBallsModel" "balls" "I" ∈ TB := tb_in (t3_in (List.mem_of_getElem? (i := 124) rfl)) rfl
theorem t_606 : Cond.laysFinal RX8 "SnowBallsModel" "kindOf" "[I" ∈ TB := tb_in (t3_in (List.mem_of_getElem? (i := 126) rfl)) rfl
theorem t_608 : Cond.laysFinal RX8 "SnowBallsModel" "sizeOf" "[I" ∈ TB := tb_in (t3_in (List.mem_of_getElem? (i := 128) rfl)) rfl
theorem t_610 : Cond.laysFinal RX8 "SnowBallsModel" "placeOf" "[I" ∈ TB := tb_in (t3_in (List.mem_of_getElem? (i := 130) rfl)) rfl
theorem t_612 : Cond.laysFinal RX8 "SnowBallsModel" "onOf" "[I" ∈ TB := tb_in (t3_in (List.mem_of_getElem? (i := 132) rfl)) rfl
theorem t_614 : Cond.laysFinal RX8 "SnowBallsModel" "sticksOf" "[I" ∈ TB := tb_in (t3_in (List.mem_of_getElem? (i := 134) rfl)) rfl
theorem t_616 : Cond.lays RX8 "SnowBallsModel" "asks" "I" ∈ TB := tb_in (t3_in (List.mem_of_getElem? (i := 136) rfl)) rfl
theorem t_618 : Cond.lays RX8 "SnowBallsModel" "books" "I" ∈ TB := tb_in (t3_in (List.mem_of_getElem? (i := 138) rfl)) rfl
theorem t_620 : Cond.lays RX8 "SnowBallsModel" "pageLength" "I" ∈ TB := tb_in (t3_in (List.mem_of_getElem? (i := 140) rfl)) rfl
theorem t_622 : Cond.laysFinal RX8 "SnowBallsModel" "page" "[B" ∈ TB := tb_in (t3_in (List.mem_of_getElem? (i := 142) rfl)) rfl
theorem t_624 : Cond.lays RX8 "SnowBallsModel" "faultAt" "I" ∈ TB := tb_in (t3_in (List.mem_of_getElem? (i := 144) rfl)) rfl
theorem t_626 : Cond.laysFinal RX8 "SnowBallsModel" "savedDepth" "[I" ∈ TB := tb_in (t3_in (List.mem_of_getElem? (i := 146) rfl)) rfl
theorem t_628 : Cond.lays RX8 "SnowBallsModel" "savedSize" "I" ∈ TB := tb_in (t3_in (List.mem_of_getElem? (i := 148) rfl)) rfl
theorem t_630 : Cond.lays RX8 "SnowBallsModel" "savedPlace" "I" ∈ TB := tb_in (t3_in (List.mem_of_getElem? (i := 150) rfl)) rfl
theorem t_632 : Cond.lays RX8 "SnowBallsModel" "savedSticks" "I" ∈ TB := tb_in (t3_in (List.mem_of_getElem? (i := 152) rfl)) rfl
theorem t_634 : Cond.lays RX8 "SnowBallsModel" "bestSize" "I" ∈ TB := tb_in (t3_in (List.mem_of_getElem? (i := 154) rfl)) rfl
theorem t_636 : Cond.lays RX8 "SnowBallsModel" "bestFirst" "I" ∈ TB := tb_in (t3_in (List.mem_of_getElem? (i := 156) rfl)) rfl
theorem t_638 : Cond.lays RX8 "SnowBallsModel" "seedNow" "J" ∈ TB := tb_in (t3_in (List.mem_of_getElem? (i := 158) rfl)) rfl
theorem t_640 : Cond.laysFinal RX8 "SnowBallsModel" "gameSize" "[I" ∈ TB := tb_in (t3_in (List.mem_of_getElem? (i := 160) rfl)) rfl
theorem t_642 : Cond.laysFinal RX8 "SnowBallsModel" "gamePlace" "[I" ∈ TB := tb_in (t3_in (List.mem_of_getElem? (i := 162) rfl)) rfl
theorem t_644 : Cond.laysFinal RX8 "SnowBallsModel" "gameSticks" "[I" ∈ TB := tb_in (t3_in (List.mem_of_getElem? (i := 164) rfl)) rfl
theorem t_646 : Cond.laysFinal RX8 "SnowBallsModel" "gameDepth" "[I" ∈ TB := tb_in (t3_in (List.mem_of_getElem? (i := 166) rfl)) rfl
theorem t_648 : Cond.lays RX8 "SnowBallsModel" "isKept" "Z" ∈ TB := tb_in (t3_in (List.mem_of_getElem? (i := 168) rfl)) rfl
theorem t_650 : Cond.lays RX8 "SnowBallsModel" "keptLawn" "I" ∈ TB := tb_in (t3_in (List.mem_of_getElem? (i := 170) rfl)) rfl
theorem t_652 : Cond.lays RX8 "SnowBallsModel" "keptBalls" "I" ∈ TB := tb_in (t3_in (List.mem_of_getElem? (i := 172) rfl)) rfl
theorem t_654 : Cond.lays RX8 "SnowBallsModel" "keptStrength" "I" ∈ TB := tb_in (t3_in (List.mem_of_getElem? (i := 174) rfl)) rfl
theorem t_656 : Cond.lays RX8 "SnowBallsModel" "keptDays" "I" ∈ TB := tb_in (t3_in (List.mem_of_getElem? (i := 176) rfl)) rfl
theorem t_658 : Cond.laysFinal RX8 "SnowBallsModel" "keptDepth" "[I" ∈ TB := tb_in (t3_in (List.mem_of_getElem? (i := 178) rfl)) rfl
theorem t_660 : Cond.laysFinal RX8 "SnowBallsModel" "keptSize" "[I" ∈ TB := tb_in (t3_in (List.mem_of_getElem? (i := 180) rfl)) rfl
theorem t_662 : Cond.laysFinal RX8 "SnowBallsModel" "keptPlace" "[I" ∈ TB := tb_in (t3_in (List.mem_of_getElem? (i := 182) rfl)) rfl
theorem t_664 : Cond.laysFinal RX8 "SnowBallsModel" "keptOn" "[I" ∈ TB := tb_in (t3_in (List.mem_of_getElem? (i := 184) rfl)) rfl
theorem t_666 : Cond.laysFinal RX8 "SnowBallsModel" "keptSticks" "[I" ∈ TB := tb_in (t3_in (List.mem_of_getElem? (i := 186) rfl)) rfl
theorem t_668 : Cond.lays RX8 "SnowBallsModel" "h" "J" ∈ TB := tb_in (t3_in (List.mem_of_getElem? (i := 188) rfl)) rfl
theorem t_671 : Cond.arrayClass .byte ∈ TB := tb_in (t3_in (List.mem_of_getElem? (i := 191) rfl)) rfl
theorem t_672 : Cond.methodLink "SnowBallsLaw" 17 yX8_letter ∈ TB := tb_in (t3_in (List.mem_of_getElem? (i := 192) rfl)) rfl
theorem t_673 : Cond.instanceMethod yX8_letter ∈ TB := tb_in (t3_in (List.mem_of_getElem? (i := 193) rfl)) rfl
theorem t_674 : Cond.selects RX8 yX8_letter yX8_letter ∈ TB := tb_in (t3_in (List.mem_of_getElem? (i := 194) rfl)) rfl
theorem t_675 : Cond.code yX8_letter cX8_letter 2 (some .int) ∈ TB := tb_in (t3_in (List.mem_of_getElem? (i := 195) rfl)) rfl
theorem t_676 : Cond.methodLink RX8 66 yX8_within ∈ TB := tb_in (t3_in (List.mem_of_getElem? (i := 196) rfl)) rfl
theorem t_677 : Cond.static yX8_within ∈ TB := tb_in (t3_in (List.mem_of_getElem? (i := 197) rfl)) rfl
theorem t_678 : Cond.code yX8_within cX8_within 3 (some .boolean) ∈ TB := tb_in (t3_in (List.mem_of_getElem? (i := 198) rfl)) rfl
theorem t_679 : Cond.methodLink "SnowBallsLaw" 22 yX8_blank ∈ TB := tb_in (t3_in (List.mem_of_getElem? (i := 199) rfl)) rfl
theorem t_680 : Cond.instanceMethod yX8_blank ∈ TB := tb_in (t3_in (List.mem_of_getElem? (i := 200) rfl)) rfl
theorem t_681 : Cond.selects RX8 yX8_blank yX8_blank ∈ TB := tb_in (t3_in (List.mem_of_getElem? (i := 201) rfl)) rfl
theorem t_682 : Cond.code yX8_blank cX8_blank 2 (some .int) ∈ TB := tb_in (t3_in (List.mem_of_getElem? (i := 202) rfl)) rfl
theorem t_683 : Cond.methodLink "SnowBallsLaw" 26 yX8_fault ∈ TB := tb_in (t3_in (List.mem_of_getElem? (i := 203) rfl)) rfl
theorem t_684 : Cond.instanceMethod yX8_fault ∈ TB := tb_in (t3_in (List.mem_of_getElem? (i := 204) rfl)) rfl
theorem t_685 : Cond.selects RX8 yX8_fault yX8_fault ∈ TB := tb_in (t3_in (List.mem_of_getElem? (i := 205) rfl)) rfl
theorem t_686 : Cond.code yX8_fault cX8_fault 1 (some .int) ∈ TB := tb_in (t3_in (List.mem_of_getElem? (i := 206) rfl)) rfl
theorem t_687 : Cond.methodLink RX8 76 yX8_readLawn ∈ TB := tb_in (t3_in (List.mem_of_getElem? (i := 207) rfl)) rfl
theorem t_689 : Cond.instanceMethod yX8_readLawn ∈ TB := tb_in (t3_in (List.mem_of_getElem? (i := 209) rfl)) rfl
theorem t_690 : Cond.code yX8_readLawn cX8_readLawn 4 none ∈ TB := tb_in (t3_in (List.mem_of_getElem? (i := 210) rfl)) rfl
theorem t_691 : Cond.methodLink "SnowBallsLaw" 30 yX8_lawn ∈ TB := tb_in (t3_in (List.mem_of_getElem? (i := 211) rfl)) rfl
theorem t_692 : Cond.instanceMethod yX8_lawn ∈ TB := tb_in (t3_in (List.mem_of_getElem? (i := 212) rfl)) rfl
theorem t_693 : Cond.selects RX8 yX8_lawn yX8_lawn ∈ TB := tb_in (t3_in (List.mem_of_getElem? (i := 213) rfl)) rfl
theorem t_694 : Cond.code yX8_lawn cX8_lawn 2 (some .int) ∈ TB := tb_in (t3_in (List.mem_of_getElem? (i := 214) rfl)) rfl
theorem t_695 : Cond.methodLink RX8 95 yX8_depthAll ∈ TB := tb_in (t3_in (List.mem_of_getElem? (i := 215) rfl)) rfl
theorem t_697 : Cond.instanceMethod yX8_depthAll ∈ TB := tb_in (t3_in (List.mem_of_getElem? (i := 217) rfl)) rfl
theorem t_698 : Cond.code yX8_depthAll cX8_depthAll 3 (some .int) ∈ TB := tb_in (t3_in (List.mem_of_getElem? (i := 218) rfl)) rfl
theorem t_699 : Cond.methodLink "SnowBallsLaw" 35 yX8_place ∈ TB := tb_in (t3_in (List.mem_of_getElem? (i := 219) rfl)) rfl
theorem t_700 : Cond.instanceMethod yX8_place ∈ TB := tb_in (t3_in (List.mem_of_getElem? (i := 220) rfl)) rfl
theorem t_701 : Cond.selects RX8 yX8_place yX8_place ∈ TB := tb_in (t3_in (List.mem_of_getElem? (i := 221) rfl)) rfl
theorem t_702 : Cond.code yX8_place cX8_place 3 (some .int) ∈ TB := tb_in (t3_in (List.mem_of_getElem? (i := 222) rfl)) rfl
theorem t_703 : Cond.methodLink RX8 103 yX8_isPlace ∈ TB := tb_in (t3_in (List.mem_of_getElem? (i := 223) rfl)) rfl
theorem t_704 : Cond.static yX8_isPlace ∈ TB := tb_in (t3_in (List.mem_of_getElem? (i := 224) rfl)) rfl
theorem t_705 : Cond.code yX8_isPlace cX8_isPlace 1 (some .boolean) ∈ TB := tb_in (t3_in (List.mem_of_getElem? (i := 225) rfl)) rfl
theorem t_706 : Cond.methodLink RX8 107 yX8_standsOn ∈ TB := tb_in (t3_in (List.mem_of_getElem? (i := 226) rfl)) rfl
theorem t_708 : Cond.instanceMethod yX8_standsOn ∈ TB := tb_in (t3_in (List.mem_of_getElem? (i := 228) rfl)) rfl
theorem t_709 : Cond.code yX8_standsOn cX8_standsOn 4 (some .int) ∈ TB := tb_in (t3_in (List.mem_of_getElem? (i := 229) rfl)) rfl
theorem t_710 : Cond.methodLink RX8 110 yX8_heightOf ∈ TB := tb_in (t3_in (List.mem_of_getElem? (i := 230) rfl)) rfl
theorem t_712 : Cond.instanceMethod yX8_heightOf ∈ TB := tb_in (t3_in (List.mem_of_getElem? (i := 232) rfl)) rfl
theorem t_713 : Cond.code yX8_heightOf cX8_heightOf 4 (some .int) ∈ TB := tb_in (t3_in (List.mem_of_getElem? (i := 233) rfl)) rfl
theorem t_714 : Cond.methodLink RX8 99 yX8_root ∈ TB := tb_in (t3_in (List.mem_of_getElem? (i := 234) rfl)) rfl
theorem t_715 : Cond.static yX8_root ∈ TB := tb_in (t3_in (List.mem_of_getElem? (i := 235) rfl)) rfl
theorem t_716 : Cond.code yX8_root cX8_root 2 (some .int) ∈ TB := tb_in (t3_in (List.mem_of_getElem? (i := 236) rfl)) rfl
theorem t_717 : Cond.methodLink "SnowBallsLaw" 39 yX8_strength ∈ TB := tb_in (t3_in (List.mem_of_getElem? (i := 237) rfl)) rfl
theorem t_718 : Cond.instanceMethod yX8_strength ∈ TB := tb_in (t3_in (List.mem_of_getElem? (i := 238) rfl)) rfl
theorem t_719 : Cond.selects RX8 yX8_strength yX8_strength ∈ TB := tb_in (t3_in (List.mem_of_getElem? (i := 239) rfl)) rfl
theorem t_720 : Cond.code yX8_strength cX8_strength 3 (some .int) ∈ TB := tb_in (t4_in (List.mem_of_getElem? (i := 0) rfl)) rfl
theorem t_721 : Cond.methodLink "SnowBallsLaw" 43 yX8_ball ∈ TB := tb_in (t4_in (List.mem_of_getElem? (i := 1) rfl)) rfl
theorem t_722 : Cond.instanceMethod yX8_ball ∈ TB := tb_in (t4_in (List.mem_of_getElem? (i := 2) rfl)) rfl
theorem t_723 : Cond.selects RX8 yX8_ball yX8_ball ∈ TB := tb_in (t4_in (List.mem_of_getElem? (i := 3) rfl)) rfl
theorem t_724 : Cond.code yX8_ball cX8_ball 3 (some .int) ∈ TB := tb_in (t4_in (List.mem_of_getElem? (i := 4) rfl)) rfl
theorem t_725 : Cond.methodLink RX8 113 yX8_lay ∈ TB := tb_in (t4_in (List.mem_of_getElem? (i := 5) rfl)) rfl
theorem t_727 : Cond.instanceMethod yX8_lay ∈ TB := tb_in (t4_in (List.mem_of_getElem? (i := 7) rfl)) rfl
theorem t_728 : Cond.code yX8_lay cX8_lay 4 none ∈ TB := tb_in (t4_in (List.mem_of_getElem? (i := 8) rfl)) rfl
theorem t_729 : Cond.methodLink "SnowBallsLaw" 47 yX8_about ∈ TB := tb_in (t4_in (List.mem_of_getElem? (i := 9) rfl)) rfl
theorem t_730 : Cond.instanceMethod yX8_about ∈ TB := tb_in (t4_in (List.mem_of_getElem? (i := 10) rfl)) rfl
theorem t_731 : Cond.selects RX8 yX8_about yX8_about ∈ TB := tb_in (t4_in (List.mem_of_getElem? (i := 11) rfl)) rfl
theorem t_732 : Cond.code yX8_about cX8_about 3 (some .int) ∈ TB := tb_in (t4_in (List.mem_of_getElem? (i := 12) rfl)) rfl
theorem t_733 : Cond.methodLink RX8 123 yX8_isBall ∈ TB := tb_in (t4_in (List.mem_of_getElem? (i := 13) rfl)) rfl
theorem t_735 : Cond.instanceMethod yX8_isBall ∈ TB := tb_in (t4_in (List.mem_of_getElem? (i := 15) rfl)) rfl
theorem t_736 : Cond.code yX8_isBall cX8_isBall 2 (some .boolean) ∈ TB := tb_in (t4_in (List.mem_of_getElem? (i := 16) rfl)) rfl
theorem t_737 : Cond.methodLink RX8 126 yX8_ballNow ∈ TB := tb_in (t4_in (List.mem_of_getElem? (i := 17) rfl)) rfl
theorem t_739 : Cond.instanceMethod yX8_ballNow ∈ TB := tb_in (t4_in (List.mem_of_getElem? (i := 19) rfl)) rfl
theorem t_740 : Cond.code yX8_ballNow cX8_ballNow 3 (some .int) ∈ TB := tb_in (t4_in (List.mem_of_getElem? (i := 20) rfl)) rfl
theorem t_741 : Cond.methodLink RX8 117 yX8_weighs ∈ TB := tb_in (t4_in (List.mem_of_getElem? (i := 21) rfl)) rfl
theorem t_743 : Cond.instanceMethod yX8_weighs ∈ TB := tb_in (t4_in (List.mem_of_getElem? (i := 23) rfl)) rfl
theorem t_744 : Cond.code yX8_weighs cX8_weighs 2 (some .int) ∈ TB := tb_in (t4_in (List.mem_of_getElem? (i := 24) rfl)) rfl
theorem t_745 : Cond.methodLink RX8 120 yX8_breadth ∈ TB := tb_in (t4_in (List.mem_of_getElem? (i := 25) rfl)) rfl
theorem t_747 : Cond.instanceMethod yX8_breadth ∈ TB := tb_in (t4_in (List.mem_of_getElem? (i := 27) rfl)) rfl
theorem t_748 : Cond.code yX8_breadth cX8_breadth 2 (some .int) ∈ TB := tb_in (t4_in (List.mem_of_getElem? (i := 28) rfl)) rfl
theorem t_749 : Cond.methodLink "SnowBallsLaw" 51 yX8_as ∈ TB := tb_in (t4_in (List.mem_of_getElem? (i := 29) rfl)) rfl
theorem t_750 : Cond.instanceMethod yX8_as ∈ TB := tb_in (t4_in (List.mem_of_getElem? (i := 30) rfl)) rfl
theorem t_751 : Cond.selects RX8 yX8_as yX8_as ∈ TB := tb_in (t4_in (List.mem_of_getElem? (i := 31) rfl)) rfl
theorem t_752 : Cond.code yX8_as cX8_as 4 (some .int) ∈ TB := tb_in (t4_in (List.mem_of_getElem? (i := 32) rfl)) rfl
theorem t_753 : Cond.methodLink "SnowBallsLaw" 55 yX8_may ∈ TB := tb_in (t4_in (List.mem_of_getElem? (i := 33) rfl)) rfl
theorem t_754 : Cond.instanceMethod yX8_may ∈ TB := tb_in (t4_in (List.mem_of_getElem? (i := 34) rfl)) rfl
theorem t_755 : Cond.selects RX8 yX8_may yX8_may ∈ TB := tb_in (t4_in (List.mem_of_getElem? (i := 35) rfl)) rfl
theorem t_756 : Cond.code yX8_may cX8_may 3 (some .int) ∈ TB := tb_in (t4_in (List.mem_of_getElem? (i := 36) rfl)) rfl
theorem t_757 : Cond.methodLink RX8 139 yX8_mayRoll ∈ TB := tb_in (t4_in (List.mem_of_getElem? (i := 37) rfl)) rfl
theorem t_759 : Cond.instanceMethod yX8_mayRoll ∈ TB := tb_in (t4_in (List.mem_of_getElem? (i := 39) rfl)) rfl
theorem t_760 : Cond.code yX8_mayRoll cX8_mayRoll 5 (some .boolean) ∈ TB := tb_in (t4_in (List.mem_of_getElem? (i := 40) rfl)) rfl
theorem t_761 : Cond.methodLink RX8 133 yX8_isFree ∈ TB := tb_in (t4_in (List.mem_of_getElem? (i := 41) rfl)) rfl
theorem t_763 : Cond.instanceMethod yX8_isFree ∈ TB := tb_in (t4_in (List.mem_of_getElem? (i := 43) rfl)) rfl
theorem t_764 : Cond.code yX8_isFree cX8_isFree 2 (some .boolean) ∈ TB := tb_in (t4_in (List.mem_of_getElem? (i := 44) rfl)) rfl
theorem t_765 : Cond.methodLink RX8 130 yX8_above ∈ TB := tb_in (t4_in (List.mem_of_getElem? (i := 45) rfl)) rfl
theorem t_767 : Cond.instanceMethod yX8_above ∈ TB := tb_in (t4_in (List.mem_of_getElem? (i := 47) rfl)) rfl
theorem t_768 : Cond.code yX8_above cX8_above 4 (some .int) ∈ TB := tb_in (t4_in (List.mem_of_getElem? (i := 48) rfl)) rfl
theorem t_769 : Cond.methodLink RX8 136 yX8_beside ∈ TB := tb_in (t4_in (List.mem_of_getElem? (i := 49) rfl)) rfl
theorem t_770 : Cond.static yX8_beside ∈ TB := tb_in (t4_in (List.mem_of_getElem? (i := 50) rfl)) rfl
theorem t_771 : Cond.code yX8_beside cX8_beside 2 (some .int) ∈ TB := tb_in (t4_in (List.mem_of_getElem? (i := 51) rfl)) rfl
theorem t_772 : Cond.methodLink "SnowBallsLaw" 59 yX8_roll ∈ TB := tb_in (t4_in (List.mem_of_getElem? (i := 52) rfl)) rfl
theorem t_773 : Cond.instanceMethod yX8_roll ∈ TB := tb_in (t4_in (List.mem_of_getElem? (i := 53) rfl)) rfl
theorem t_774 : Cond.selects RX8 yX8_roll yX8_roll ∈ TB := tb_in (t4_in (List.mem_of_getElem? (i := 54) rfl)) rfl
theorem t_775 : Cond.code yX8_roll cX8_roll 3 (some .int) ∈ TB := tb_in (t4_in (List.mem_of_getElem? (i := 55) rfl)) rfl
theorem t_776 : Cond.methodLink RX8 143 yX8_doRoll ∈ TB := tb_in (t4_in (List.mem_of_getElem? (i := 56) rfl)) rfl
theorem t_778 : Cond.instanceMethod yX8_doRoll ∈ TB := tb_in (t4_in (List.mem_of_getElem? (i := 58) rfl)) rfl
theorem t_779 : Cond.code yX8_doRoll cX8_doRoll 7 none ∈ TB := tb_in (t4_in (List.mem_of_getElem? (i := 59) rfl)) rfl
theorem t_780 : Cond.methodLink "SnowBallsLaw" 63 yX8_lift ∈ TB := tb_in (t4_in (List.mem_of_getElem? (i := 60) rfl)) rfl
theorem t_781 : Cond.instanceMethod yX8_lift ∈ TB := tb_in (t4_in (List.mem_of_getElem? (i := 61) rfl)) rfl
theorem t_782 : Cond.selects RX8 yX8_lift yX8_lift ∈ TB := tb_in (t4_in (List.mem_of_getElem? (i := 62) rfl)) rfl
theorem t_783 : Cond.code yX8_lift cX8_lift 3 (some .int) ∈ TB := tb_in (t4_in (List.mem_of_getElem? (i := 63) rfl)) rfl
theorem t_784 : Cond.methodLink RX8 153 yX8_mayLift ∈ TB := tb_in (t4_in (List.mem_of_getElem? (i := 64) rfl)) rfl
theorem t_786 : Cond.instanceMethod yX8_mayLift ∈ TB := tb_in (t4_in (List.mem_of_getElem? (i := 66) rfl)) rfl
theorem t_787 : Cond.code yX8_mayLift cX8_mayLift 3 (some .boolean) ∈ TB := tb_in (t4_in (List.mem_of_getElem? (i := 67) rfl)) rfl
theorem t_788 : Cond.methodLink RX8 147 yX8_areBeside ∈ TB := tb_in (t4_in (List.mem_of_getElem? (i := 68) rfl)) rfl
theorem t_789 : Cond.static yX8_areBeside ∈ TB := tb_in (t4_in (List.mem_of_getElem? (i := 69) rfl)) rfl
theorem t_790 : Cond.code yX8_areBeside cX8_areBeside 4 (some .boolean) ∈ TB := tb_in (t4_in (List.mem_of_getElem? (i := 70) rfl)) rfl
theorem t_791 : Cond.methodLink RX8 150 yX8_standMany ∈ TB := tb_in (t4_in (List.mem_of_getElem? (i := 71) rfl)) rfl
theorem t_793 : Cond.instanceMethod yX8_standMany ∈ TB := tb_in (t4_in (List.mem_of_getElem? (i := 73) rfl)) rfl
theorem t_794 : Cond.code yX8_standMany cX8_standMany 4 (some .int) ∈ TB := tb_in (t4_in (List.mem_of_getElem? (i := 74) rfl)) rfl
theorem t_795 : Cond.methodLink "SnowBallsLaw" 67 yX8_day ∈ TB := tb_in (t4_in (List.mem_of_getElem? (i := 75) rfl)) rfl
theorem t_796 : Cond.instanceMethod yX8_day ∈ TB := tb_in (t4_in (List.mem_of_getElem? (i := 76) rfl)) rfl
theorem t_797 : Cond.selects RX8 yX8_day yX8_day ∈ TB := tb_in (t4_in (List.mem_of_getElem? (i := 77) rfl)) rfl
theorem t_798 : Cond.code yX8_day cX8_day 5 (some .int) ∈ TB := tb_in (t4_in (List.mem_of_getElem? (i := 78) rfl)) rfl
theorem t_799 : Cond.methodLink RX8 156 yX8_loss ∈ TB := tb_in (t4_in (List.mem_of_getElem? (i := 79) rfl)) rfl
theorem t_800 : Cond.static yX8_loss ∈ TB := tb_in (t4_in (List.mem_of_getElem? (i := 80) rfl)) rfl
theorem t_801 : Cond.code yX8_loss cX8_loss 2 (some .int) ∈ TB := tb_in (t4_in (List.mem_of_getElem? (i := 81) rfl)) rfl
theorem t_802 : Cond.methodLink RX8 159 yX8_goAway ∈ TB := tb_in (t4_in (List.mem_of_getElem? (i := 82) rfl)) rfl
theorem t_804 : Cond.instanceMethod yX8_goAway ∈ TB := tb_in (t4_in (List.mem_of_getElem? (i := 84) rfl)) rfl
theorem t_805 : Cond.code yX8_goAway cX8_goAway 4 none ∈ TB := tb_in (t4_in (List.mem_of_getElem? (i := 85) rfl)) rfl
theorem t_806 : Cond.methodLink "SnowBallsLaw" 72 yX8_largest ∈ TB := tb_in (t4_in (List.mem_of_getElem? (i := 86) rfl)) rfl
theorem t_807 : Cond.instanceMethod yX8_largest ∈ TB := tb_in (t4_in (List.mem_of_getElem? (i := 87) rfl)) rfl
theorem t_808 : Cond.selects RX8 yX8_largest yX8_largest ∈ TB := tb_in (t4_in (List.mem_of_getElem? (i := 88) rfl)) rfl
theorem t_809 : Cond.code yX8_largest cX8_largest 4 (some .int) ∈ TB := tb_in (t4_in (List.mem_of_getElem? (i := 89) rfl)) rfl
theorem t_810 : Cond.methodLink RX8 193 yX8_layLargest ∈ TB := tb_in (t4_in (List.mem_of_getElem? (i := 90) rfl)) rfl
theorem t_812 : Cond.instanceMethod yX8_layLargest ∈ TB := tb_in (t4_in (List.mem_of_getElem? (i := 92) rfl)) rfl
theorem t_813 : Cond.code yX8_layLargest cX8_layLargest 7 none ∈ TB := tb_in (t4_in (List.mem_of_getElem? (i := 93) rfl)) rfl
theorem t_814 : Cond.methodLink RX8 181 yX8_save ∈ TB := tb_in (t4_in (List.mem_of_getElem? (i := 94) rfl)) rfl
theorem t_816 : Cond.instanceMethod yX8_save ∈ TB := tb_in (t4_in (List.mem_of_getElem? (i := 96) rfl)) rfl
theorem t_817 : Cond.code yX8_save cX8_save 3 none ∈ TB := tb_in (t4_in (List.mem_of_getElem? (i := 97) rfl)) rfl
theorem t_818 : Cond.methodLink RX8 172 yX8_power ∈ TB := tb_in (t4_in (List.mem_of_getElem? (i := 98) rfl)) rfl
theorem t_819 : Cond.static yX8_power ∈ TB := tb_in (t4_in (List.mem_of_getElem? (i := 99) rfl)) rfl
theorem t_820 : Cond.code yX8_power cX8_power 3 (some .int) ∈ TB := tb_in (t4_in (List.mem_of_getElem? (i := 100) rfl)) rfl
theorem t_821 : Cond.methodLink RX8 184 yX8_rollsBy ∈ TB := tb_in (t4_in (List.mem_of_getElem? (i := 101) rfl)) rfl
theorem t_823 : Cond.instanceMethod yX8_rollsBy ∈ TB := tb_in (t4_in (List.mem_of_getElem? (i := 103) rfl)) rfl
theorem t_824 : Cond.code yX8_rollsBy cX8_rollsBy 8 (some .boolean) ∈ TB := tb_in (t4_in (List.mem_of_getElem? (i := 104) rfl)) rfl
theorem t_825 : Cond.methodLink RX8 187 yX8_back ∈ TB := tb_in (t4_in (List.mem_of_getElem? (i := 105) rfl)) rfl
theorem t_827 : Cond.instanceMethod yX8_back ∈ TB := tb_in (t4_in (List.mem_of_getElem? (i := 107) rfl)) rfl
theorem t_828 : Cond.code yX8_back cX8_back 3 none ∈ TB := tb_in (t4_in (List.mem_of_getElem? (i := 108) rfl)) rfl
theorem t_829 : Cond.methodLink "SnowBallsLaw" 76 yX8_comes ∈ TB := tb_in (t4_in (List.mem_of_getElem? (i := 109) rfl)) rfl
theorem t_830 : Cond.instanceMethod yX8_comes ∈ TB := tb_in (t4_in (List.mem_of_getElem? (i := 110) rfl)) rfl
theorem t_831 : Cond.selects RX8 yX8_comes yX8_comes ∈ TB := tb_in (t4_in (List.mem_of_getElem? (i := 111) rfl)) rfl
theorem t_832 : Cond.code yX8_comes cX8_comes 3 (some .int) ∈ TB := tb_in (t4_in (List.mem_of_getElem? (i := 112) rfl)) rfl
theorem t_833 : Cond.methodLink RX8 196 yX8_comesNow ∈ TB := tb_in (t4_in (List.mem_of_getElem? (i := 113) rfl)) rfl
theorem t_835 : Cond.instanceMethod yX8_comesNow ∈ TB := tb_in (t4_in (List.mem_of_getElem? (i := 115) rfl)) rfl
theorem t_836 : Cond.code yX8_comesNow cX8_comesNow 7 (some .int) ∈ TB := tb_in (t4_in (List.mem_of_getElem? (i := 116) rfl)) rfl
theorem t_837 : Cond.methodLink "SnowBallsLaw" 80 yX8_highest ∈ TB := tb_in (t4_in (List.mem_of_getElem? (i := 117) rfl)) rfl
theorem t_838 : Cond.instanceMethod yX8_highest ∈ TB := tb_in (t4_in (List.mem_of_getElem? (i := 118) rfl)) rfl
theorem t_839 : Cond.selects RX8 yX8_highest yX8_highest ∈ TB := tb_in (t4_in (List.mem_of_getElem? (i := 119) rfl)) rfl
theorem t_840 : Cond.code yX8_highest cX8_highest 2 (some .int) ∈ TB := tb_in (t4_in (List.mem_of_getElem? (i := 120) rfl)) rfl
theorem t_841 : Cond.methodLink RX8 202 yX8_highestNow ∈ TB := tb_in (t4_in (List.mem_of_getElem? (i := 121) rfl)) rfl
theorem t_843 : Cond.instanceMethod yX8_highestNow ∈ TB := tb_in (t4_in (List.mem_of_getElem? (i := 123) rfl)) rfl
theorem t_844 : Cond.code yX8_highestNow cX8_highestNow 10 (some .int) ∈ TB := tb_in (t4_in (List.mem_of_getElem? (i := 124) rfl)) rfl
theorem t_845 : Cond.methodLink RX8 199 yX8_mayStand ∈ TB := tb_in (t4_in (List.mem_of_getElem? (i := 125) rfl)) rfl
theorem t_847 : Cond.instanceMethod yX8_mayStand ∈ TB := tb_in (t4_in (List.mem_of_getElem? (i := 127) rfl)) rfl
theorem t_848 : Cond.code yX8_mayStand cX8_mayStand 6 (some .boolean) ∈ TB := tb_in (t4_in (List.mem_of_getElem? (i := 128) rfl)) rfl
theorem t_849 : Cond.methodLink "SnowBallsLaw" 84 yX8_lasts ∈ TB := tb_in (t4_in (List.mem_of_getElem? (i := 129) rfl)) rfl
theorem t_850 : Cond.instanceMethod yX8_lasts ∈ TB := tb_in (t4_in (List.mem_of_getElem? (i := 130) rfl)) rfl
theorem t_851 : Cond.selects RX8 yX8_lasts yX8_lasts ∈ TB := tb_in (t4_in (List.mem_of_getElem? (i := 131) rfl)) rfl
theorem t_852 : Cond.code yX8_lasts cX8_lasts 2 (some .int) ∈ TB := tb_in (t4_in (List.mem_of_getElem? (i := 132) rfl)) rfl
theorem t_853 : Cond.methodLink RX8 205 yX8_lastsNow ∈ TB := tb_in (t4_in (List.mem_of_getElem? (i := 133) rfl)) rfl
theorem t_855 : Cond.instanceMethod yX8_lastsNow ∈ TB := tb_in (t4_in (List.mem_of_getElem? (i := 135) rfl)) rfl
theorem t_856 : Cond.code yX8_lastsNow cX8_lastsNow 6 (some .int) ∈ TB := tb_in (t4_in (List.mem_of_getElem? (i := 136) rfl)) rfl
theorem t_857 : Cond.methodLink "SnowBallsLaw" 89 yX8_book ∈ TB := tb_in (t4_in (List.mem_of_getElem? (i := 137) rfl)) rfl
theorem t_858 : Cond.instanceMethod yX8_book ∈ TB := tb_in (t4_in (List.mem_of_getElem? (i := 138) rfl)) rfl
theorem t_859 : Cond.selects RX8 yX8_book yX8_book ∈ TB := tb_in (t4_in (List.mem_of_getElem? (i := 139) rfl)) rfl
theorem t_860 : Cond.code yX8_book cX8_book 5 (some .int) ∈ TB := tb_in (t4_in (List.mem_of_getElem? (i := 140) rfl)) rfl
theorem t_861 : Cond.methodLink RX8 211 yX8_bookNow ∈ TB := tb_in (t4_in (List.mem_of_getElem? (i := 141) rfl)) rfl
theorem t_863 : Cond.instanceMethod yX8_bookNow ∈ TB := tb_in (t4_in (List.mem_of_getElem? (i := 143) rfl)) rfl
theorem t_864 : Cond.code yX8_bookNow cX8_bookNow 8 (some .int) ∈ TB := tb_in (t4_in (List.mem_of_getElem? (i := 144) rfl)) rfl
theorem t_865 : Cond.methodLink "SnowBallsLaw" 93 yX8_games ∈ TB := tb_in (t4_in (List.mem_of_getElem? (i := 145) rfl)) rfl
theorem t_866 : Cond.instanceMethod yX8_games ∈ TB := tb_in (t4_in (List.mem_of_getElem? (i := 146) rfl)) rfl
theorem t_867 : Cond.selects RX8 yX8_games yX8_games ∈ TB := tb_in (t4_in (List.mem_of_getElem? (i := 147) rfl)) rfl
theorem t_868 : Cond.code yX8_games cX8_games 4 (some .int) ∈ TB := tb_in (t4_in (List.mem_of_getElem? (i := 148) rfl)) rfl
theorem t_869 : Cond.methodLink RX8 233 yX8_gamesNow ∈ TB := tb_in (t4_in (List.mem_of_getElem? (i := 149) rfl)) rfl
theorem t_871 : Cond.instanceMethod yX8_gamesNow ∈ TB := tb_in (t4_in (List.mem_of_getElem? (i := 151) rfl)) rfl
theorem t_872 : Cond.code yX8_gamesNow cX8_gamesNow 8 (some .int) ∈ TB := tb_in (t4_in (List.mem_of_getElem? (i := 152) rfl)) rfl
theorem t_873 : Cond.methodLink RX8 227 yX8_draw ∈ TB := tb_in (t4_in (List.mem_of_getElem? (i := 153) rfl)) rfl
theorem t_875 : Cond.instanceMethod yX8_draw ∈ TB := tb_in (t4_in (List.mem_of_getElem? (i := 155) rfl)) rfl
theorem t_876 : Cond.code yX8_draw cX8_draw 2 (some .int) ∈ TB := tb_in (t4_in (List.mem_of_getElem? (i := 156) rfl)) rfl
theorem t_877 : Cond.constantLong RX8 215 (1103515245) ∈ TB := tb_in (t4_in (List.mem_of_getElem? (i := 157) rfl)) rfl
theorem t_878 : Cond.constantLong RX8 221 (12345) ∈ TB := tb_in (t4_in (List.mem_of_getElem? (i := 158) rfl)) rfl
theorem t_879 : Cond.constantLong RX8 223 (2147483647) ∈ TB := tb_in (t4_in (List.mem_of_getElem? (i := 159) rfl)) rfl
theorem t_880 : Cond.constantLong RX8 225 (65536) ∈ TB := tb_in (t4_in (List.mem_of_getElem? (i := 160) rfl)) rfl
theorem t_881 : Cond.methodLink RX8 230 yX8_sizeAll ∈ TB := tb_in (t4_in (List.mem_of_getElem? (i := 161) rfl)) rfl
theorem t_883 : Cond.instanceMethod yX8_sizeAll ∈ TB := tb_in (t4_in (List.mem_of_getElem? (i := 163) rfl)) rfl
theorem t_884 : Cond.code yX8_sizeAll cX8_sizeAll 3 (some .int) ∈ TB := tb_in (t4_in (List.mem_of_getElem? (i := 164) rfl)) rfl
theorem t_885 : Cond.methodLink "SnowBallsLaw" 97 yX8_image ∈ TB := tb_in (t4_in (List.mem_of_getElem? (i := 165) rfl)) rfl
theorem t_886 : Cond.instanceMethod yX8_image ∈ TB := tb_in (t4_in (List.mem_of_getElem? (i := 166) rfl)) rfl
theorem t_887 : Cond.selects RX8 yX8_image yX8_image ∈ TB := tb_in (t4_in (List.mem_of_getElem? (i := 167) rfl)) rfl
theorem t_888 : Cond.code yX8_image cX8_image 2 (some .int) ∈ TB := tb_in (t4_in (List.mem_of_getElem? (i := 168) rfl)) rfl
theorem t_889 : Cond.methodLink "SnowBallsLaw" 101 yX8_restore ∈ TB := tb_in (t4_in (List.mem_of_getElem? (i := 169) rfl)) rfl
theorem t_890 : Cond.instanceMethod yX8_restore ∈ TB := tb_in (t4_in (List.mem_of_getElem? (i := 170) rfl)) rfl
theorem t_891 : Cond.selects RX8 yX8_restore yX8_restore ∈ TB := tb_in (t4_in (List.mem_of_getElem? (i := 171) rfl)) rfl
theorem t_892 : Cond.code yX8_restore cX8_restore 2 (some .int) ∈ TB := tb_in (t4_in (List.mem_of_getElem? (i := 172) rfl)) rfl
theorem t_893 : Cond.methodLink "SnowBallsLaw" 105 yX8_count ∈ TB := tb_in (t4_in (List.mem_of_getElem? (i := 173) rfl)) rfl
theorem t_894 : Cond.instanceMethod yX8_count ∈ TB := tb_in (t4_in (List.mem_of_getElem? (i := 174) rfl)) rfl
theorem t_895 : Cond.selects RX8 yX8_count yX8_count ∈ TB := tb_in (t4_in (List.mem_of_getElem? (i := 175) rfl)) rfl
theorem t_896 : Cond.code yX8_count cX8_count 2 (some .int) ∈ TB := tb_in (t4_in (List.mem_of_getElem? (i := 176) rfl)) rfl
theorem t_897 : Cond.methodLink RX8 258 yX8_howMany ∈ TB := tb_in (t4_in (List.mem_of_getElem? (i := 177) rfl)) rfl
theorem t_899 : Cond.instanceMethod yX8_howMany ∈ TB := tb_in (t4_in (List.mem_of_getElem? (i := 179) rfl)) rfl
theorem t_900 : Cond.code yX8_howMany cX8_howMany 2 (some .int) ∈ TB := tb_in (t4_in (List.mem_of_getElem? (i := 180) rfl)) rfl
theorem t_901 : Cond.methodLink RX8 252 yX8_goneMany ∈ TB := tb_in (t4_in (List.mem_of_getElem? (i := 181) rfl)) rfl
theorem t_903 : Cond.instanceMethod yX8_goneMany ∈ TB := tb_in (t4_in (List.mem_of_getElem? (i := 183) rfl)) rfl
theorem t_904 : Cond.code yX8_goneMany cX8_goneMany 3 (some .int) ∈ TB := tb_in (t4_in (List.mem_of_getElem? (i := 184) rfl)) rfl
theorem t_905 : Cond.methodLink RX8 255 yX8_greenMany ∈ TB := tb_in (t4_in (List.mem_of_getElem? (i := 185) rfl)) rfl
theorem t_907 : Cond.instanceMethod yX8_greenMany ∈ TB := tb_in (t4_in (List.mem_of_getElem? (i := 187) rfl)) rfl
theorem t_908 : Cond.code yX8_greenMany cX8_greenMany 3 (some .int) ∈ TB := tb_in (t4_in (List.mem_of_getElem? (i := 188) rfl)) rfl
theorem t_909 : Cond.methodLink "SnowBallsLaw" 110 yX8_digest ∈ TB := tb_in (t4_in (List.mem_of_getElem? (i := 189) rfl)) rfl
theorem t_910 : Cond.instanceMethod yX8_digest ∈ TB := tb_in (t4_in (List.mem_of_getElem? (i := 190) rfl)) rfl
theorem t_911 : Cond.selects RX8 yX8_digest yX8_digest ∈ TB := tb_in (t4_in (List.mem_of_getElem? (i := 191) rfl)) rfl
theorem t_912 : Cond.code yX8_digest cX8_digest 3 (some .long) ∈ TB := tb_in (t4_in (List.mem_of_getElem? (i := 192) rfl)) rfl
theorem t_913 : Cond.constantLong RX8 266 (727) ∈ TB := tb_in (t4_in (List.mem_of_getElem? (i := 193) rfl)) rfl
theorem t_914 : Cond.methodLink RX8 268 yX8_mix ∈ TB := tb_in (t4_in (List.mem_of_getElem? (i := 194) rfl)) rfl
theorem t_916 : Cond.instanceMethod yX8_mix ∈ TB := tb_in (t4_in (List.mem_of_getElem? (i := 196) rfl)) rfl
theorem t_917 : Cond.code yX8_mix cX8_mix 3 none ∈ TB := tb_in (t4_in (List.mem_of_getElem? (i := 197) rfl)) rfl
theorem t_918 : Cond.constantLong RX8 261 (31) ∈ TB := tb_in (t4_in (List.mem_of_getElem? (i := 198) rfl)) rfl
theorem t_919 : Cond.fieldLink RX7 134 "SnowBalls$Kind" "number" "I" ∈ TB := tb_in (t4_in (List.mem_of_getElem? (i := 199) rfl)) rfl
theorem t_920 : Cond.fieldLink RX2 42 "SnowBalls$Kind" "weightTimes" "I" ∈ TB := tb_in (t4_in (List.mem_of_getElem? (i := 200) rfl)) rfl
theorem t_921 : Cond.fieldLink RX2 45 "SnowBalls$Kind" "moreBreadth" "I" ∈ TB := tb_in (t4_in (List.mem_of_getElem? (i := 201) rfl)) rfl
theorem t_922 : Cond.fieldLink RX2 48 "SnowBalls$Kind" "takesAllFrom" "I" ∈ TB := tb_in (t4_in (List.mem_of_getElem? (i := 202) rfl)) rfl
theorem t_923 : Cond.fieldLink RX2 51 "SnowBalls$Kind" "meltTimes" "I" ∈ TB := tb_in (t4_in (List.mem_of_getElem? (i := 203) rfl)) rfl
theorem t_924 : Cond.fieldLink RX2 54 "SnowBalls$Kind" "moreMelt" "I" ∈ TB := tb_in (t4_in (List.mem_of_getElem? (i := 204) rfl)) rfl
theorem ts_0 : Cond.selects RX7 yX7_hasLawn yX7_hasLawn ∈ TB := tb_in (s_in (List.mem_of_getElem? (i := 0) rfl)) rfl
theorem ts_1 : Cond.selects RX7 yX7_isBall yX7_isBall ∈ TB := tb_in (s_in (List.mem_of_getElem? (i := 1) rfl)) rfl
theorem ts_2 : Cond.selects RX4 yX4_lower yX4_lower ∈ TB := tb_in (s_in (List.mem_of_getElem? (i := 2) rfl)) rfl
theorem ts_3 : Cond.selects RX7 yX7_maySearch yX7_maySearch ∈ TB := tb_in (s_in (List.mem_of_getElem? (i := 3) rfl)) rfl
theorem ts_4 : Cond.selects RX4 yX4_couldStack yX4_couldStack ∈ TB := tb_in (s_in (List.mem_of_getElem? (i := 4) rfl)) rfl
theorem ts_5 : Cond.selects RX4 yX4_couldJoin yX4_couldJoin ∈ TB := tb_in (s_in (List.mem_of_getElem? (i := 5) rfl)) rfl
theorem ts_6 : Cond.selects RX7 yX7_digestOfPlaces yX7_digestOfPlaces ∈ TB := tb_in (s_in (List.mem_of_getElem? (i := 6) rfl)) rfl
theorem ts_7 : Cond.selects RX7 yX7_digestOfBalls yX7_digestOfBalls ∈ TB := tb_in (s_in (List.mem_of_getElem? (i := 7) rfl)) rfl
theorem ts_8 : Cond.selects RX8 yX8_readLawn yX8_readLawn ∈ TB := tb_in (s_in (List.mem_of_getElem? (i := 8) rfl)) rfl
theorem ts_9 : Cond.selects RX8 yX8_depthAll yX8_depthAll ∈ TB := tb_in (s_in (List.mem_of_getElem? (i := 9) rfl)) rfl
theorem ts_10 : Cond.selects RX8 yX8_standsOn yX8_standsOn ∈ TB := tb_in (s_in (List.mem_of_getElem? (i := 10) rfl)) rfl
theorem ts_11 : Cond.selects RX8 yX8_heightOf yX8_heightOf ∈ TB := tb_in (s_in (List.mem_of_getElem? (i := 11) rfl)) rfl
theorem ts_12 : Cond.selects RX8 yX8_lay yX8_lay ∈ TB := tb_in (s_in (List.mem_of_getElem? (i := 12) rfl)) rfl
theorem ts_13 : Cond.selects RX8 yX8_isBall yX8_isBall ∈ TB := tb_in (s_in (List.mem_of_getElem? (i := 13) rfl)) rfl
theorem ts_14 : Cond.selects RX8 yX8_ballNow yX8_ballNow ∈ TB := tb_in (s_in (List.mem_of_getElem? (i := 14) rfl)) rfl
theorem ts_15 : Cond.selects RX8 yX8_weighs yX8_weighs ∈ TB := tb_in (s_in (List.mem_of_getElem? (i := 15) rfl)) rfl
theorem ts_16 : Cond.selects RX8 yX8_breadth yX8_breadth ∈ TB := tb_in (s_in (List.mem_of_getElem? (i := 16) rfl)) rfl
theorem ts_17 : Cond.selects RX8 yX8_mayRoll yX8_mayRoll ∈ TB := tb_in (s_in (List.mem_of_getElem? (i := 17) rfl)) rfl
theorem ts_18 : Cond.selects RX8 yX8_isFree yX8_isFree ∈ TB := tb_in (s_in (List.mem_of_getElem? (i := 18) rfl)) rfl
theorem ts_19 : Cond.selects RX8 yX8_above yX8_above ∈ TB := tb_in (s_in (List.mem_of_getElem? (i := 19) rfl)) rfl
theorem ts_20 : Cond.selects RX8 yX8_doRoll yX8_doRoll ∈ TB := tb_in (s_in (List.mem_of_getElem? (i := 20) rfl)) rfl
theorem ts_21 : Cond.selects RX8 yX8_mayLift yX8_mayLift ∈ TB := tb_in (s_in (List.mem_of_getElem? (i := 21) rfl)) rfl
theorem ts_22 : Cond.selects RX8 yX8_standMany yX8_standMany ∈ TB := tb_in (s_in (List.mem_of_getElem? (i := 22) rfl)) rfl
theorem ts_23 : Cond.selects RX8 yX8_goAway yX8_goAway ∈ TB := tb_in (s_in (List.mem_of_getElem? (i := 23) rfl)) rfl
theorem ts_24 : Cond.selects RX8 yX8_layLargest yX8_layLargest ∈ TB := tb_in (s_in (List.mem_of_getElem? (i := 24) rfl)) rfl
theorem ts_25 : Cond.selects RX8 yX8_save yX8_save ∈ TB := tb_in (s_in (List.mem_of_getElem? (i := 25) rfl)) rfl
theorem ts_26 : Cond.selects RX8 yX8_rollsBy yX8_rollsBy ∈ TB := tb_in (s_in (List.mem_of_getElem? (i := 26) rfl)) rfl
theorem ts_27 : Cond.selects RX8 yX8_back yX8_back ∈ TB := tb_in (s_in (List.mem_of_getElem? (i := 27) rfl)) rfl
theorem ts_28 : Cond.selects RX8 yX8_comesNow yX8_comesNow ∈ TB := tb_in (s_in (List.mem_of_getElem? (i := 28) rfl)) rfl
theorem ts_29 : Cond.selects RX8 yX8_highestNow yX8_highestNow ∈ TB := tb_in (s_in (List.mem_of_getElem? (i := 29) rfl)) rfl
theorem ts_30 : Cond.selects RX8 yX8_mayStand yX8_mayStand ∈ TB := tb_in (s_in (List.mem_of_getElem? (i := 30) rfl)) rfl
theorem ts_31 : Cond.selects RX8 yX8_lastsNow yX8_lastsNow ∈ TB := tb_in (s_in (List.mem_of_getElem? (i := 31) rfl)) rfl
theorem ts_32 : Cond.selects RX8 yX8_bookNow yX8_bookNow ∈ TB := tb_in (s_in (List.mem_of_getElem? (i := 32) rfl)) rfl
theorem ts_33 : Cond.selects RX8 yX8_gamesNow yX8_gamesNow ∈ TB := tb_in (s_in (List.mem_of_getElem? (i := 33) rfl)) rfl
theorem ts_34 : Cond.selects RX8 yX8_draw yX8_draw ∈ TB := tb_in (s_in (List.mem_of_getElem? (i := 34) rfl)) rfl
theorem ts_35 : Cond.selects RX8 yX8_sizeAll yX8_sizeAll ∈ TB := tb_in (s_in (List.mem_of_getElem? (i := 35) rfl)) rfl
theorem ts_36 : Cond.selects RX8 yX8_howMany yX8_howMany ∈ TB := tb_in (s_in (List.mem_of_getElem? (i := 36) rfl)) rfl
theorem ts_37 : Cond.selects RX8 yX8_goneMany yX8_goneMany ∈ TB := tb_in (s_in (List.mem_of_getElem? (i := 37) rfl)) rfl
theorem ts_38 : Cond.selects RX8 yX8_greenMany yX8_greenMany ∈ TB := tb_in (s_in (List.mem_of_getElem? (i := 38) rfl)) rfl
theorem ts_39 : Cond.selects RX8 yX8_mix yX8_mix ∈ TB := tb_in (s_in (List.mem_of_getElem? (i := 39) rfl)) rfl
theorem inT0 : ∀ w ∈ u_ws RX0 TX0 2, w ∈ TB := by
  show ∀ w ∈ (List.range 2).map (u_lay RX0 TX0), w ∈ TB
  rw [show List.range 2 = [0, 1] from rfl]
  exact List.forall_mem_cons.mpr ⟨t_122, List.forall_mem_cons.mpr ⟨t_124, fun _ h => absurd h List.not_mem_nil⟩⟩
theorem inT1 : ∀ w ∈ u_ws RX1 TX1 5, w ∈ TB := by
  show ∀ w ∈ (List.range 5).map (u_lay RX1 TX1), w ∈ TB
  rw [show List.range 5 = [0, 1, 2, 3, 4] from rfl]
  exact List.forall_mem_cons.mpr ⟨t_54, List.forall_mem_cons.mpr ⟨t_56, List.forall_mem_cons.mpr ⟨t_58, List.forall_mem_cons.mpr ⟨t_60, List.forall_mem_cons.mpr ⟨t_62, fun _ h => absurd h List.not_mem_nil⟩⟩⟩⟩⟩
theorem inT3 : ∀ w ∈ u_ws RX3 TX3 3, w ∈ TB := by
  show ∀ w ∈ (List.range 3).map (u_lay RX3 TX3), w ∈ TB
  rw [show List.range 3 = [0, 1, 2] from rfl]
  exact List.forall_mem_cons.mpr ⟨t_106, List.forall_mem_cons.mpr ⟨t_108, List.forall_mem_cons.mpr ⟨t_110, fun _ h => absurd h List.not_mem_nil⟩⟩⟩
theorem inT4 : ∀ w ∈ u_ws RX4 TX4 6, w ∈ TB := by
  show ∀ w ∈ (List.range 6).map (u_lay RX4 TX4), w ∈ TB
  rw [show List.range 6 = [0, 1, 2, 3, 4, 5] from rfl]
  exact List.forall_mem_cons.mpr ⟨t_79, List.forall_mem_cons.mpr ⟨t_81, List.forall_mem_cons.mpr ⟨t_83, List.forall_mem_cons.mpr ⟨t_85, List.forall_mem_cons.mpr ⟨t_87, List.forall_mem_cons.mpr ⟨t_89, fun _ h => absurd h List.not_mem_nil⟩⟩⟩⟩⟩⟩
theorem inT6 : ∀ w ∈ u_ws RX6 TX6 3, w ∈ TB := by
  show ∀ w ∈ (List.range 3).map (u_lay RX6 TX6), w ∈ TB
  rw [show List.range 3 = [0, 1, 2] from rfl]
  exact List.forall_mem_cons.mpr ⟨t_137, List.forall_mem_cons.mpr ⟨t_139, List.forall_mem_cons.mpr ⟨t_141, fun _ h => absurd h List.not_mem_nil⟩⟩⟩
theorem inT7 : ∀ w ∈ u_ws RX7 TX7 12, w ∈ TB := by
  show ∀ w ∈ (List.range 12).map (u_lay RX7 TX7), w ∈ TB
  rw [show List.range 12 = [0, 1, 2, 3, 4, 5, 6, 7, 8, 9, 10, 11] from rfl]
  exact List.forall_mem_cons.mpr ⟨t_156, List.forall_mem_cons.mpr ⟨t_158, List.forall_mem_cons.mpr ⟨t_160, List.forall_mem_cons.mpr ⟨t_162, List.forall_mem_cons.mpr ⟨t_164, List.forall_mem_cons.mpr ⟨t_166, List.forall_mem_cons.mpr ⟨t_168, List.forall_mem_cons.mpr ⟨t_170, List.forall_mem_cons.mpr ⟨t_172, List.forall_mem_cons.mpr ⟨t_174, List.forall_mem_cons.mpr ⟨t_176, List.forall_mem_cons.mpr ⟨t_178, fun _ h => absurd h List.not_mem_nil⟩⟩⟩⟩⟩⟩⟩⟩⟩⟩⟩⟩
theorem inT8 : ∀ w ∈ u_ws RX8 TX8 39, w ∈ TB := by
  show ∀ w ∈ (List.range 39).map (u_lay RX8 TX8), w ∈ TB
  rw [show List.range 39 = [0, 1, 2, 3, 4, 5, 6, 7, 8, 9, 10, 11, 12, 13, 14, 15, 16, 17, 18, 19, 20, 21, 22, 23, 24, 25, 26, 27, 28, 29, 30, 31, 32, 33, 34, 35, 36, 37, 38] from rfl]
  exact List.forall_mem_cons.mpr ⟨t_592, List.forall_mem_cons.mpr ⟨t_594, List.forall_mem_cons.mpr ⟨t_596, List.forall_mem_cons.mpr ⟨t_598, List.forall_mem_cons.mpr ⟨t_600, List.forall_mem_cons.mpr ⟨t_602, List.forall_mem_cons.mpr ⟨t_604, List.forall_mem_cons.mpr ⟨t_606, List.forall_mem_cons.mpr ⟨t_608, List.forall_mem_cons.mpr ⟨t_610, List.forall_mem_cons.mpr ⟨t_612, List.forall_mem_cons.mpr ⟨t_614, List.forall_mem_cons.mpr ⟨t_616, List.forall_mem_cons.mpr ⟨t_618, List.forall_mem_cons.mpr ⟨t_620, List.forall_mem_cons.mpr ⟨t_622, List.forall_mem_cons.mpr ⟨t_624, List.forall_mem_cons.mpr ⟨t_626, List.forall_mem_cons.mpr ⟨t_628, List.forall_mem_cons.mpr ⟨t_630, List.forall_mem_cons.mpr ⟨t_632, List.forall_mem_cons.mpr ⟨t_634, List.forall_mem_cons.mpr ⟨t_636, List.forall_mem_cons.mpr ⟨t_638, List.forall_mem_cons.mpr ⟨t_640, List.forall_mem_cons.mpr ⟨t_642, List.forall_mem_cons.mpr ⟨t_644, List.forall_mem_cons.mpr ⟨t_646, List.forall_mem_cons.mpr ⟨t_648, List.forall_mem_cons.mpr ⟨t_650, List.forall_mem_cons.mpr ⟨t_652, List.forall_mem_cons.mpr ⟨t_654, List.forall_mem_cons.mpr ⟨t_656, List.forall_mem_cons.mpr ⟨t_658, List.forall_mem_cons.mpr ⟨t_660, List.forall_mem_cons.mpr ⟨t_662, List.forall_mem_cons.mpr ⟨t_664, List.forall_mem_cons.mpr ⟨t_666, List.forall_mem_cons.mpr ⟨t_668, fun _ h => absurd h List.not_mem_nil⟩⟩⟩⟩⟩⟩⟩⟩⟩⟩⟩⟩⟩⟩⟩⟩⟩⟩⟩⟩⟩⟩⟩⟩⟩⟩⟩⟩⟩⟩⟩⟩⟩⟩⟩⟩⟩⟩⟩
end
section
/-- a contract's end: the answer, the world behind it, the frame -/
def CQ (D : va_G) (w' : va_W) (out : Option Value) (A : Nat → Prop) : Array Value → State → Outcome → State → Prop := fun _ st oc t => oc = .returned out ∧ (va_P D vwCl w' t.heap ∧ va_D A w') ∧ va_F A st t
def CP (D : va_G) (tys : List (ClassId × FieldType)) (kc : Nat → Nat) (kt : Nat) (w : va_W) (sz : Nat) (U : State) : Prop := U.heap.size = sz ∧ va_P D vwCl w U.heap ∧ va_K D vwCl tys U ∧ va_D (fun _ => True) w ∧ gE kc kt (va_A w sz) U U.heap
/-- a contract of a method that makes nothing: from the world w to the world w', with the answer out -/
def CT (l : Launch) (D : va_G) (tys : List (ClassId × FieldType)) (kc : Nat → Nat) (kt : Nat) (y : MethodName) (bytes : ByteArray) (maxL : Nat) (ret : Option FieldType) (rm : Room) (av : List Value) (w w' : va_W) (out : Option Value) : Prop :=
  ∀ sz : Nat, Met l y (Cond.code y bytes maxL ret :: TB) rm (va_Pc av (CP D tys kc kt w sz)) (CQ D w' out (va_A w sz)) 0 0 (va_A w sz)
theorem CP.blind {D : va_G} {tys : List (ClassId × FieldType)} {kc : Nat → Nat} {kt : Nat} {w : va_W} {sz : Nat} {av : List Value} : FrameBlind (va_Pc av (CP D tys kc kt w sz)) := fun a U g mk q => by
  obtain ⟨q0, q1, qP, qK, qD, qE⟩ := q
  exact ⟨q0, q1, qP, va_K.moved (u := U) (U := U.calling g mk a) (Vm.Alike.refl U.vm) qK, qD, gE.moved (u := U) (U := U.calling g mk a) (Vm.Alike.refl U.vm) qE⟩
theorem sub_P {D : va_G} {ws ws' : va_W} {H : Heap} (h : va_P D vwCl ws H) (is : List Nat) (hs : is.map (fun i => ws[i]?) = ws'.map some) : va_P D vwCl ws' H := by
  intro k q hk
  have h1 : (is.map (fun i => ws[i]?))[k]? = some (some q) := by rw [hs, List.getElem?_map, hk]; rfl
  rw [List.getElem?_map] at h1
  cases hi : is[k]? with
  | none => rw [hi] at h1; cases h1
  | some i => rw [hi] at h1; exact h i q (Option.some.inj h1)
theorem rest_map (w : va_W) : ∀ (is : List Nat), is.all (fun i => decide (i < w.length)) = true → is.map (fun i => w[i]?) = (is.filterMap (fun i => w[i]?)).map some
  | [], _ => rfl
  | i :: is, h => by
    simp only [List.all_cons, Bool.and_eq_true, decide_eq_true_eq] at h
    have hi : w[i]? = some w[i] := List.getElem?_eq_getElem h.1
    rw [List.filterMap_cons_some hi, List.map_cons, List.map_cons, rest_map w is h.2, hi]
theorem good_V {own C : String} {index maxL : Nat} {y : MethodName} {bytes : ByteArray} {ret : Option FieldType} (c1 : Cond.methodLink own index y ∈ TB) (c2 : Cond.instanceMethod y ∈ TB) (c3 : Cond.selects C y y ∈ TB) (c4 : Cond.initialized C ∈ TB) (c5 : Cond.code y bytes maxL ret ∈ TB) : GoodIn TB (wsV own index C y (Cond.code y bytes maxL ret :: TB)) := by
  intro w hw
  rcases List.mem_append.mp hw with h | h
  · simp only [List.mem_cons, List.not_mem_nil, or_false] at h
    rcases h with rfl | rfl | rfl | rfl
    · exact tb_good _ c1
    · exact tb_good _ c2
    · exact tb_good _ c3
    · exact tb_good _ c4
  · exact tb_cons c5 w h
theorem good_S {own : String} {index maxL : Nat} {y : MethodName} {bytes : ByteArray} {ret : Option FieldType} (c1 : Cond.methodLink own index y ∈ TB) (c2 : Cond.static y ∈ TB) (c4 : Cond.initialized y.cls ∈ TB) (c5 : Cond.code y bytes maxL ret ∈ TB) : GoodIn TB (va_wsS own index y (Cond.code y bytes maxL ret :: TB)) := by
  intro w hw
  rcases List.mem_append.mp hw with h | h
  · simp only [List.mem_cons, List.not_mem_nil, or_false] at h
    rcases h with rfl | rfl | rfl
    · exact tb_good _ c1
    · exact tb_good _ c2
    · exact tb_good _ c4
  · exact tb_cons c5 w h
theorem good_U {own C owner : String} {index maxL : Nat} {x y : MethodName} {bytes : ByteArray} {ret : Option FieldType} (c1 : Cond.methodLink own index x ∈ TB) (c6 : Cond.sameMethod x.cls owner x.name x.desc ∈ TB) (c2 : Cond.instanceMethod y ∈ TB) (c3 : Cond.selects C x y ∈ TB) (c4 : Cond.initialized y.cls ∈ TB) (c5 : Cond.code y bytes maxL ret ∈ TB) : GoodIn TB (va_wsU own index C owner x y (Cond.code y bytes maxL ret :: TB)) := by
  intro w hw
  rcases List.mem_append.mp hw with h | h
  · simp only [List.mem_cons, List.not_mem_nil, or_false] at h
    rcases h with rfl | rfl | rfl | rfl | rfl
    · exact tb_good _ c1
    · exact tb_good _ c6
    · exact tb_good _ c3
    · exact tb_good _ c2
    · exact tb_good _ c4
  · exact tb_cons c5 w h
section SC
variable {p : Program} {l : Launch} {e : Env} {R : Room} {s : State} {m : MethodId} {args : Array Value} {below : List Frame} {meth : Method} {c : Code} {cells slots : Nat} {cc : ByteArray} {nL : Nat} {own : String} {D : va_G} {tys : List (ClassId × FieldType)} {kc : Nat → Nat} {kt : Nat} {A : Nat → Prop} {ρ : Type} {Q : ρ → State → Prop} {F Ft Ff : Option ρ} {w w' : va_W} {lv lv' : List (Nat × Value)} {pc : Nat} {st : List Value}
variable {y : MethodName} {bytes : ByteArray} {maxL index : Nat} {ret : Option FieldType} {rm : Room} {As rest st0 : List Value} {b : Nat} {wc wc' : va_W} {out : Option Value} {C : String}
/-- behind the run of a call -/
theorem s_run (K : gF p s m args c cc nL own D tys kc kt A) (isC isR isW : List Nat) (hC : isC.map (fun i => w[i]?) = wc.map some) (hR : isR.all (fun i => decide (i < w.length)) = true) (hnd : va_nd isR = true) (hnC : va_nd isC = true) (hdis : ∀ i ∈ isR, i ∉ isC) (hW : isW.map (fun i => (isR.filterMap (fun i => w[i]?) ++ wc')[i]?) = w'.map some) (hnW : va_nd isW = true) {a : Array Value} {st1 : List Value} (hst : out.toList ++ rest = st1)
    (hrun : ∀ (H : Heap) (locs : List Loc) (ls : Array Slot), va_P D vwCl w H → va_D A w → va_S A s.heap H locs → ls.size = nL → va_P D vwCl wc H → va_D (fun _ => True) wc → (∀ q, va_A wc H.size q → A q) → va_Run p l e R s m args below meth c H locs cells slots 0 0 (F0 m pc ls st0) rest (CQ D wc' out (va_A wc H.size) a) (va_A wc H.size))
    (k : Sw p l e R s m args below meth c cells slots D A nL Q F w' lv (pc + 3) st1) : Sw p l e R s m args below meth c cells slots D A nL Q F w lv pc st0 := by
  intro r hr H locs ls hP hD hS hl
  have hFc := va_free (wc := wc) hD hS K.2.2.1 isC hC
  have hPc := sub_P hP isC hC
  intro T hT X
  have hDc : va_D (fun _ => True) wc := by
    refine ⟨fun i j x y hi hj hxy => ?_, fun _ _ _ => trivial⟩
    have at' : ∀ (k : Nat) (q : Nat × va_E), wc[k]? = some q → ∃ i, isC[k]? = some i ∧ w[i]? = some q := by
      intro k q hq
      have h1 : (isC.map (fun i => w[i]?))[k]? = some (some q) := by rw [hC, List.getElem?_map, hq]; rfl
      rw [List.getElem?_map] at h1
      cases hi : isC[k]? with
      | none => rw [hi] at h1; cases h1
      | some i => rw [hi] at h1; exact ⟨i, rfl, Option.some.inj h1⟩
    obtain ⟨i2, a1, a2⟩ := at' i x hi
    obtain ⟨j2, b1, b2⟩ := at' j y hj
    have hij := hD.1 i2 j2 x y a2 b2 hxy
    subst hij
    exact va_nd_inj isC hnC i j i2 a1 b1
  obtain ⟨v, st₀, t, T', L, h0, X', hL, e1, e2, ⟨hv, ⟨hP1, hD1⟩, hz, hk⟩, hgo⟩ := hrun H locs ls hP hD hS hl.1 hPc hDc hFc T hT X
  cases hv
  rw [h0] at hz hk
  have hk1 : ∀ q : Nat, q < H.size → ¬ va_A wc H.size q → T'.heap[q]? = H[q]? := fun q h1 h2 => by rw [e1]; exact hk q h1 h2
  obtain ⟨hP2, hD2⟩ := va_join (wr := isR.filterMap (fun i => w[i]?)) (w1 := wc') hP hD isC isR hC (rest_map w isR hR) hnd hdis hk1 hFc (by rw [e1]; exact hP1) hD1
  have hS1 : va_S A s.heap T'.heap (locs ++ L) := ⟨Nat.le_trans hS.1 (by rw [e1]; exact hz), fun q h1 h2 => by rw [e1, hk q (Nat.lt_of_lt_of_le h1 hS.1) (fun z => h2 (hFc q z))]; exact hS.2.1 q h1 h2, fun q hq => by
      rcases List.mem_append.mp hq with h | h
      · exact hS.2.2 q h
      · exact hFc _ (hL q h)⟩
  obtain ⟨t2, a1, b1⟩ := k r hr T'.heap (locs ++ L) ls (sub_P hP2 isW hW) (hD2.sub isW hnW hW) hS1 hl T' rfl X'
  subst hst
  exact ⟨t2, hgo t2 a1, b1⟩
/-- behind the run of a call that has no world -/
theorem s_run0 (K : gF p s m args c cc nL own D tys kc kt A) {a : Array Value} {st1 : List Value} (hst : out.toList ++ rest = st1)
    (hrun : ∀ (H : Heap) (locs : List Loc) (ls : Array Slot), va_P D vwCl w H → va_S A s.heap H locs → ls.size = nL → va_Run p l e R s m args below meth c H locs cells slots 0 0 (F0 m pc ls st0) rest (CQ D [] out (va_A [] H.size) a) (va_A [] H.size))
    (k : Sw p l e R s m args below meth c cells slots D A nL Q F w lv (pc + 3) st1) : Sw p l e R s m args below meth c cells slots D A nL Q F w lv pc st0 := by
  intro r hr H locs ls hP hD hS hl
  intro T hT X
  have hFc : ∀ q, va_A [] H.size q → A q := fun q h => by
    rcases h with ⟨k, e, h⟩ | h
    · simp at h
    · exact K.2.2.1 q (Nat.le_trans hS.1 h)
  obtain ⟨v, st₀, t, T', L, h0, X', hL, e1, e2, ⟨hv, -, hz, hk⟩, hgo⟩ := hrun H locs ls hP hS hl.1 T hT X
  cases hv
  rw [h0] at hz hk
  have hk1 : ∀ q : Nat, q < H.size → T'.heap[q]? = H[q]? := fun q h1 => by
    rw [e1]
    refine hk q h1 (fun z => ?_)
    rcases z with ⟨k, e, h⟩ | h
    · simp at h
    · omega
  have hS1 : va_S A s.heap T'.heap (locs ++ L) := ⟨Nat.le_trans hS.1 (by rw [e1]; exact hz), fun q h1 h2 => by rw [hk1 q (Nat.lt_of_lt_of_le h1 hS.1)]; exact hS.2.1 q h1 h2, fun q hq => by
      rcases List.mem_append.mp hq with h | h
      · exact hS.2.2 q h
      · exact hFc _ (hL q h)⟩
  obtain ⟨t2, a1, b1⟩ := k r hr T'.heap (locs ++ L) ls (hP.kept (fun k x hx => hk1 x.1 ((hP k x hx).lt))) hD hS1 hl T' rfl X'
  subst hst
  exact ⟨t2, hgo t2 a1, b1⟩
theorem hFc0 (K : gF p s m args c cc nL own D tys kc kt A) {H : Heap} {locs : List Loc} (hS : va_S A s.heap H locs) : ∀ q, va_A [] H.size q → A q := fun q h => by
  rcases h with ⟨k, e, h⟩ | h
  · simp at h
  · exact K.2.2.1 q (Nat.le_trans hS.1 h)
theorem s_callV (K : gF p s m args c cc nL own D tys kc kt A) (hM : CT l D tys kc kt y bytes maxL ret rm (.ref b :: As) wc wc' out) (hcl : y.cls = C) (hd : y.cls ≠ "java/lang/invoke/MethodHandle" ∧ y.cls ≠ "java/lang/invoke/VarHandle" ∧ (parseMethodDescriptor y.desc).map (fun d => d.parameters.length) = some As.length) (c1 : Cond.methodLink own index y ∈ TB) (c2 : Cond.instanceMethod y ∈ TB) (c3 : Cond.selects C y y ∈ TB) (c4 : Cond.initialized C ∈ TB) (c5 : Cond.code y bytes maxL ret ∈ TB) (hR : rm.frames + 1 ≤ R.frames ∧ 8 + (maxL + 11) + rm.locals ≤ R.locals) (hrm : rm.cells = 0 ∧ rm.slots = 0) (hcs : cells ≤ R.cells ∧ slots ≤ R.slots) (hrecv : ∀ (H : Heap) (locs : List Loc), va_P D vwCl w H → va_S A s.heap H locs → ∃ cell : Cell, H[b]? = some cell ∧ cell.vm.isStatics = false ∧ s.vm.findClass C = some cell.cls) (isC isR isW : List Nat) (hC : isC.map (fun i => w[i]?) = wc.map some) (hRr : isR.all (fun i => decide (i < w.length)) = true) (hnd : va_nd isR = true) (hnC : va_nd isC = true) (hdis : ∀ i ∈ isR, i ∉ isC) (hW : isW.map (fun i => (isR.filterMap (fun i => w[i]?) ++ wc')[i]?) = w'.map some) (hnW : va_nd isW = true) (hs0 : As.reverse ++ .ref b :: rest = st0) {st1 : List Value} (hst : out.toList ++ rest = st1) (hroom : (rest.map fun v => v.category).sum ≤ 8) (d : decode cc pc = .ok (.invokevirtual index, 3)) (k : Sw p l e R s m args below meth c cells slots D A nL Q F w' lv (pc + 3) st1) : Sw p l e R s m args below meth c cells slots D A nL Q F w lv pc st0 :=
  s_run K isC isR isW hC hRr hnd hnC hdis hW hnW hst (a := (Value.ref b :: As).toArray) (fun H locs ls hP hD hS hsz hPc hDc hFc => va_runV K.1 (hM H.size) (cwV As.length K.1.2.2.2.2 (good_V c1 c2 c3 c4 c5) rfl hrm.1 hrm.2 ⟨hcl, hd⟩ hR) ⟨CP.blind, hrecv H locs hP hS, fun U hU hW9 => ⟨rfl, by rw [hU], by rw [hU]; exact hPc, K.2.1.moved hW9.alike, hDc, by rw [hU]; exact ((K.2.2.2.kept hS.2.1).narrow hFc).moved hW9.alike⟩⟩ rfl rfl hsz hs0.symm (lv_room hroom) d hcs) k
theorem s_callV0 (K : gF p s m args c cc nL own D tys kc kt A) (hM : CT l D tys kc kt y bytes maxL ret rm (.ref b :: As) [] [] out) (hcl : y.cls = C) (hd : y.cls ≠ "java/lang/invoke/MethodHandle" ∧ y.cls ≠ "java/lang/invoke/VarHandle" ∧ (parseMethodDescriptor y.desc).map (fun d => d.parameters.length) = some As.length) (c1 : Cond.methodLink own index y ∈ TB) (c2 : Cond.instanceMethod y ∈ TB) (c3 : Cond.selects C y y ∈ TB) (c4 : Cond.initialized C ∈ TB) (c5 : Cond.code y bytes maxL ret ∈ TB) (hR : rm.frames + 1 ≤ R.frames ∧ 8 + (maxL + 11) + rm.locals ≤ R.locals) (hrm : rm.cells = 0 ∧ rm.slots = 0) (hcs : cells ≤ R.cells ∧ slots ≤ R.slots) (hrecv : ∀ (H : Heap) (locs : List Loc), va_P D vwCl w H → va_S A s.heap H locs → ∃ cell : Cell, H[b]? = some cell ∧ cell.vm.isStatics = false ∧ s.vm.findClass C = some cell.cls) (hs0 : As.reverse ++ .ref b :: rest = st0) {st1 : List Value} (hst : out.toList ++ rest = st1) (hroom : (rest.map fun v => v.category).sum ≤ 8) (d : decode cc pc = .ok (.invokevirtual index, 3)) (k : Sw p l e R s m args below meth c cells slots D A nL Q F w lv (pc + 3) st1) : Sw p l e R s m args below meth c cells slots D A nL Q F w lv pc st0 :=
  s_run0 K hst (a := (Value.ref b :: As).toArray) (fun H locs ls hP hS hsz => va_runV K.1 (hM H.size) (cwV As.length K.1.2.2.2.2 (good_V c1 c2 c3 c4 c5) rfl hrm.1 hrm.2 ⟨hcl, hd⟩ hR) ⟨CP.blind, hrecv H locs hP hS, fun U hU hW9 => ⟨rfl, by rw [hU], fun k q h => by simp at h, K.2.1.moved hW9.alike, ⟨fun i j x y h => by simp at h, fun _ _ _ => trivial⟩, by rw [hU]; exact ((K.2.2.2.kept hS.2.1).narrow (hFc0 K hS)).moved hW9.alike⟩⟩ rfl rfl hsz hs0.symm (lv_room hroom) d hcs) k
theorem s_callS (K : gF p s m args c cc nL own D tys kc kt A) (hM : CT l D tys kc kt y bytes maxL ret rm As wc wc' out) (hd : y.cls ≠ "java/lang/invoke/MethodHandle" ∧ y.cls ≠ "java/lang/invoke/VarHandle" ∧ (parseMethodDescriptor y.desc).map (fun d => d.parameters.length) = some As.length) (c1 : Cond.methodLink own index y ∈ TB) (c2 : Cond.static y ∈ TB) (c4 : Cond.initialized y.cls ∈ TB) (c5 : Cond.code y bytes maxL ret ∈ TB) (hR : rm.frames + 1 ≤ R.frames ∧ 8 + (maxL + 11) + rm.locals ≤ R.locals) (hrm : rm.cells = 0 ∧ rm.slots = 0) (hcs : cells ≤ R.cells ∧ slots ≤ R.slots) (isC isR isW : List Nat) (hC : isC.map (fun i => w[i]?) = wc.map some) (hRr : isR.all (fun i => decide (i < w.length)) = true) (hnd : va_nd isR = true) (hnC : va_nd isC = true) (hdis : ∀ i ∈ isR, i ∉ isC) (hW : isW.map (fun i => (isR.filterMap (fun i => w[i]?) ++ wc')[i]?) = w'.map some) (hnW : va_nd isW = true) (hs0 : As.reverse ++ rest = st0) {st1 : List Value} (hst : out.toList ++ rest = st1) (hroom : (rest.map fun v => v.category).sum ≤ 8) (d : decode cc pc = .ok (.invokestatic index, 3)) (k : Sw p l e R s m args below meth c cells slots D A nL Q F w' lv (pc + 3) st1) : Sw p l e R s m args below meth c cells slots D A nL Q F w lv pc st0 :=
  s_run K isC isR isW hC hRr hnd hnC hdis hW hnW hst (a := As.toArray) (fun H locs ls hP hD hS hsz hPc hDc hFc => va_runS K.1 (hM H.size) (va_cwS As.length K.1.2.2.2.2 (good_S c1 c2 c4 c5) rfl hrm.1 hrm.2 hd hR) ⟨CP.blind, fun U hU hW9 => ⟨rfl, by rw [hU], by rw [hU]; exact hPc, K.2.1.moved hW9.alike, hDc, by rw [hU]; exact ((K.2.2.2.kept hS.2.1).narrow hFc).moved hW9.alike⟩⟩ rfl rfl hsz hs0.symm (lv_room hroom) d hcs) k
theorem s_callS0 (K : gF p s m args c cc nL own D tys kc kt A) (hM : CT l D tys kc kt y bytes maxL ret rm As [] [] out) (hd : y.cls ≠ "java/lang/invoke/MethodHandle" ∧ y.cls ≠ "java/lang/invoke/VarHandle" ∧ (parseMethodDescriptor y.desc).map (fun d => d.parameters.length) = some As.length) (c1 : Cond.methodLink own index y ∈ TB) (c2 : Cond.static y ∈ TB) (c4 : Cond.initialized y.cls ∈ TB) (c5 : Cond.code y bytes maxL ret ∈ TB) (hR : rm.frames + 1 ≤ R.frames ∧ 8 + (maxL + 11) + rm.locals ≤ R.locals) (hrm : rm.cells = 0 ∧ rm.slots = 0) (hcs : cells ≤ R.cells ∧ slots ≤ R.slots) (hs0 : As.reverse ++ rest = st0) {st1 : List Value} (hst : out.toList ++ rest = st1) (hroom : (rest.map fun v => v.category).sum ≤ 8) (d : decode cc pc = .ok (.invokestatic index, 3)) (k : Sw p l e R s m args below meth c cells slots D A nL Q F w lv (pc + 3) st1) : Sw p l e R s m args below meth c cells slots D A nL Q F w lv pc st0 :=
  s_run0 K hst (a := As.toArray) (fun H locs ls hP hS hsz => va_runS K.1 (hM H.size) (va_cwS As.length K.1.2.2.2.2 (good_S c1 c2 c4 c5) rfl hrm.1 hrm.2 hd hR) ⟨CP.blind, fun U hU hW9 => ⟨rfl, by rw [hU], fun k q h => by simp at h, K.2.1.moved hW9.alike, ⟨fun i j x y h => by simp at h, fun _ _ _ => trivial⟩, by rw [hU]; exact ((K.2.2.2.kept hS.2.1).narrow (hFc0 K hS)).moved hW9.alike⟩⟩ rfl rfl hsz hs0.symm (lv_room hroom) d hcs) k
theorem s_callSN0 (K : gF p s m args c cc nL own D tys kc kt A) {host : String} (hM : CT l D tys kc kt y bytes maxL ret rm As [] [] out) (hd : y.cls ≠ "java/lang/invoke/MethodHandle" ∧ y.cls ≠ "java/lang/invoke/VarHandle" ∧ (parseMethodDescriptor y.desc).map (fun d => d.parameters.length) = some As.length) (c1 : Cond.methodLinkNest own index y host ∈ TB) (c2 : Cond.static y ∈ TB) (c4 : Cond.initialized y.cls ∈ TB) (c5 : Cond.code y bytes maxL ret ∈ TB) (hR : rm.frames + 1 ≤ R.frames ∧ 8 + (maxL + 11) + rm.locals ≤ R.locals) (hrm : rm.cells = 0 ∧ rm.slots = 0) (hcs : cells ≤ R.cells ∧ slots ≤ R.slots) (hs0 : As.reverse ++ rest = st0) {st1 : List Value} (hst : out.toList ++ rest = st1) (hroom : (rest.map fun v => v.category).sum ≤ 8) (d : decode cc pc = .ok (.invokestatic index, 3)) (k : Sw p l e R s m args below meth c cells slots D A nL Q F w lv (pc + 3) st1) : Sw p l e R s m args below meth c cells slots D A nL Q F w lv pc st0 :=
  s_run0 K hst (a := As.toArray) (fun H locs ls hP hS hsz => va_runSN K.1 (hM H.size) ⟨va_cnB As.length K.1.2.2.2.2 (tb_cons c5) rfl hrm.1 hrm.2 (va_Nw.of rfl (K.1.2.2.2.2 _ c1)) (K.1.2.2.2.2 _ c4) hd hR, K.1.2.2.2.2 _ c2, trivial⟩ ⟨CP.blind, fun U hU hW9 => ⟨rfl, by rw [hU], fun k q h => by simp at h, K.2.1.moved hW9.alike, ⟨fun i j x y h => by simp at h, fun _ _ _ => trivial⟩, by rw [hU]; exact ((K.2.2.2.kept hS.2.1).narrow (hFc0 K hS)).moved hW9.alike⟩⟩ rfl rfl hsz hs0.symm (lv_room hroom) d hcs) k
theorem s_callU (K : gF p s m args c cc nL own D tys kc kt A) {x : MethodName} {owner : String} (hM : CT l D tys kc kt y bytes maxL ret rm (.ref b :: As) wc wc' out) (hyx : y = ⟨owner, x.name, x.desc⟩) (hd : owner ≠ "java/lang/invoke/MethodHandle" ∧ owner ≠ "java/lang/invoke/VarHandle" ∧ (parseMethodDescriptor x.desc).map (fun d => d.parameters.length) = some As.length) (c1 : Cond.methodLink own index x ∈ TB) (c6 : Cond.sameMethod x.cls owner x.name x.desc ∈ TB) (c2 : Cond.instanceMethod y ∈ TB) (c3 : Cond.selects C x y ∈ TB) (c4 : Cond.initialized y.cls ∈ TB) (c5 : Cond.code y bytes maxL ret ∈ TB) (hR : rm.frames + 1 ≤ R.frames ∧ 8 + (maxL + 11) + rm.locals ≤ R.locals) (hrm : rm.cells = 0 ∧ rm.slots = 0) (hcs : cells ≤ R.cells ∧ slots ≤ R.slots) (hrecv : ∀ (H : Heap) (locs : List Loc), va_P D vwCl w H → va_S A s.heap H locs → ∃ cell : Cell, H[b]? = some cell ∧ cell.vm.isStatics = false ∧ s.vm.findClass C = some cell.cls) (isC isR isW : List Nat) (hC : isC.map (fun i => w[i]?) = wc.map some) (hRr : isR.all (fun i => decide (i < w.length)) = true) (hnd : va_nd isR = true) (hnC : va_nd isC = true) (hdis : ∀ i ∈ isR, i ∉ isC) (hW : isW.map (fun i => (isR.filterMap (fun i => w[i]?) ++ wc')[i]?) = w'.map some) (hnW : va_nd isW = true) (hs0 : As.reverse ++ .ref b :: rest = st0) {st1 : List Value} (hst : out.toList ++ rest = st1) (hroom : (rest.map fun v => v.category).sum ≤ 8) (d : decode cc pc = .ok (.invokevirtual index, 3)) (k : Sw p l e R s m args below meth c cells slots D A nL Q F w' lv (pc + 3) st1) : Sw p l e R s m args below meth c cells slots D A nL Q F w lv pc st0 :=
  s_run K isC isR isW hC hRr hnd hnC hdis hW hnW hst (a := (Value.ref b :: As).toArray) (fun H locs ls hP hD hS hsz hPc hDc hFc => va_runU K.1 (hM H.size) (va_cwU As.length K.1.2.2.2.2 (good_U c1 c6 c2 c3 c4 c5) rfl hrm.1 hrm.2 hyx hd hR) ⟨CP.blind, hrecv H locs hP hS, fun U hU hW9 => ⟨rfl, by rw [hU], by rw [hU]; exact hPc, K.2.1.moved hW9.alike, hDc, by rw [hU]; exact ((K.2.2.2.kept hS.2.1).narrow hFc).moved hW9.alike⟩⟩ rfl rfl hsz hs0.symm (lv_room hroom) d hcs) k
theorem rv_o (K : gF p s m args c cc nL own D tys kc kt A) {ci : Nat} {T : u_T} {N : Nat} {fs : List Value} (q0 : Nat) (he : w[q0]? = some (b, .inr (ci, fs))) (hc : vwCl[ci]? = some (C, T, N)) : ∀ (H : Heap) (locs : List Loc), va_P D vwCl w H → va_S A s.heap H locs → ∃ cell : Cell, H[b]? = some cell ∧ cell.vm.isStatics = false ∧ s.vm.findClass C = some cell.cls :=
  fun H locs hP hS => va_recv K.2.1 hP (q0 := q0) hc he
theorem rv_k (K : gF p s m args c cc nL own D tys kc kt A) {i : Nat} (hi : i < 5) : ∀ (H : Heap) (locs : List Loc), va_P D vwCl w H → va_S A s.heap H locs → ∃ cell : Cell, H[kc i]? = some cell ∧ cell.vm.isStatics = false ∧ s.vm.findClass "SnowBalls$Kind" = some cell.cls :=
  fun H locs hP hS => va_recvE K.2.2.2.1 hi hS
theorem s_iret (K : gF p s m args c cc nL own D tys kc kt A) (hr : meth.sig.returnType = some .int) (hlk : meth.locks = false) {r0 : ρ} {ww : ρ → va_W} {oo : ρ → Option Value} {v : Int32}  (ho : oo r0 = some (.int v)) (hw : ww r0 = w) (d : decode cc pc = .ok (.ireturn, 1)) : Sw p l e R s m args below meth c cells slots D A nL (fun (r : ρ) => MQ below (CQ D (ww r) (oo r) A) args s cells slots A) (some r0) w lv pc [.int v] := by
  intro r hr0 H locs ls hP hD hS hl
  cases hr0
  refine W.iret K.1.1 K.1.2.1 hr  (fun t ht hW => ?_) hS.2.2 d hlk
  rw [ho, hw]
  exact ⟨rfl, ⟨by rw [ht]; exact hP, hD⟩, hS.F ht⟩
theorem s_lret (K : gF p s m args c cc nL own D tys kc kt A) (hr : meth.sig.returnType = some .long) (hlk : meth.locks = false) {r0 : ρ} {ww : ρ → va_W} {oo : ρ → Option Value} {v : Int64}  (ho : oo r0 = some (.long v)) (hw : ww r0 = w) (d : decode cc pc = .ok (.lreturn, 1)) : Sw p l e R s m args below meth c cells slots D A nL (fun (r : ρ) => MQ below (CQ D (ww r) (oo r) A) args s cells slots A) (some r0) w lv pc [.long v] := by
  intro r hr0 H locs ls hP hD hS hl
  cases hr0
  refine W.lret K.1.1 K.1.2.1 hr  (fun t ht hW => ?_) hS.2.2 d hlk
  rw [ho, hw]
  exact ⟨rfl, ⟨by rw [ht]; exact hP, hD⟩, hS.F ht⟩
theorem s_vret (K : gF p s m args c cc nL own D tys kc kt A) (hr : meth.sig.returnType = none) (hlk : meth.locks = false) {r0 : ρ} {ww : ρ → va_W} {oo : ρ → Option Value}   (ho : oo r0 = none) (hw : ww r0 = w) (d : decode cc pc = .ok (.return_, 1)) : Sw p l e R s m args below meth c cells slots D A nL (fun (r : ρ) => MQ below (CQ D (ww r) (oo r) A) args s cells slots A) (some r0) w lv pc [] := by
  intro r hr0 H locs ls hP hD hS hl
  cases hr0
  refine W.vret K.1.1 K.1.2.1 hr  (fun t ht hW => ?_) hS.2.2 d hlk
  rw [ho, hw]
  exact ⟨rfl, ⟨by rw [ht]; exact hP, hD⟩, hS.F ht⟩
theorem s_zret (K : gF p s m args c cc nL own D tys kc kt A) (hr : meth.sig.returnType = some .boolean) (hlk : meth.locks = false) {r0 : ρ} {ww : ρ → va_W} {oo : ρ → Option Value} {v : Int32} (hn : narrow .boolean (.int v) = .int v) (ho : oo r0 = some (.int v)) (hw : ww r0 = w) (d : decode cc pc = .ok (.ireturn, 1)) : Sw p l e R s m args below meth c cells slots D A nL (fun (r : ρ) => MQ below (CQ D (ww r) (oo r) A) args s cells slots A) (some r0) w lv pc [.int v] := by
  intro r hr0 H locs ls hP hD hS hl
  cases hr0
  refine W.zret (ty := .boolean) K.1.1 K.1.2.1 hr hn (fun t ht hW => ?_) hS.2.2 d hlk
  rw [ho, hw]
  exact ⟨rfl, ⟨by rw [ht]; exact hP, hD⟩, hS.F ht⟩
end SC
/-- a contract out of the walk of the body -/
theorem CT.of {l : Launch} {D : va_G} {tys : List (ClassId × FieldType)} {kc : Nat → Nat} {kt : Nat} {y : MethodName} {bytes : ByteArray} {maxL : Nat} {ret : Option FieldType} {rm : Room} {av : List Value} {w : va_W} {ρ : Type} {F : Option ρ} {r : ρ} (ww : ρ → va_W) (oo : ρ → Option Value) (hF : F = some r) (hy : plainName y.cls = true) (hn : (lg_sl av).length ≤ maxL)
    (body : ∀ (p : Program) (e : Env) (s : State) (m : MethodId) (args : Array Value) (below : List Frame) (meth : Method) (c : Code) (A : Nat → Prop), gF p s m args c bytes maxL y.cls D tys kc kt A → meth.sig.returnType = ret → meth.locks = false → Sw p l e rm s m args below meth c 0 0 D A maxL (fun r => MQ below (CQ D (ww r) (oo r) A) args s 0 0 A) F w (lv_args 0 av) 0 []) : CT l D tys kc kt y bytes maxL ret rm av w (ww r) (oo r) := by
  intro sz
  refine Met.ofW (cc := bytes) (maxL := maxL) (ret := ret) hy rfl ?_
  intro p e s m args below meth c s₁ B hml hv
  obtain ⟨rfl, hsz, hP, hK, hD0, hE⟩ := hv
  have hts := atoms_spec (ws := Cond.code y bytes maxL ret :: TB) B.pre
  have hown : s.vm.findClass y.cls = some m.cls := findClass_of_methodNamed B.named
  have hlocks := B.notSynchronized
  subst hsz
  have hD := hD0.self (sz := s.heap.size)
  have hl := lv_entry av (n := maxL) hn
  rw [lg_entry_eq]
  generalize (lg_sl av ++ List.replicate (maxL - (lg_sl av).length) Slot.unset).toArray = ls at hl ⊢
  exact body p e s m av.toArray below meth c (va_A w s.heap.size) ⟨⟨B.exec, B.bytes, hml, hown, fun z hz => hts z (List.mem_cons_of_mem _ hz)⟩, hK, fun q h => Or.inr h, hE⟩ B.returns hlocks r hF s.heap [] ls hP hD va_S.rf hl
end
