-- ===== PART A: goes FIRST, ahead of the names: the tables' words, and 'selects' of the private methods out of them =====
/-- a private method of a class that the tables say can be made, by its rows of tables_1 -/
def lw_okq (q : MethodName × Nat) : Prop := (q.1.cls ≠ "java/lang/invoke/MethodHandle" ∧ q.1.cls ≠ "java/lang/invoke/VarHandle") ∧ Cond.instantiable q.1.cls q.2 ∈ tables_1 ∧ Cond.privateMethod q.1 ∈ tables_1 ∧ Cond.instanceMethod q.1 ∈ tables_1
theorem lw_p0 : lw_okq (⟨"PostRelief$Text", "nextToken", "()V"⟩, 8) := ⟨⟨by decide +kernel, by decide +kernel⟩, List.mem_of_getElem? (i := 22) (by decide +kernel), List.mem_of_getElem? (i := 259) (by decide +kernel), List.mem_of_getElem? (i := 260) (by decide +kernel)⟩
theorem lw_p1 : lw_okq (⟨"PostRelief$Text", "takeNumber", "()V"⟩, 8) := ⟨⟨by decide +kernel, by decide +kernel⟩, List.mem_of_getElem? (i := 22) (by decide +kernel), List.mem_of_getElem? (i := 266) (by decide +kernel), List.mem_of_getElem? (i := 267) (by decide +kernel)⟩
theorem lw_p2 : lw_okq (⟨"PostRelief$Text", "readItem", "(LPostRelief$Depot;)Z"⟩, 8) := ⟨⟨by decide +kernel, by decide +kernel⟩, List.mem_of_getElem? (i := 22) (by decide +kernel), List.mem_of_getElem? (i := 273) (by decide +kernel), List.mem_of_getElem? (i := 274) (by decide +kernel)⟩
theorem lw_p3 : lw_okq (⟨"PostRelief$Text", "readPost", "(LPostRelief$Depot;)Z"⟩, 8) := ⟨⟨by decide +kernel, by decide +kernel⟩, List.mem_of_getElem? (i := 22) (by decide +kernel), List.mem_of_getElem? (i := 277) (by decide +kernel), List.mem_of_getElem? (i := 278) (by decide +kernel)⟩
theorem lw_p4 : lw_okq (⟨"PostRelief$Text", "readNumber", "(II)Z"⟩, 8) := ⟨⟨by decide +kernel, by decide +kernel⟩, List.mem_of_getElem? (i := 22) (by decide +kernel), List.mem_of_getElem? (i := 281) (by decide +kernel), List.mem_of_getElem? (i := 282) (by decide +kernel)⟩
theorem lw_p5 : lw_okq (⟨"PostRelief$Text", "readEnd", "()Z"⟩, 8) := ⟨⟨by decide +kernel, by decide +kernel⟩, List.mem_of_getElem? (i := 22) (by decide +kernel), List.mem_of_getElem? (i := 285) (by decide +kernel), List.mem_of_getElem? (i := 286) (by decide +kernel)⟩
theorem lw_p6 : lw_okq (⟨"PostRelief$Text", "readMan", "(LPostRelief$Depot;)Z"⟩, 8) := ⟨⟨by decide +kernel, by decide +kernel⟩, List.mem_of_getElem? (i := 22) (by decide +kernel), List.mem_of_getElem? (i := 289) (by decide +kernel), List.mem_of_getElem? (i := 290) (by decide +kernel)⟩
theorem lw_p7 : lw_okq (⟨"PostRelief$Text", "readOn", "(LPostRelief$Depot;)Z"⟩, 8) := ⟨⟨by decide +kernel, by decide +kernel⟩, List.mem_of_getElem? (i := 22) (by decide +kernel), List.mem_of_getElem? (i := 293) (by decide +kernel), List.mem_of_getElem? (i := 294) (by decide +kernel)⟩
theorem lw_p8 : lw_okq (⟨"PostRelief$Text", "readStove", "(LPostRelief$Depot;)Z"⟩, 8) := ⟨⟨by decide +kernel, by decide +kernel⟩, List.mem_of_getElem? (i := 22) (by decide +kernel), List.mem_of_getElem? (i := 297) (by decide +kernel), List.mem_of_getElem? (i := 298) (by decide +kernel)⟩
theorem lw_p9 : lw_okq (⟨"PostRelief", "beginAnew", "()V"⟩, 11) := ⟨⟨by decide +kernel, by decide +kernel⟩, List.mem_of_getElem? (i := 14) (by decide +kernel), List.mem_of_getElem? (i := 308) (by decide +kernel), List.mem_of_getElem? (i := 309) (by decide +kernel)⟩
theorem lw_p10 : lw_okq (⟨"PostRelief", "isPost", "(I)Z"⟩, 11) := ⟨⟨by decide +kernel, by decide +kernel⟩, List.mem_of_getElem? (i := 14) (by decide +kernel), List.mem_of_getElem? (i := 321) (by decide +kernel), List.mem_of_getElem? (i := 322) (by decide +kernel)⟩
theorem lw_p11 : lw_okq (⟨"PostRelief", "isMan", "(I)Z"⟩, 11) := ⟨⟨by decide +kernel, by decide +kernel⟩, List.mem_of_getElem? (i := 14) (by decide +kernel), List.mem_of_getElem? (i := 337) (by decide +kernel), List.mem_of_getElem? (i := 338) (by decide +kernel)⟩
theorem lw_p12 : lw_okq (⟨"PostRelief$Plan", "weighAll", "(LPostRelief$Depot;LPostRelief$Watch;)V"⟩, 4) := ⟨⟨by decide +kernel, by decide +kernel⟩, List.mem_of_getElem? (i := 177) (by decide +kernel), List.mem_of_getElem? (i := 474) (by decide +kernel), List.mem_of_getElem? (i := 475) (by decide +kernel)⟩
theorem lw_p13 : lw_okq (⟨"PostRelief$Plan", "tryFrom", "(LPostRelief$Depot;III)V"⟩, 4) := ⟨⟨by decide +kernel, by decide +kernel⟩, List.mem_of_getElem? (i := 177) (by decide +kernel), List.mem_of_getElem? (i := 480) (by decide +kernel), List.mem_of_getElem? (i := 481) (by decide +kernel)⟩
theorem lw_p14 : lw_okq (⟨"PostRelief", "canBeLeft", "(I)Z"⟩, 11) := ⟨⟨by decide +kernel, by decide +kernel⟩, List.mem_of_getElem? (i := 14) (by decide +kernel), List.mem_of_getElem? (i := 491) (by decide +kernel), List.mem_of_getElem? (i := 492) (by decide +kernel)⟩
theorem lw_p15 : lw_okq (⟨"PostRelief", "seenOnlyFrom", "(I)I"⟩, 11) := ⟨⟨by decide +kernel, by decide +kernel⟩, List.mem_of_getElem? (i := 14) (by decide +kernel), List.mem_of_getElem? (i := 500) (by decide +kernel), List.mem_of_getElem? (i := 501) (by decide +kernel)⟩
def lw_privs_1 : List (MethodName × Nat) := [(⟨"PostRelief$Text", "nextToken", "()V"⟩, 8), (⟨"PostRelief$Text", "takeNumber", "()V"⟩, 8), (⟨"PostRelief$Text", "readItem", "(LPostRelief$Depot;)Z"⟩, 8), (⟨"PostRelief$Text", "readPost", "(LPostRelief$Depot;)Z"⟩, 8), (⟨"PostRelief$Text", "readNumber", "(II)Z"⟩, 8), (⟨"PostRelief$Text", "readEnd", "()Z"⟩, 8), (⟨"PostRelief$Text", "readMan", "(LPostRelief$Depot;)Z"⟩, 8), (⟨"PostRelief$Text", "readOn", "(LPostRelief$Depot;)Z"⟩, 8), (⟨"PostRelief$Text", "readStove", "(LPostRelief$Depot;)Z"⟩, 8), (⟨"PostRelief", "beginAnew", "()V"⟩, 11), (⟨"PostRelief", "isPost", "(I)Z"⟩, 11), (⟨"PostRelief", "isMan", "(I)Z"⟩, 11), (⟨"PostRelief$Plan", "weighAll", "(LPostRelief$Depot;LPostRelief$Watch;)V"⟩, 4), (⟨"PostRelief$Plan", "tryFrom", "(LPostRelief$Depot;III)V"⟩, 4), (⟨"PostRelief", "canBeLeft", "(I)Z"⟩, 11), (⟨"PostRelief", "seenOnlyFrom", "(I)I"⟩, 11)]
theorem lw_r1 : ∀ q ∈ lw_privs_1, lw_okq q := List.forall_mem_cons.mpr ⟨lw_p0, List.forall_mem_cons.mpr ⟨lw_p1, List.forall_mem_cons.mpr ⟨lw_p2, List.forall_mem_cons.mpr ⟨lw_p3, List.forall_mem_cons.mpr ⟨lw_p4, List.forall_mem_cons.mpr ⟨lw_p5, List.forall_mem_cons.mpr ⟨lw_p6, List.forall_mem_cons.mpr ⟨lw_p7, List.forall_mem_cons.mpr ⟨lw_p8, List.forall_mem_cons.mpr ⟨lw_p9, List.forall_mem_cons.mpr ⟨lw_p10, List.forall_mem_cons.mpr ⟨lw_p11, List.forall_mem_cons.mpr ⟨lw_p12, List.forall_mem_cons.mpr ⟨lw_p13, List.forall_mem_cons.mpr ⟨lw_p14, List.forall_mem_cons.mpr ⟨lw_p15, fun _ h => absurd h List.not_mem_nil⟩⟩⟩⟩⟩⟩⟩⟩⟩⟩⟩⟩⟩⟩⟩⟩
theorem lw_p16 : lw_okq (⟨"PostRelief", "hoursAsleep", "(II)I"⟩, 11) := ⟨⟨by decide +kernel, by decide +kernel⟩, List.mem_of_getElem? (i := 14) (by decide +kernel), List.mem_of_getElem? (i := 548) (by decide +kernel), List.mem_of_getElem? (i := 549) (by decide +kernel)⟩
theorem lw_p17 : lw_okq (⟨"PostRelief", "rateOfPost", "(I)I"⟩, 11) := ⟨⟨by decide +kernel, by decide +kernel⟩, List.mem_of_getElem? (i := 14) (by decide +kernel), List.mem_of_getElem? (i := 579) (by decide +kernel), List.mem_of_getElem? (i := 580) (by decide +kernel)⟩
theorem lw_p18 : lw_okq (⟨"PostRelief", "rateOfGate", "(I)I"⟩, 11) := ⟨⟨by decide +kernel, by decide +kernel⟩, List.mem_of_getElem? (i := 14) (by decide +kernel), List.mem_of_getElem? (i := 583) (by decide +kernel), List.mem_of_getElem? (i := 584) (by decide +kernel)⟩
theorem lw_p19 : lw_okq (⟨"PostRelief", "rateOfPump", "(I)I"⟩, 11) := ⟨⟨by decide +kernel, by decide +kernel⟩, List.mem_of_getElem? (i := 14) (by decide +kernel), List.mem_of_getElem? (i := 588) (by decide +kernel), List.mem_of_getElem? (i := 589) (by decide +kernel)⟩
theorem lw_p20 : lw_okq (⟨"PostRelief", "rateOfLane", "(I)I"⟩, 11) := ⟨⟨by decide +kernel, by decide +kernel⟩, List.mem_of_getElem? (i := 14) (by decide +kernel), List.mem_of_getElem? (i := 593) (by decide +kernel), List.mem_of_getElem? (i := 594) (by decide +kernel)⟩
theorem lw_p21 : lw_okq (⟨"PostRelief", "rateOfYard", "(I)I"⟩, 11) := ⟨⟨by decide +kernel, by decide +kernel⟩, List.mem_of_getElem? (i := 14) (by decide +kernel), List.mem_of_getElem? (i := 598) (by decide +kernel), List.mem_of_getElem? (i := 599) (by decide +kernel)⟩
theorem lw_p22 : lw_okq (⟨"PostRelief", "rateOfTower", "(I)I"⟩, 11) := ⟨⟨by decide +kernel, by decide +kernel⟩, List.mem_of_getElem? (i := 14) (by decide +kernel), List.mem_of_getElem? (i := 603) (by decide +kernel), List.mem_of_getElem? (i := 604) (by decide +kernel)⟩
theorem lw_p23 : lw_okq (⟨"PostReliefModel", "advances", "()V"⟩, 26) := ⟨⟨by decide +kernel, by decide +kernel⟩, List.mem_of_getElem? (i := 624) (by decide +kernel), List.mem_of_getElem? (i := 724) (by decide +kernel), List.mem_of_getElem? (i := 725) (by decide +kernel)⟩
theorem lw_p24 : lw_okq (⟨"PostReliefModel", "letterAt", "(I)I"⟩, 26) := ⟨⟨by decide +kernel, by decide +kernel⟩, List.mem_of_getElem? (i := 624) (by decide +kernel), List.mem_of_getElem? (i := 728) (by decide +kernel), List.mem_of_getElem? (i := 729) (by decide +kernel)⟩
theorem lw_p25 : lw_okq (⟨"PostReliefModel", "isWell", "()Z"⟩, 26) := ⟨⟨by decide +kernel, by decide +kernel⟩, List.mem_of_getElem? (i := 624) (by decide +kernel), List.mem_of_getElem? (i := 732) (by decide +kernel), List.mem_of_getElem? (i := 733) (by decide +kernel)⟩
theorem lw_p26 : lw_okq (⟨"PostReliefModel", "mayBegin", "()Z"⟩, 26) := ⟨⟨by decide +kernel, by decide +kernel⟩, List.mem_of_getElem? (i := 624) (by decide +kernel), List.mem_of_getElem? (i := 736) (by decide +kernel), List.mem_of_getElem? (i := 737) (by decide +kernel)⟩
theorem lw_p27 : lw_okq (⟨"PostReliefModel", "takes", "(Z)I"⟩, 26) := ⟨⟨by decide +kernel, by decide +kernel⟩, List.mem_of_getElem? (i := 624) (by decide +kernel), List.mem_of_getElem? (i := 740) (by decide +kernel), List.mem_of_getElem? (i := 741) (by decide +kernel)⟩
theorem lw_p28 : lw_okq (⟨"PostReliefModel", "readsItem", "(I)V"⟩, 26) := ⟨⟨by decide +kernel, by decide +kernel⟩, List.mem_of_getElem? (i := 624) (by decide +kernel), List.mem_of_getElem? (i := 744) (by decide +kernel), List.mem_of_getElem? (i := 745) (by decide +kernel)⟩
theorem lw_p29 : lw_okq (⟨"PostReliefModel", "number", "(II)I"⟩, 26) := ⟨⟨by decide +kernel, by decide +kernel⟩, List.mem_of_getElem? (i := 624) (by decide +kernel), List.mem_of_getElem? (i := 748) (by decide +kernel), List.mem_of_getElem? (i := 749) (by decide +kernel)⟩
theorem lw_p30 : lw_okq (⟨"PostReliefModel", "settles", "()V"⟩, 26) := ⟨⟨by decide +kernel, by decide +kernel⟩, List.mem_of_getElem? (i := 624) (by decide +kernel), List.mem_of_getElem? (i := 752) (by decide +kernel), List.mem_of_getElem? (i := 753) (by decide +kernel)⟩
theorem lw_p31 : lw_okq (⟨"PostReliefModel", "isPost", "(I)Z"⟩, 26) := ⟨⟨by decide +kernel, by decide +kernel⟩, List.mem_of_getElem? (i := 624) (by decide +kernel), List.mem_of_getElem? (i := 760) (by decide +kernel), List.mem_of_getElem? (i := 761) (by decide +kernel)⟩
def lw_privs_2 : List (MethodName × Nat) := [(⟨"PostRelief", "hoursAsleep", "(II)I"⟩, 11), (⟨"PostRelief", "rateOfPost", "(I)I"⟩, 11), (⟨"PostRelief", "rateOfGate", "(I)I"⟩, 11), (⟨"PostRelief", "rateOfPump", "(I)I"⟩, 11), (⟨"PostRelief", "rateOfLane", "(I)I"⟩, 11), (⟨"PostRelief", "rateOfYard", "(I)I"⟩, 11), (⟨"PostRelief", "rateOfTower", "(I)I"⟩, 11), (⟨"PostReliefModel", "advances", "()V"⟩, 26), (⟨"PostReliefModel", "letterAt", "(I)I"⟩, 26), (⟨"PostReliefModel", "isWell", "()Z"⟩, 26), (⟨"PostReliefModel", "mayBegin", "()Z"⟩, 26), (⟨"PostReliefModel", "takes", "(Z)I"⟩, 26), (⟨"PostReliefModel", "readsItem", "(I)V"⟩, 26), (⟨"PostReliefModel", "number", "(II)I"⟩, 26), (⟨"PostReliefModel", "settles", "()V"⟩, 26), (⟨"PostReliefModel", "isPost", "(I)Z"⟩, 26)]
theorem lw_r2 : ∀ q ∈ lw_privs_2, lw_okq q := List.forall_mem_cons.mpr ⟨lw_p16, List.forall_mem_cons.mpr ⟨lw_p17, List.forall_mem_cons.mpr ⟨lw_p18, List.forall_mem_cons.mpr ⟨lw_p19, List.forall_mem_cons.mpr ⟨lw_p20, List.forall_mem_cons.mpr ⟨lw_p21, List.forall_mem_cons.mpr ⟨lw_p22, List.forall_mem_cons.mpr ⟨lw_p23, List.forall_mem_cons.mpr ⟨lw_p24, List.forall_mem_cons.mpr ⟨lw_p25, List.forall_mem_cons.mpr ⟨lw_p26, List.forall_mem_cons.mpr ⟨lw_p27, List.forall_mem_cons.mpr ⟨lw_p28, List.forall_mem_cons.mpr ⟨lw_p29, List.forall_mem_cons.mpr ⟨lw_p30, List.forall_mem_cons.mpr ⟨lw_p31, fun _ h => absurd h List.not_mem_nil⟩⟩⟩⟩⟩⟩⟩⟩⟩⟩⟩⟩⟩⟩⟩⟩
theorem lw_p32 : lw_okq (⟨"PostReliefModel", "manAt", "([II)I"⟩, 26) := ⟨⟨by decide +kernel, by decide +kernel⟩, List.mem_of_getElem? (i := 624) (by decide +kernel), List.mem_of_getElem? (i := 764) (by decide +kernel), List.mem_of_getElem? (i := 765) (by decide +kernel)⟩
theorem lw_p33 : lw_okq (⟨"PostReliefModel", "isMan", "(I)Z"⟩, 26) := ⟨⟨by decide +kernel, by decide +kernel⟩, List.mem_of_getElem? (i := 624) (by decide +kernel), List.mem_of_getElem? (i := 772) (by decide +kernel), List.mem_of_getElem? (i := 773) (by decide +kernel)⟩
theorem lw_p34 : lw_okq (⟨"PostReliefModel", "standing", "([I)I"⟩, 26) := ⟨⟨by decide +kernel, by decide +kernel⟩, List.mem_of_getElem? (i := 624) (by decide +kernel), List.mem_of_getElem? (i := 783) (by decide +kernel), List.mem_of_getElem? (i := 784) (by decide +kernel)⟩
theorem lw_p35 : lw_okq (⟨"PostReliefModel", "asleep", "([I)I"⟩, 26) := ⟨⟨by decide +kernel, by decide +kernel⟩, List.mem_of_getElem? (i := 624) (by decide +kernel), List.mem_of_getElem? (i := 787) (by decide +kernel), List.mem_of_getElem? (i := 788) (by decide +kernel)⟩
theorem lw_p36 : lw_okq (⟨"PostReliefModel", "watchedIn", "([I)I"⟩, 26) := ⟨⟨by decide +kernel, by decide +kernel⟩, List.mem_of_getElem? (i := 624) (by decide +kernel), List.mem_of_getElem? (i := 791) (by decide +kernel), List.mem_of_getElem? (i := 792) (by decide +kernel)⟩
theorem lw_p37 : lw_okq (⟨"PostReliefModel", "watched", "(I)I"⟩, 26) := ⟨⟨by decide +kernel, by decide +kernel⟩, List.mem_of_getElem? (i := 624) (by decide +kernel), List.mem_of_getElem? (i := 795) (by decide +kernel), List.mem_of_getElem? (i := 796) (by decide +kernel)⟩
theorem lw_p38 : lw_okq (⟨"PostReliefModel", "notes", "()V"⟩, 26) := ⟨⟨by decide +kernel, by decide +kernel⟩, List.mem_of_getElem? (i := 624) (by decide +kernel), List.mem_of_getElem? (i := 803) (by decide +kernel), List.mem_of_getElem? (i := 804) (by decide +kernel)⟩
theorem lw_p39 : lw_okq (⟨"PostReliefModel", "goes", "([I)V"⟩, 26) := ⟨⟨by decide +kernel, by decide +kernel⟩, List.mem_of_getElem? (i := 624) (by decide +kernel), List.mem_of_getElem? (i := 818) (by decide +kernel), List.mem_of_getElem? (i := 819) (by decide +kernel)⟩
theorem lw_p40 : lw_okq (⟨"PostReliefModel", "relieved", "([III)I"⟩, 26) := ⟨⟨by decide +kernel, by decide +kernel⟩, List.mem_of_getElem? (i := 624) (by decide +kernel), List.mem_of_getElem? (i := 826) (by decide +kernel), List.mem_of_getElem? (i := 827) (by decide +kernel)⟩
theorem lw_p41 : lw_okq (⟨"PostReliefModel", "nextMan", "([II)I"⟩, 26) := ⟨⟨by decide +kernel, by decide +kernel⟩, List.mem_of_getElem? (i := 624) (by decide +kernel), List.mem_of_getElem? (i := 830) (by decide +kernel), List.mem_of_getElem? (i := 831) (by decide +kernel)⟩
theorem lw_p42 : lw_okq (⟨"PostReliefModel", "asNow", "()V"⟩, 26) := ⟨⟨by decide +kernel, by decide +kernel⟩, List.mem_of_getElem? (i := 624) (by decide +kernel), List.mem_of_getElem? (i := 842) (by decide +kernel), List.mem_of_getElem? (i := 843) (by decide +kernel)⟩
theorem lw_p43 : lw_okq (⟨"PostReliefModel", "goesBy", "(I)V"⟩, 26) := ⟨⟨by decide +kernel, by decide +kernel⟩, List.mem_of_getElem? (i := 624) (by decide +kernel), List.mem_of_getElem? (i := 846) (by decide +kernel), List.mem_of_getElem? (i := 847) (by decide +kernel)⟩
theorem lw_p44 : lw_okq (⟨"PostReliefModel", "debtStanding", "([I)I"⟩, 26) := ⟨⟨by decide +kernel, by decide +kernel⟩, List.mem_of_getElem? (i := 624) (by decide +kernel), List.mem_of_getElem? (i := 855) (by decide +kernel), List.mem_of_getElem? (i := 856) (by decide +kernel)⟩
theorem lw_p45 : lw_okq (⟨"PostReliefModel", "isRow", "(I)Z"⟩, 26) := ⟨⟨by decide +kernel, by decide +kernel⟩, List.mem_of_getElem? (i := 624) (by decide +kernel), List.mem_of_getElem? (i := 863) (by decide +kernel), List.mem_of_getElem? (i := 864) (by decide +kernel)⟩
theorem lw_p46 : lw_okq (⟨"PostReliefModel", "greatest", "()I"⟩, 26) := ⟨⟨by decide +kernel, by decide +kernel⟩, List.mem_of_getElem? (i := 624) (by decide +kernel), List.mem_of_getElem? (i := 867) (by decide +kernel), List.mem_of_getElem? (i := 868) (by decide +kernel)⟩
theorem lw_p47 : lw_okq (⟨"PostReliefModel", "seenBy", "(I)I"⟩, 26) := ⟨⟨by decide +kernel, by decide +kernel⟩, List.mem_of_getElem? (i := 624) (by decide +kernel), List.mem_of_getElem? (i := 875) (by decide +kernel), List.mem_of_getElem? (i := 876) (by decide +kernel)⟩
def lw_privs_3 : List (MethodName × Nat) := [(⟨"PostReliefModel", "manAt", "([II)I"⟩, 26), (⟨"PostReliefModel", "isMan", "(I)Z"⟩, 26), (⟨"PostReliefModel", "standing", "([I)I"⟩, 26), (⟨"PostReliefModel", "asleep", "([I)I"⟩, 26), (⟨"PostReliefModel", "watchedIn", "([I)I"⟩, 26), (⟨"PostReliefModel", "watched", "(I)I"⟩, 26), (⟨"PostReliefModel", "notes", "()V"⟩, 26), (⟨"PostReliefModel", "goes", "([I)V"⟩, 26), (⟨"PostReliefModel", "relieved", "([III)I"⟩, 26), (⟨"PostReliefModel", "nextMan", "([II)I"⟩, 26), (⟨"PostReliefModel", "asNow", "()V"⟩, 26), (⟨"PostReliefModel", "goesBy", "(I)V"⟩, 26), (⟨"PostReliefModel", "debtStanding", "([I)I"⟩, 26), (⟨"PostReliefModel", "isRow", "(I)Z"⟩, 26), (⟨"PostReliefModel", "greatest", "()I"⟩, 26), (⟨"PostReliefModel", "seenBy", "(I)I"⟩, 26)]
theorem lw_r3 : ∀ q ∈ lw_privs_3, lw_okq q := List.forall_mem_cons.mpr ⟨lw_p32, List.forall_mem_cons.mpr ⟨lw_p33, List.forall_mem_cons.mpr ⟨lw_p34, List.forall_mem_cons.mpr ⟨lw_p35, List.forall_mem_cons.mpr ⟨lw_p36, List.forall_mem_cons.mpr ⟨lw_p37, List.forall_mem_cons.mpr ⟨lw_p38, List.forall_mem_cons.mpr ⟨lw_p39, List.forall_mem_cons.mpr ⟨lw_p40, List.forall_mem_cons.mpr ⟨lw_p41, List.forall_mem_cons.mpr ⟨lw_p42, List.forall_mem_cons.mpr ⟨lw_p43, List.forall_mem_cons.mpr ⟨lw_p44, List.forall_mem_cons.mpr ⟨lw_p45, List.forall_mem_cons.mpr ⟨lw_p46, List.forall_mem_cons.mpr ⟨lw_p47, fun _ h => absurd h List.not_mem_nil⟩⟩⟩⟩⟩⟩⟩⟩⟩⟩⟩⟩⟩⟩⟩⟩
theorem lw_p48 : lw_okq (⟨"PostReliefModel", "isFit", "(II)Z"⟩, 26) := ⟨⟨by decide +kernel, by decide +kernel⟩, List.mem_of_getElem? (i := 624) (by decide +kernel), List.mem_of_getElem? (i := 916) (by decide +kernel), List.mem_of_getElem? (i := 917) (by decide +kernel)⟩
def lw_privs_4 : List (MethodName × Nat) := [(⟨"PostReliefModel", "isFit", "(II)Z"⟩, 26)]
theorem lw_r4 : ∀ q ∈ lw_privs_4, lw_okq q := List.forall_mem_cons.mpr ⟨lw_p48, fun _ h => absurd h List.not_mem_nil⟩
def lw_privs : List (MethodName × Nat) := lw_privs_1 ++ (lw_privs_2 ++ (lw_privs_3 ++ (lw_privs_4)))
def lw_tbl : List Cond := k2_sels lw_privs ++ tables_1
theorem lw_privs_ok : ∀ q ∈ lw_privs, lw_okq q := by
  show ∀ q ∈ lw_privs_1 ++ (lw_privs_2 ++ (lw_privs_3 ++ (lw_privs_4))), lw_okq q
  exact List.forall_mem_append.mpr ⟨lw_r1, List.forall_mem_append.mpr ⟨lw_r2, List.forall_mem_append.mpr ⟨lw_r3, lw_r4⟩⟩⟩
def RX0 : String := "PostRelief$Depot"
def TX0 : u_T := fun k => match k with
  | 0 => ("PostRelief$Depot", "posts", "I", false)
  | 1 => ("PostRelief$Depot", "sees", "[I", true)
  | 2 => ("PostRelief$Depot", "cold", "[I", true)
  | 3 => ("PostRelief$Depot", "men", "I", false)
  | 4 => ("PostRelief$Depot", "debts", "[I", true)
  | 5 => ("PostRelief$Depot", "on", "I", false)
  | _ => ("PostRelief$Depot", "stove", "I", false)
def tyX0 : Nat → FieldType := fun k => match k with
  | 0 => .int
  | 1 => .array .int
  | 2 => .array .int
  | 3 => .int
  | 4 => .array .int
  | 5 => .int
  | _ => .int
theorem nmX0 : ∀ a, a < 7 → ∀ b, b < 7 → a ≠ b → (TX0 a).2.1 ≠ (TX0 b).2.1 := by decide +kernel
theorem tyX0_ok : ∀ k, k < 7 → parseFieldDescriptor (TX0 k).2.2.1 = some (tyX0 k) := by decide +kernel
abbrev cX0_init : ByteArray := prog_2_method_1_code
def yX0_init : MethodName := ⟨RX0, "<init>", "()V"⟩
abbrev cX0_empty : ByteArray := prog_2_method_2_code
def yX0_empty : MethodName := ⟨RX0, "empty", "()V"⟩
abbrev cX0_become : ByteArray := prog_2_method_3_code
def yX0_become : MethodName := ⟨RX0, "become", "(LPostRelief$Depot;)V"⟩
abbrev cX0_allPosts : ByteArray := prog_2_method_4_code
def yX0_allPosts : MethodName := ⟨RX0, "allPosts", "()I"⟩
abbrev cX0_seenFrom : ByteArray := prog_2_method_5_code
def yX0_seenFrom : MethodName := ⟨RX0, "seenFrom", "(I)I"⟩
abbrev cX0_watchedBy : ByteArray := prog_2_method_6_code
def yX0_watchedBy : MethodName := ⟨RX0, "watchedBy", "(I)I"⟩
abbrev cX0_burden : ByteArray := prog_2_method_7_code
def yX0_burden : MethodName := ⟨RX0, "burden", "(II)I"⟩
abbrev cX0_nextPost : ByteArray := prog_2_method_8_code
def yX0_nextPost : MethodName := ⟨RX0, "nextPost", "(II)I"⟩
def RX1 : String := "PostRelief$Findings"
def TX1 : u_T := fun k => match k with
  | 0 => ("PostRelief$Findings", "size", "I", false)
  | 1 => ("PostRelief$Findings", "men", "[I", true)
  | 2 => ("PostRelief$Findings", "hours", "[I", true)
  | _ => ("PostRelief$Findings", "asleep", "[I", true)
def tyX1 : Nat → FieldType := fun k => match k with
  | 0 => .int
  | 1 => .array .int
  | 2 => .array .int
  | _ => .array .int
theorem nmX1 : ∀ a, a < 4 → ∀ b, b < 4 → a ≠ b → (TX1 a).2.1 ≠ (TX1 b).2.1 := by decide +kernel
theorem tyX1_ok : ∀ k, k < 4 → parseFieldDescriptor (TX1 k).2.2.1 = some (tyX1 k) := by decide +kernel
abbrev cX1_init : ByteArray := prog_3_method_1_code
def yX1_init : MethodName := ⟨RX1, "<init>", "()V"⟩
abbrev cX1_add : ByteArray := prog_3_method_2_code
def yX1_add : MethodName := ⟨RX1, "add", "(III)Z"⟩
abbrev cX1_agree : ByteArray := prog_3_method_3_code
def yX1_agree : MethodName := ⟨RX1, "agree", "(II)Z"⟩
def RX2 : String := "PostRelief$Past"
def TX2 : u_T := fun k => match k with
  | 0 => ("PostRelief$Past", "watches", "[LPostRelief$Watch;", true)
  | 1 => ("PostRelief$Past", "next", "I", false)
  | _ => ("PostRelief$Past", "known", "I", false)
def tyX2 : Nat → FieldType := fun k => match k with
  | 0 => .array (.object "PostRelief$Watch")
  | 1 => .int
  | _ => .int
theorem nmX2 : ∀ a, a < 3 → ∀ b, b < 3 → a ≠ b → (TX2 a).2.1 ≠ (TX2 b).2.1 := by decide +kernel
theorem tyX2_ok : ∀ k, k < 3 → parseFieldDescriptor (TX2 k).2.2.1 = some (tyX2 k) := by decide +kernel
abbrev cX2_init : ByteArray := prog_4_method_1_code
def yX2_init : MethodName := ⟨RX2, "<init>", "()V"⟩
abbrev cX2_remember : ByteArray := prog_4_method_2_code
def yX2_remember : MethodName := ⟨RX2, "remember", "(LPostRelief$Watch;)V"⟩
abbrev cX2_restore : ByteArray := prog_4_method_3_code
def yX2_restore : MethodName := ⟨RX2, "restore", "(LPostRelief$Watch;)V"⟩
def RX3 : String := "PostRelief$Plan"
def TX3 : u_T := fun k => match k with
  | 0 => ("PostRelief$Plan", "least", "I", false)
  | 1 => ("PostRelief$Plan", "chosen", "[I", true)
  | 2 => ("PostRelief$Plan", "trial", "[I", true)
  | _ => ("PostRelief$Plan", "debtThen", "[I", true)
def tyX3 : Nat → FieldType := fun k => match k with
  | 0 => .int
  | 1 => .array .int
  | 2 => .array .int
  | _ => .array .int
theorem nmX3 : ∀ a, a < 4 → ∀ b, b < 4 → a ≠ b → (TX3 a).2.1 ≠ (TX3 b).2.1 := by decide +kernel
theorem tyX3_ok : ∀ k, k < 4 → parseFieldDescriptor (TX3 k).2.2.1 = some (tyX3 k) := by decide +kernel
abbrev cX3_init : ByteArray := prog_5_method_1_code
def yX3_init : MethodName := ⟨RX3, "<init>", "()V"⟩
abbrev cX3_search : ByteArray := prog_5_method_2_code
def yX3_search : MethodName := ⟨RX3, "search", "(LPostRelief$Depot;LPostRelief$Watch;)V"⟩
abbrev cX3_weighAll : ByteArray := prog_5_method_3_code
def yX3_weighAll : MethodName := ⟨RX3, "weighAll", "(LPostRelief$Depot;LPostRelief$Watch;)V"⟩
abbrev cX3_tryFrom : ByteArray := prog_5_method_4_code
def yX3_tryFrom : MethodName := ⟨RX3, "tryFrom", "(LPostRelief$Depot;III)V"⟩
def RX4 : String := "PostRelief$Text"
def TX4 : u_T := fun k => match k with
  | 0 => ("PostRelief$Text", "letters", "[I", true)
  | 1 => ("PostRelief$Text", "length", "I", false)
  | 2 => ("PostRelief$Text", "at", "I", false)
  | 3 => ("PostRelief$Text", "start", "I", false)
  | 4 => ("PostRelief$Text", "token", "I", false)
  | 5 => ("PostRelief$Text", "value", "I", false)
  | 6 => ("PostRelief$Text", "onTold", "Z", false)
  | _ => ("PostRelief$Text", "stoveTold", "Z", false)
def tyX4 : Nat → FieldType := fun k => match k with
  | 0 => .array .int
  | 1 => .int
  | 2 => .int
  | 3 => .int
  | 4 => .int
  | 5 => .int
  | 6 => .boolean
  | _ => .boolean
theorem nmX4 : ∀ a, a < 8 → ∀ b, b < 8 → a ≠ b → (TX4 a).2.1 ≠ (TX4 b).2.1 := by decide +kernel
theorem tyX4_ok : ∀ k, k < 8 → parseFieldDescriptor (TX4 k).2.2.1 = some (tyX4 k) := by decide +kernel
abbrev cX4_init : ByteArray := prog_6_method_1_code
def yX4_init : MethodName := ⟨RX4, "<init>", "()V"⟩
abbrev cX4_take : ByteArray := prog_6_method_2_code
def yX4_take : MethodName := ⟨RX4, "take", "(I)Z"⟩
abbrev cX4_readInto : ByteArray := prog_6_method_3_code
def yX4_readInto : MethodName := ⟨RX4, "readInto", "(LPostRelief$Depot;)I"⟩
abbrev cX4_readItem : ByteArray := prog_6_method_4_code
def yX4_readItem : MethodName := ⟨RX4, "readItem", "(LPostRelief$Depot;)Z"⟩
abbrev cX4_readPost : ByteArray := prog_6_method_5_code
def yX4_readPost : MethodName := ⟨RX4, "readPost", "(LPostRelief$Depot;)Z"⟩
abbrev cX4_readMan : ByteArray := prog_6_method_6_code
def yX4_readMan : MethodName := ⟨RX4, "readMan", "(LPostRelief$Depot;)Z"⟩
abbrev cX4_readOn : ByteArray := prog_6_method_7_code
def yX4_readOn : MethodName := ⟨RX4, "readOn", "(LPostRelief$Depot;)Z"⟩
abbrev cX4_readStove : ByteArray := prog_6_method_8_code
def yX4_readStove : MethodName := ⟨RX4, "readStove", "(LPostRelief$Depot;)Z"⟩
abbrev cX4_readNumber : ByteArray := prog_6_method_9_code
def yX4_readNumber : MethodName := ⟨RX4, "readNumber", "(II)Z"⟩
abbrev cX4_readEnd : ByteArray := prog_6_method_10_code
def yX4_readEnd : MethodName := ⟨RX4, "readEnd", "()Z"⟩
abbrev cX4_nextToken : ByteArray := prog_6_method_11_code
def yX4_nextToken : MethodName := ⟨RX4, "nextToken", "()V"⟩
abbrev cX4_takeNumber : ByteArray := prog_6_method_12_code
def yX4_takeNumber : MethodName := ⟨RX4, "takeNumber", "()V"⟩
abbrev cX4_isDigit : ByteArray := prog_6_method_13_code
def yX4_isDigit : MethodName := ⟨RX4, "isDigit", "(I)Z"⟩
def RX5 : String := "PostRelief$Watch"
def TX5 : u_T := fun k => match k with
  | 0 => ("PostRelief$Watch", "hour", "I", false)
  | 1 => ("PostRelief$Watch", "debts", "[I", true)
  | 2 => ("PostRelief$Watch", "guards", "[I", true)
  | 3 => ("PostRelief$Watch", "stood", "[I", true)
  | _ => ("PostRelief$Watch", "served", "[I", true)
def tyX5 : Nat → FieldType := fun k => match k with
  | 0 => .int
  | 1 => .array .int
  | 2 => .array .int
  | 3 => .array .int
  | _ => .array .int
theorem nmX5 : ∀ a, a < 5 → ∀ b, b < 5 → a ≠ b → (TX5 a).2.1 ≠ (TX5 b).2.1 := by decide +kernel
theorem tyX5_ok : ∀ k, k < 5 → parseFieldDescriptor (TX5 k).2.2.1 = some (tyX5 k) := by decide +kernel
abbrev cX5_init : ByteArray := prog_7_method_1_code
def yX5_init : MethodName := ⟨RX5, "<init>", "()V"⟩
abbrev cX5_begin : ByteArray := prog_7_method_2_code
def yX5_begin : MethodName := ⟨RX5, "begin", "(LPostRelief$Depot;)V"⟩
abbrev cX5_become : ByteArray := prog_7_method_3_code
def yX5_become : MethodName := ⟨RX5, "become", "(LPostRelief$Watch;)V"⟩
abbrev cX5_placeOf : ByteArray := prog_7_method_4_code
def yX5_placeOf : MethodName := ⟨RX5, "placeOf", "(I)I"⟩
abbrev cX5_place : ByteArray := prog_7_method_5_code
def yX5_place : MethodName := ⟨RX5, "place", "(II)V"⟩
abbrev cX5_sleepsAt : ByteArray := prog_7_method_6_code
def yX5_sleepsAt : MethodName := ⟨RX5, "sleepsAt", "(I)Z"⟩
abbrev cX5_mannedPosts : ByteArray := prog_7_method_7_code
def yX5_mannedPosts : MethodName := ⟨RX5, "mannedPosts", "()I"⟩
abbrev cX5_sleepingPosts : ByteArray := prog_7_method_8_code
def yX5_sleepingPosts : MethodName := ⟨RX5, "sleepingPosts", "()I"⟩
abbrev cX5_watchedPosts : ByteArray := prog_7_method_9_code
def yX5_watchedPosts : MethodName := ⟨RX5, "watchedPosts", "(LPostRelief$Depot;)I"⟩
abbrev cX5_passHour : ByteArray := prog_7_method_10_code
def yX5_passHour : MethodName := ⟨RX5, "passHour", "(LPostRelief$Depot;)V"⟩
abbrev cX5_bringRelief : ByteArray := prog_7_method_11_code
def yX5_bringRelief : MethodName := ⟨RX5, "bringRelief", "(LPostRelief$Depot;II)I"⟩
abbrev cX5_freshestMan : ByteArray := prog_7_method_12_code
def yX5_freshestMan : MethodName := ⟨RX5, "freshestMan", "(LPostRelief$Depot;I)I"⟩
abbrev cX5_advance : ByteArray := prog_7_method_13_code
def yX5_advance : MethodName := ⟨RX5, "advance", "(LPostRelief$Depot;I)V"⟩
abbrev cX5_greatestDebt : ByteArray := prog_7_method_14_code
def yX5_greatestDebt : MethodName := ⟨RX5, "greatestDebt", "(LPostRelief$Depot;)I"⟩
abbrev cX5_debtOnPost : ByteArray := prog_7_method_15_code
def yX5_debtOnPost : MethodName := ⟨RX5, "debtOnPost", "()I"⟩
abbrev cX5_coldOf : ByteArray := prog_7_method_16_code
def yX5_coldOf : MethodName := ⟨RX5, "coldOf", "(LPostRelief$Depot;I)I"⟩
def RX6 : String := "PostRelief"
def TX6 : u_T := fun k => match k with
  | 0 => ("PostRelief", "text", "LPostRelief$Text;", true)
  | 1 => ("PostRelief", "depot", "LPostRelief$Depot;", true)
  | 2 => ("PostRelief", "draft", "LPostRelief$Depot;", true)
  | 3 => ("PostRelief", "watch", "LPostRelief$Watch;", true)
  | 4 => ("PostRelief", "ahead", "LPostRelief$Watch;", true)
  | 5 => ("PostRelief", "past", "LPostRelief$Past;", true)
  | 6 => ("PostRelief", "images", "[LPostRelief$Watch;", true)
  | 7 => ("PostRelief", "kept", "[Z", true)
  | 8 => ("PostRelief", "findings", "LPostRelief$Findings;", true)
  | 9 => ("PostRelief", "plan", "LPostRelief$Plan;", true)
  | _ => ("PostRelief", "track", "J", false)
def tyX6 : Nat → FieldType := fun k => match k with
  | 0 => .object "PostRelief$Text"
  | 1 => .object "PostRelief$Depot"
  | 2 => .object "PostRelief$Depot"
  | 3 => .object "PostRelief$Watch"
  | 4 => .object "PostRelief$Watch"
  | 5 => .object "PostRelief$Past"
  | 6 => .array (.object "PostRelief$Watch")
  | 7 => .array .boolean
  | 8 => .object "PostRelief$Findings"
  | 9 => .object "PostRelief$Plan"
  | _ => .long
theorem nmX6 : ∀ a, a < 11 → ∀ b, b < 11 → a ≠ b → (TX6 a).2.1 ≠ (TX6 b).2.1 := by decide +kernel
theorem tyX6_ok : ∀ k, k < 11 → parseFieldDescriptor (TX6 k).2.2.1 = some (tyX6 k) := by decide +kernel
abbrev cX6_init : ByteArray := prog_1_method_1_code
def yX6_init : MethodName := ⟨RX6, "<init>", "()V"⟩
abbrev cX6_type : ByteArray := prog_1_method_2_code
def yX6_type : MethodName := ⟨RX6, "type", "(I)I"⟩
abbrev cX6_clear : ByteArray := prog_1_method_3_code
def yX6_clear : MethodName := ⟨RX6, "clear", "()I"⟩
abbrev cX6_depot : ByteArray := prog_1_method_4_code
def yX6_depot : MethodName := ⟨RX6, "depot", "()I"⟩
abbrev cX6_post : ByteArray := prog_1_method_5_code
def yX6_post : MethodName := ⟨RX6, "post", "(II)I"⟩
abbrev cX6_man : ByteArray := prog_1_method_6_code
def yX6_man : MethodName := ⟨RX6, "man", "(II)I"⟩
abbrev cX6_now : ByteArray := prog_1_method_7_code
def yX6_now : MethodName := ⟨RX6, "now", "(I)I"⟩
abbrev cX6_sends : ByteArray := prog_1_method_8_code
def yX6_sends : MethodName := ⟨RX6, "sends", "(II)I"⟩
abbrev cX6_calls : ByteArray := prog_1_method_9_code
def yX6_calls : MethodName := ⟨RX6, "calls", "(I)I"⟩
abbrev cX6_hour : ByteArray := prog_1_method_10_code
def yX6_hour : MethodName := ⟨RX6, "hour", "()I"⟩
abbrev cX6_relieves : ByteArray := prog_1_method_11_code
def yX6_relieves : MethodName := ⟨RX6, "relieves", "(II)I"⟩
abbrev cX6_undo : ByteArray := prog_1_method_12_code
def yX6_undo : MethodName := ⟨RX6, "undo", "()I"⟩
abbrev cX6_inHours : ByteArray := prog_1_method_13_code
def yX6_inHours : MethodName := ⟨RX6, "inHours", "(III)I"⟩
abbrev cX6_round : ByteArray := prog_1_method_14_code
def yX6_round : MethodName := ⟨RX6, "round", "(I)I"⟩
abbrev cX6_rota : ByteArray := prog_1_method_15_code
def yX6_rota : MethodName := ⟨RX6, "rota", "(I)I"⟩
abbrev cX6_leave : ByteArray := prog_1_method_16_code
def yX6_leave : MethodName := ⟨RX6, "leave", "()I"⟩
abbrev cX6_two : ByteArray := prog_1_method_17_code
def yX6_two : MethodName := ⟨RX6, "two", "()I"⟩
abbrev cX6_unseen : ByteArray := prog_1_method_18_code
def yX6_unseen : MethodName := ⟨RX6, "unseen", "(II)I"⟩
abbrev cX6_odds : ByteArray := prog_1_method_19_code
def yX6_odds : MethodName := ⟨RX6, "odds", "(II)I"⟩
abbrev cX6_creep : ByteArray := prog_1_method_20_code
def yX6_creep : MethodName := ⟨RX6, "creep", "(II)I"⟩
abbrev cX6_found : ByteArray := prog_1_method_21_code
def yX6_found : MethodName := ⟨RX6, "found", "(III)I"⟩
abbrev cX6_forget : ByteArray := prog_1_method_22_code
def yX6_forget : MethodName := ⟨RX6, "forget", "()I"⟩
abbrev cX6_fits : ByteArray := prog_1_method_23_code
def yX6_fits : MethodName := ⟨RX6, "fits", "(II)I"⟩
abbrev cX6_had : ByteArray := prog_1_method_24_code
def yX6_had : MethodName := ⟨RX6, "had", "(II)I"⟩
abbrev cX6_fair : ByteArray := prog_1_method_25_code
def yX6_fair : MethodName := ⟨RX6, "fair", "()I"⟩
abbrev cX6_cow : ByteArray := prog_1_method_26_code
def yX6_cow : MethodName := ⟨RX6, "cow", "(III)I"⟩
abbrev cX6_rate : ByteArray := prog_1_method_27_code
def yX6_rate : MethodName := ⟨RX6, "rate", "(II)I"⟩
abbrev cX6_keep : ByteArray := prog_1_method_28_code
def yX6_keep : MethodName := ⟨RX6, "keep", "(I)I"⟩
abbrev cX6_back : ByteArray := prog_1_method_29_code
def yX6_back : MethodName := ⟨RX6, "back", "(I)I"⟩
abbrev cX6_count : ByteArray := prog_1_method_30_code
def yX6_count : MethodName := ⟨RX6, "count", "(I)I"⟩
abbrev cX6_trace : ByteArray := prog_1_method_31_code
def yX6_trace : MethodName := ⟨RX6, "trace", "()J"⟩
abbrev cX6_within : ByteArray := prog_1_method_32_code
def yX6_within : MethodName := ⟨RX6, "within", "(III)Z"⟩
abbrev cX6_isPost : ByteArray := prog_1_method_33_code
def yX6_isPost : MethodName := ⟨RX6, "isPost", "(I)Z"⟩
abbrev cX6_isMan : ByteArray := prog_1_method_34_code
def yX6_isMan : MethodName := ⟨RX6, "isMan", "(I)Z"⟩
abbrev cX6_beginAnew : ByteArray := prog_1_method_35_code
def yX6_beginAnew : MethodName := ⟨RX6, "beginAnew", "()V"⟩
abbrev cX6_canBeLeft : ByteArray := prog_1_method_36_code
def yX6_canBeLeft : MethodName := ⟨RX6, "canBeLeft", "(I)Z"⟩
abbrev cX6_seenOnlyFrom : ByteArray := prog_1_method_37_code
def yX6_seenOnlyFrom : MethodName := ⟨RX6, "seenOnlyFrom", "(I)I"⟩
abbrev cX6_weightOfWaking : ByteArray := prog_1_method_38_code
def yX6_weightOfWaking : MethodName := ⟨RX6, "weightOfWaking", "(III)I"⟩
abbrev cX6_power : ByteArray := prog_1_method_39_code
def yX6_power : MethodName := ⟨RX6, "power", "(II)I"⟩
abbrev cX6_leastTerms : ByteArray := prog_1_method_40_code
def yX6_leastTerms : MethodName := ⟨RX6, "leastTerms", "(III)I"⟩
abbrev cX6_commonDivisor : ByteArray := prog_1_method_41_code
def yX6_commonDivisor : MethodName := ⟨RX6, "commonDivisor", "(II)I"⟩
abbrev cX6_hoursAsleep : ByteArray := prog_1_method_42_code
def yX6_hoursAsleep : MethodName := ⟨RX6, "hoursAsleep", "(II)I"⟩
abbrev cX6_rateOfPost : ByteArray := prog_1_method_43_code
def yX6_rateOfPost : MethodName := ⟨RX6, "rateOfPost", "(I)I"⟩
abbrev cX6_rateOfGate : ByteArray := prog_1_method_44_code
def yX6_rateOfGate : MethodName := ⟨RX6, "rateOfGate", "(I)I"⟩
abbrev cX6_rateOfPump : ByteArray := prog_1_method_45_code
def yX6_rateOfPump : MethodName := ⟨RX6, "rateOfPump", "(I)I"⟩
abbrev cX6_rateOfLane : ByteArray := prog_1_method_46_code
def yX6_rateOfLane : MethodName := ⟨RX6, "rateOfLane", "(I)I"⟩
abbrev cX6_rateOfYard : ByteArray := prog_1_method_47_code
def yX6_rateOfYard : MethodName := ⟨RX6, "rateOfYard", "(I)I"⟩
abbrev cX6_rateOfTower : ByteArray := prog_1_method_48_code
def yX6_rateOfTower : MethodName := ⟨RX6, "rateOfTower", "(I)I"⟩
def RX7 : String := "PostReliefModel"
def TX7 : u_T := fun k => match k with
  | 0 => ("PostReliefModel", "thrown", "I", false)
  | 1 => ("PostReliefModel", "trace", "J", false)
  | 2 => ("PostReliefModel", "text", "[I", true)
  | 3 => ("PostReliefModel", "typed", "I", false)
  | 4 => ("PostReliefModel", "next", "I", false)
  | 5 => ("PostReliefModel", "token", "I", false)
  | 6 => ("PostReliefModel", "place", "I", false)
  | 7 => ("PostReliefModel", "value", "I", false)
  | 8 => ("PostReliefModel", "fault", "I", false)
  | 9 => ("PostReliefModel", "many", "[I", true)
  | 10 => ("PostReliefModel", "sees", "[I", true)
  | 11 => ("PostReliefModel", "cold", "[I", true)
  | 12 => ("PostReliefModel", "first", "[I", true)
  | 13 => ("PostReliefModel", "told", "I", false)
  | 14 => ("PostReliefModel", "s", "[I", true)
  | 15 => ("PostReliefModel", "w", "[I", true)
  | 16 => ("PostReliefModel", "kept", "[I", true)
  | 17 => ("PostReliefModel", "isKept", "[Z", true)
  | 18 => ("PostReliefModel", "undos", "[I", true)
  | 19 => ("PostReliefModel", "undoMany", "I", false)
  | 20 => ("PostReliefModel", "foundMan", "[I", true)
  | 21 => ("PostReliefModel", "foundHours", "[I", true)
  | 22 => ("PostReliefModel", "foundIs", "[I", true)
  | 23 => ("PostReliefModel", "foundMany", "I", false)
  | 24 => ("PostReliefModel", "row", "[I", true)
  | _ => ("PostReliefModel", "best", "[I", true)
def tyX7 : Nat → FieldType := fun k => match k with
  | 0 => .int
  | 1 => .long
  | 2 => .array .int
  | 3 => .int
  | 4 => .int
  | 5 => .int
  | 6 => .int
  | 7 => .int
  | 8 => .int
  | 9 => .array .int
  | 10 => .array .int
  | 11 => .array .int
  | 12 => .array .int
  | 13 => .int
  | 14 => .array .int
  | 15 => .array .int
  | 16 => .array .int
  | 17 => .array .boolean
  | 18 => .array .int
  | 19 => .int
  | 20 => .array .int
  | 21 => .array .int
  | 22 => .array .int
  | 23 => .int
  | 24 => .array .int
  | _ => .array .int
theorem nmX7 : ∀ a, a < 26 → ∀ b, b < 26 → a ≠ b → (TX7 a).2.1 ≠ (TX7 b).2.1 := by decide +kernel
theorem tyX7_ok : ∀ k, k < 26 → parseFieldDescriptor (TX7 k).2.2.1 = some (tyX7 k) := by decide +kernel
abbrev cX7_init : ByteArray := prog_9_method_1_code
def yX7_init : MethodName := ⟨RX7, "<init>", "()V"⟩
abbrev cX7_in : ByteArray := prog_9_method_3_code
def yX7_in : MethodName := ⟨RX7, "in", "(III)Z"⟩
abbrev cX7_ones : ByteArray := prog_9_method_4_code
def yX7_ones : MethodName := ⟨RX7, "ones", "(I)I"⟩
abbrev cX7_type : ByteArray := prog_9_method_5_code
def yX7_type : MethodName := ⟨RX7, "type", "(I)I"⟩
abbrev cX7_clear : ByteArray := prog_9_method_6_code
def yX7_clear : MethodName := ⟨RX7, "clear", "()I"⟩
abbrev cX7_letterAt : ByteArray := prog_9_method_7_code
def yX7_letterAt : MethodName := ⟨RX7, "letterAt", "(I)I"⟩
abbrev cX7_advances : ByteArray := prog_9_method_8_code
def yX7_advances : MethodName := ⟨RX7, "advances", "()V"⟩
abbrev cX7_isWell : ByteArray := prog_9_method_9_code
def yX7_isWell : MethodName := ⟨RX7, "isWell", "()Z"⟩
abbrev cX7_takes : ByteArray := prog_9_method_10_code
def yX7_takes : MethodName := ⟨RX7, "takes", "(Z)I"⟩
abbrev cX7_number : ByteArray := prog_9_method_11_code
def yX7_number : MethodName := ⟨RX7, "number", "(II)I"⟩
abbrev cX7_mayBegin : ByteArray := prog_9_method_12_code
def yX7_mayBegin : MethodName := ⟨RX7, "mayBegin", "()Z"⟩
abbrev cX7_readsItem : ByteArray := prog_9_method_13_code
def yX7_readsItem : MethodName := ⟨RX7, "readsItem", "(I)V"⟩
abbrev cX7_depot : ByteArray := prog_9_method_14_code
def yX7_depot : MethodName := ⟨RX7, "depot", "()I"⟩
abbrev cX7_settles : ByteArray := prog_9_method_15_code
def yX7_settles : MethodName := ⟨RX7, "settles", "()V"⟩
abbrev cX7_isPost : ByteArray := prog_9_method_16_code
def yX7_isPost : MethodName := ⟨RX7, "isPost", "(I)Z"⟩
abbrev cX7_isMan : ByteArray := prog_9_method_17_code
def yX7_isMan : MethodName := ⟨RX7, "isMan", "(I)Z"⟩
abbrev cX7_manAt : ByteArray := prog_9_method_18_code
def yX7_manAt : MethodName := ⟨RX7, "manAt", "([II)I"⟩
abbrev cX7_isAsleep : ByteArray := prog_9_method_19_code
def yX7_isAsleep : MethodName := ⟨RX7, "isAsleep", "([II)Z"⟩
abbrev cX7_post : ByteArray := prog_9_method_20_code
def yX7_post : MethodName := ⟨RX7, "post", "(II)I"⟩
abbrev cX7_man : ByteArray := prog_9_method_21_code
def yX7_man : MethodName := ⟨RX7, "man", "(II)I"⟩
abbrev cX7_standing : ByteArray := prog_9_method_22_code
def yX7_standing : MethodName := ⟨RX7, "standing", "([I)I"⟩
abbrev cX7_asleep : ByteArray := prog_9_method_23_code
def yX7_asleep : MethodName := ⟨RX7, "asleep", "([I)I"⟩
abbrev cX7_watched : ByteArray := prog_9_method_24_code
def yX7_watched : MethodName := ⟨RX7, "watched", "(I)I"⟩
abbrev cX7_watchedIn : ByteArray := prog_9_method_25_code
def yX7_watchedIn : MethodName := ⟨RX7, "watchedIn", "([I)I"⟩
abbrev cX7_now : ByteArray := prog_9_method_26_code
def yX7_now : MethodName := ⟨RX7, "now", "(I)I"⟩
abbrev cX7_notes : ByteArray := prog_9_method_27_code
def yX7_notes : MethodName := ⟨RX7, "notes", "()V"⟩
abbrev cX7_sends : ByteArray := prog_9_method_28_code
def yX7_sends : MethodName := ⟨RX7, "sends", "(II)I"⟩
abbrev cX7_calls : ByteArray := prog_9_method_29_code
def yX7_calls : MethodName := ⟨RX7, "calls", "(I)I"⟩
abbrev cX7_goes : ByteArray := prog_9_method_30_code
def yX7_goes : MethodName := ⟨RX7, "goes", "([I)V"⟩
abbrev cX7_hour : ByteArray := prog_9_method_31_code
def yX7_hour : MethodName := ⟨RX7, "hour", "()I"⟩
abbrev cX7_nextMan : ByteArray := prog_9_method_32_code
def yX7_nextMan : MethodName := ⟨RX7, "nextMan", "([II)I"⟩
abbrev cX7_relieved : ByteArray := prog_9_method_33_code
def yX7_relieved : MethodName := ⟨RX7, "relieved", "([III)I"⟩
abbrev cX7_relieves : ByteArray := prog_9_method_34_code
def yX7_relieves : MethodName := ⟨RX7, "relieves", "(II)I"⟩
abbrev cX7_undo : ByteArray := prog_9_method_35_code
def yX7_undo : MethodName := ⟨RX7, "undo", "()I"⟩
abbrev cX7_asNow : ByteArray := prog_9_method_36_code
def yX7_asNow : MethodName := ⟨RX7, "asNow", "()V"⟩
abbrev cX7_goesBy : ByteArray := prog_9_method_37_code
def yX7_goesBy : MethodName := ⟨RX7, "goesBy", "(I)V"⟩
abbrev cX7_inHours : ByteArray := prog_9_method_38_code
def yX7_inHours : MethodName := ⟨RX7, "inHours", "(III)I"⟩
abbrev cX7_debtStanding : ByteArray := prog_9_method_39_code
def yX7_debtStanding : MethodName := ⟨RX7, "debtStanding", "([I)I"⟩
abbrev cX7_round : ByteArray := prog_9_method_40_code
def yX7_round : MethodName := ⟨RX7, "round", "(I)I"⟩
abbrev cX7_greatest : ByteArray := prog_9_method_41_code
def yX7_greatest : MethodName := ⟨RX7, "greatest", "()I"⟩
abbrev cX7_isRow : ByteArray := prog_9_method_42_code
def yX7_isRow : MethodName := ⟨RX7, "isRow", "(I)Z"⟩
abbrev cX7_rota : ByteArray := prog_9_method_43_code
def yX7_rota : MethodName := ⟨RX7, "rota", "(I)I"⟩
abbrev cX7_seenBy : ByteArray := prog_9_method_44_code
def yX7_seenBy : MethodName := ⟨RX7, "seenBy", "(I)I"⟩
abbrev cX7_leave : ByteArray := prog_9_method_45_code
def yX7_leave : MethodName := ⟨RX7, "leave", "()I"⟩
abbrev cX7_two : ByteArray := prog_9_method_46_code
def yX7_two : MethodName := ⟨RX7, "two", "()I"⟩
abbrev cX7_unseen : ByteArray := prog_9_method_47_code
def yX7_unseen : MethodName := ⟨RX7, "unseen", "(II)I"⟩
abbrev cX7_gcd : ByteArray := prog_9_method_48_code
def yX7_gcd : MethodName := ⟨RX7, "gcd", "(II)I"⟩
abbrev cX7_part : ByteArray := prog_9_method_49_code
def yX7_part : MethodName := ⟨RX7, "part", "(III)I"⟩
abbrev cX7_odds : ByteArray := prog_9_method_50_code
def yX7_odds : MethodName := ⟨RX7, "odds", "(II)I"⟩
abbrev cX7_lowest : ByteArray := prog_9_method_51_code
def yX7_lowest : MethodName := ⟨RX7, "lowest", "(I)I"⟩
abbrev cX7_creep : ByteArray := prog_9_method_52_code
def yX7_creep : MethodName := ⟨RX7, "creep", "(II)I"⟩
abbrev cX7_found : ByteArray := prog_9_method_53_code
def yX7_found : MethodName := ⟨RX7, "found", "(III)I"⟩
abbrev cX7_forget : ByteArray := prog_9_method_54_code
def yX7_forget : MethodName := ⟨RX7, "forget", "()I"⟩
abbrev cX7_isFit : ByteArray := prog_9_method_55_code
def yX7_isFit : MethodName := ⟨RX7, "isFit", "(II)Z"⟩
abbrev cX7_fits : ByteArray := prog_9_method_56_code
def yX7_fits : MethodName := ⟨RX7, "fits", "(II)I"⟩
abbrev cX7_had : ByteArray := prog_9_method_57_code
def yX7_had : MethodName := ⟨RX7, "had", "(II)I"⟩
abbrev cX7_fair : ByteArray := prog_9_method_58_code
def yX7_fair : MethodName := ⟨RX7, "fair", "()I"⟩
abbrev cX7_cow : ByteArray := prog_9_method_59_code
def yX7_cow : MethodName := ⟨RX7, "cow", "(III)I"⟩
abbrev cX7_rate : ByteArray := prog_9_method_60_code
def yX7_rate : MethodName := ⟨RX7, "rate", "(II)I"⟩
abbrev cX7_keep : ByteArray := prog_9_method_61_code
def yX7_keep : MethodName := ⟨RX7, "keep", "(I)I"⟩
abbrev cX7_back : ByteArray := prog_9_method_62_code
def yX7_back : MethodName := ⟨RX7, "back", "(I)I"⟩
abbrev cX7_count : ByteArray := prog_9_method_63_code
def yX7_count : MethodName := ⟨RX7, "count", "(I)I"⟩
abbrev cX7_trace : ByteArray := prog_9_method_64_code
def yX7_trace : MethodName := ⟨RX7, "trace", "()J"⟩
def RJ6 : String := "java/lang/Integer"
def TJ6 : u_T := fun k => match k with
  | _ => ("", "", "", false)
def tyJ6 : Nat → FieldType := fun k => match k with
  | _ => .int
theorem nmJ6 : ∀ a, a < 0 → ∀ b, b < 0 → a ≠ b → (TJ6 a).2.1 ≠ (TJ6 b).2.1 := by decide +kernel
theorem tyJ6_ok : ∀ k, k < 0 → parseFieldDescriptor (TJ6 k).2.2.1 = some (tyJ6 k) := by decide +kernel
abbrev cJ6_numberOfTrailingZeros_0f7a4 : ByteArray := prog_10_method_48_code
def yJ6_numberOfTrailingZeros_0f7a4 : MethodName := ⟨RJ6, "numberOfTrailingZeros", "(I)I"⟩
abbrev cJ6_bitCount_0f7a4 : ByteArray := prog_10_method_49_code
def yJ6_bitCount_0f7a4 : MethodName := ⟨RJ6, "bitCount", "(I)I"⟩
def RJ9 : String := "java/lang/Math"
def TJ9 : u_T := fun k => match k with
  | _ => ("", "", "", false)
def tyJ9 : Nat → FieldType := fun k => match k with
  | _ => .int
theorem nmJ9 : ∀ a, a < 0 → ∀ b, b < 0 → a ≠ b → (TJ9 a).2.1 ≠ (TJ9 b).2.1 := by decide +kernel
theorem tyJ9_ok : ∀ k, k < 0 → parseFieldDescriptor (TJ9 k).2.2.1 = some (tyJ9 k) := by decide +kernel
abbrev cJ9_max_7cf53 : ByteArray := prog_11_method_65_code
def yJ9_max_7cf53 : MethodName := ⟨RJ9, "max", "(II)I"⟩
abbrev cJ9_min_7cf53 : ByteArray := prog_11_method_69_code
def yJ9_min_7cf53 : MethodName := ⟨RJ9, "min", "(II)I"⟩
def RJ10 : String := "java/lang/System"
def TJ10 : u_T := fun k => match k with
  | _ => ("", "", "", false)
def tyJ10 : Nat → FieldType := fun k => match k with
  | _ => .int
theorem nmJ10 : ∀ a, a < 0 → ∀ b, b < 0 → a ≠ b → (TJ10 a).2.1 ≠ (TJ10 b).2.1 := by decide +kernel
theorem tyJ10_ok : ∀ k, k < 0 → parseFieldDescriptor (TJ10 k).2.2.1 = some (tyJ10 k) := by decide +kernel
def RJ7 : String := "java/util/Arrays"
def TJ7 : u_T := fun k => match k with
  | _ => ("", "", "", false)
def tyJ7 : Nat → FieldType := fun k => match k with
  | _ => .int
theorem nmJ7 : ∀ a, a < 0 → ∀ b, b < 0 → a ≠ b → (TJ7 a).2.1 ≠ (TJ7 b).2.1 := by decide +kernel
theorem tyJ7_ok : ∀ k, k < 0 → parseFieldDescriptor (TJ7 k).2.2.1 = some (tyJ7 k) := by decide +kernel
abbrev cJ7_fill_53178 : ByteArray := prog_13_method_103_code
def yJ7_fill_53178 : MethodName := ⟨RJ7, "fill", "([II)V"⟩
def RL : String := "PostReliefLaw"
abbrev cL_law : ByteArray := code
def yL_law : MethodName := ⟨RL, "law", "([I)Z"⟩
abbrev vwCl : List vw_C := [(RX0, TX0, 7), (RX1, TX1, 4), (RX2, TX2, 3), (RX3, TX3, 4), (RX4, TX4, 8), (RX5, TX5, 5), (RX6, TX6, 11), (RX7, TX7, 26)]
