section
-- ===== PART A: goes FIRST, ahead of the names: the tables' words, and 'selects' of the private methods out of them =====
/-- a private method of a class that the tables say can be made, by its rows of tables_1 -/
def lw_okq (q : MethodName × Nat) : Prop := (q.1.cls ≠ "java/lang/invoke/MethodHandle" ∧ q.1.cls ≠ "java/lang/invoke/VarHandle") ∧ Cond.instantiable q.1.cls q.2 ∈ tables_1 ∧ Cond.privateMethod q.1 ∈ tables_1 ∧ Cond.instanceMethod q.1 ∈ tables_1
theorem lw_p0 : lw_okq (⟨"PostRelief$Text", "nextToken", "()V"⟩, 8) := ⟨⟨by decide +kernel, by decide +kernel⟩, List.mem_of_getElem? (i := 22) (by decide +kernel), List.mem_of_getElem? (i := 259) (by decide +kernel), List.mem_of_getElem? (i := 260) (by decide +kernel)⟩
theorem lw_p1 : lw_okq (⟨"PostRelief$Text", "takeNumber", "()V"⟩, 8) := ⟨⟨by decide +kernel, by decide +kernel⟩, List.mem_of_getElem? (i := 22) (by decide +kernel), List.mem_of_getElem? (i := 266) (by decide +kernel), List.mem_of_getElem? (i := 267) (by decide +kernel)⟩
theorem lw_p2 : lw_okq (⟨"PostRelief$Text", "readItem", "(LPostRelief$Depot;)Z"⟩, 8) := ⟨⟨by decide +kernel, by decide +kernel⟩, List.mem_of_getElem? (i := 22) (by decide +kernel), List.mem_of_getElem? (i := 273) (by decide +kernel), List.mem_of_getElem? (i := 274) (by decide +kernel)⟩
theorem lw_p3 : lw_okq (⟨"PostRelief$Text", "readPost", "(LPostRelief$Depot;)Z"⟩, 8) := ⟨⟨by decide +kernel, by decide +kernel⟩, List.mem_of_getElem? (i := 22) (by decide +kernel), List.mem_of_getElem? (i := 277) (by decide +kernel), List.mem_of_getElem? (i := 278) (by decide +kernel)⟩
theorem lw_p4 : lw_okq (⟨"PostRelief$Text", "readNumber", "(II)Z"⟩, 8) := ⟨⟨by decide +kernel, by decide +kernel⟩, List.mem_of_getElem? (i := 22) (by decide +kernel), List.mem_of_getElem? (i := 281) (by decide +kernel), List.mem_of_getElem? (i := 282) (by decide +kernel)⟩
theorem lw_p5 : lw_okq (⟨"PostRelief$Text", "readEnd", "()Z"⟩, 8) := ⟨⟨by decide +kernel, by decide +kernel⟩, List.mem_of_getElem? (i := 22) (by decide +kernel), List.mem_of_getElem? (i := 285) (by decide +kernel), List.mem_of_getElem? (i := 286) (by decide +kernel)⟩
theorem lw_p6 : lw_okq (⟨"PostRelief$Text", "readMan", "(LPostRelief$Depot;)Z"⟩, 8) := ⟨⟨by decide +kernel, by decide +kernel⟩, List.mem_of_getElem? (i := 22) (by decide +kernel), List.mem_of_getElem? (i := 289) (by decide +kernel), List.mem_of_getElem? (i := 290) (by decide +kernel)⟩
theorem lw_p7 : lw_okq (⟨"PostRelief$Text", "readOn", "(LPostRelief$Depot;)Z"⟩, 8) := ⟨⟨by decide +kernel, by decide +kernel⟩, List.mem_of_getElem? (i := 22) (by decide +kernel), List.mem_of_getElem? (i := 293) (by decide +kernel), List.mem_of_getElem? (i := 294) (by decide +kernel)⟩
theorem lw_p8 : lw_okq (⟨"PostRelief$Text", "readStove", "(LPostRelief$Depot;)Z"⟩, 8) := ⟨⟨by decide +kernel, by decide +kernel⟩, List.mem_of_getElem? (i := 22) (by decide +kernel), List.mem_of_getElem? (i := 297) (by decide +kernel), List.mem_of_getElem? (i := 298) (by decide +kernel)⟩
theorem lw_p9 : lw_okq (⟨"PostRelief", "beginAnew", "()V"⟩, 11) := ⟨⟨by decide +kernel, by decide +kernel⟩, List.mem_of_getElem? (i := 14) (by decide +kernel), List.mem_of_getElem? (i := 308) (by decide +kernel), List.mem_of_getElem? (i := 309) (by decide +kernel)⟩
theorem lw_p10 : lw_okq (⟨"PostRelief", "isPost", "(I)Z"⟩, 11) := ⟨⟨by decide +kernel, by decide +kernel⟩, List.mem_of_getElem? (i := 14) (by decide +kernel), List.mem_of_getElem? (i := 321) (by decide +kernel), List.mem_of_getElem? (i := 322) (by decide +kernel)⟩
theorem lw_p11 : lw_okq (⟨"PostRelief", "isMan", "(I)Z"⟩, 11) := ⟨⟨by decide +kernel, by decide +kernel⟩, List.mem_of_getElem? (i := 14) (by decide +kernel), List.mem_of_getElem? (i := 337) (by decide +kernel), List.mem_of_getElem? (i := 338) (by decide +kernel)⟩
theorem lw_p12 : lw_okq (⟨"PostRelief$Plan", "weighAll", "(LPostRelief$Depot;LPostRelief$Watch;)V"⟩, 4) := ⟨⟨by decide +kernel, by decide +kernel⟩, List.mem_of_getElem? (i := 177) (by decide +kernel), List.mem_of_getElem? (i := 474) (by decide +kernel), List.mem_of_getElem? (i := 475) (by decide +kernel)⟩
theorem lw_p13 : lw_okq (⟨"PostRelief$Plan", "tryFrom", "(LPostRelief$Depot;III)V"⟩, 4) := ⟨⟨by decide +kernel, by decide +kernel⟩, List.mem_of_getElem? (i := 177) (by decide +kernel), List.mem_of_getElem? (i := 480) (by decide +kernel), List.mem_of_getElem? (i := 481) (by decide +kernel)⟩
theorem lw_p14 : lw_okq (⟨"PostRelief", "canBeLeft", "(I)Z"⟩, 11) := ⟨⟨by decide +kernel, by decide +kernel⟩, List.mem_of_getElem? (i := 14) (by decide +kernel), List.mem_of_getElem? (i := 491) (by decide +kernel), List.mem_of_getElem? (i := 492) (by decide +kernel)⟩
theorem lw_p15 : lw_okq (⟨"PostRelief", "seenOnlyFrom", "(I)I"⟩, 11) := ⟨⟨by decide +kernel, by decide +kernel⟩, List.mem_of_getElem? (i := 14) (by decide +kernel), List.mem_of_getElem? (i := 500) (by decide +kernel), List.mem_of_getElem? (i := 501) (by decide +kernel)⟩
def lw_privs_1 : List (MethodName × Nat) := [(⟨"PostRelief$Text", "nextToken", "()V"⟩, 8), (⟨"PostRelief$Text", "takeNumber", "()V"⟩, 8), (⟨"PostRelief$Text", "readItem", "(LPostRelief$Depot;)Z"⟩, 8), (⟨"PostRelief$Text", "readPost", "(LPostRelief$Depot;)Z"⟩, 8), (⟨"PostRelief$Text", "readNumber", "(II)Z"⟩, 8), (⟨"PostRelief$Text", "readEnd", "()Z"⟩, 8), (⟨"PostRelief$Text", "readMan", "(LPostRelief$Depot;)Z"⟩, 8), (⟨"PostRelief$Text", "readOn", "(LPostRelief$Depot;)Z"⟩, 8), (⟨"PostRelief$Text", "readStove", "(LPostRelief$Depot;)Z"⟩, 8), (⟨"PostRelief", "beginAnew", "()V"⟩, 11), (⟨"PostRelief", "isPost", "(I)Z"⟩, 11), (⟨"PostRelief", "isMan", "(I)Z"⟩, 11), (⟨"PostRelief$Plan", "weighAll", "(LPostRelief$Depot;LPostRelief$Watch;)V"⟩, 4), (⟨"PostRelief$Plan", "tryFrom", "(LPostRelief$Depot;III)V"⟩, 4), (⟨"PostRelief", "canBeLeft", "(I)Z"⟩, 11), (⟨"PostRelief", "seenOnlyFrom", "(I)I"⟩, 11)]
theorem lw_r1 : ∀ q ∈ lw_privs_1, lw_okq q := List.forall_mem_cons.mpr ⟨lw_p0, List.forall_mem_cons.mpr ⟨lw_p1, List.forall_mem_cons.mpr ⟨lw_p2, List.forall_mem_cons.mpr ⟨lw_p3, List.forall_mem_cons.mpr ⟨lw_p4, List.forall_mem_cons.mpr ⟨lw_p5, List.forall_mem_cons.mpr ⟨lw_p6, List.forall_mem_cons.mpr ⟨lw_p7, List.forall_mem_cons.mpr ⟨lw_p8, List.forall_mem_cons.mpr ⟨lw_p9, List.forall_mem_cons.mpr ⟨lw_p10, List.forall_mem_cons.mpr ⟨lw_p11, List.forall_mem_cons.mpr ⟨lw_p12, List.forall_mem_cons.mpr ⟨lw_p13, List.forall_mem_cons.mpr ⟨lw_p14, List.forall_mem_cons.mpr ⟨lw_p15, fun _ h => absurd h List.not_mem_nil⟩⟩⟩⟩⟩⟩⟩⟩⟩⟩⟩⟩⟩⟩⟩⟩
theorem lw_p16 : lw_okq (⟨"PostRelief", "hoursAsleep", "(II)I"⟩, 11) := ⟨⟨by decide +kernel, by decide +kernel⟩, List.mem_of_getElem? (i := 14) (by decide +kernel), List.mem_of_getElem? (i := 548) (by decide +kernel), List.mem_of_getElem? (i := 549) (by decide +kernel)⟩
theorem lw_p17 : lw_okq (⟨"PostRelief", "rateOfPost", "(I)I"⟩, 11) := ⟨⟨by decide +kernel, by decide +kernel⟩, List.mem_of_getElem? (i := 14) (by decide +kernel), List.mem_of_getElem? (i := 579) (by decide +kernel), List.mem_of_getElem? (i := 580) (by decide +kernel)⟩
theorem lw_p18 : lw_okq (⟨"PostRelief", "rateOfGate", "(I)I"⟩, 11) := ⟨⟨by decide +kernel, by decide +kernel⟩, List.mem_of_getElem? (i := 14) (by decide +kernel), List.mem_of_getElem? (i := 583) (by decide +kernel), List.mem_of_getElem? (i := 584) (by decide +kernel)⟩
theorem lw_p19 : lw_okq (⟨"PostRelief", "rateOfPump", "(I)I"⟩, 11) := ⟨⟨by decide +kernel, by decide +kernel⟩, List.mem_of_getElem? (i := 14) (by decide +kernel), List.mem_of_getElem? (i := 588) (by decide +kernel), List.mem_of_getElem? (i := 589) (by decide +kernel)⟩
theorem lw_p20 : lw_okq (⟨"PostRelief", "rateOfLane", "(I)I"⟩, 11) := ⟨⟨by decide +kernel, by decide +kernel⟩, List.mem_of_getElem? (i := 14) (by decide +kernel), List.mem_of_getElem? (i := 593) (by decide +kernel), List.mem_of_getElem? (i := 594) (by decide +kernel)⟩
theorem lw_p21 : lw_okq (⟨"PostRelief", "rateOfYard", "(I)I"⟩, 11) := ⟨⟨by decide +kernel, by decide +kernel⟩, List.mem_of_getElem? (i := 14) (by decide +kernel), List.mem_of_getElem? (i := 598) (by decide +kernel), List.mem_of_getElem? (i := 599) (by decide +kernel)⟩
theorem lw_p22 : lw_okq (⟨"PostRelief", "rateOfTower", "(I)I"⟩, 11) := ⟨⟨by decide +kernel, by decide +kernel⟩, List.mem_of_getElem? (i := 14) (by decide +kernel), List.mem_of_getElem? (i := 603) (by decide +kernel), List.mem_of_getElem? (i := 604) (by decide +kernel)⟩
theorem lw_p23 : lw_okq (⟨"PostReliefModel", "advances", "()V"⟩, 26) := ⟨⟨by decide +kernel, by decide +kernel⟩, List.mem_of_getElem? (i := 624) (by decide +kernel), List.mem_of_getElem? (i := 724) (by decide +kernel), List.mem_of_getElem? (i := 725) (by decide +kernel)⟩
theorem lw_p24 : lw_okq (⟨"PostReliefModel", "letterAt", "(I)I"⟩, 26) := ⟨⟨by decide +kernel, by decide +kernel⟩, List.mem_of_getElem? (i := 624) (by decide +kernel), List.mem_of_getElem? (i := 728) (by decide +kernel), List.mem_of_getElem? (i := 729) (by decide +kernel)⟩
theorem lw_p25 : lw_okq (⟨"PostReliefModel", "isWell", "()Z"⟩, 26) := ⟨⟨by decide +kernel, by decide +kernel⟩, List.mem_of_getElem? (i := 624) (by decide +kernel), List.mem_of_getElem? (i := 732) (by decide +kernel), List.mem_of_getElem? (i := 733) (by decide +kernel)⟩
theorem lw_p26 : lw_okq (⟨"PostReliefModel", "mayBegin", "()Z"⟩, 26) := ⟨⟨by decide +kernel, by decide +kernel⟩, List.mem_of_getElem? (i := 624) (by decide +kernel), List.mem_of_getElem? (i := 736) (by decide +kernel), List.mem_of_getElem? (i := 737) (by decide +kernel)⟩
theorem lw_p27 : lw_okq (⟨"PostReliefModel", "takes", "(Z)I"⟩, 26) := ⟨⟨by decide +kernel, by decide +kernel⟩, List.mem_of_getElem? (i := 624) (by decide +kernel), List.mem_of_getElem? (i := 740) (by decide +kernel), List.mem_of_getElem? (i := 741) (by decide +kernel)⟩
theorem lw_p28 : lw_okq (⟨"PostReliefModel", "readsItem", "(I)V"⟩, 26) := ⟨⟨by decide +kernel, by decide +kernel⟩, List.mem_of_getElem? (i := 624) (by decide +kernel), List.mem_of_getElem? (i := 744) (by decide +kernel), List.mem_of_getElem? (i := 745) (by decide +kernel)⟩
theorem lw_p29 : lw_okq (⟨"PostReliefModel", "number", "(II)I"⟩, 26) := ⟨⟨by decide +kernel, by decide +kernel⟩, List.mem_of_getElem? (i := 624) (by decide +kernel), List.mem_of_getElem? (i := 748) (by decide +kernel), List.mem_of_getElem? (i := 749) (by decide +kernel)⟩
theorem lw_p30 : lw_okq (⟨"PostReliefModel", "settles", "()V"⟩, 26) := ⟨⟨by decide +kernel, by decide +kernel⟩, List.mem_of_getElem? (i := 624) (by decide +kernel), List.mem_of_getElem? (i := 752) (by decide +kernel), List.mem_of_getElem? (i := 753) (by decide +kernel)⟩
theorem lw_p31 : lw_okq (⟨"PostReliefModel", "isPost", "(I)Z"⟩, 26) := ⟨⟨by decide +kernel, by decide +kernel⟩, List.mem_of_getElem? (i := 624) (by decide +kernel), List.mem_of_getElem? (i := 760) (by decide +kernel), List.mem_of_getElem? (i := 761) (by decide +kernel)⟩
def lw_privs_2 : List (MethodName × Nat) := [(⟨"PostRelief", "hoursAsleep", "(II)I"⟩, 11), (⟨"PostRelief", "rateOfPost", "(I)I"⟩, 11), (⟨"PostRelief", "rateOfGate", "(I)I"⟩, 11), (⟨"PostRelief", "rateOfPump", "(I)I"⟩, 11), (⟨"PostRelief", "rateOfLane", "(I)I"⟩, 11), (⟨"PostRelief", "rateOfYard", "(I)I"⟩, 11), (⟨"PostRelief", "rateOfTower", "(I)I"⟩, 11), (⟨"PostReliefModel", "advances", "()V"⟩, 26), (⟨"PostReliefModel", "letterAt", "(I)I"⟩, 26), (⟨"PostReliefModel", "isWell", "()Z"⟩, 26), (⟨"PostReliefModel", "mayBegin", "()Z"⟩, 26), (⟨"PostReliefModel", "takes", "(Z)I"⟩, 26), (⟨"PostReliefModel", "readsItem", "(I)V"⟩, 26), (⟨"PostReliefModel", "number", "(II)I"⟩, 26), (⟨"PostReliefModel", "settles", "()V"⟩, 26), (⟨"PostReliefModel", "isPost", "(I)Z"⟩, 26)]
theorem lw_r2 : ∀ q ∈ lw_privs_2, lw_okq q := List.forall_mem_cons.mpr ⟨lw_p16, List.forall_mem_cons.mpr ⟨lw_p17, List.forall_mem_cons.mpr ⟨lw_p18, List.forall_mem_cons.mpr ⟨lw_p19, List.forall_mem_cons.mpr ⟨lw_p20, List.forall_mem_cons.mpr ⟨lw_p21, List.forall_mem_cons.mpr ⟨lw_p22, List.forall_mem_cons.mpr ⟨lw_p23, List.forall_mem_cons.mpr ⟨lw_p24, List.forall_mem_cons.mpr ⟨lw_p25, List.forall_mem_cons.mpr ⟨lw_p26, List.forall_mem_cons.mpr ⟨lw_p27, List.forall_mem_cons.mpr ⟨lw_p28, List.forall_mem_cons.mpr ⟨lw_p29, List.forall_mem_cons.mpr ⟨lw_p30, List.forall_mem_cons.mpr ⟨lw_p31, fun _ h => absurd h List.not_mem_nil⟩⟩⟩⟩⟩⟩⟩⟩⟩⟩⟩⟩⟩⟩⟩⟩
theorem lw_p32 : lw_okq (⟨"PostReliefModel", "manAt", "([II)I"⟩, 26) := ⟨⟨by decide +kernel, by decide +kernel⟩, List.mem_of_getElem? (i := 624) (by decide +kernel), List.mem_of_getElem? (i := 764) (by decide +kernel), List.mem_of_getElem? (i := 765) (by decide +kernel)⟩
theorem lw_p33 : lw_okq (⟨"PostReliefModel", "isMan", "(I)Z"⟩, 26) := ⟨⟨by decide +kernel, by decide +kernel⟩, List.mem_of_getElem? (i := 624) (by decide +kernel), List.mem_of_getElem? (i := 772) (by decide +kernel), List.mem_of_getElem? (i := 773) (by decide +kernel)⟩
theorem lw_p34 : lw_okq (⟨"PostReliefModel", "standing", "([I)I"⟩, 26) := ⟨⟨by decide +kernel, by decide +kernel⟩, List.mem_of_getElem? (i := 624) (by decide +kernel), List.mem_of_getElem? (i := 783) (by decide +kernel), List.mem_of_getElem? (i := 784) (by decide +kernel)⟩
theorem lw_p35 : lw_okq (⟨"PostReliefModel", "asleep", "([I)I"⟩, 26) := ⟨⟨by decide +kernel, by decide +kernel⟩, List.mem_of_getElem? (i := 624) (by decide +kernel), List.mem_of_getElem? (i := 787) (by decide +kernel), List.mem_of_getElem? (i := 788) (by decide +kernel)⟩
theorem lw_p36 : lw_okq (⟨"PostReliefModel", "watchedIn", "([I)I"⟩, 26) := ⟨⟨by decide +kernel, by decide +kernel⟩, List.mem_of_getElem? (i := 624) (by decide +kernel), List.mem_of_getElem? (i := 791) (by decide +kernel), List.mem_of_getElem? (i := 792) (by decide +kernel)⟩
theorem lw_p37 : lw_okq (⟨"PostReliefModel", "watched", "(I)I"⟩, 26) := ⟨⟨by decide +kernel, by decide +kernel⟩, List.mem_of_getElem? (i := 624) (by decide +kernel), List.mem_of_getElem? (i := 795) (by decide +kernel), List.mem_of_getElem? (i := 796) (by decide +kernel)⟩
theorem lw_p38 : lw_okq (⟨"PostReliefModel", "notes", "()V"⟩, 26) := ⟨⟨by decide +kernel, by decide +kernel⟩, List.mem_of_getElem? (i := 624) (by decide +kernel), List.mem_of_getElem? (i := 803) (by decide +kernel), List.mem_of_getElem? (i := 804) (by decide +kernel)⟩
theorem lw_p39 : lw_okq (⟨"PostReliefModel", "goes", "([I)V"⟩, 26) := ⟨⟨by decide +kernel, by decide +kernel⟩, List.mem_of_getElem? (i := 624) (by decide +kernel), List.mem_of_getElem? (i := 818) (by decide +kernel), List.mem_of_getElem? (i := 819) (by decide +kernel)⟩
theorem lw_p40 : lw_okq (⟨"PostReliefModel", "relieved", "([III)I"⟩, 26) := ⟨⟨by decide +kernel, by decide +kernel⟩, List.mem_of_getElem? (i := 624) (by decide +kernel), List.mem_of_getElem? (i := 826) (by decide +kernel), List.mem_of_getElem? (i := 827) (by decide +kernel)⟩
theorem lw_p41 : lw_okq (⟨"PostReliefModel", "nextMan", "([II)I"⟩, 26) := ⟨⟨by decide +kernel, by decide +kernel⟩, List.mem_of_getElem? (i := 624) (by decide +kernel), List.mem_of_getElem? (i := 830) (by decide +kernel), List.mem_of_getElem? (i := 831) (by decide +kernel)⟩
theorem lw_p42 : lw_okq (⟨"PostReliefModel", "asNow", "()V"⟩, 26) := ⟨⟨by decide +kernel, by decide +kernel⟩, List.mem_of_getElem? (i := 624) (by decide +kernel), List.mem_of_getElem? (i := 842) (by decide +kernel), List.mem_of_getElem? (i := 843) (by decide +kernel)⟩
theorem lw_p43 : lw_okq (⟨"PostReliefModel", "goesBy", "(I)V"⟩, 26) := ⟨⟨by decide +kernel, by decide +kernel⟩, List.mem_of_getElem? (i := 624) (by decide +kernel), List.mem_of_getElem? (i := 846) (by decide +kernel), List.mem_of_getElem? (i := 847) (by decide +kernel)⟩
theorem lw_p44 : lw_okq (⟨"PostReliefModel", "debtStanding", "([I)I"⟩, 26) := ⟨⟨by decide +kernel, by decide +kernel⟩, List.mem_of_getElem? (i := 624) (by decide +kernel), List.mem_of_getElem? (i := 855) (by decide +kernel), List.mem_of_getElem? (i := 856) (by decide +kernel)⟩
theorem lw_p45 : lw_okq (⟨"PostReliefModel", "isRow", "(I)Z"⟩, 26) := ⟨⟨by decide +kernel, by decide +kernel⟩, List.mem_of_getElem? (i := 624) (by decide +kernel), List.mem_of_getElem? (i := 863) (by decide +kernel), List.mem_of_getElem? (i := 864) (by decide +kernel)⟩
theorem lw_p46 : lw_okq (⟨"PostReliefModel", "greatest", "()I"⟩, 26) := ⟨⟨by decide +kernel, by decide +kernel⟩, List.mem_of_getElem? (i := 624) (by decide +kernel), List.mem_of_getElem? (i := 867) (by decide +kernel), List.mem_of_getElem? (i := 868) (by decide +kernel)⟩
theorem lw_p47 : lw_okq (⟨"PostReliefModel", "seenBy", "(I)I"⟩, 26) := ⟨⟨by decide +kernel, by decide +kernel⟩, List.mem_of_getElem? (i := 624) (by decide +kernel), List.mem_of_getElem? (i := 875) (by decide +kernel), List.mem_of_getElem? (i := 876) (by decide +kernel)⟩
def lw_privs_3 : List (MethodName × Nat) := [(⟨"PostReliefModel", "manAt", "([II)I"⟩, 26), (⟨"PostReliefModel", "isMan", "(I)Z"⟩, 26), (⟨"PostReliefModel", "standing", "([I)I"⟩, 26), (⟨"PostReliefModel", "asleep", "([I)I"⟩, 26), (⟨"PostReliefModel", "watchedIn", "([I)I"⟩, 26), (⟨"PostReliefModel", "watched", "(I)I"⟩, 26), (⟨"PostReliefModel", "notes", "()V"⟩, 26), (⟨"PostReliefModel", "goes", "([I)V"⟩, 26), (⟨"PostReliefModel", "relieved", "([III)I"⟩, 26), (⟨"PostReliefModel", "nextMan", "([II)I"⟩, 26), (⟨"PostReliefModel", "asNow", "()V"⟩, 26), (⟨"PostReliefModel", "goesBy", "(I)V"⟩, 26), (⟨"PostReliefModel", "debtStanding", "([I)I"⟩, 26), (⟨"PostReliefModel", "isRow", "(I)Z"⟩, 26), (⟨"PostReliefModel", "greatest", "()I"⟩, 26), (⟨"PostReliefModel", "seenBy", "(I)I"⟩, 26)]
theorem lw_r3 : ∀ q ∈ lw_privs_3, lw_okq q := List.forall_mem_cons.mpr ⟨lw_p32, List.forall_mem_cons.mpr ⟨lw_p33, List.forall_mem_cons.mpr ⟨lw_p34, List.forall_mem_cons.mpr ⟨lw_p35, List.forall_mem_cons.mpr ⟨lw_p36, List.forall_mem_cons.mpr ⟨lw_p37, List.forall_mem_cons.mpr ⟨lw_p38, List.forall_mem_cons.mpr ⟨lw_p39, List.forall_mem_cons.mpr ⟨lw_p40, List.forall_mem_cons.mpr ⟨lw_p41, List.forall_mem_cons.mpr ⟨lw_p42, List.forall_mem_cons.mpr ⟨lw_p43, List.forall_mem_cons.mpr ⟨lw_p44, List.forall_mem_cons.mpr ⟨lw_p45, List.forall_mem_cons.mpr ⟨lw_p46, List.forall_mem_cons.mpr ⟨lw_p47, fun _ h => absurd h List.not_mem_nil⟩⟩⟩⟩⟩⟩⟩⟩⟩⟩⟩⟩⟩⟩⟩⟩
theorem lw_p48 : lw_okq (⟨"PostReliefModel", "isFit", "(II)Z"⟩, 26) := ⟨⟨by decide +kernel, by decide +kernel⟩, List.mem_of_getElem? (i := 624) (by decide +kernel), List.mem_of_getElem? (i := 916) (by decide +kernel), List.mem_of_getElem? (i := 917) (by decide +kernel)⟩
def lw_privs_4 : List (MethodName × Nat) := [(⟨"PostReliefModel", "isFit", "(II)Z"⟩, 26)]
theorem lw_r4 : ∀ q ∈ lw_privs_4, lw_okq q := List.forall_mem_cons.mpr ⟨lw_p48, fun _ h => absurd h List.not_mem_nil⟩
def lw_privs : List (MethodName × Nat) := lw_privs_1 ++ (lw_privs_2 ++ (lw_privs_3 ++ (lw_privs_4)))
def lw_tbl : List Cond := k2_sels lw_privs ++ tables_1
theorem lw_privs_ok : ∀ q ∈ lw_privs, lw_okq q := by
  show ∀ q ∈ lw_privs_1 ++ (lw_privs_2 ++ (lw_privs_3 ++ (lw_privs_4))), lw_okq q
  exact List.forall_mem_append.mpr ⟨lw_r1, List.forall_mem_append.mpr ⟨lw_r2, List.forall_mem_append.mpr ⟨lw_r3, lw_r4⟩⟩⟩
def RX0 : String := "PostRelief$Depot"
def TX0 : u_T := fun k => match k with
  | 0 => ("PostRelief$Depot", "posts", "I", false)
  | 1 => ("PostRelief$Depot", "sees", "[I", true)
  | 2 => ("PostRelief$Depot", "cold", "[I", true)
  | 3 => ("PostRelief$Depot", "men", "I", false)
  | 4 => ("PostRelief$Depot", "debts", "[I", true)
  | 5 => ("PostRelief$Depot", "on", "I", false)
  | _ => ("PostRelief$Depot", "stove", "I", false)
def tyX0 : Nat → FieldType := fun k => match k with
  | 0 => .int
  | 1 => .array .int
  | 2 => .array .int
  | 3 => .int
  | 4 => .array .int
  | 5 => .int
  | _ => .int
theorem nmX0 : ∀ a, a < 7 → ∀ b, b < 7 → a ≠ b → (TX0 a).2.1 ≠ (TX0 b).2.1 := by decide +kernel
theorem tyX0_ok : ∀ k, k < 7 → parseFieldDescriptor (TX0 k).2.2.1 = some (tyX0 k) := by decide +kernel
abbrev cX0_init : ByteArray := prog_2_method_1_code
def yX0_init : MethodName := ⟨RX0, "<init>", "()V"⟩
abbrev cX0_empty : ByteArray := prog_2_method_2_code
def yX0_empty : MethodName := ⟨RX0, "empty", "()V"⟩
abbrev cX0_become : ByteArray := prog_2_method_3_code
def yX0_become : MethodName := ⟨RX0, "become", "(LPostRelief$Depot;)V"⟩
abbrev cX0_allPosts : ByteArray := prog_2_method_4_code
def yX0_allPosts : MethodName := ⟨RX0, "allPosts", "()I"⟩
abbrev cX0_seenFrom : ByteArray := prog_2_method_5_code
def yX0_seenFrom : MethodName := ⟨RX0, "seenFrom", "(I)I"⟩
abbrev cX0_watchedBy : ByteArray := prog_2_method_6_code
def yX0_watchedBy : MethodName := ⟨RX0, "watchedBy", "(I)I"⟩
abbrev cX0_burden : ByteArray := prog_2_method_7_code
def yX0_burden : MethodName := ⟨RX0, "burden", "(II)I"⟩
abbrev cX0_nextPost : ByteArray := prog_2_method_8_code
def yX0_nextPost : MethodName := ⟨RX0, "nextPost", "(II)I"⟩
def RX1 : String := "PostRelief$Findings"
def TX1 : u_T := fun k => match k with
  | 0 => ("PostRelief$Findings", "size", "I", false)
  | 1 => ("PostRelief$Findings", "men", "[I", true)
  | 2 => ("PostRelief$Findings", "hours", "[I", true)
  | _ => ("PostRelief$Findings", "asleep", "[I", true)
def tyX1 : Nat → FieldType := fun k => match k with
  | 0 => .int
  | 1 => .array .int
  | 2 => .array .int
  | _ => .array .int
theorem nmX1 : ∀ a, a < 4 → ∀ b, b < 4 → a ≠ b → (TX1 a).2.1 ≠ (TX1 b).2.1 := by decide +kernel
theorem tyX1_ok : ∀ k, k < 4 → parseFieldDescriptor (TX1 k).2.2.1 = some (tyX1 k) := by decide +kernel
abbrev cX1_init : ByteArray := prog_3_method_1_code
def yX1_init : MethodName := ⟨RX1, "<init>", "()V"⟩
abbrev cX1_add : ByteArray := prog_3_method_2_code
def yX1_add : MethodName := ⟨RX1, "add", "(III)Z"⟩
abbrev cX1_agree : ByteArray := prog_3_method_3_code
def yX1_agree : MethodName := ⟨RX1, "agree", "(II)Z"⟩
def RX2 : String := "PostRelief$Past"
def TX2 : u_T := fun k => match k with
  | 0 => ("PostRelief$Past", "watches", "[LPostRelief$Watch;", true)
  | 1 => ("PostRelief$Past", "next", "I", false)
  | _ => ("PostRelief$Past", "known", "I", false)
def tyX2 : Nat → FieldType := fun k => match k with
  | 0 => .array (.object "PostRelief$Watch")
  | 1 => .int
  | _ => .int
theorem nmX2 : ∀ a, a < 3 → ∀ b, b < 3 → a ≠ b → (TX2 a).2.1 ≠ (TX2 b).2.1 := by decide +kernel
theorem tyX2_ok : ∀ k, k < 3 → parseFieldDescriptor (TX2 k).2.2.1 = some (tyX2 k) := by decide +kernel
abbrev cX2_init : ByteArray := prog_4_method_1_code
def yX2_init : MethodName := ⟨RX2, "<init>", "()V"⟩
abbrev cX2_remember : ByteArray := prog_4_method_2_code
def yX2_remember : MethodName := ⟨RX2, "remember", "(LPostRelief$Watch;)V"⟩
abbrev cX2_restore : ByteArray := prog_4_method_3_code
def yX2_restore : MethodName := ⟨RX2, "restore", "(LPostRelief$Watch;)V"⟩
def RX3 : String := "PostRelief$Plan"
def TX3 : u_T := fun k => match k with
  | 0 => ("PostRelief$Plan", "least", "I", false)
  | 1 => ("PostRelief$Plan", "chosen", "[I", true)
  | 2 => ("PostRelief$Plan", "trial", "[I", true)
  | _ => ("PostRelief$Plan", "debtThen", "[I", true)
def tyX3 : Nat → FieldType := fun k => match k with
  | 0 => .int
  | 1 => .array .int
  | 2 => .array .int
  | _ => .array .int
theorem nmX3 : ∀ a, a < 4 → ∀ b, b < 4 → a ≠ b → (TX3 a).2.1 ≠ (TX3 b).2.1 := by decide +kernel
theorem tyX3_ok : ∀ k, k < 4 → parseFieldDescriptor (TX3 k).2.2.1 = some (tyX3 k) := by decide +kernel
abbrev cX3_init : ByteArray := prog_5_method_1_code
def yX3_init : MethodName := ⟨RX3, "<init>", "()V"⟩
abbrev cX3_search : ByteArray := prog_5_method_2_code
def yX3_search : MethodName := ⟨RX3, "search", "(LPostRelief$Depot;LPostRelief$Watch;)V"⟩
abbrev cX3_weighAll : ByteArray := prog_5_method_3_code
def yX3_weighAll : MethodName := ⟨RX3, "weighAll", "(LPostRelief$Depot;LPostRelief$Watch;)V"⟩
abbrev cX3_tryFrom : ByteArray := prog_5_method_4_code
def yX3_tryFrom : MethodName := ⟨RX3, "tryFrom", "(LPostRelief$Depot;III)V"⟩
def RX4 : String := "PostRelief$Text"
def TX4 : u_T := fun k => match k with
  | 0 => ("PostRelief$Text", "letters", "[I", true)
  | 1 => ("PostRelief$Text", "length", "I", false)
  | 2 => ("PostRelief$Text", "at", "I", false)
  | 3 => ("PostRelief$Text", "start", "I", false)
  | 4 => ("PostRelief$Text", "token", "I", false)
  | 5 => ("PostRelief$Text", "value", "I", false)
  | 6 => ("PostRelief$Text", "onTold", "Z", false)
  | _ => ("PostRelief$Text", "stoveTold", "Z", false)
def tyX4 : Nat → FieldType := fun k => match k with
  | 0 => .array .int
  | 1 => .int
  | 2 => .int
  | 3 => .int
  | 4 => .int
  | 5 => .int
  | 6 => .boolean
  | _ => .boolean
theorem nmX4 : ∀ a, a < 8 → ∀ b, b < 8 → a ≠ b → (TX4 a).2.1 ≠ (TX4 b).2.1 := by decide +kernel
theorem tyX4_ok : ∀ k, k < 8 → parseFieldDescriptor (TX4 k).2.2.1 = some (tyX4 k) := by decide +kernel
abbrev cX4_init : ByteArray := prog_6_method_1_code
def yX4_init : MethodName := ⟨RX4, "<init>", "()V"⟩
abbrev cX4_take : ByteArray := prog_6_method_2_code
def yX4_take : MethodName := ⟨RX4, "take", "(I)Z"⟩
abbrev cX4_readInto : ByteArray := prog_6_method_3_code
def yX4_readInto : MethodName := ⟨RX4, "readInto", "(LPostRelief$Depot;)I"⟩
abbrev cX4_readItem : ByteArray := prog_6_method_4_code
def yX4_readItem : MethodName := ⟨RX4, "readItem", "(LPostRelief$Depot;)Z"⟩
abbrev cX4_readPost : ByteArray := prog_6_method_5_code
def yX4_readPost : MethodName := ⟨RX4, "readPost", "(LPostRelief$Depot;)Z"⟩
abbrev cX4_readMan : ByteArray := prog_6_method_6_code
def yX4_readMan : MethodName := ⟨RX4, "readMan", "(LPostRelief$Depot;)Z"⟩
abbrev cX4_readOn : ByteArray := prog_6_method_7_code
def yX4_readOn : MethodName := ⟨RX4, "readOn", "(LPostRelief$Depot;)Z"⟩
abbrev cX4_readStove : ByteArray := prog_6_method_8_code
def yX4_readStove : MethodName := ⟨RX4, "readStove", "(LPostRelief$Depot;)Z"⟩
abbrev cX4_readNumber : ByteArray := prog_6_method_9_code
def yX4_readNumber : MethodName := ⟨RX4, "readNumber", "(II)Z"⟩
abbrev cX4_readEnd : ByteArray := prog_6_method_10_code
def yX4_readEnd : MethodName := ⟨RX4, "readEnd", "()Z"⟩
abbrev cX4_nextToken : ByteArray := prog_6_method_11_code
def yX4_nextToken : MethodName := ⟨RX4, "nextToken", "()V"⟩
abbrev cX4_takeNumber : ByteArray := prog_6_method_12_code
def yX4_takeNumber : MethodName := ⟨RX4, "takeNumber", "()V"⟩
abbrev cX4_isDigit : ByteArray := prog_6_method_13_code
def yX4_isDigit : MethodName := ⟨RX4, "isDigit", "(I)Z"⟩
def RX5 : String := "PostRelief$Watch"
def TX5 : u_T := fun k => match k with
  | 0 => ("PostRelief$Watch", "hour", "I", false)
  | 1 => ("PostRelief$Watch", "debts", "[I", true)
  | 2 => ("PostRelief$Watch", "guards", "[I", true)
  | 3 => ("PostRelief$Watch", "stood", "[I", true)
  | _ => ("PostRelief$Watch", "served", "[I", true)
def tyX5 : Nat → FieldType := fun k => match k with
  | 0 => .int
  | 1 => .array .int
  | 2 => .array .int
  | 3 => .array .int
  | _ => .array .int
theorem nmX5 : ∀ a, a < 5 → ∀ b, b < 5 → a ≠ b → (TX5 a).2.1 ≠ (TX5 b).2.1 := by decide +kernel
theorem tyX5_ok : ∀ k, k < 5 → parseFieldDescriptor (TX5 k).2.2.1 = some (tyX5 k) := by decide +kernel
abbrev cX5_init : ByteArray := prog_7_method_1_code
def yX5_init : MethodName := ⟨RX5, "<init>", "()V"⟩
abbrev cX5_begin : ByteArray := prog_7_method_2_code
def yX5_begin : MethodName := ⟨RX5, "begin", "(LPostRelief$Depot;)V"⟩
abbrev cX5_become : ByteArray := prog_7_method_3_code
def yX5_become : MethodName := ⟨RX5, "become", "(LPostRelief$Watch;)V"⟩
abbrev cX5_placeOf : ByteArray := prog_7_method_4_code
def yX5_placeOf : MethodName := ⟨RX5, "placeOf", "(I)I"⟩
abbrev cX5_place : ByteArray := prog_7_method_5_code
def yX5_place : MethodName := ⟨RX5, "place", "(II)V"⟩
abbrev cX5_sleepsAt : ByteArray := prog_7_method_6_code
def yX5_sleepsAt : MethodName := ⟨RX5, "sleepsAt", "(I)Z"⟩
abbrev cX5_mannedPosts : ByteArray := prog_7_method_7_code
def yX5_mannedPosts : MethodName := ⟨RX5, "mannedPosts", "()I"⟩
abbrev cX5_sleepingPosts : ByteArray := prog_7_method_8_code
def yX5_sleepingPosts : MethodName := ⟨RX5, "sleepingPosts", "()I"⟩
abbrev cX5_watchedPosts : ByteArray := prog_7_method_9_code
def yX5_watchedPosts : MethodName := ⟨RX5, "watchedPosts", "(LPostRelief$Depot;)I"⟩
abbrev cX5_passHour : ByteArray := prog_7_method_10_code
def yX5_passHour : MethodName := ⟨RX5, "passHour", "(LPostRelief$Depot;)V"⟩
abbrev cX5_bringRelief : ByteArray := prog_7_method_11_code
def yX5_bringRelief : MethodName := ⟨RX5, "bringRelief", "(LPostRelief$Depot;II)I"⟩
abbrev cX5_freshestMan : ByteArray := prog_7_method_12_code
def yX5_freshestMan : MethodName := ⟨RX5, "freshestMan", "(LPostRelief$Depot;I)I"⟩
abbrev cX5_advance : ByteArray := prog_7_method_13_code
def yX5_advance : MethodName := ⟨RX5, "advance", "(LPostRelief$Depot;I)V"⟩
abbrev cX5_greatestDebt : ByteArray := prog_7_method_14_code
def yX5_greatestDebt : MethodName := ⟨RX5, "greatestDebt", "(LPostRelief$Depot;)I"⟩
abbrev cX5_debtOnPost : ByteArray := prog_7_method_15_code
def yX5_debtOnPost : MethodName := ⟨RX5, "debtOnPost", "()I"⟩
abbrev cX5_coldOf : ByteArray := prog_7_method_16_code
def yX5_coldOf : MethodName := ⟨RX5, "coldOf", "(LPostRelief$Depot;I)I"⟩
def RX6 : String := "PostRelief"
def TX6 : u_T := fun k => match k with
  | 0 => ("PostRelief", "text", "LPostRelief$Text;", true)
  | 1 => ("PostRelief", "depot", "LPostRelief$Depot;", true)
  | 2 => ("PostRelief", "draft", "LPostRelief$Depot;", true)
  | 3 => ("PostRelief", "watch", "LPostRelief$Watch;", true)
  | 4 => ("PostRelief", "ahead", "LPostRelief$Watch;", true)
  | 5 => ("PostRelief", "past", "LPostRelief$Past;", true)
  | 6 => ("PostRelief", "images", "[LPostRelief$Watch;", true)
  | 7 => ("PostRelief", "kept", "[Z", true)
  | 8 => ("PostRelief", "findings", "LPostRelief$Findings;", true)
  | 9 => ("PostRelief", "plan", "LPostRelief$Plan;", true)
  | _ => ("PostRelief", "track", "J", false)
def tyX6 : Nat → FieldType := fun k => match k with
  | 0 => .object "PostRelief$Text"
  | 1 => .object "PostRelief$Depot"
  | 2 => .object "PostRelief$Depot"
  | 3 => .object "PostRelief$Watch"
  | 4 => .object "PostRelief$Watch"
  | 5 => .object "PostRelief$Past"
  | 6 => .array (.object "PostRelief$Watch")
  | 7 => .array .boolean
  | 8 => .object "PostRelief$Findings"
  | 9 => .object "PostRelief$Plan"
  | _ => .long
theorem nmX6 : ∀ a, a < 11 → ∀ b, b < 11 → a ≠ b → (TX6 a).2.1 ≠ (TX6 b).2.1 := by decide +kernel
theorem tyX6_ok : ∀ k, k < 11 → parseFieldDescriptor (TX6 k).2.2.1 = some (tyX6 k) := by decide +kernel
abbrev cX6_init : ByteArray := prog_1_method_1_code
def yX6_init : MethodName := ⟨RX6, "<init>", "()V"⟩
abbrev cX6_type : ByteArray := prog_1_method_2_code
def yX6_type : MethodName := ⟨RX6, "type", "(I)I"⟩
abbrev cX6_clear : ByteArray := prog_1_method_3_code
def yX6_clear : MethodName := ⟨RX6, "clear", "()I"⟩
abbrev cX6_depot : ByteArray := prog_1_method_4_code
def yX6_depot : MethodName := ⟨RX6, "depot", "()I"⟩
abbrev cX6_post : ByteArray := prog_1_method_5_code
def yX6_post : MethodName := ⟨RX6, "post", "(II)I"⟩
abbrev cX6_man : ByteArray := prog_1_method_6_code
def yX6_man : MethodName := ⟨RX6, "man", "(II)I"⟩
abbrev cX6_now : ByteArray := prog_1_method_7_code
def yX6_now : MethodName := ⟨RX6, "now", "(I)I"⟩
abbrev cX6_sends : ByteArray := prog_1_method_8_code
def yX6_sends : MethodName := ⟨RX6, "sends", "(II)I"⟩
abbrev cX6_calls : ByteArray := prog_1_method_9_code
def yX6_calls : MethodName := ⟨RX6, "calls", "(I)I"⟩
abbrev cX6_hour : ByteArray := prog_1_method_10_code
def yX6_hour : MethodName := ⟨RX6, "hour", "()I"⟩
abbrev cX6_relieves : ByteArray := prog_1_method_11_code
def yX6_relieves : MethodName := ⟨RX6, "relieves", "(II)I"⟩
abbrev cX6_undo : ByteArray := prog_1_method_12_code
def yX6_undo : MethodName := ⟨RX6, "undo", "()I"⟩
abbrev cX6_inHours : ByteArray := prog_1_method_13_code
def yX6_inHours : MethodName := ⟨RX6, "inHours", "(III)I"⟩
abbrev cX6_round : ByteArray := prog_1_method_14_code
def yX6_round : MethodName := ⟨RX6, "round", "(I)I"⟩
abbrev cX6_rota : ByteArray := prog_1_method_15_code
def yX6_rota : MethodName := ⟨RX6, "rota", "(I)I"⟩
abbrev cX6_leave : ByteArray := prog_1_method_16_code
def yX6_leave : MethodName := ⟨RX6, "leave", "()I"⟩
abbrev cX6_two : ByteArray := prog_1_method_17_code
def yX6_two : MethodName := ⟨RX6, "two", "()I"⟩
abbrev cX6_unseen : ByteArray := prog_1_method_18_code
def yX6_unseen : MethodName := ⟨RX6, "unseen", "(II)I"⟩
abbrev cX6_odds : ByteArray := prog_1_method_19_code
def yX6_odds : MethodName := ⟨RX6, "odds", "(II)I"⟩
abbrev cX6_creep : ByteArray := prog_1_method_20_code
def yX6_creep : MethodName := ⟨RX6, "creep", "(II)I"⟩
abbrev cX6_found : ByteArray := prog_1_method_21_code
def yX6_found : MethodName := ⟨RX6, "found", "(III)I"⟩
abbrev cX6_forget : ByteArray := prog_1_method_22_code
def yX6_forget : MethodName := ⟨RX6, "forget", "()I"⟩
abbrev cX6_fits : ByteArray := prog_1_method_23_code
def yX6_fits : MethodName := ⟨RX6, "fits", "(II)I"⟩
abbrev cX6_had : ByteArray := prog_1_method_24_code
def yX6_had : MethodName := ⟨RX6, "had", "(II)I"⟩
abbrev cX6_fair : ByteArray := prog_1_method_25_code
def yX6_fair : MethodName := ⟨RX6, "fair", "()I"⟩
abbrev cX6_cow : ByteArray := prog_1_method_26_code
def yX6_cow : MethodName := ⟨RX6, "cow", "(III)I"⟩
abbrev cX6_rate : ByteArray := prog_1_method_27_code
def yX6_rate : MethodName := ⟨RX6, "rate", "(II)I"⟩
abbrev cX6_keep : ByteArray := prog_1_method_28_code
def yX6_keep : MethodName := ⟨RX6, "keep", "(I)I"⟩
abbrev cX6_back : ByteArray := prog_1_method_29_code
def yX6_back : MethodName := ⟨RX6, "back", "(I)I"⟩
abbrev cX6_count : ByteArray := prog_1_method_30_code
def yX6_count : MethodName := ⟨RX6, "count", "(I)I"⟩
abbrev cX6_trace : ByteArray := prog_1_method_31_code
def yX6_trace : MethodName := ⟨RX6, "trace", "()J"⟩
abbrev cX6_within : ByteArray := prog_1_method_32_code
def yX6_within : MethodName := ⟨RX6, "within", "(III)Z"⟩
abbrev cX6_isPost : ByteArray := prog_1_method_33_code
def yX6_isPost : MethodName := ⟨RX6, "isPost", "(I)Z"⟩
abbrev cX6_isMan : ByteArray := prog_1_method_34_code
def yX6_isMan : MethodName := ⟨RX6, "isMan", "(I)Z"⟩
abbrev cX6_beginAnew : ByteArray := prog_1_method_35_code
def yX6_beginAnew : MethodName := ⟨RX6, "beginAnew", "()V"⟩
abbrev cX6_canBeLeft : ByteArray := prog_1_method_36_code
def yX6_canBeLeft : MethodName := ⟨RX6, "canBeLeft", "(I)Z"⟩
abbrev cX6_seenOnlyFrom : ByteArray := prog_1_method_37_code
def yX6_seenOnlyFrom : MethodName := ⟨RX6, "seenOnlyFrom", "(I)I"⟩
abbrev cX6_weightOfWaking : ByteArray := prog_1_method_38_code
def yX6_weightOfWaking : MethodName := ⟨RX6, "weightOfWaking", "(III)I"⟩
abbrev cX6_power : ByteArray := prog_1_method_39_code
def yX6_power : MethodName := ⟨RX6, "power", "(II)I"⟩
abbrev cX6_leastTerms : ByteArray := prog_1_method_40_code
def yX6_leastTerms : MethodName := ⟨RX6, "leastTerms", "(III)I"⟩
abbrev cX6_commonDivisor : ByteArray := prog_1_method_41_code
def yX6_commonDivisor : MethodName := ⟨RX6, "commonDivisor", "(II)I"⟩
abbrev cX6_hoursAsleep : ByteArray := prog_1_method_42_code
def yX6_hoursAsleep : MethodName := ⟨RX6, "hoursAsleep", "(II)I"⟩
abbrev cX6_rateOfPost : ByteArray := prog_1_method_43_code
def yX6_rateOfPost : MethodName := ⟨RX6, "rateOfPost", "(I)I"⟩
abbrev cX6_rateOfGate : ByteArray := prog_1_method_44_code
def yX6_rateOfGate : MethodName := ⟨RX6, "rateOfGate", "(I)I"⟩
abbrev cX6_rateOfPump : ByteArray := prog_1_method_45_code
def yX6_rateOfPump : MethodName := ⟨RX6, "rateOfPump", "(I)I"⟩
abbrev cX6_rateOfLane : ByteArray := prog_1_method_46_code
def yX6_rateOfLane : MethodName := ⟨RX6, "rateOfLane", "(I)I"⟩
abbrev cX6_rateOfYard : ByteArray := prog_1_method_47_code
def yX6_rateOfYard : MethodName := ⟨RX6, "rateOfYard", "(I)I"⟩
abbrev cX6_rateOfTower : ByteArray := prog_1_method_48_code
def yX6_rateOfTower : MethodName := ⟨RX6, "rateOfTower", "(I)I"⟩
def RX7 : String := "PostReliefModel"
def TX7 : u_T := fun k => match k with
  | 0 => ("PostReliefModel", "thrown", "I", false)
  | 1 => ("PostReliefModel", "trace", "J", false)
  | 2 => ("PostReliefModel", "text", "[I", true)
  | 3 => ("PostReliefModel", "typed", "I", false)
  | 4 => ("PostReliefModel", "next", "I", false)
  | 5 => ("PostReliefModel", "token", "I", false)
  | 6 => ("PostReliefModel", "place", "I", false)
  | 7 => ("PostReliefModel", "value", "I", false)
  | 8 => ("PostReliefModel", "fault", "I", false)
  | 9 => ("PostReliefModel", "many", "[I", true)
  | 10 => ("PostReliefModel", "sees", "[I", true)
  | 11 => ("PostReliefModel", "cold", "[I", true)
  | 12 => ("PostReliefModel", "first", "[I", true)
  | 13 => ("PostReliefModel", "told", "I", false)
  | 14 => ("PostReliefModel", "s", "[I", true)
  | 15 => ("PostReliefModel", "w", "[I", true)
  | 16 => ("PostReliefModel", "kept", "[I", true)
  | 17 => ("PostReliefModel", "isKept", "[Z", true)
  | 18 => ("PostReliefModel", "undos", "[I", true)
  | 19 => ("PostReliefModel", "undoMany", "I", false)
  | 20 => ("PostReliefModel", "foundMan", "[I", true)
  | 21 => ("PostReliefModel", "foundHours", "[I", true)
  | 22 => ("PostReliefModel", "foundIs", "[I", true)
  | 23 => ("PostReliefModel", "foundMany", "I", false)
  | 24 => ("PostReliefModel", "row", "[I", true)
  | _ => ("PostReliefModel", "best", "[I", true)
def tyX7 : Nat → FieldType := fun k => match k with
  | 0 => .int
  | 1 => .long
  | 2 => .array .int
  | 3 => .int
  | 4 => .int
  | 5 => .int
  | 6 => .int
  | 7 => .int
  | 8 => .int
  | 9 => .array .int
  | 10 => .array .int
  | 11 => .array .int
  | 12 => .array .int
  | 13 => .int
  | 14 => .array .int
  | 15 => .array .int
  | 16 => .array .int
  | 17 => .array .boolean
  | 18 => .array .int
  | 19 => .int
  | 20 => .array .int
  | 21 => .array .int
  | 22 => .array .int
  | 23 => .int
  | 24 => .array .int
  | _ => .array .int
theorem nmX7 : ∀ a, a < 26 → ∀ b, b < 26 → a ≠ b → (TX7 a).2.1 ≠ (TX7 b).2.1 := by decide +kernel
theorem tyX7_ok : ∀ k, k < 26 → parseFieldDescriptor (TX7 k).2.2.1 = some (tyX7 k) := by decide +kernel
abbrev cX7_init : ByteArray := prog_9_method_1_code
def yX7_init : MethodName := ⟨RX7, "<init>", "()V"⟩
abbrev cX7_in : ByteArray := prog_9_method_3_code
def yX7_in : MethodName := ⟨RX7, "in", "(III)Z"⟩
abbrev cX7_ones : ByteArray := prog_9_method_4_code
def yX7_ones : MethodName := ⟨RX7, "ones", "(I)I"⟩
abbrev cX7_type : ByteArray := prog_9_method_5_code
def yX7_type : MethodName := ⟨RX7, "type", "(I)I"⟩
abbrev cX7_clear : ByteArray := prog_9_method_6_code
def yX7_clear : MethodName := ⟨RX7, "clear", "()I"⟩
abbrev cX7_letterAt : ByteArray := prog_9_method_7_code
def yX7_letterAt : MethodName := ⟨RX7, "letterAt", "(I)I"⟩
abbrev cX7_advances : ByteArray := prog_9_method_8_code
def yX7_advances : MethodName := ⟨RX7, "advances", "()V"⟩
abbrev cX7_isWell : ByteArray := prog_9_method_9_code
def yX7_isWell : MethodName := ⟨RX7, "isWell", "()Z"⟩
abbrev cX7_takes : ByteArray := prog_9_method_10_code
def yX7_takes : MethodName := ⟨RX7, "takes", "(Z)I"⟩
abbrev cX7_number : ByteArray := prog_9_method_11_code
def yX7_number : MethodName := ⟨RX7, "number", "(II)I"⟩
abbrev cX7_mayBegin : ByteArray := prog_9_method_12_code
def yX7_mayBegin : MethodName := ⟨RX7, "mayBegin", "()Z"⟩
abbrev cX7_readsItem : ByteArray := prog_9_method_13_code
def yX7_readsItem : MethodName := ⟨RX7, "readsItem", "(I)V"⟩
abbrev cX7_depot : ByteArray := prog_9_method_14_code
def yX7_depot : MethodName := ⟨RX7, "depot", "()I"⟩
abbrev cX7_settles : ByteArray := prog_9_method_15_code
def yX7_settles : MethodName := ⟨RX7, "settles", "()V"⟩
abbrev cX7_isPost : ByteArray := prog_9_method_16_code
def yX7_isPost : MethodName := ⟨RX7, "isPost", "(I)Z"⟩
abbrev cX7_isMan : ByteArray := prog_9_method_17_code
def yX7_isMan : MethodName := ⟨RX7, "isMan", "(I)Z"⟩
abbrev cX7_manAt : ByteArray := prog_9_method_18_code
def yX7_manAt : MethodName := ⟨RX7, "manAt", "([II)I"⟩
abbrev cX7_isAsleep : ByteArray := prog_9_method_19_code
def yX7_isAsleep : MethodName := ⟨RX7, "isAsleep", "([II)Z"⟩
abbrev cX7_post : ByteArray := prog_9_method_20_code
def yX7_post : MethodName := ⟨RX7, "post", "(II)I"⟩
abbrev cX7_man : ByteArray := prog_9_method_21_code
def yX7_man : MethodName := ⟨RX7, "man", "(II)I"⟩
abbrev cX7_standing : ByteArray := prog_9_method_22_code
def yX7_standing : MethodName := ⟨RX7, "standing", "([I)I"⟩
abbrev cX7_asleep : ByteArray := prog_9_method_23_code
def yX7_asleep : MethodName := ⟨RX7, "asleep", "([I)I"⟩
abbrev cX7_watched : ByteArray := prog_9_method_24_code
def yX7_watched : MethodName := ⟨RX7, "watched", "(I)I"⟩
abbrev cX7_watchedIn : ByteArray := prog_9_method_25_code
def yX7_watchedIn : MethodName := ⟨RX7, "watchedIn", "([I)I"⟩
abbrev cX7_now : ByteArray := prog_9_method_26_code
def yX7_now : MethodName := ⟨RX7, "now", "(I)I"⟩
abbrev cX7_notes : ByteArray := prog_9_method_27_code
def yX7_notes : MethodName := ⟨RX7, "notes", "()V"⟩
abbrev cX7_sends : ByteArray := prog_9_method_28_code
def yX7_sends : MethodName := ⟨RX7, "sends", "(II)I"⟩
abbrev cX7_calls : ByteArray := prog_9_method_29_code
def yX7_calls : MethodName := ⟨RX7, "calls", "(I)I"⟩
abbrev cX7_goes : ByteArray := prog_9_method_30_code
def yX7_goes : MethodName := ⟨RX7, "goes", "([I)V"⟩
abbrev cX7_hour : ByteArray := prog_9_method_31_code
def yX7_hour : MethodName := ⟨RX7, "hour", "()I"⟩
abbrev cX7_nextMan : ByteArray := prog_9_method_32_code
def yX7_nextMan : MethodName := ⟨RX7, "nextMan", "([II)I"⟩
abbrev cX7_relieved : ByteArray := prog_9_method_33_code
def yX7_relieved : MethodName := ⟨RX7, "relieved", "([III)I"⟩
abbrev cX7_relieves : ByteArray := prog_9_method_34_code
def yX7_relieves : MethodName := ⟨RX7, "relieves", "(II)I"⟩
abbrev cX7_undo : ByteArray := prog_9_method_35_code
def yX7_undo : MethodName := ⟨RX7, "undo", "()I"⟩
abbrev cX7_asNow : ByteArray := prog_9_method_36_code
def yX7_asNow : MethodName := ⟨RX7, "asNow", "()V"⟩
abbrev cX7_goesBy : ByteArray := prog_9_method_37_code
def yX7_goesBy : MethodName := ⟨RX7, "goesBy", "(I)V"⟩
abbrev cX7_inHours : ByteArray := prog_9_method_38_code
def yX7_inHours : MethodName := ⟨RX7, "inHours", "(III)I"⟩
abbrev cX7_debtStanding : ByteArray := prog_9_method_39_code
def yX7_debtStanding : MethodName := ⟨RX7, "debtStanding", "([I)I"⟩
abbrev cX7_round : ByteArray := prog_9_method_40_code
def yX7_round : MethodName := ⟨RX7, "round", "(I)I"⟩
abbrev cX7_greatest : ByteArray := prog_9_method_41_code
def yX7_greatest : MethodName := ⟨RX7, "greatest", "()I"⟩
abbrev cX7_isRow : ByteArray := prog_9_method_42_code
def yX7_isRow : MethodName := ⟨RX7, "isRow", "(I)Z"⟩
abbrev cX7_rota : ByteArray := prog_9_method_43_code
def yX7_rota : MethodName := ⟨RX7, "rota", "(I)I"⟩
abbrev cX7_seenBy : ByteArray := prog_9_method_44_code
def yX7_seenBy : MethodName := ⟨RX7, "seenBy", "(I)I"⟩
abbrev cX7_leave : ByteArray := prog_9_method_45_code
def yX7_leave : MethodName := ⟨RX7, "leave", "()I"⟩
abbrev cX7_two : ByteArray := prog_9_method_46_code
def yX7_two : MethodName := ⟨RX7, "two", "()I"⟩
abbrev cX7_unseen : ByteArray := prog_9_method_47_code
def yX7_unseen : MethodName := ⟨RX7, "unseen", "(II)I"⟩
abbrev cX7_gcd : ByteArray := prog_9_method_48_code
def yX7_gcd : MethodName := ⟨RX7, "gcd", "(II)I"⟩
abbrev cX7_part : ByteArray := prog_9_method_49_code
def yX7_part : MethodName := ⟨RX7, "part", "(III)I"⟩
abbrev cX7_odds : ByteArray := prog_9_method_50_code
def yX7_odds : MethodName := ⟨RX7, "odds", "(II)I"⟩
abbrev cX7_lowest : ByteArray := prog_9_method_51_code
def yX7_lowest : MethodName := ⟨RX7, "lowest", "(I)I"⟩
abbrev cX7_creep : ByteArray := prog_9_method_52_code
def yX7_creep : MethodName := ⟨RX7, "creep", "(II)I"⟩
abbrev cX7_found : ByteArray := prog_9_method_53_code
def yX7_found : MethodName := ⟨RX7, "found", "(III)I"⟩
abbrev cX7_forget : ByteArray := prog_9_method_54_code
def yX7_forget : MethodName := ⟨RX7, "forget", "()I"⟩
abbrev cX7_isFit : ByteArray := prog_9_method_55_code
def yX7_isFit : MethodName := ⟨RX7, "isFit", "(II)Z"⟩
abbrev cX7_fits : ByteArray := prog_9_method_56_code
def yX7_fits : MethodName := ⟨RX7, "fits", "(II)I"⟩
abbrev cX7_had : ByteArray := prog_9_method_57_code
def yX7_had : MethodName := ⟨RX7, "had", "(II)I"⟩
abbrev cX7_fair : ByteArray := prog_9_method_58_code
def yX7_fair : MethodName := ⟨RX7, "fair", "()I"⟩
abbrev cX7_cow : ByteArray := prog_9_method_59_code
def yX7_cow : MethodName := ⟨RX7, "cow", "(III)I"⟩
abbrev cX7_rate : ByteArray := prog_9_method_60_code
def yX7_rate : MethodName := ⟨RX7, "rate", "(II)I"⟩
abbrev cX7_keep : ByteArray := prog_9_method_61_code
def yX7_keep : MethodName := ⟨RX7, "keep", "(I)I"⟩
abbrev cX7_back : ByteArray := prog_9_method_62_code
def yX7_back : MethodName := ⟨RX7, "back", "(I)I"⟩
abbrev cX7_count : ByteArray := prog_9_method_63_code
def yX7_count : MethodName := ⟨RX7, "count", "(I)I"⟩
abbrev cX7_trace : ByteArray := prog_9_method_64_code
def yX7_trace : MethodName := ⟨RX7, "trace", "()J"⟩
def RJ6 : String := "java/lang/Integer"
def TJ6 : u_T := fun k => match k with
  | _ => ("", "", "", false)
def tyJ6 : Nat → FieldType := fun k => match k with
  | _ => .int
theorem nmJ6 : ∀ a, a < 0 → ∀ b, b < 0 → a ≠ b → (TJ6 a).2.1 ≠ (TJ6 b).2.1 := by decide +kernel
theorem tyJ6_ok : ∀ k, k < 0 → parseFieldDescriptor (TJ6 k).2.2.1 = some (tyJ6 k) := by decide +kernel
abbrev cJ6_numberOfTrailingZeros_0f7a4 : ByteArray := prog_10_method_48_code
def yJ6_numberOfTrailingZeros_0f7a4 : MethodName := ⟨RJ6, "numberOfTrailingZeros", "(I)I"⟩
abbrev cJ6_bitCount_0f7a4 : ByteArray := prog_10_method_49_code
def yJ6_bitCount_0f7a4 : MethodName := ⟨RJ6, "bitCount", "(I)I"⟩
def RJ9 : String := "java/lang/Math"
def TJ9 : u_T := fun k => match k with
  | _ => ("", "", "", false)
def tyJ9 : Nat → FieldType := fun k => match k with
  | _ => .int
theorem nmJ9 : ∀ a, a < 0 → ∀ b, b < 0 → a ≠ b → (TJ9 a).2.1 ≠ (TJ9 b).2.1 := by decide +kernel
theorem tyJ9_ok : ∀ k, k < 0 → parseFieldDescriptor (TJ9 k).2.2.1 = some (tyJ9 k) := by decide +kernel
abbrev cJ9_max_7cf53 : ByteArray := prog_11_method_65_code
def yJ9_max_7cf53 : MethodName := ⟨RJ9, "max", "(II)I"⟩
abbrev cJ9_min_7cf53 : ByteArray := prog_11_method_69_code
def yJ9_min_7cf53 : MethodName := ⟨RJ9, "min", "(II)I"⟩
def RJ10 : String := "java/lang/System"
def TJ10 : u_T := fun k => match k with
  | _ => ("", "", "", false)
def tyJ10 : Nat → FieldType := fun k => match k with
  | _ => .int
theorem nmJ10 : ∀ a, a < 0 → ∀ b, b < 0 → a ≠ b → (TJ10 a).2.1 ≠ (TJ10 b).2.1 := by decide +kernel
theorem tyJ10_ok : ∀ k, k < 0 → parseFieldDescriptor (TJ10 k).2.2.1 = some (tyJ10 k) := by decide +kernel
def RJ7 : String := "java/util/Arrays"
def TJ7 : u_T := fun k => match k with
  | _ => ("", "", "", false)
def tyJ7 : Nat → FieldType := fun k => match k with
  | _ => .int
theorem nmJ7 : ∀ a, a < 0 → ∀ b, b < 0 → a ≠ b → (TJ7 a).2.1 ≠ (TJ7 b).2.1 := by decide +kernel
theorem tyJ7_ok : ∀ k, k < 0 → parseFieldDescriptor (TJ7 k).2.2.1 = some (tyJ7 k) := by decide +kernel
abbrev cJ7_fill_53178 : ByteArray := prog_13_method_103_code
def yJ7_fill_53178 : MethodName := ⟨RJ7, "fill", "([II)V"⟩
def RL : String := "PostReliefLaw"
abbrev cL_law : ByteArray := code
def yL_law : MethodName := ⟨RL, "law", "([I)Z"⟩
abbrev vwCl : List vw_C := [(RX0, TX0, 7), (RX1, TX1, 4), (RX2, TX2, 3), (RX3, TX3, 4), (RX4, TX4, 8), (RX5, TX5, 5), (RX6, TX6, 11), (RX7, TX7, 26)]
end
section
theorem dX0_init_0 : decode cX0_init 0 = .ok (.aload_n 0, 1) := by decide +kernel
theorem dX0_init_1 : decode cX0_init 1 = .ok (.invokespecial 3, 3) := by decide +kernel
theorem dX0_init_4 : decode cX0_init 4 = .ok (.aload_n 0, 1) := by decide +kernel
theorem dX0_init_5 : decode cX0_init 5 = .ok (.iconst 5, 1) := by decide +kernel
theorem dX0_init_6 : decode cX0_init 6 = .ok (.newarray .int, 2) := by decide +kernel
theorem dX0_init_8 : decode cX0_init 8 = .ok (.putfield 9, 3) := by decide +kernel
theorem dX0_init_11 : decode cX0_init 11 = .ok (.aload_n 0, 1) := by decide +kernel
theorem dX0_init_12 : decode cX0_init 12 = .ok (.iconst 5, 1) := by decide +kernel
theorem dX0_init_13 : decode cX0_init 13 = .ok (.newarray .int, 2) := by decide +kernel
theorem dX0_init_15 : decode cX0_init 15 = .ok (.putfield 15, 3) := by decide +kernel
theorem dX0_init_18 : decode cX0_init 18 = .ok (.aload_n 0, 1) := by decide +kernel
theorem dX0_init_19 : decode cX0_init 19 = .ok (.bipush 6, 2) := by decide +kernel
theorem dX0_init_21 : decode cX0_init 21 = .ok (.newarray .int, 2) := by decide +kernel
theorem dX0_init_23 : decode cX0_init 23 = .ok (.putfield 18, 3) := by decide +kernel
theorem dX0_init_26 : decode cX0_init 26 = .ok (.aload_n 0, 1) := by decide +kernel
theorem dX0_init_27 : decode cX0_init 27 = .ok (.iconst 2, 1) := by decide +kernel
theorem dX0_init_28 : decode cX0_init 28 = .ok (.putfield 21, 3) := by decide +kernel
theorem dX0_init_31 : decode cX0_init 31 = .ok (.aload_n 0, 1) := by decide +kernel
theorem dX0_init_32 : decode cX0_init 32 = .ok (.iconst 3, 1) := by decide +kernel
theorem dX0_init_33 : decode cX0_init 33 = .ok (.putfield 25, 3) := by decide +kernel
theorem dX0_init_36 : decode cX0_init 36 = .ok (.return_, 1) := by decide +kernel
theorem dX0_empty_0 : decode cX0_empty 0 = .ok (.aload_n 0, 1) := by decide +kernel
theorem dX0_empty_1 : decode cX0_empty 1 = .ok (.iconst 0, 1) := by decide +kernel
theorem dX0_empty_2 : decode cX0_empty 2 = .ok (.putfield 28, 3) := by decide +kernel
theorem dX0_empty_5 : decode cX0_empty 5 = .ok (.aload_n 0, 1) := by decide +kernel
theorem dX0_empty_6 : decode cX0_empty 6 = .ok (.iconst 0, 1) := by decide +kernel
theorem dX0_empty_7 : decode cX0_empty 7 = .ok (.putfield 31, 3) := by decide +kernel
theorem dX0_empty_10 : decode cX0_empty 10 = .ok (.aload_n 0, 1) := by decide +kernel
theorem dX0_empty_11 : decode cX0_empty 11 = .ok (.iconst 2, 1) := by decide +kernel
theorem dX0_empty_12 : decode cX0_empty 12 = .ok (.putfield 21, 3) := by decide +kernel
theorem dX0_empty_15 : decode cX0_empty 15 = .ok (.aload_n 0, 1) := by decide +kernel
theorem dX0_empty_16 : decode cX0_empty 16 = .ok (.iconst 3, 1) := by decide +kernel
theorem dX0_empty_17 : decode cX0_empty 17 = .ok (.putfield 25, 3) := by decide +kernel
theorem dX0_empty_20 : decode cX0_empty 20 = .ok (.return_, 1) := by decide +kernel
theorem dX0_become_0 : decode cX0_become 0 = .ok (.aload_n 0, 1) := by decide +kernel
theorem dX0_become_1 : decode cX0_become 1 = .ok (.aload_n 1, 1) := by decide +kernel
theorem dX0_become_2 : decode cX0_become 2 = .ok (.getfield 28, 3) := by decide +kernel
theorem dX0_become_5 : decode cX0_become 5 = .ok (.putfield 28, 3) := by decide +kernel
theorem dX0_become_8 : decode cX0_become 8 = .ok (.aload_n 1, 1) := by decide +kernel
theorem dX0_become_9 : decode cX0_become 9 = .ok (.getfield 9, 3) := by decide +kernel
theorem dX0_become_12 : decode cX0_become 12 = .ok (.iconst 0, 1) := by decide +kernel
theorem dX0_become_13 : decode cX0_become 13 = .ok (.aload_n 0, 1) := by decide +kernel
theorem dX0_become_14 : decode cX0_become 14 = .ok (.getfield 9, 3) := by decide +kernel
theorem dX0_become_17 : decode cX0_become 17 = .ok (.iconst 0, 1) := by decide +kernel
theorem dX0_become_18 : decode cX0_become 18 = .ok (.iconst 5, 1) := by decide +kernel
theorem dX0_become_19 : decode cX0_become 19 = .ok (.invokestatic 34, 3) := by decide +kernel
theorem dX0_become_22 : decode cX0_become 22 = .ok (.aload_n 1, 1) := by decide +kernel
theorem dX0_become_23 : decode cX0_become 23 = .ok (.getfield 15, 3) := by decide +kernel
theorem dX0_become_26 : decode cX0_become 26 = .ok (.iconst 0, 1) := by decide +kernel
theorem dX0_become_27 : decode cX0_become 27 = .ok (.aload_n 0, 1) := by decide +kernel
theorem dX0_become_28 : decode cX0_become 28 = .ok (.getfield 15, 3) := by decide +kernel
theorem dX0_become_31 : decode cX0_become 31 = .ok (.iconst 0, 1) := by decide +kernel
theorem dX0_become_32 : decode cX0_become 32 = .ok (.iconst 5, 1) := by decide +kernel
theorem dX0_become_33 : decode cX0_become 33 = .ok (.invokestatic 34, 3) := by decide +kernel
theorem dX0_become_36 : decode cX0_become 36 = .ok (.aload_n 0, 1) := by decide +kernel
theorem dX0_become_37 : decode cX0_become 37 = .ok (.aload_n 1, 1) := by decide +kernel
theorem dX0_become_38 : decode cX0_become 38 = .ok (.getfield 31, 3) := by decide +kernel
theorem dX0_become_41 : decode cX0_become 41 = .ok (.putfield 31, 3) := by decide +kernel
theorem dX0_become_44 : decode cX0_become 44 = .ok (.aload_n 1, 1) := by decide +kernel
theorem dX0_become_45 : decode cX0_become 45 = .ok (.getfield 18, 3) := by decide +kernel
theorem dX0_become_48 : decode cX0_become 48 = .ok (.iconst 0, 1) := by decide +kernel
theorem dX0_become_49 : decode cX0_become 49 = .ok (.aload_n 0, 1) := by decide +kernel
theorem dX0_become_50 : decode cX0_become 50 = .ok (.getfield 18, 3) := by decide +kernel
theorem dX0_become_53 : decode cX0_become 53 = .ok (.iconst 0, 1) := by decide +kernel
theorem dX0_become_54 : decode cX0_become 54 = .ok (.bipush 6, 2) := by decide +kernel
theorem dX0_become_56 : decode cX0_become 56 = .ok (.invokestatic 34, 3) := by decide +kernel
theorem dX0_become_59 : decode cX0_become 59 = .ok (.aload_n 0, 1) := by decide +kernel
theorem dX0_become_60 : decode cX0_become 60 = .ok (.aload_n 1, 1) := by decide +kernel
theorem dX0_become_61 : decode cX0_become 61 = .ok (.getfield 21, 3) := by decide +kernel
theorem dX0_become_64 : decode cX0_become 64 = .ok (.putfield 21, 3) := by decide +kernel
theorem dX0_become_67 : decode cX0_become 67 = .ok (.aload_n 0, 1) := by decide +kernel
theorem dX0_become_68 : decode cX0_become 68 = .ok (.aload_n 1, 1) := by decide +kernel
theorem dX0_become_69 : decode cX0_become 69 = .ok (.getfield 25, 3) := by decide +kernel
theorem dX0_become_72 : decode cX0_become 72 = .ok (.putfield 25, 3) := by decide +kernel
theorem dX0_become_75 : decode cX0_become 75 = .ok (.return_, 1) := by decide +kernel
theorem dX0_allPosts_0 : decode cX0_allPosts 0 = .ok (.iconst 1, 1) := by decide +kernel
theorem dX0_allPosts_1 : decode cX0_allPosts 1 = .ok (.aload_n 0, 1) := by decide +kernel
theorem dX0_allPosts_2 : decode cX0_allPosts 2 = .ok (.getfield 28, 3) := by decide +kernel
theorem dX0_allPosts_5 : decode cX0_allPosts 5 = .ok (.ishl, 1) := by decide +kernel
theorem dX0_allPosts_6 : decode cX0_allPosts 6 = .ok (.iconst 1, 1) := by decide +kernel
theorem dX0_allPosts_7 : decode cX0_allPosts 7 = .ok (.isub, 1) := by decide +kernel
theorem dX0_allPosts_8 : decode cX0_allPosts 8 = .ok (.ireturn, 1) := by decide +kernel
theorem dX0_seenFrom_0 : decode cX0_seenFrom 0 = .ok (.aload_n 0, 1) := by decide +kernel
theorem dX0_seenFrom_1 : decode cX0_seenFrom 1 = .ok (.getfield 9, 3) := by decide +kernel
theorem dX0_seenFrom_4 : decode cX0_seenFrom 4 = .ok (.iload_n 1, 1) := by decide +kernel
theorem dX0_seenFrom_5 : decode cX0_seenFrom 5 = .ok (.iaload, 1) := by decide +kernel
theorem dX0_seenFrom_6 : decode cX0_seenFrom 6 = .ok (.aload_n 0, 1) := by decide +kernel
theorem dX0_seenFrom_7 : decode cX0_seenFrom 7 = .ok (.invokevirtual 40, 3) := by decide +kernel
theorem dX0_seenFrom_10 : decode cX0_seenFrom 10 = .ok (.iand, 1) := by decide +kernel
theorem dX0_seenFrom_11 : decode cX0_seenFrom 11 = .ok (.iconst 1, 1) := by decide +kernel
theorem dX0_seenFrom_12 : decode cX0_seenFrom 12 = .ok (.iload_n 1, 1) := by decide +kernel
theorem dX0_seenFrom_13 : decode cX0_seenFrom 13 = .ok (.ishl, 1) := by decide +kernel
theorem dX0_seenFrom_14 : decode cX0_seenFrom 14 = .ok (.iconst (-1), 1) := by decide +kernel
theorem dX0_seenFrom_15 : decode cX0_seenFrom 15 = .ok (.ixor, 1) := by decide +kernel
theorem dX0_seenFrom_16 : decode cX0_seenFrom 16 = .ok (.iand, 1) := by decide +kernel
theorem dX0_seenFrom_17 : decode cX0_seenFrom 17 = .ok (.ireturn, 1) := by decide +kernel
theorem dX0_watchedBy_0 : decode cX0_watchedBy 0 = .ok (.iload_n 1, 1) := by decide +kernel
theorem dX0_watchedBy_1 : decode cX0_watchedBy 1 = .ok (.istore_n 2, 1) := by decide +kernel
theorem dX0_watchedBy_2 : decode cX0_watchedBy 2 = .ok (.iconst 0, 1) := by decide +kernel
theorem dX0_watchedBy_3 : decode cX0_watchedBy 3 = .ok (.istore_n 3, 1) := by decide +kernel
theorem dX0_watchedBy_4 : decode cX0_watchedBy 4 = .ok (.iload_n 3, 1) := by decide +kernel
theorem dX0_watchedBy_5 : decode cX0_watchedBy 5 = .ok (.aload_n 0, 1) := by decide +kernel
theorem dX0_watchedBy_6 : decode cX0_watchedBy 6 = .ok (.getfield 28, 3) := by decide +kernel
theorem dX0_watchedBy_9 : decode cX0_watchedBy 9 = .ok (.if_icmp .ge 26, 3) := by decide +kernel
theorem dX0_watchedBy_12 : decode cX0_watchedBy 12 = .ok (.iload_n 1, 1) := by decide +kernel
theorem dX0_watchedBy_13 : decode cX0_watchedBy 13 = .ok (.iload_n 3, 1) := by decide +kernel
theorem dX0_watchedBy_14 : decode cX0_watchedBy 14 = .ok (.ishr, 1) := by decide +kernel
theorem dX0_watchedBy_15 : decode cX0_watchedBy 15 = .ok (.iconst 1, 1) := by decide +kernel
theorem dX0_watchedBy_16 : decode cX0_watchedBy 16 = .ok (.iand, 1) := by decide +kernel
theorem dX0_watchedBy_17 : decode cX0_watchedBy 17 = .ok (.iconst 1, 1) := by decide +kernel
theorem dX0_watchedBy_18 : decode cX0_watchedBy 18 = .ok (.if_icmp .ne 11, 3) := by decide +kernel
theorem dX0_watchedBy_21 : decode cX0_watchedBy 21 = .ok (.iload_n 2, 1) := by decide +kernel
theorem dX0_watchedBy_22 : decode cX0_watchedBy 22 = .ok (.aload_n 0, 1) := by decide +kernel
theorem dX0_watchedBy_23 : decode cX0_watchedBy 23 = .ok (.iload_n 3, 1) := by decide +kernel
theorem dX0_watchedBy_24 : decode cX0_watchedBy 24 = .ok (.invokevirtual 44, 3) := by decide +kernel
theorem dX0_watchedBy_27 : decode cX0_watchedBy 27 = .ok (.ior, 1) := by decide +kernel
theorem dX0_watchedBy_28 : decode cX0_watchedBy 28 = .ok (.istore_n 2, 1) := by decide +kernel
theorem dX0_watchedBy_29 : decode cX0_watchedBy 29 = .ok (.iinc 3 1, 3) := by decide +kernel
theorem dX0_watchedBy_32 : decode cX0_watchedBy 32 = .ok (.goto (-28), 3) := by decide +kernel
theorem dX0_watchedBy_35 : decode cX0_watchedBy 35 = .ok (.iload_n 2, 1) := by decide +kernel
theorem dX0_watchedBy_36 : decode cX0_watchedBy 36 = .ok (.ireturn, 1) := by decide +kernel
theorem dX0_burden_0 : decode cX0_burden 0 = .ok (.iload_n 2, 1) := by decide +kernel
theorem dX0_burden_1 : decode cX0_burden 1 = .ok (.bipush 12, 2) := by decide +kernel
theorem dX0_burden_3 : decode cX0_burden 3 = .ok (.irem, 1) := by decide +kernel
theorem dX0_burden_4 : decode cX0_burden 4 = .ok (.istore_n 3, 1) := by decide +kernel
theorem dX0_burden_5 : decode cX0_burden 5 = .ok (.iload_n 3, 1) := by decide +kernel
theorem dX0_burden_6 : decode cX0_burden 6 = .ok (.iconst 2, 1) := by decide +kernel
theorem dX0_burden_7 : decode cX0_burden 7 = .ok (.if_icmp .lt 12, 3) := by decide +kernel
theorem dX0_burden_10 : decode cX0_burden 10 = .ok (.iload_n 3, 1) := by decide +kernel
theorem dX0_burden_11 : decode cX0_burden 11 = .ok (.iconst 4, 1) := by decide +kernel
theorem dX0_burden_12 : decode cX0_burden 12 = .ok (.if_icmp .gt 7, 3) := by decide +kernel
theorem dX0_burden_15 : decode cX0_burden 15 = .ok (.iconst 2, 1) := by decide +kernel
theorem dX0_burden_16 : decode cX0_burden 16 = .ok (.goto 4, 3) := by decide +kernel
theorem dX0_burden_19 : decode cX0_burden 19 = .ok (.iconst 0, 1) := by decide +kernel
theorem dX0_burden_20 : decode cX0_burden 20 = .ok (.istore 4, 2) := by decide +kernel
theorem dX0_burden_22 : decode cX0_burden 22 = .ok (.iconst 4, 1) := by decide +kernel
theorem dX0_burden_23 : decode cX0_burden 23 = .ok (.iload 4, 2) := by decide +kernel
theorem dX0_burden_25 : decode cX0_burden 25 = .ok (.iadd, 1) := by decide +kernel
theorem dX0_burden_26 : decode cX0_burden 26 = .ok (.aload_n 0, 1) := by decide +kernel
theorem dX0_burden_27 : decode cX0_burden 27 = .ok (.getfield 15, 3) := by decide +kernel
theorem dX0_burden_30 : decode cX0_burden 30 = .ok (.iload_n 1, 1) := by decide +kernel
theorem dX0_burden_31 : decode cX0_burden 31 = .ok (.iaload, 1) := by decide +kernel
theorem dX0_burden_32 : decode cX0_burden 32 = .ok (.iconst 3, 1) := by decide +kernel
theorem dX0_burden_33 : decode cX0_burden 33 = .ok (.idiv, 1) := by decide +kernel
theorem dX0_burden_34 : decode cX0_burden 34 = .ok (.iadd, 1) := by decide +kernel
theorem dX0_burden_35 : decode cX0_burden 35 = .ok (.ireturn, 1) := by decide +kernel
theorem dX0_nextPost_0 : decode cX0_nextPost 0 = .ok (.iload_n 2, 1) := by decide +kernel
theorem dX0_nextPost_1 : decode cX0_nextPost 1 = .ok (.iconst 1, 1) := by decide +kernel
theorem dX0_nextPost_2 : decode cX0_nextPost 2 = .ok (.if_icmp .ne 21, 3) := by decide +kernel
theorem dX0_nextPost_5 : decode cX0_nextPost 5 = .ok (.iload_n 1, 1) := by decide +kernel
theorem dX0_nextPost_6 : decode cX0_nextPost 6 = .ok (.iconst 1, 1) := by decide +kernel
theorem dX0_nextPost_7 : decode cX0_nextPost 7 = .ok (.iadd, 1) := by decide +kernel
theorem dX0_nextPost_8 : decode cX0_nextPost 8 = .ok (.aload_n 0, 1) := by decide +kernel
theorem dX0_nextPost_9 : decode cX0_nextPost 9 = .ok (.getfield 28, 3) := by decide +kernel
theorem dX0_nextPost_12 : decode cX0_nextPost 12 = .ok (.if_icmp .ge 9, 3) := by decide +kernel
theorem dX0_nextPost_15 : decode cX0_nextPost 15 = .ok (.iload_n 1, 1) := by decide +kernel
theorem dX0_nextPost_16 : decode cX0_nextPost 16 = .ok (.iconst 1, 1) := by decide +kernel
theorem dX0_nextPost_17 : decode cX0_nextPost 17 = .ok (.iadd, 1) := by decide +kernel
theorem dX0_nextPost_18 : decode cX0_nextPost 18 = .ok (.goto 4, 3) := by decide +kernel
theorem dX0_nextPost_21 : decode cX0_nextPost 21 = .ok (.iconst 0, 1) := by decide +kernel
theorem dX0_nextPost_22 : decode cX0_nextPost 22 = .ok (.ireturn, 1) := by decide +kernel
theorem dX0_nextPost_23 : decode cX0_nextPost 23 = .ok (.iload_n 1, 1) := by decide +kernel
theorem dX0_nextPost_24 : decode cX0_nextPost 24 = .ok (.ifCond .le 9, 3) := by decide +kernel
theorem dX0_nextPost_27 : decode cX0_nextPost 27 = .ok (.iload_n 1, 1) := by decide +kernel
theorem dX0_nextPost_28 : decode cX0_nextPost 28 = .ok (.iconst 1, 1) := by decide +kernel
theorem dX0_nextPost_29 : decode cX0_nextPost 29 = .ok (.isub, 1) := by decide +kernel
theorem dX0_nextPost_30 : decode cX0_nextPost 30 = .ok (.goto 9, 3) := by decide +kernel
theorem dX0_nextPost_33 : decode cX0_nextPost 33 = .ok (.aload_n 0, 1) := by decide +kernel
theorem dX0_nextPost_34 : decode cX0_nextPost 34 = .ok (.getfield 28, 3) := by decide +kernel
theorem dX0_nextPost_37 : decode cX0_nextPost 37 = .ok (.iconst 1, 1) := by decide +kernel
theorem dX0_nextPost_38 : decode cX0_nextPost 38 = .ok (.isub, 1) := by decide +kernel
theorem dX0_nextPost_39 : decode cX0_nextPost 39 = .ok (.ireturn, 1) := by decide +kernel
theorem dX1_init_0 : decode cX1_init 0 = .ok (.aload_n 0, 1) := by decide +kernel
theorem dX1_init_1 : decode cX1_init 1 = .ok (.invokespecial 3, 3) := by decide +kernel
theorem dX1_init_4 : decode cX1_init 4 = .ok (.aload_n 0, 1) := by decide +kernel
theorem dX1_init_5 : decode cX1_init 5 = .ok (.bipush 6, 2) := by decide +kernel
theorem dX1_init_7 : decode cX1_init 7 = .ok (.newarray .int, 2) := by decide +kernel
theorem dX1_init_9 : decode cX1_init 9 = .ok (.putfield 9, 3) := by decide +kernel
theorem dX1_init_12 : decode cX1_init 12 = .ok (.aload_n 0, 1) := by decide +kernel
theorem dX1_init_13 : decode cX1_init 13 = .ok (.bipush 6, 2) := by decide +kernel
theorem dX1_init_15 : decode cX1_init 15 = .ok (.newarray .int, 2) := by decide +kernel
theorem dX1_init_17 : decode cX1_init 17 = .ok (.putfield 15, 3) := by decide +kernel
theorem dX1_init_20 : decode cX1_init 20 = .ok (.aload_n 0, 1) := by decide +kernel
theorem dX1_init_21 : decode cX1_init 21 = .ok (.bipush 6, 2) := by decide +kernel
theorem dX1_init_23 : decode cX1_init 23 = .ok (.newarray .int, 2) := by decide +kernel
theorem dX1_init_25 : decode cX1_init 25 = .ok (.putfield 18, 3) := by decide +kernel
theorem dX1_init_28 : decode cX1_init 28 = .ok (.return_, 1) := by decide +kernel
theorem dX1_add_0 : decode cX1_add 0 = .ok (.aload_n 0, 1) := by decide +kernel
theorem dX1_add_1 : decode cX1_add 1 = .ok (.getfield 21, 3) := by decide +kernel
theorem dX1_add_4 : decode cX1_add 4 = .ok (.bipush 6, 2) := by decide +kernel
theorem dX1_add_6 : decode cX1_add 6 = .ok (.if_icmp .lt 5, 3) := by decide +kernel
theorem dX1_add_9 : decode cX1_add 9 = .ok (.iconst 0, 1) := by decide +kernel
theorem dX1_add_10 : decode cX1_add 10 = .ok (.ireturn, 1) := by decide +kernel
theorem dX1_add_11 : decode cX1_add 11 = .ok (.aload_n 0, 1) := by decide +kernel
theorem dX1_add_12 : decode cX1_add 12 = .ok (.getfield 9, 3) := by decide +kernel
theorem dX1_add_15 : decode cX1_add 15 = .ok (.aload_n 0, 1) := by decide +kernel
theorem dX1_add_16 : decode cX1_add 16 = .ok (.getfield 21, 3) := by decide +kernel
theorem dX1_add_19 : decode cX1_add 19 = .ok (.iload_n 1, 1) := by decide +kernel
theorem dX1_add_20 : decode cX1_add 20 = .ok (.iastore, 1) := by decide +kernel
theorem dX1_add_21 : decode cX1_add 21 = .ok (.aload_n 0, 1) := by decide +kernel
theorem dX1_add_22 : decode cX1_add 22 = .ok (.getfield 15, 3) := by decide +kernel
theorem dX1_add_25 : decode cX1_add 25 = .ok (.aload_n 0, 1) := by decide +kernel
theorem dX1_add_26 : decode cX1_add 26 = .ok (.getfield 21, 3) := by decide +kernel
theorem dX1_add_29 : decode cX1_add 29 = .ok (.iload_n 2, 1) := by decide +kernel
theorem dX1_add_30 : decode cX1_add 30 = .ok (.iastore, 1) := by decide +kernel
theorem dX1_add_31 : decode cX1_add 31 = .ok (.aload_n 0, 1) := by decide +kernel
theorem dX1_add_32 : decode cX1_add 32 = .ok (.getfield 18, 3) := by decide +kernel
theorem dX1_add_35 : decode cX1_add 35 = .ok (.aload_n 0, 1) := by decide +kernel
theorem dX1_add_36 : decode cX1_add 36 = .ok (.getfield 21, 3) := by decide +kernel
theorem dX1_add_39 : decode cX1_add 39 = .ok (.iload_n 3, 1) := by decide +kernel
theorem dX1_add_40 : decode cX1_add 40 = .ok (.iastore, 1) := by decide +kernel
theorem dX1_add_41 : decode cX1_add 41 = .ok (.aload_n 0, 1) := by decide +kernel
theorem dX1_add_42 : decode cX1_add 42 = .ok (.dup, 1) := by decide +kernel
theorem dX1_add_43 : decode cX1_add 43 = .ok (.getfield 21, 3) := by decide +kernel
theorem dX1_add_46 : decode cX1_add 46 = .ok (.iconst 1, 1) := by decide +kernel
theorem dX1_add_47 : decode cX1_add 47 = .ok (.iadd, 1) := by decide +kernel
theorem dX1_add_48 : decode cX1_add 48 = .ok (.putfield 21, 3) := by decide +kernel
theorem dX1_add_51 : decode cX1_add 51 = .ok (.iconst 1, 1) := by decide +kernel
theorem dX1_add_52 : decode cX1_add 52 = .ok (.ireturn, 1) := by decide +kernel
theorem dX1_agree_0 : decode cX1_agree 0 = .ok (.iconst 0, 1) := by decide +kernel
theorem dX1_agree_1 : decode cX1_agree 1 = .ok (.istore_n 3, 1) := by decide +kernel
theorem dX1_agree_2 : decode cX1_agree 2 = .ok (.iload_n 3, 1) := by decide +kernel
theorem dX1_agree_3 : decode cX1_agree 3 = .ok (.aload_n 0, 1) := by decide +kernel
theorem dX1_agree_4 : decode cX1_agree 4 = .ok (.getfield 21, 3) := by decide +kernel
theorem dX1_agree_7 : decode cX1_agree 7 = .ok (.if_icmp .ge 40, 3) := by decide +kernel
theorem dX1_agree_10 : decode cX1_agree 10 = .ok (.aload_n 0, 1) := by decide +kernel
theorem dX1_agree_11 : decode cX1_agree 11 = .ok (.getfield 9, 3) := by decide +kernel
theorem dX1_agree_14 : decode cX1_agree 14 = .ok (.iload_n 3, 1) := by decide +kernel
theorem dX1_agree_15 : decode cX1_agree 15 = .ok (.iaload, 1) := by decide +kernel
theorem dX1_agree_16 : decode cX1_agree 16 = .ok (.iload_n 1, 1) := by decide +kernel
theorem dX1_agree_17 : decode cX1_agree 17 = .ok (.if_icmp .ne 24, 3) := by decide +kernel
theorem dX1_agree_20 : decode cX1_agree 20 = .ok (.iload_n 2, 1) := by decide +kernel
theorem dX1_agree_21 : decode cX1_agree 21 = .ok (.aload_n 0, 1) := by decide +kernel
theorem dX1_agree_22 : decode cX1_agree 22 = .ok (.getfield 15, 3) := by decide +kernel
theorem dX1_agree_25 : decode cX1_agree 25 = .ok (.iload_n 3, 1) := by decide +kernel
theorem dX1_agree_26 : decode cX1_agree 26 = .ok (.iaload, 1) := by decide +kernel
theorem dX1_agree_27 : decode cX1_agree 27 = .ok (.ishr, 1) := by decide +kernel
theorem dX1_agree_28 : decode cX1_agree 28 = .ok (.iconst 1, 1) := by decide +kernel
theorem dX1_agree_29 : decode cX1_agree 29 = .ok (.iand, 1) := by decide +kernel
theorem dX1_agree_30 : decode cX1_agree 30 = .ok (.aload_n 0, 1) := by decide +kernel
theorem dX1_agree_31 : decode cX1_agree 31 = .ok (.getfield 18, 3) := by decide +kernel
theorem dX1_agree_34 : decode cX1_agree 34 = .ok (.iload_n 3, 1) := by decide +kernel
theorem dX1_agree_35 : decode cX1_agree 35 = .ok (.iaload, 1) := by decide +kernel
theorem dX1_agree_36 : decode cX1_agree 36 = .ok (.if_icmp .eq 5, 3) := by decide +kernel
theorem dX1_agree_39 : decode cX1_agree 39 = .ok (.iconst 0, 1) := by decide +kernel
theorem dX1_agree_40 : decode cX1_agree 40 = .ok (.ireturn, 1) := by decide +kernel
theorem dX1_agree_41 : decode cX1_agree 41 = .ok (.iinc 3 1, 3) := by decide +kernel
theorem dX1_agree_44 : decode cX1_agree 44 = .ok (.goto (-42), 3) := by decide +kernel
theorem dX1_agree_47 : decode cX1_agree 47 = .ok (.iconst 1, 1) := by decide +kernel
theorem dX1_agree_48 : decode cX1_agree 48 = .ok (.ireturn, 1) := by decide +kernel
theorem dX2_init_0 : decode cX2_init 0 = .ok (.aload_n 0, 1) := by decide +kernel
theorem dX2_init_1 : decode cX2_init 1 = .ok (.invokespecial 3, 3) := by decide +kernel
theorem dX2_init_4 : decode cX2_init 4 = .ok (.aload_n 0, 1) := by decide +kernel
theorem dX2_init_5 : decode cX2_init 5 = .ok (.bipush 10, 2) := by decide +kernel
theorem dX2_init_7 : decode cX2_init 7 = .ok (.anewarray 9, 3) := by decide +kernel
theorem dX2_init_10 : decode cX2_init 10 = .ok (.putfield 11, 3) := by decide +kernel
theorem dX2_init_13 : decode cX2_init 13 = .ok (.iconst 0, 1) := by decide +kernel
theorem dX2_init_14 : decode cX2_init 14 = .ok (.istore_n 1, 1) := by decide +kernel
theorem dX2_init_15 : decode cX2_init 15 = .ok (.iload_n 1, 1) := by decide +kernel
theorem dX2_init_16 : decode cX2_init 16 = .ok (.bipush 10, 2) := by decide +kernel
theorem dX2_init_18 : decode cX2_init 18 = .ok (.if_icmp .ge 22, 3) := by decide +kernel
theorem dX2_init_21 : decode cX2_init 21 = .ok (.aload_n 0, 1) := by decide +kernel
theorem dX2_init_22 : decode cX2_init 22 = .ok (.getfield 11, 3) := by decide +kernel
theorem dX2_init_25 : decode cX2_init 25 = .ok (.iload_n 1, 1) := by decide +kernel
theorem dX2_init_26 : decode cX2_init 26 = .ok (.new 9, 3) := by decide +kernel
theorem dX2_init_29 : decode cX2_init 29 = .ok (.dup, 1) := by decide +kernel
theorem dX2_init_30 : decode cX2_init 30 = .ok (.invokespecial 17, 3) := by decide +kernel
theorem dX2_init_33 : decode cX2_init 33 = .ok (.aastore, 1) := by decide +kernel
theorem dX2_init_34 : decode cX2_init 34 = .ok (.iinc 1 1, 3) := by decide +kernel
theorem dX2_init_37 : decode cX2_init 37 = .ok (.goto (-22), 3) := by decide +kernel
theorem dX2_init_40 : decode cX2_init 40 = .ok (.return_, 1) := by decide +kernel
theorem dX2_remember_0 : decode cX2_remember 0 = .ok (.aload_n 0, 1) := by decide +kernel
theorem dX2_remember_1 : decode cX2_remember 1 = .ok (.getfield 11, 3) := by decide +kernel
theorem dX2_remember_4 : decode cX2_remember 4 = .ok (.aload_n 0, 1) := by decide +kernel
theorem dX2_remember_5 : decode cX2_remember 5 = .ok (.getfield 18, 3) := by decide +kernel
theorem dX2_remember_8 : decode cX2_remember 8 = .ok (.aaload, 1) := by decide +kernel
theorem dX2_remember_9 : decode cX2_remember 9 = .ok (.aload_n 1, 1) := by decide +kernel
theorem dX2_remember_10 : decode cX2_remember 10 = .ok (.invokevirtual 22, 3) := by decide +kernel
theorem dX2_remember_13 : decode cX2_remember 13 = .ok (.aload_n 0, 1) := by decide +kernel
theorem dX2_remember_14 : decode cX2_remember 14 = .ok (.aload_n 0, 1) := by decide +kernel
theorem dX2_remember_15 : decode cX2_remember 15 = .ok (.getfield 18, 3) := by decide +kernel
theorem dX2_remember_18 : decode cX2_remember 18 = .ok (.iconst 1, 1) := by decide +kernel
theorem dX2_remember_19 : decode cX2_remember 19 = .ok (.iadd, 1) := by decide +kernel
theorem dX2_remember_20 : decode cX2_remember 20 = .ok (.bipush 10, 2) := by decide +kernel
theorem dX2_remember_22 : decode cX2_remember 22 = .ok (.irem, 1) := by decide +kernel
theorem dX2_remember_23 : decode cX2_remember 23 = .ok (.putfield 18, 3) := by decide +kernel
theorem dX2_remember_26 : decode cX2_remember 26 = .ok (.aload_n 0, 1) := by decide +kernel
theorem dX2_remember_27 : decode cX2_remember 27 = .ok (.aload_n 0, 1) := by decide +kernel
theorem dX2_remember_28 : decode cX2_remember 28 = .ok (.getfield 26, 3) := by decide +kernel
theorem dX2_remember_31 : decode cX2_remember 31 = .ok (.iconst 1, 1) := by decide +kernel
theorem dX2_remember_32 : decode cX2_remember 32 = .ok (.iadd, 1) := by decide +kernel
theorem dX2_remember_33 : decode cX2_remember 33 = .ok (.bipush 10, 2) := by decide +kernel
theorem dX2_remember_35 : decode cX2_remember 35 = .ok (.invokestatic 29, 3) := by decide +kernel
theorem dX2_remember_38 : decode cX2_remember 38 = .ok (.putfield 26, 3) := by decide +kernel
theorem dX2_remember_41 : decode cX2_remember 41 = .ok (.return_, 1) := by decide +kernel
theorem dX2_restore_0 : decode cX2_restore 0 = .ok (.aload_n 0, 1) := by decide +kernel
theorem dX2_restore_1 : decode cX2_restore 1 = .ok (.aload_n 0, 1) := by decide +kernel
theorem dX2_restore_2 : decode cX2_restore 2 = .ok (.getfield 18, 3) := by decide +kernel
theorem dX2_restore_5 : decode cX2_restore 5 = .ok (.bipush 10, 2) := by decide +kernel
theorem dX2_restore_7 : decode cX2_restore 7 = .ok (.iadd, 1) := by decide +kernel
theorem dX2_restore_8 : decode cX2_restore 8 = .ok (.iconst 1, 1) := by decide +kernel
theorem dX2_restore_9 : decode cX2_restore 9 = .ok (.isub, 1) := by decide +kernel
theorem dX2_restore_10 : decode cX2_restore 10 = .ok (.bipush 10, 2) := by decide +kernel
theorem dX2_restore_12 : decode cX2_restore 12 = .ok (.irem, 1) := by decide +kernel
theorem dX2_restore_13 : decode cX2_restore 13 = .ok (.putfield 18, 3) := by decide +kernel
theorem dX2_restore_16 : decode cX2_restore 16 = .ok (.aload_n 1, 1) := by decide +kernel
theorem dX2_restore_17 : decode cX2_restore 17 = .ok (.aload_n 0, 1) := by decide +kernel
theorem dX2_restore_18 : decode cX2_restore 18 = .ok (.getfield 11, 3) := by decide +kernel
theorem dX2_restore_21 : decode cX2_restore 21 = .ok (.aload_n 0, 1) := by decide +kernel
theorem dX2_restore_22 : decode cX2_restore 22 = .ok (.getfield 18, 3) := by decide +kernel
theorem dX2_restore_25 : decode cX2_restore 25 = .ok (.aaload, 1) := by decide +kernel
theorem dX2_restore_26 : decode cX2_restore 26 = .ok (.invokevirtual 22, 3) := by decide +kernel
theorem dX2_restore_29 : decode cX2_restore 29 = .ok (.aload_n 0, 1) := by decide +kernel
theorem dX2_restore_30 : decode cX2_restore 30 = .ok (.dup, 1) := by decide +kernel
theorem dX2_restore_31 : decode cX2_restore 31 = .ok (.getfield 26, 3) := by decide +kernel
theorem dX2_restore_34 : decode cX2_restore 34 = .ok (.iconst 1, 1) := by decide +kernel
theorem dX2_restore_35 : decode cX2_restore 35 = .ok (.isub, 1) := by decide +kernel
theorem dX2_restore_36 : decode cX2_restore 36 = .ok (.putfield 26, 3) := by decide +kernel
theorem dX2_restore_39 : decode cX2_restore 39 = .ok (.return_, 1) := by decide +kernel
theorem dX3_init_0 : decode cX3_init 0 = .ok (.aload_n 0, 1) := by decide +kernel
theorem dX3_init_1 : decode cX3_init 1 = .ok (.invokespecial 3, 3) := by decide +kernel
theorem dX3_init_4 : decode cX3_init 4 = .ok (.aload_n 0, 1) := by decide +kernel
theorem dX3_init_5 : decode cX3_init 5 = .ok (.iconst 5, 1) := by decide +kernel
theorem dX3_init_6 : decode cX3_init 6 = .ok (.newarray .int, 2) := by decide +kernel
theorem dX3_init_8 : decode cX3_init 8 = .ok (.putfield 9, 3) := by decide +kernel
theorem dX3_init_11 : decode cX3_init 11 = .ok (.aload_n 0, 1) := by decide +kernel
theorem dX3_init_12 : decode cX3_init 12 = .ok (.iconst 5, 1) := by decide +kernel
theorem dX3_init_13 : decode cX3_init 13 = .ok (.newarray .int, 2) := by decide +kernel
theorem dX3_init_15 : decode cX3_init 15 = .ok (.putfield 15, 3) := by decide +kernel
theorem dX3_init_18 : decode cX3_init 18 = .ok (.aload_n 0, 1) := by decide +kernel
theorem dX3_init_19 : decode cX3_init 19 = .ok (.bipush 30, 2) := by decide +kernel
theorem dX3_init_21 : decode cX3_init 21 = .ok (.newarray .int, 2) := by decide +kernel
theorem dX3_init_23 : decode cX3_init 23 = .ok (.putfield 18, 3) := by decide +kernel
theorem dX3_init_26 : decode cX3_init 26 = .ok (.return_, 1) := by decide +kernel
theorem dX3_search_0 : decode cX3_search 0 = .ok (.aload_n 0, 1) := by decide +kernel
theorem dX3_search_1 : decode cX3_search 1 = .ok (.aload_n 1, 1) := by decide +kernel
theorem dX3_search_2 : decode cX3_search 2 = .ok (.aload_n 2, 1) := by decide +kernel
theorem dX3_search_3 : decode cX3_search 3 = .ok (.invokevirtual 21, 3) := by decide +kernel
theorem dX3_search_6 : decode cX3_search 6 = .ok (.aload_n 0, 1) := by decide +kernel
theorem dX3_search_7 : decode cX3_search 7 = .ok (.bipush 61, 2) := by decide +kernel
theorem dX3_search_9 : decode cX3_search 9 = .ok (.putfield 25, 3) := by decide +kernel
theorem dX3_search_12 : decode cX3_search 12 = .ok (.aload_n 0, 1) := by decide +kernel
theorem dX3_search_13 : decode cX3_search 13 = .ok (.aload_n 1, 1) := by decide +kernel
theorem dX3_search_14 : decode cX3_search 14 = .ok (.iconst 0, 1) := by decide +kernel
theorem dX3_search_15 : decode cX3_search 15 = .ok (.iconst 0, 1) := by decide +kernel
theorem dX3_search_16 : decode cX3_search 16 = .ok (.iconst 0, 1) := by decide +kernel
theorem dX3_search_17 : decode cX3_search 17 = .ok (.invokevirtual 29, 3) := by decide +kernel
theorem dX3_search_20 : decode cX3_search 20 = .ok (.return_, 1) := by decide +kernel
theorem dX3_weighAll_0 : decode cX3_weighAll 0 = .ok (.iconst 0, 1) := by decide +kernel
theorem dX3_weighAll_1 : decode cX3_weighAll 1 = .ok (.istore_n 3, 1) := by decide +kernel
theorem dX3_weighAll_2 : decode cX3_weighAll 2 = .ok (.iload_n 3, 1) := by decide +kernel
theorem dX3_weighAll_3 : decode cX3_weighAll 3 = .ok (.aload_n 1, 1) := by decide +kernel
theorem dX3_weighAll_4 : decode cX3_weighAll 4 = .ok (.getfield 33, 3) := by decide +kernel
theorem dX3_weighAll_7 : decode cX3_weighAll 7 = .ok (.if_icmp .ge 91, 3) := by decide +kernel
theorem dX3_weighAll_10 : decode cX3_weighAll 10 = .ok (.iconst 0, 1) := by decide +kernel
theorem dX3_weighAll_11 : decode cX3_weighAll 11 = .ok (.istore 4, 2) := by decide +kernel
theorem dX3_weighAll_13 : decode cX3_weighAll 13 = .ok (.iconst 0, 1) := by decide +kernel
theorem dX3_weighAll_14 : decode cX3_weighAll 14 = .ok (.istore 5, 2) := by decide +kernel
theorem dX3_weighAll_16 : decode cX3_weighAll 16 = .ok (.iload 5, 2) := by decide +kernel
theorem dX3_weighAll_18 : decode cX3_weighAll 18 = .ok (.aload_n 1, 1) := by decide +kernel
theorem dX3_weighAll_19 : decode cX3_weighAll 19 = .ok (.getfield 38, 3) := by decide +kernel
theorem dX3_weighAll_22 : decode cX3_weighAll 22 = .ok (.if_icmp .ge 26, 3) := by decide +kernel
theorem dX3_weighAll_25 : decode cX3_weighAll 25 = .ok (.iload 4, 2) := by decide +kernel
theorem dX3_weighAll_27 : decode cX3_weighAll 27 = .ok (.aload_n 1, 1) := by decide +kernel
theorem dX3_weighAll_28 : decode cX3_weighAll 28 = .ok (.iload_n 3, 1) := by decide +kernel
theorem dX3_weighAll_29 : decode cX3_weighAll 29 = .ok (.aload_n 2, 1) := by decide +kernel
theorem dX3_weighAll_30 : decode cX3_weighAll 30 = .ok (.getfield 41, 3) := by decide +kernel
theorem dX3_weighAll_33 : decode cX3_weighAll 33 = .ok (.iload 5, 2) := by decide +kernel
theorem dX3_weighAll_35 : decode cX3_weighAll 35 = .ok (.iadd, 1) := by decide +kernel
theorem dX3_weighAll_36 : decode cX3_weighAll 36 = .ok (.invokevirtual 46, 3) := by decide +kernel
theorem dX3_weighAll_39 : decode cX3_weighAll 39 = .ok (.iadd, 1) := by decide +kernel
theorem dX3_weighAll_40 : decode cX3_weighAll 40 = .ok (.istore 4, 2) := by decide +kernel
theorem dX3_weighAll_42 : decode cX3_weighAll 42 = .ok (.iinc 5 1, 3) := by decide +kernel
theorem dX3_weighAll_45 : decode cX3_weighAll 45 = .ok (.goto (-29), 3) := by decide +kernel
theorem dX3_weighAll_48 : decode cX3_weighAll 48 = .ok (.iconst 0, 1) := by decide +kernel
theorem dX3_weighAll_49 : decode cX3_weighAll 49 = .ok (.istore 5, 2) := by decide +kernel
theorem dX3_weighAll_51 : decode cX3_weighAll 51 = .ok (.iload 5, 2) := by decide +kernel
theorem dX3_weighAll_53 : decode cX3_weighAll 53 = .ok (.aload_n 1, 1) := by decide +kernel
theorem dX3_weighAll_54 : decode cX3_weighAll 54 = .ok (.getfield 50, 3) := by decide +kernel
theorem dX3_weighAll_57 : decode cX3_weighAll 57 = .ok (.if_icmp .ge 35, 3) := by decide +kernel
theorem dX3_weighAll_60 : decode cX3_weighAll 60 = .ok (.aload_n 0, 1) := by decide +kernel
theorem dX3_weighAll_61 : decode cX3_weighAll 61 = .ok (.getfield 18, 3) := by decide +kernel
theorem dX3_weighAll_64 : decode cX3_weighAll 64 = .ok (.iload 5, 2) := by decide +kernel
theorem dX3_weighAll_66 : decode cX3_weighAll 66 = .ok (.iconst 5, 1) := by decide +kernel
theorem dX3_weighAll_67 : decode cX3_weighAll 67 = .ok (.imul, 1) := by decide +kernel
theorem dX3_weighAll_68 : decode cX3_weighAll 68 = .ok (.iload_n 3, 1) := by decide +kernel
theorem dX3_weighAll_69 : decode cX3_weighAll 69 = .ok (.iadd, 1) := by decide +kernel
theorem dX3_weighAll_70 : decode cX3_weighAll 70 = .ok (.bipush 60, 2) := by decide +kernel
theorem dX3_weighAll_72 : decode cX3_weighAll 72 = .ok (.aload_n 2, 1) := by decide +kernel
theorem dX3_weighAll_73 : decode cX3_weighAll 73 = .ok (.getfield 53, 3) := by decide +kernel
theorem dX3_weighAll_76 : decode cX3_weighAll 76 = .ok (.iload 5, 2) := by decide +kernel
theorem dX3_weighAll_78 : decode cX3_weighAll 78 = .ok (.iaload, 1) := by decide +kernel
theorem dX3_weighAll_79 : decode cX3_weighAll 79 = .ok (.iload 4, 2) := by decide +kernel
theorem dX3_weighAll_81 : decode cX3_weighAll 81 = .ok (.iadd, 1) := by decide +kernel
theorem dX3_weighAll_82 : decode cX3_weighAll 82 = .ok (.invokestatic 56, 3) := by decide +kernel
theorem dX3_weighAll_85 : decode cX3_weighAll 85 = .ok (.iastore, 1) := by decide +kernel
theorem dX3_weighAll_86 : decode cX3_weighAll 86 = .ok (.iinc 5 1, 3) := by decide +kernel
theorem dX3_weighAll_89 : decode cX3_weighAll 89 = .ok (.goto (-38), 3) := by decide +kernel
theorem dX3_weighAll_92 : decode cX3_weighAll 92 = .ok (.iinc 3 1, 3) := by decide +kernel
theorem dX3_weighAll_95 : decode cX3_weighAll 95 = .ok (.goto (-93), 3) := by decide +kernel
theorem dX3_weighAll_98 : decode cX3_weighAll 98 = .ok (.return_, 1) := by decide +kernel
theorem dX3_tryFrom_0 : decode cX3_tryFrom 0 = .ok (.iload 4, 2) := by decide +kernel
theorem dX3_tryFrom_2 : decode cX3_tryFrom 2 = .ok (.aload_n 0, 1) := by decide +kernel
theorem dX3_tryFrom_3 : decode cX3_tryFrom 3 = .ok (.getfield 25, 3) := by decide +kernel
theorem dX3_tryFrom_6 : decode cX3_tryFrom 6 = .ok (.if_icmp .lt 4, 3) := by decide +kernel
theorem dX3_tryFrom_9 : decode cX3_tryFrom 9 = .ok (.return_, 1) := by decide +kernel
theorem dX3_tryFrom_10 : decode cX3_tryFrom 10 = .ok (.iload_n 2, 1) := by decide +kernel
theorem dX3_tryFrom_11 : decode cX3_tryFrom 11 = .ok (.aload_n 1, 1) := by decide +kernel
theorem dX3_tryFrom_12 : decode cX3_tryFrom 12 = .ok (.getfield 33, 3) := by decide +kernel
theorem dX3_tryFrom_15 : decode cX3_tryFrom 15 = .ok (.if_icmp .lt 24, 3) := by decide +kernel
theorem dX3_tryFrom_18 : decode cX3_tryFrom 18 = .ok (.aload_n 0, 1) := by decide +kernel
theorem dX3_tryFrom_19 : decode cX3_tryFrom 19 = .ok (.iload 4, 2) := by decide +kernel
theorem dX3_tryFrom_21 : decode cX3_tryFrom 21 = .ok (.putfield 25, 3) := by decide +kernel
theorem dX3_tryFrom_24 : decode cX3_tryFrom 24 = .ok (.aload_n 0, 1) := by decide +kernel
theorem dX3_tryFrom_25 : decode cX3_tryFrom 25 = .ok (.getfield 15, 3) := by decide +kernel
theorem dX3_tryFrom_28 : decode cX3_tryFrom 28 = .ok (.iconst 0, 1) := by decide +kernel
theorem dX3_tryFrom_29 : decode cX3_tryFrom 29 = .ok (.aload_n 0, 1) := by decide +kernel
theorem dX3_tryFrom_30 : decode cX3_tryFrom 30 = .ok (.getfield 9, 3) := by decide +kernel
theorem dX3_tryFrom_33 : decode cX3_tryFrom 33 = .ok (.iconst 0, 1) := by decide +kernel
theorem dX3_tryFrom_34 : decode cX3_tryFrom 34 = .ok (.iconst 5, 1) := by decide +kernel
theorem dX3_tryFrom_35 : decode cX3_tryFrom 35 = .ok (.invokestatic 61, 3) := by decide +kernel
theorem dX3_tryFrom_38 : decode cX3_tryFrom 38 = .ok (.return_, 1) := by decide +kernel
theorem dX3_tryFrom_39 : decode cX3_tryFrom 39 = .ok (.iconst 0, 1) := by decide +kernel
theorem dX3_tryFrom_40 : decode cX3_tryFrom 40 = .ok (.istore 5, 2) := by decide +kernel
theorem dX3_tryFrom_42 : decode cX3_tryFrom 42 = .ok (.iload 5, 2) := by decide +kernel
theorem dX3_tryFrom_44 : decode cX3_tryFrom 44 = .ok (.aload_n 1, 1) := by decide +kernel
theorem dX3_tryFrom_45 : decode cX3_tryFrom 45 = .ok (.getfield 50, 3) := by decide +kernel
theorem dX3_tryFrom_48 : decode cX3_tryFrom 48 = .ok (.if_icmp .ge 56, 3) := by decide +kernel
theorem dX3_tryFrom_51 : decode cX3_tryFrom 51 = .ok (.iload_n 3, 1) := by decide +kernel
theorem dX3_tryFrom_52 : decode cX3_tryFrom 52 = .ok (.iload 5, 2) := by decide +kernel
theorem dX3_tryFrom_54 : decode cX3_tryFrom 54 = .ok (.ishr, 1) := by decide +kernel
theorem dX3_tryFrom_55 : decode cX3_tryFrom 55 = .ok (.iconst 1, 1) := by decide +kernel
theorem dX3_tryFrom_56 : decode cX3_tryFrom 56 = .ok (.iand, 1) := by decide +kernel
theorem dX3_tryFrom_57 : decode cX3_tryFrom 57 = .ok (.ifCond .ne 41, 3) := by decide +kernel
theorem dX3_tryFrom_60 : decode cX3_tryFrom 60 = .ok (.aload_n 0, 1) := by decide +kernel
theorem dX3_tryFrom_61 : decode cX3_tryFrom 61 = .ok (.getfield 15, 3) := by decide +kernel
theorem dX3_tryFrom_64 : decode cX3_tryFrom 64 = .ok (.iload_n 2, 1) := by decide +kernel
theorem dX3_tryFrom_65 : decode cX3_tryFrom 65 = .ok (.iload 5, 2) := by decide +kernel
theorem dX3_tryFrom_67 : decode cX3_tryFrom 67 = .ok (.iastore, 1) := by decide +kernel
theorem dX3_tryFrom_68 : decode cX3_tryFrom 68 = .ok (.aload_n 0, 1) := by decide +kernel
theorem dX3_tryFrom_69 : decode cX3_tryFrom 69 = .ok (.aload_n 1, 1) := by decide +kernel
theorem dX3_tryFrom_70 : decode cX3_tryFrom 70 = .ok (.iload_n 2, 1) := by decide +kernel
theorem dX3_tryFrom_71 : decode cX3_tryFrom 71 = .ok (.iconst 1, 1) := by decide +kernel
theorem dX3_tryFrom_72 : decode cX3_tryFrom 72 = .ok (.iadd, 1) := by decide +kernel
theorem dX3_tryFrom_73 : decode cX3_tryFrom 73 = .ok (.iload_n 3, 1) := by decide +kernel
theorem dX3_tryFrom_74 : decode cX3_tryFrom 74 = .ok (.iconst 1, 1) := by decide +kernel
theorem dX3_tryFrom_75 : decode cX3_tryFrom 75 = .ok (.iload 5, 2) := by decide +kernel
theorem dX3_tryFrom_77 : decode cX3_tryFrom 77 = .ok (.ishl, 1) := by decide +kernel
theorem dX3_tryFrom_78 : decode cX3_tryFrom 78 = .ok (.ior, 1) := by decide +kernel
theorem dX3_tryFrom_79 : decode cX3_tryFrom 79 = .ok (.iload 4, 2) := by decide +kernel
theorem dX3_tryFrom_81 : decode cX3_tryFrom 81 = .ok (.aload_n 0, 1) := by decide +kernel
theorem dX3_tryFrom_82 : decode cX3_tryFrom 82 = .ok (.getfield 18, 3) := by decide +kernel
theorem dX3_tryFrom_85 : decode cX3_tryFrom 85 = .ok (.iload 5, 2) := by decide +kernel
theorem dX3_tryFrom_87 : decode cX3_tryFrom 87 = .ok (.iconst 5, 1) := by decide +kernel
theorem dX3_tryFrom_88 : decode cX3_tryFrom 88 = .ok (.imul, 1) := by decide +kernel
theorem dX3_tryFrom_89 : decode cX3_tryFrom 89 = .ok (.iload_n 2, 1) := by decide +kernel
theorem dX3_tryFrom_90 : decode cX3_tryFrom 90 = .ok (.iadd, 1) := by decide +kernel
theorem dX3_tryFrom_91 : decode cX3_tryFrom 91 = .ok (.iaload, 1) := by decide +kernel
theorem dX3_tryFrom_92 : decode cX3_tryFrom 92 = .ok (.invokestatic 67, 3) := by decide +kernel
theorem dX3_tryFrom_95 : decode cX3_tryFrom 95 = .ok (.invokevirtual 29, 3) := by decide +kernel
theorem dX3_tryFrom_98 : decode cX3_tryFrom 98 = .ok (.iinc 5 1, 3) := by decide +kernel
theorem dX3_tryFrom_101 : decode cX3_tryFrom 101 = .ok (.goto (-59), 3) := by decide +kernel
theorem dX3_tryFrom_104 : decode cX3_tryFrom 104 = .ok (.return_, 1) := by decide +kernel
theorem dX4_init_0 : decode cX4_init 0 = .ok (.aload_n 0, 1) := by decide +kernel
theorem dX4_init_1 : decode cX4_init 1 = .ok (.invokespecial 3, 3) := by decide +kernel
theorem dX4_init_4 : decode cX4_init 4 = .ok (.aload_n 0, 1) := by decide +kernel
theorem dX4_init_5 : decode cX4_init 5 = .ok (.sipush 200, 3) := by decide +kernel
theorem dX4_init_8 : decode cX4_init 8 = .ok (.newarray .int, 2) := by decide +kernel
theorem dX4_init_10 : decode cX4_init 10 = .ok (.putfield 9, 3) := by decide +kernel
theorem dX4_init_13 : decode cX4_init 13 = .ok (.return_, 1) := by decide +kernel
theorem dX4_take_0 : decode cX4_take 0 = .ok (.aload_n 0, 1) := by decide +kernel
theorem dX4_take_1 : decode cX4_take 1 = .ok (.getfield 15, 3) := by decide +kernel
theorem dX4_take_4 : decode cX4_take 4 = .ok (.sipush 200, 3) := by decide +kernel
theorem dX4_take_7 : decode cX4_take 7 = .ok (.if_icmp .lt 5, 3) := by decide +kernel
theorem dX4_take_10 : decode cX4_take 10 = .ok (.iconst 0, 1) := by decide +kernel
theorem dX4_take_11 : decode cX4_take 11 = .ok (.ireturn, 1) := by decide +kernel
theorem dX4_take_12 : decode cX4_take 12 = .ok (.aload_n 0, 1) := by decide +kernel
theorem dX4_take_13 : decode cX4_take 13 = .ok (.getfield 9, 3) := by decide +kernel
theorem dX4_take_16 : decode cX4_take 16 = .ok (.aload_n 0, 1) := by decide +kernel
theorem dX4_take_17 : decode cX4_take 17 = .ok (.getfield 15, 3) := by decide +kernel
theorem dX4_take_20 : decode cX4_take 20 = .ok (.iload_n 1, 1) := by decide +kernel
theorem dX4_take_21 : decode cX4_take 21 = .ok (.iastore, 1) := by decide +kernel
theorem dX4_take_22 : decode cX4_take 22 = .ok (.aload_n 0, 1) := by decide +kernel
theorem dX4_take_23 : decode cX4_take 23 = .ok (.dup, 1) := by decide +kernel
theorem dX4_take_24 : decode cX4_take 24 = .ok (.getfield 15, 3) := by decide +kernel
theorem dX4_take_27 : decode cX4_take 27 = .ok (.iconst 1, 1) := by decide +kernel
theorem dX4_take_28 : decode cX4_take 28 = .ok (.iadd, 1) := by decide +kernel
theorem dX4_take_29 : decode cX4_take 29 = .ok (.putfield 15, 3) := by decide +kernel
theorem dX4_take_32 : decode cX4_take 32 = .ok (.iconst 1, 1) := by decide +kernel
theorem dX4_take_33 : decode cX4_take 33 = .ok (.ireturn, 1) := by decide +kernel
theorem dX4_readInto_0 : decode cX4_readInto 0 = .ok (.aload_n 1, 1) := by decide +kernel
theorem dX4_readInto_1 : decode cX4_readInto 1 = .ok (.invokevirtual 19, 3) := by decide +kernel
theorem dX4_readInto_4 : decode cX4_readInto 4 = .ok (.aload_n 0, 1) := by decide +kernel
theorem dX4_readInto_5 : decode cX4_readInto 5 = .ok (.iconst 0, 1) := by decide +kernel
theorem dX4_readInto_6 : decode cX4_readInto 6 = .ok (.putfield 24, 3) := by decide +kernel
theorem dX4_readInto_9 : decode cX4_readInto 9 = .ok (.aload_n 0, 1) := by decide +kernel
theorem dX4_readInto_10 : decode cX4_readInto 10 = .ok (.iconst 0, 1) := by decide +kernel
theorem dX4_readInto_11 : decode cX4_readInto 11 = .ok (.putfield 28, 3) := by decide +kernel
theorem dX4_readInto_14 : decode cX4_readInto 14 = .ok (.aload_n 0, 1) := by decide +kernel
theorem dX4_readInto_15 : decode cX4_readInto 15 = .ok (.iconst 0, 1) := by decide +kernel
theorem dX4_readInto_16 : decode cX4_readInto 16 = .ok (.putfield 31, 3) := by decide +kernel
theorem dX4_readInto_19 : decode cX4_readInto 19 = .ok (.iconst 0, 1) := by decide +kernel
theorem dX4_readInto_20 : decode cX4_readInto 20 = .ok (.istore_n 2, 1) := by decide +kernel
theorem dX4_readInto_21 : decode cX4_readInto 21 = .ok (.iload_n 2, 1) := by decide +kernel
theorem dX4_readInto_22 : decode cX4_readInto 22 = .ok (.aload_n 0, 1) := by decide +kernel
theorem dX4_readInto_23 : decode cX4_readInto 23 = .ok (.getfield 15, 3) := by decide +kernel
theorem dX4_readInto_26 : decode cX4_readInto 26 = .ok (.if_icmp .gt 35, 3) := by decide +kernel
theorem dX4_readInto_29 : decode cX4_readInto 29 = .ok (.aload_n 0, 1) := by decide +kernel
theorem dX4_readInto_30 : decode cX4_readInto 30 = .ok (.invokevirtual 34, 3) := by decide +kernel
theorem dX4_readInto_33 : decode cX4_readInto 33 = .ok (.aload_n 0, 1) := by decide +kernel
theorem dX4_readInto_34 : decode cX4_readInto 34 = .ok (.getfield 37, 3) := by decide +kernel
theorem dX4_readInto_37 : decode cX4_readInto 37 = .ok (.bipush (-2), 2) := by decide +kernel
theorem dX4_readInto_39 : decode cX4_readInto 39 = .ok (.if_icmp .ne 5, 3) := by decide +kernel
theorem dX4_readInto_42 : decode cX4_readInto 42 = .ok (.iload_n 2, 1) := by decide +kernel
theorem dX4_readInto_43 : decode cX4_readInto 43 = .ok (.ireturn, 1) := by decide +kernel
theorem dX4_readInto_44 : decode cX4_readInto 44 = .ok (.aload_n 0, 1) := by decide +kernel
theorem dX4_readInto_45 : decode cX4_readInto 45 = .ok (.aload_n 1, 1) := by decide +kernel
theorem dX4_readInto_46 : decode cX4_readInto 46 = .ok (.invokevirtual 40, 3) := by decide +kernel
theorem dX4_readInto_49 : decode cX4_readInto 49 = .ok (.ifCond .ne 6, 3) := by decide +kernel
theorem dX4_readInto_52 : decode cX4_readInto 52 = .ok (.goto 9, 3) := by decide +kernel
theorem dX4_readInto_55 : decode cX4_readInto 55 = .ok (.iinc 2 1, 3) := by decide +kernel
theorem dX4_readInto_58 : decode cX4_readInto 58 = .ok (.goto (-37), 3) := by decide +kernel
theorem dX4_readInto_61 : decode cX4_readInto 61 = .ok (.bipush (-10), 2) := by decide +kernel
theorem dX4_readInto_63 : decode cX4_readInto 63 = .ok (.aload_n 0, 1) := by decide +kernel
theorem dX4_readInto_64 : decode cX4_readInto 64 = .ok (.getfield 44, 3) := by decide +kernel
theorem dX4_readInto_67 : decode cX4_readInto 67 = .ok (.isub, 1) := by decide +kernel
theorem dX4_readInto_68 : decode cX4_readInto 68 = .ok (.ireturn, 1) := by decide +kernel
theorem dX4_readItem_0 : decode cX4_readItem 0 = .ok (.aload_n 0, 1) := by decide +kernel
theorem dX4_readItem_1 : decode cX4_readItem 1 = .ok (.getfield 37, 3) := by decide +kernel
theorem dX4_readItem_4 : decode cX4_readItem 4 = .ok (.tableswitch 68 109 115 #[50, 68, 56, 44, 68, 68, 62], 44) := by decide +kernel
theorem dX4_readItem_48 : decode cX4_readItem 48 = .ok (.aload_n 0, 1) := by decide +kernel
theorem dX4_readItem_49 : decode cX4_readItem 49 = .ok (.aload_n 1, 1) := by decide +kernel
theorem dX4_readItem_50 : decode cX4_readItem 50 = .ok (.invokevirtual 47, 3) := by decide +kernel
theorem dX4_readItem_53 : decode cX4_readItem 53 = .ok (.ireturn, 1) := by decide +kernel
theorem dX4_readItem_54 : decode cX4_readItem 54 = .ok (.aload_n 0, 1) := by decide +kernel
theorem dX4_readItem_55 : decode cX4_readItem 55 = .ok (.aload_n 1, 1) := by decide +kernel
theorem dX4_readItem_56 : decode cX4_readItem 56 = .ok (.invokevirtual 50, 3) := by decide +kernel
theorem dX4_readItem_59 : decode cX4_readItem 59 = .ok (.ireturn, 1) := by decide +kernel
theorem dX4_readItem_60 : decode cX4_readItem 60 = .ok (.aload_n 0, 1) := by decide +kernel
theorem dX4_readItem_61 : decode cX4_readItem 61 = .ok (.aload_n 1, 1) := by decide +kernel
theorem dX4_readItem_62 : decode cX4_readItem 62 = .ok (.invokevirtual 53, 3) := by decide +kernel
theorem dX4_readItem_65 : decode cX4_readItem 65 = .ok (.ireturn, 1) := by decide +kernel
theorem dX4_readItem_66 : decode cX4_readItem 66 = .ok (.aload_n 0, 1) := by decide +kernel
theorem dX4_readItem_67 : decode cX4_readItem 67 = .ok (.aload_n 1, 1) := by decide +kernel
theorem dX4_readItem_68 : decode cX4_readItem 68 = .ok (.invokevirtual 56, 3) := by decide +kernel
theorem dX4_readItem_71 : decode cX4_readItem 71 = .ok (.ireturn, 1) := by decide +kernel
theorem dX4_readItem_72 : decode cX4_readItem 72 = .ok (.iconst 0, 1) := by decide +kernel
theorem dX4_readItem_73 : decode cX4_readItem 73 = .ok (.ireturn, 1) := by decide +kernel
theorem dX4_readPost_0 : decode cX4_readPost 0 = .ok (.aload_n 1, 1) := by decide +kernel
theorem dX4_readPost_1 : decode cX4_readPost 1 = .ok (.getfield 59, 3) := by decide +kernel
theorem dX4_readPost_4 : decode cX4_readPost 4 = .ok (.iconst 5, 1) := by decide +kernel
theorem dX4_readPost_5 : decode cX4_readPost 5 = .ok (.if_icmp .ge 13, 3) := by decide +kernel
theorem dX4_readPost_8 : decode cX4_readPost 8 = .ok (.aload_n 0, 1) := by decide +kernel
theorem dX4_readPost_9 : decode cX4_readPost 9 = .ok (.iconst 0, 1) := by decide +kernel
theorem dX4_readPost_10 : decode cX4_readPost 10 = .ok (.bipush 31, 2) := by decide +kernel
theorem dX4_readPost_12 : decode cX4_readPost 12 = .ok (.invokevirtual 62, 3) := by decide +kernel
theorem dX4_readPost_15 : decode cX4_readPost 15 = .ok (.ifCond .ne 5, 3) := by decide +kernel
theorem dX4_readPost_18 : decode cX4_readPost 18 = .ok (.iconst 0, 1) := by decide +kernel
theorem dX4_readPost_19 : decode cX4_readPost 19 = .ok (.ireturn, 1) := by decide +kernel
theorem dX4_readPost_20 : decode cX4_readPost 20 = .ok (.aload_n 1, 1) := by decide +kernel
theorem dX4_readPost_21 : decode cX4_readPost 21 = .ok (.getfield 66, 3) := by decide +kernel
theorem dX4_readPost_24 : decode cX4_readPost 24 = .ok (.aload_n 1, 1) := by decide +kernel
theorem dX4_readPost_25 : decode cX4_readPost 25 = .ok (.getfield 59, 3) := by decide +kernel
theorem dX4_readPost_28 : decode cX4_readPost 28 = .ok (.aload_n 0, 1) := by decide +kernel
theorem dX4_readPost_29 : decode cX4_readPost 29 = .ok (.getfield 69, 3) := by decide +kernel
theorem dX4_readPost_32 : decode cX4_readPost 32 = .ok (.iastore, 1) := by decide +kernel
theorem dX4_readPost_33 : decode cX4_readPost 33 = .ok (.aload_n 0, 1) := by decide +kernel
theorem dX4_readPost_34 : decode cX4_readPost 34 = .ok (.iconst 0, 1) := by decide +kernel
theorem dX4_readPost_35 : decode cX4_readPost 35 = .ok (.bipush 9, 2) := by decide +kernel
theorem dX4_readPost_37 : decode cX4_readPost 37 = .ok (.invokevirtual 62, 3) := by decide +kernel
theorem dX4_readPost_40 : decode cX4_readPost 40 = .ok (.ifCond .ne 5, 3) := by decide +kernel
theorem dX4_readPost_43 : decode cX4_readPost 43 = .ok (.iconst 0, 1) := by decide +kernel
theorem dX4_readPost_44 : decode cX4_readPost 44 = .ok (.ireturn, 1) := by decide +kernel
theorem dX4_readPost_45 : decode cX4_readPost 45 = .ok (.aload_n 1, 1) := by decide +kernel
theorem dX4_readPost_46 : decode cX4_readPost 46 = .ok (.getfield 72, 3) := by decide +kernel
theorem dX4_readPost_49 : decode cX4_readPost 49 = .ok (.aload_n 1, 1) := by decide +kernel
theorem dX4_readPost_50 : decode cX4_readPost 50 = .ok (.getfield 59, 3) := by decide +kernel
theorem dX4_readPost_53 : decode cX4_readPost 53 = .ok (.aload_n 0, 1) := by decide +kernel
theorem dX4_readPost_54 : decode cX4_readPost 54 = .ok (.getfield 69, 3) := by decide +kernel
theorem dX4_readPost_57 : decode cX4_readPost 57 = .ok (.iastore, 1) := by decide +kernel
theorem dX4_readPost_58 : decode cX4_readPost 58 = .ok (.aload_n 1, 1) := by decide +kernel
theorem dX4_readPost_59 : decode cX4_readPost 59 = .ok (.dup, 1) := by decide +kernel
theorem dX4_readPost_60 : decode cX4_readPost 60 = .ok (.getfield 59, 3) := by decide +kernel
theorem dX4_readPost_63 : decode cX4_readPost 63 = .ok (.iconst 1, 1) := by decide +kernel
theorem dX4_readPost_64 : decode cX4_readPost 64 = .ok (.iadd, 1) := by decide +kernel
theorem dX4_readPost_65 : decode cX4_readPost 65 = .ok (.putfield 59, 3) := by decide +kernel
theorem dX4_readPost_68 : decode cX4_readPost 68 = .ok (.aload_n 0, 1) := by decide +kernel
theorem dX4_readPost_69 : decode cX4_readPost 69 = .ok (.invokevirtual 75, 3) := by decide +kernel
theorem dX4_readPost_72 : decode cX4_readPost 72 = .ok (.ireturn, 1) := by decide +kernel
theorem dX4_readMan_0 : decode cX4_readMan 0 = .ok (.aload_n 1, 1) := by decide +kernel
theorem dX4_readMan_1 : decode cX4_readMan 1 = .ok (.getfield 79, 3) := by decide +kernel
theorem dX4_readMan_4 : decode cX4_readMan 4 = .ok (.bipush 6, 2) := by decide +kernel
theorem dX4_readMan_6 : decode cX4_readMan 6 = .ok (.if_icmp .ge 13, 3) := by decide +kernel
theorem dX4_readMan_9 : decode cX4_readMan 9 = .ok (.aload_n 0, 1) := by decide +kernel
theorem dX4_readMan_10 : decode cX4_readMan 10 = .ok (.iconst 0, 1) := by decide +kernel
theorem dX4_readMan_11 : decode cX4_readMan 11 = .ok (.bipush 60, 2) := by decide +kernel
theorem dX4_readMan_13 : decode cX4_readMan 13 = .ok (.invokevirtual 62, 3) := by decide +kernel
theorem dX4_readMan_16 : decode cX4_readMan 16 = .ok (.ifCond .ne 5, 3) := by decide +kernel
theorem dX4_readMan_19 : decode cX4_readMan 19 = .ok (.iconst 0, 1) := by decide +kernel
theorem dX4_readMan_20 : decode cX4_readMan 20 = .ok (.ireturn, 1) := by decide +kernel
theorem dX4_readMan_21 : decode cX4_readMan 21 = .ok (.aload_n 1, 1) := by decide +kernel
theorem dX4_readMan_22 : decode cX4_readMan 22 = .ok (.getfield 82, 3) := by decide +kernel
theorem dX4_readMan_25 : decode cX4_readMan 25 = .ok (.aload_n 1, 1) := by decide +kernel
theorem dX4_readMan_26 : decode cX4_readMan 26 = .ok (.getfield 79, 3) := by decide +kernel
theorem dX4_readMan_29 : decode cX4_readMan 29 = .ok (.aload_n 0, 1) := by decide +kernel
theorem dX4_readMan_30 : decode cX4_readMan 30 = .ok (.getfield 69, 3) := by decide +kernel
theorem dX4_readMan_33 : decode cX4_readMan 33 = .ok (.iastore, 1) := by decide +kernel
theorem dX4_readMan_34 : decode cX4_readMan 34 = .ok (.aload_n 1, 1) := by decide +kernel
theorem dX4_readMan_35 : decode cX4_readMan 35 = .ok (.dup, 1) := by decide +kernel
theorem dX4_readMan_36 : decode cX4_readMan 36 = .ok (.getfield 79, 3) := by decide +kernel
theorem dX4_readMan_39 : decode cX4_readMan 39 = .ok (.iconst 1, 1) := by decide +kernel
theorem dX4_readMan_40 : decode cX4_readMan 40 = .ok (.iadd, 1) := by decide +kernel
theorem dX4_readMan_41 : decode cX4_readMan 41 = .ok (.putfield 79, 3) := by decide +kernel
theorem dX4_readMan_44 : decode cX4_readMan 44 = .ok (.aload_n 0, 1) := by decide +kernel
theorem dX4_readMan_45 : decode cX4_readMan 45 = .ok (.invokevirtual 75, 3) := by decide +kernel
theorem dX4_readMan_48 : decode cX4_readMan 48 = .ok (.ireturn, 1) := by decide +kernel
theorem dX4_readOn_0 : decode cX4_readOn 0 = .ok (.aload_n 0, 1) := by decide +kernel
theorem dX4_readOn_1 : decode cX4_readOn 1 = .ok (.getfield 24, 3) := by decide +kernel
theorem dX4_readOn_4 : decode cX4_readOn 4 = .ok (.ifCond .ne 13, 3) := by decide +kernel
theorem dX4_readOn_7 : decode cX4_readOn 7 = .ok (.aload_n 0, 1) := by decide +kernel
theorem dX4_readOn_8 : decode cX4_readOn 8 = .ok (.iconst 1, 1) := by decide +kernel
theorem dX4_readOn_9 : decode cX4_readOn 9 = .ok (.bipush 9, 2) := by decide +kernel
theorem dX4_readOn_11 : decode cX4_readOn 11 = .ok (.invokevirtual 62, 3) := by decide +kernel
theorem dX4_readOn_14 : decode cX4_readOn 14 = .ok (.ifCond .ne 5, 3) := by decide +kernel
theorem dX4_readOn_17 : decode cX4_readOn 17 = .ok (.iconst 0, 1) := by decide +kernel
theorem dX4_readOn_18 : decode cX4_readOn 18 = .ok (.ireturn, 1) := by decide +kernel
theorem dX4_readOn_19 : decode cX4_readOn 19 = .ok (.aload_n 0, 1) := by decide +kernel
theorem dX4_readOn_20 : decode cX4_readOn 20 = .ok (.iconst 1, 1) := by decide +kernel
theorem dX4_readOn_21 : decode cX4_readOn 21 = .ok (.putfield 24, 3) := by decide +kernel
theorem dX4_readOn_24 : decode cX4_readOn 24 = .ok (.aload_n 1, 1) := by decide +kernel
theorem dX4_readOn_25 : decode cX4_readOn 25 = .ok (.aload_n 0, 1) := by decide +kernel
theorem dX4_readOn_26 : decode cX4_readOn 26 = .ok (.getfield 69, 3) := by decide +kernel
theorem dX4_readOn_29 : decode cX4_readOn 29 = .ok (.putfield 85, 3) := by decide +kernel
theorem dX4_readOn_32 : decode cX4_readOn 32 = .ok (.aload_n 0, 1) := by decide +kernel
theorem dX4_readOn_33 : decode cX4_readOn 33 = .ok (.invokevirtual 75, 3) := by decide +kernel
theorem dX4_readOn_36 : decode cX4_readOn 36 = .ok (.ireturn, 1) := by decide +kernel
theorem dX4_readStove_0 : decode cX4_readStove 0 = .ok (.aload_n 0, 1) := by decide +kernel
theorem dX4_readStove_1 : decode cX4_readStove 1 = .ok (.getfield 28, 3) := by decide +kernel
theorem dX4_readStove_4 : decode cX4_readStove 4 = .ok (.ifCond .ne 13, 3) := by decide +kernel
theorem dX4_readStove_7 : decode cX4_readStove 7 = .ok (.aload_n 0, 1) := by decide +kernel
theorem dX4_readStove_8 : decode cX4_readStove 8 = .ok (.iconst 1, 1) := by decide +kernel
theorem dX4_readStove_9 : decode cX4_readStove 9 = .ok (.bipush 9, 2) := by decide +kernel
theorem dX4_readStove_11 : decode cX4_readStove 11 = .ok (.invokevirtual 62, 3) := by decide +kernel
theorem dX4_readStove_14 : decode cX4_readStove 14 = .ok (.ifCond .ne 5, 3) := by decide +kernel
theorem dX4_readStove_17 : decode cX4_readStove 17 = .ok (.iconst 0, 1) := by decide +kernel
theorem dX4_readStove_18 : decode cX4_readStove 18 = .ok (.ireturn, 1) := by decide +kernel
theorem dX4_readStove_19 : decode cX4_readStove 19 = .ok (.aload_n 0, 1) := by decide +kernel
theorem dX4_readStove_20 : decode cX4_readStove 20 = .ok (.iconst 1, 1) := by decide +kernel
theorem dX4_readStove_21 : decode cX4_readStove 21 = .ok (.putfield 28, 3) := by decide +kernel
theorem dX4_readStove_24 : decode cX4_readStove 24 = .ok (.aload_n 1, 1) := by decide +kernel
theorem dX4_readStove_25 : decode cX4_readStove 25 = .ok (.aload_n 0, 1) := by decide +kernel
theorem dX4_readStove_26 : decode cX4_readStove 26 = .ok (.getfield 69, 3) := by decide +kernel
theorem dX4_readStove_29 : decode cX4_readStove 29 = .ok (.putfield 88, 3) := by decide +kernel
theorem dX4_readStove_32 : decode cX4_readStove 32 = .ok (.aload_n 0, 1) := by decide +kernel
theorem dX4_readStove_33 : decode cX4_readStove 33 = .ok (.invokevirtual 75, 3) := by decide +kernel
theorem dX4_readStove_36 : decode cX4_readStove 36 = .ok (.ireturn, 1) := by decide +kernel
theorem dX4_readNumber_0 : decode cX4_readNumber 0 = .ok (.aload_n 0, 1) := by decide +kernel
theorem dX4_readNumber_1 : decode cX4_readNumber 1 = .ok (.invokevirtual 34, 3) := by decide +kernel
theorem dX4_readNumber_4 : decode cX4_readNumber 4 = .ok (.aload_n 0, 1) := by decide +kernel
theorem dX4_readNumber_5 : decode cX4_readNumber 5 = .ok (.getfield 37, 3) := by decide +kernel
theorem dX4_readNumber_8 : decode cX4_readNumber 8 = .ok (.iconst (-1), 1) := by decide +kernel
theorem dX4_readNumber_9 : decode cX4_readNumber 9 = .ok (.if_icmp .ne 23, 3) := by decide +kernel
theorem dX4_readNumber_12 : decode cX4_readNumber 12 = .ok (.aload_n 0, 1) := by decide +kernel
theorem dX4_readNumber_13 : decode cX4_readNumber 13 = .ok (.getfield 69, 3) := by decide +kernel
theorem dX4_readNumber_16 : decode cX4_readNumber 16 = .ok (.iload_n 1, 1) := by decide +kernel
theorem dX4_readNumber_17 : decode cX4_readNumber 17 = .ok (.if_icmp .lt 15, 3) := by decide +kernel
theorem dX4_readNumber_20 : decode cX4_readNumber 20 = .ok (.aload_n 0, 1) := by decide +kernel
theorem dX4_readNumber_21 : decode cX4_readNumber 21 = .ok (.getfield 69, 3) := by decide +kernel
theorem dX4_readNumber_24 : decode cX4_readNumber 24 = .ok (.iload_n 2, 1) := by decide +kernel
theorem dX4_readNumber_25 : decode cX4_readNumber 25 = .ok (.if_icmp .gt 7, 3) := by decide +kernel
theorem dX4_readNumber_28 : decode cX4_readNumber 28 = .ok (.iconst 1, 1) := by decide +kernel
theorem dX4_readNumber_29 : decode cX4_readNumber 29 = .ok (.goto 4, 3) := by decide +kernel
theorem dX4_readNumber_32 : decode cX4_readNumber 32 = .ok (.iconst 0, 1) := by decide +kernel
theorem dX4_readNumber_33 : decode cX4_readNumber 33 = .ok (.ireturn, 1) := by decide +kernel
theorem dX4_readEnd_0 : decode cX4_readEnd 0 = .ok (.aload_n 0, 1) := by decide +kernel
theorem dX4_readEnd_1 : decode cX4_readEnd 1 = .ok (.invokevirtual 34, 3) := by decide +kernel
theorem dX4_readEnd_4 : decode cX4_readEnd 4 = .ok (.aload_n 0, 1) := by decide +kernel
theorem dX4_readEnd_5 : decode cX4_readEnd 5 = .ok (.getfield 37, 3) := by decide +kernel
theorem dX4_readEnd_8 : decode cX4_readEnd 8 = .ok (.bipush 59, 2) := by decide +kernel
theorem dX4_readEnd_10 : decode cX4_readEnd 10 = .ok (.if_icmp .ne 7, 3) := by decide +kernel
theorem dX4_readEnd_13 : decode cX4_readEnd 13 = .ok (.iconst 1, 1) := by decide +kernel
theorem dX4_readEnd_14 : decode cX4_readEnd 14 = .ok (.goto 4, 3) := by decide +kernel
theorem dX4_readEnd_17 : decode cX4_readEnd 17 = .ok (.iconst 0, 1) := by decide +kernel
theorem dX4_readEnd_18 : decode cX4_readEnd 18 = .ok (.ireturn, 1) := by decide +kernel
theorem dX4_nextToken_0 : decode cX4_nextToken 0 = .ok (.aload_n 0, 1) := by decide +kernel
theorem dX4_nextToken_1 : decode cX4_nextToken 1 = .ok (.getfield 31, 3) := by decide +kernel
theorem dX4_nextToken_4 : decode cX4_nextToken 4 = .ok (.aload_n 0, 1) := by decide +kernel
theorem dX4_nextToken_5 : decode cX4_nextToken 5 = .ok (.getfield 15, 3) := by decide +kernel
theorem dX4_nextToken_8 : decode cX4_nextToken 8 = .ok (.if_icmp .ge 30, 3) := by decide +kernel
theorem dX4_nextToken_11 : decode cX4_nextToken 11 = .ok (.aload_n 0, 1) := by decide +kernel
theorem dX4_nextToken_12 : decode cX4_nextToken 12 = .ok (.getfield 9, 3) := by decide +kernel
theorem dX4_nextToken_15 : decode cX4_nextToken 15 = .ok (.aload_n 0, 1) := by decide +kernel
theorem dX4_nextToken_16 : decode cX4_nextToken 16 = .ok (.getfield 31, 3) := by decide +kernel
theorem dX4_nextToken_19 : decode cX4_nextToken 19 = .ok (.iaload, 1) := by decide +kernel
theorem dX4_nextToken_20 : decode cX4_nextToken 20 = .ok (.bipush 32, 2) := by decide +kernel
theorem dX4_nextToken_22 : decode cX4_nextToken 22 = .ok (.if_icmp .ne 16, 3) := by decide +kernel
theorem dX4_nextToken_25 : decode cX4_nextToken 25 = .ok (.aload_n 0, 1) := by decide +kernel
theorem dX4_nextToken_26 : decode cX4_nextToken 26 = .ok (.dup, 1) := by decide +kernel
theorem dX4_nextToken_27 : decode cX4_nextToken 27 = .ok (.getfield 31, 3) := by decide +kernel
theorem dX4_nextToken_30 : decode cX4_nextToken 30 = .ok (.iconst 1, 1) := by decide +kernel
theorem dX4_nextToken_31 : decode cX4_nextToken 31 = .ok (.iadd, 1) := by decide +kernel
theorem dX4_nextToken_32 : decode cX4_nextToken 32 = .ok (.putfield 31, 3) := by decide +kernel
theorem dX4_nextToken_35 : decode cX4_nextToken 35 = .ok (.goto (-35), 3) := by decide +kernel
theorem dX4_nextToken_38 : decode cX4_nextToken 38 = .ok (.aload_n 0, 1) := by decide +kernel
theorem dX4_nextToken_39 : decode cX4_nextToken 39 = .ok (.aload_n 0, 1) := by decide +kernel
theorem dX4_nextToken_40 : decode cX4_nextToken 40 = .ok (.getfield 31, 3) := by decide +kernel
theorem dX4_nextToken_43 : decode cX4_nextToken 43 = .ok (.putfield 44, 3) := by decide +kernel
theorem dX4_nextToken_46 : decode cX4_nextToken 46 = .ok (.aload_n 0, 1) := by decide +kernel
theorem dX4_nextToken_47 : decode cX4_nextToken 47 = .ok (.getfield 31, 3) := by decide +kernel
theorem dX4_nextToken_50 : decode cX4_nextToken 50 = .ok (.aload_n 0, 1) := by decide +kernel
theorem dX4_nextToken_51 : decode cX4_nextToken 51 = .ok (.getfield 15, 3) := by decide +kernel
theorem dX4_nextToken_54 : decode cX4_nextToken 54 = .ok (.if_icmp .lt 12, 3) := by decide +kernel
theorem dX4_nextToken_57 : decode cX4_nextToken 57 = .ok (.aload_n 0, 1) := by decide +kernel
theorem dX4_nextToken_58 : decode cX4_nextToken 58 = .ok (.bipush (-2), 2) := by decide +kernel
theorem dX4_nextToken_60 : decode cX4_nextToken 60 = .ok (.putfield 37, 3) := by decide +kernel
theorem dX4_nextToken_63 : decode cX4_nextToken 63 = .ok (.goto 48, 3) := by decide +kernel
theorem dX4_nextToken_66 : decode cX4_nextToken 66 = .ok (.aload_n 0, 1) := by decide +kernel
theorem dX4_nextToken_67 : decode cX4_nextToken 67 = .ok (.getfield 9, 3) := by decide +kernel
theorem dX4_nextToken_70 : decode cX4_nextToken 70 = .ok (.aload_n 0, 1) := by decide +kernel
theorem dX4_nextToken_71 : decode cX4_nextToken 71 = .ok (.getfield 31, 3) := by decide +kernel
theorem dX4_nextToken_74 : decode cX4_nextToken 74 = .ok (.iaload, 1) := by decide +kernel
theorem dX4_nextToken_75 : decode cX4_nextToken 75 = .ok (.invokestatic 91, 3) := by decide +kernel
theorem dX4_nextToken_78 : decode cX4_nextToken 78 = .ok (.ifCond .eq 10, 3) := by decide +kernel
theorem dX4_nextToken_81 : decode cX4_nextToken 81 = .ok (.aload_n 0, 1) := by decide +kernel
theorem dX4_nextToken_82 : decode cX4_nextToken 82 = .ok (.invokevirtual 95, 3) := by decide +kernel
theorem dX4_nextToken_85 : decode cX4_nextToken 85 = .ok (.goto 26, 3) := by decide +kernel
theorem dX4_nextToken_88 : decode cX4_nextToken 88 = .ok (.aload_n 0, 1) := by decide +kernel
theorem dX4_nextToken_89 : decode cX4_nextToken 89 = .ok (.aload_n 0, 1) := by decide +kernel
theorem dX4_nextToken_90 : decode cX4_nextToken 90 = .ok (.getfield 9, 3) := by decide +kernel
theorem dX4_nextToken_93 : decode cX4_nextToken 93 = .ok (.aload_n 0, 1) := by decide +kernel
theorem dX4_nextToken_94 : decode cX4_nextToken 94 = .ok (.getfield 31, 3) := by decide +kernel
theorem dX4_nextToken_97 : decode cX4_nextToken 97 = .ok (.iaload, 1) := by decide +kernel
theorem dX4_nextToken_98 : decode cX4_nextToken 98 = .ok (.putfield 37, 3) := by decide +kernel
theorem dX4_nextToken_101 : decode cX4_nextToken 101 = .ok (.aload_n 0, 1) := by decide +kernel
theorem dX4_nextToken_102 : decode cX4_nextToken 102 = .ok (.dup, 1) := by decide +kernel
theorem dX4_nextToken_103 : decode cX4_nextToken 103 = .ok (.getfield 31, 3) := by decide +kernel
theorem dX4_nextToken_106 : decode cX4_nextToken 106 = .ok (.iconst 1, 1) := by decide +kernel
theorem dX4_nextToken_107 : decode cX4_nextToken 107 = .ok (.iadd, 1) := by decide +kernel
theorem dX4_nextToken_108 : decode cX4_nextToken 108 = .ok (.putfield 31, 3) := by decide +kernel
theorem dX4_nextToken_111 : decode cX4_nextToken 111 = .ok (.return_, 1) := by decide +kernel
theorem dX4_takeNumber_0 : decode cX4_takeNumber 0 = .ok (.aload_n 0, 1) := by decide +kernel
theorem dX4_takeNumber_1 : decode cX4_takeNumber 1 = .ok (.iconst 0, 1) := by decide +kernel
theorem dX4_takeNumber_2 : decode cX4_takeNumber 2 = .ok (.putfield 69, 3) := by decide +kernel
theorem dX4_takeNumber_5 : decode cX4_takeNumber 5 = .ok (.aload_n 0, 1) := by decide +kernel
theorem dX4_takeNumber_6 : decode cX4_takeNumber 6 = .ok (.getfield 31, 3) := by decide +kernel
theorem dX4_takeNumber_9 : decode cX4_takeNumber 9 = .ok (.aload_n 0, 1) := by decide +kernel
theorem dX4_takeNumber_10 : decode cX4_takeNumber 10 = .ok (.getfield 15, 3) := by decide +kernel
theorem dX4_takeNumber_13 : decode cX4_takeNumber 13 = .ok (.if_icmp .ge 60, 3) := by decide +kernel
theorem dX4_takeNumber_16 : decode cX4_takeNumber 16 = .ok (.aload_n 0, 1) := by decide +kernel
theorem dX4_takeNumber_17 : decode cX4_takeNumber 17 = .ok (.getfield 9, 3) := by decide +kernel
theorem dX4_takeNumber_20 : decode cX4_takeNumber 20 = .ok (.aload_n 0, 1) := by decide +kernel
theorem dX4_takeNumber_21 : decode cX4_takeNumber 21 = .ok (.getfield 31, 3) := by decide +kernel
theorem dX4_takeNumber_24 : decode cX4_takeNumber 24 = .ok (.iaload, 1) := by decide +kernel
theorem dX4_takeNumber_25 : decode cX4_takeNumber 25 = .ok (.invokestatic 91, 3) := by decide +kernel
theorem dX4_takeNumber_28 : decode cX4_takeNumber 28 = .ok (.ifCond .eq 45, 3) := by decide +kernel
theorem dX4_takeNumber_31 : decode cX4_takeNumber 31 = .ok (.aload_n 0, 1) := by decide +kernel
theorem dX4_takeNumber_32 : decode cX4_takeNumber 32 = .ok (.bipush 61, 2) := by decide +kernel
theorem dX4_takeNumber_34 : decode cX4_takeNumber 34 = .ok (.aload_n 0, 1) := by decide +kernel
theorem dX4_takeNumber_35 : decode cX4_takeNumber 35 = .ok (.getfield 69, 3) := by decide +kernel
theorem dX4_takeNumber_38 : decode cX4_takeNumber 38 = .ok (.bipush 10, 2) := by decide +kernel
theorem dX4_takeNumber_40 : decode cX4_takeNumber 40 = .ok (.imul, 1) := by decide +kernel
theorem dX4_takeNumber_41 : decode cX4_takeNumber 41 = .ok (.aload_n 0, 1) := by decide +kernel
theorem dX4_takeNumber_42 : decode cX4_takeNumber 42 = .ok (.getfield 9, 3) := by decide +kernel
theorem dX4_takeNumber_45 : decode cX4_takeNumber 45 = .ok (.aload_n 0, 1) := by decide +kernel
theorem dX4_takeNumber_46 : decode cX4_takeNumber 46 = .ok (.getfield 31, 3) := by decide +kernel
theorem dX4_takeNumber_49 : decode cX4_takeNumber 49 = .ok (.iaload, 1) := by decide +kernel
theorem dX4_takeNumber_50 : decode cX4_takeNumber 50 = .ok (.iadd, 1) := by decide +kernel
theorem dX4_takeNumber_51 : decode cX4_takeNumber 51 = .ok (.bipush 48, 2) := by decide +kernel
theorem dX4_takeNumber_53 : decode cX4_takeNumber 53 = .ok (.isub, 1) := by decide +kernel
theorem dX4_takeNumber_54 : decode cX4_takeNumber 54 = .ok (.invokestatic 98, 3) := by decide +kernel
theorem dX4_takeNumber_57 : decode cX4_takeNumber 57 = .ok (.putfield 69, 3) := by decide +kernel
theorem dX4_takeNumber_60 : decode cX4_takeNumber 60 = .ok (.aload_n 0, 1) := by decide +kernel
theorem dX4_takeNumber_61 : decode cX4_takeNumber 61 = .ok (.dup, 1) := by decide +kernel
theorem dX4_takeNumber_62 : decode cX4_takeNumber 62 = .ok (.getfield 31, 3) := by decide +kernel
theorem dX4_takeNumber_65 : decode cX4_takeNumber 65 = .ok (.iconst 1, 1) := by decide +kernel
theorem dX4_takeNumber_66 : decode cX4_takeNumber 66 = .ok (.iadd, 1) := by decide +kernel
theorem dX4_takeNumber_67 : decode cX4_takeNumber 67 = .ok (.putfield 31, 3) := by decide +kernel
theorem dX4_takeNumber_70 : decode cX4_takeNumber 70 = .ok (.goto (-65), 3) := by decide +kernel
theorem dX4_takeNumber_73 : decode cX4_takeNumber 73 = .ok (.aload_n 0, 1) := by decide +kernel
theorem dX4_takeNumber_74 : decode cX4_takeNumber 74 = .ok (.getfield 9, 3) := by decide +kernel
theorem dX4_takeNumber_77 : decode cX4_takeNumber 77 = .ok (.aload_n 0, 1) := by decide +kernel
theorem dX4_takeNumber_78 : decode cX4_takeNumber 78 = .ok (.getfield 44, 3) := by decide +kernel
theorem dX4_takeNumber_81 : decode cX4_takeNumber 81 = .ok (.iaload, 1) := by decide +kernel
theorem dX4_takeNumber_82 : decode cX4_takeNumber 82 = .ok (.bipush 48, 2) := by decide +kernel
theorem dX4_takeNumber_84 : decode cX4_takeNumber 84 = .ok (.if_icmp .ne 20, 3) := by decide +kernel
theorem dX4_takeNumber_87 : decode cX4_takeNumber 87 = .ok (.aload_n 0, 1) := by decide +kernel
theorem dX4_takeNumber_88 : decode cX4_takeNumber 88 = .ok (.getfield 31, 3) := by decide +kernel
theorem dX4_takeNumber_91 : decode cX4_takeNumber 91 = .ok (.aload_n 0, 1) := by decide +kernel
theorem dX4_takeNumber_92 : decode cX4_takeNumber 92 = .ok (.getfield 44, 3) := by decide +kernel
theorem dX4_takeNumber_95 : decode cX4_takeNumber 95 = .ok (.isub, 1) := by decide +kernel
theorem dX4_takeNumber_96 : decode cX4_takeNumber 96 = .ok (.iconst 1, 1) := by decide +kernel
theorem dX4_takeNumber_97 : decode cX4_takeNumber 97 = .ok (.if_icmp .le 7, 3) := by decide +kernel
theorem dX4_takeNumber_100 : decode cX4_takeNumber 100 = .ok (.iconst 1, 1) := by decide +kernel
theorem dX4_takeNumber_101 : decode cX4_takeNumber 101 = .ok (.goto 4, 3) := by decide +kernel
theorem dX4_takeNumber_104 : decode cX4_takeNumber 104 = .ok (.iconst 0, 1) := by decide +kernel
theorem dX4_takeNumber_105 : decode cX4_takeNumber 105 = .ok (.istore_n 1, 1) := by decide +kernel
theorem dX4_takeNumber_106 : decode cX4_takeNumber 106 = .ok (.aload_n 0, 1) := by decide +kernel
theorem dX4_takeNumber_107 : decode cX4_takeNumber 107 = .ok (.iload_n 1, 1) := by decide +kernel
theorem dX4_takeNumber_108 : decode cX4_takeNumber 108 = .ok (.ifCond .ne 12, 3) := by decide +kernel
theorem dX4_takeNumber_111 : decode cX4_takeNumber 111 = .ok (.aload_n 0, 1) := by decide +kernel
theorem dX4_takeNumber_112 : decode cX4_takeNumber 112 = .ok (.getfield 69, 3) := by decide +kernel
theorem dX4_takeNumber_115 : decode cX4_takeNumber 115 = .ok (.bipush 60, 2) := by decide +kernel
theorem dX4_takeNumber_117 : decode cX4_takeNumber 117 = .ok (.if_icmp .le 8, 3) := by decide +kernel
theorem dX4_takeNumber_120 : decode cX4_takeNumber 120 = .ok (.bipush (-3), 2) := by decide +kernel
theorem dX4_takeNumber_122 : decode cX4_takeNumber 122 = .ok (.goto 4, 3) := by decide +kernel
theorem dX4_takeNumber_125 : decode cX4_takeNumber 125 = .ok (.iconst (-1), 1) := by decide +kernel
theorem dX4_takeNumber_126 : decode cX4_takeNumber 126 = .ok (.putfield 37, 3) := by decide +kernel
theorem dX4_takeNumber_129 : decode cX4_takeNumber 129 = .ok (.return_, 1) := by decide +kernel
theorem dX4_isDigit_0 : decode cX4_isDigit 0 = .ok (.iload_n 0, 1) := by decide +kernel
theorem dX4_isDigit_1 : decode cX4_isDigit 1 = .ok (.bipush 48, 2) := by decide +kernel
theorem dX4_isDigit_3 : decode cX4_isDigit 3 = .ok (.if_icmp .lt 13, 3) := by decide +kernel
theorem dX4_isDigit_6 : decode cX4_isDigit 6 = .ok (.iload_n 0, 1) := by decide +kernel
theorem dX4_isDigit_7 : decode cX4_isDigit 7 = .ok (.bipush 57, 2) := by decide +kernel
theorem dX4_isDigit_9 : decode cX4_isDigit 9 = .ok (.if_icmp .gt 7, 3) := by decide +kernel
theorem dX4_isDigit_12 : decode cX4_isDigit 12 = .ok (.iconst 1, 1) := by decide +kernel
theorem dX4_isDigit_13 : decode cX4_isDigit 13 = .ok (.goto 4, 3) := by decide +kernel
theorem dX4_isDigit_16 : decode cX4_isDigit 16 = .ok (.iconst 0, 1) := by decide +kernel
theorem dX4_isDigit_17 : decode cX4_isDigit 17 = .ok (.ireturn, 1) := by decide +kernel
theorem dX5_init_0 : decode cX5_init 0 = .ok (.aload_n 0, 1) := by decide +kernel
theorem dX5_init_1 : decode cX5_init 1 = .ok (.invokespecial 3, 3) := by decide +kernel
theorem dX5_init_4 : decode cX5_init 4 = .ok (.aload_n 0, 1) := by decide +kernel
theorem dX5_init_5 : decode cX5_init 5 = .ok (.bipush 6, 2) := by decide +kernel
theorem dX5_init_7 : decode cX5_init 7 = .ok (.newarray .int, 2) := by decide +kernel
theorem dX5_init_9 : decode cX5_init 9 = .ok (.putfield 9, 3) := by decide +kernel
theorem dX5_init_12 : decode cX5_init 12 = .ok (.aload_n 0, 1) := by decide +kernel
theorem dX5_init_13 : decode cX5_init 13 = .ok (.iconst 5, 1) := by decide +kernel
theorem dX5_init_14 : decode cX5_init 14 = .ok (.newarray .int, 2) := by decide +kernel
theorem dX5_init_16 : decode cX5_init 16 = .ok (.putfield 15, 3) := by decide +kernel
theorem dX5_init_19 : decode cX5_init 19 = .ok (.aload_n 0, 1) := by decide +kernel
theorem dX5_init_20 : decode cX5_init 20 = .ok (.iconst 5, 1) := by decide +kernel
theorem dX5_init_21 : decode cX5_init 21 = .ok (.newarray .int, 2) := by decide +kernel
theorem dX5_init_23 : decode cX5_init 23 = .ok (.putfield 18, 3) := by decide +kernel
theorem dX5_init_26 : decode cX5_init 26 = .ok (.aload_n 0, 1) := by decide +kernel
theorem dX5_init_27 : decode cX5_init 27 = .ok (.bipush 30, 2) := by decide +kernel
theorem dX5_init_29 : decode cX5_init 29 = .ok (.newarray .int, 2) := by decide +kernel
theorem dX5_init_31 : decode cX5_init 31 = .ok (.putfield 21, 3) := by decide +kernel
theorem dX5_init_34 : decode cX5_init 34 = .ok (.aload_n 0, 1) := by decide +kernel
theorem dX5_init_35 : decode cX5_init 35 = .ok (.getfield 15, 3) := by decide +kernel
theorem dX5_init_38 : decode cX5_init 38 = .ok (.bipush (-9), 2) := by decide +kernel
theorem dX5_init_40 : decode cX5_init 40 = .ok (.invokestatic 24, 3) := by decide +kernel
theorem dX5_init_43 : decode cX5_init 43 = .ok (.return_, 1) := by decide +kernel
theorem dX5_begin_0 : decode cX5_begin 0 = .ok (.aload_n 0, 1) := by decide +kernel
theorem dX5_begin_1 : decode cX5_begin 1 = .ok (.iconst 0, 1) := by decide +kernel
theorem dX5_begin_2 : decode cX5_begin 2 = .ok (.putfield 30, 3) := by decide +kernel
theorem dX5_begin_5 : decode cX5_begin 5 = .ok (.aload_n 1, 1) := by decide +kernel
theorem dX5_begin_6 : decode cX5_begin 6 = .ok (.getfield 34, 3) := by decide +kernel
theorem dX5_begin_9 : decode cX5_begin 9 = .ok (.iconst 0, 1) := by decide +kernel
theorem dX5_begin_10 : decode cX5_begin 10 = .ok (.aload_n 0, 1) := by decide +kernel
theorem dX5_begin_11 : decode cX5_begin 11 = .ok (.getfield 9, 3) := by decide +kernel
theorem dX5_begin_14 : decode cX5_begin 14 = .ok (.iconst 0, 1) := by decide +kernel
theorem dX5_begin_15 : decode cX5_begin 15 = .ok (.bipush 6, 2) := by decide +kernel
theorem dX5_begin_17 : decode cX5_begin 17 = .ok (.invokestatic 37, 3) := by decide +kernel
theorem dX5_begin_20 : decode cX5_begin 20 = .ok (.aload_n 0, 1) := by decide +kernel
theorem dX5_begin_21 : decode cX5_begin 21 = .ok (.getfield 15, 3) := by decide +kernel
theorem dX5_begin_24 : decode cX5_begin 24 = .ok (.bipush (-9), 2) := by decide +kernel
theorem dX5_begin_26 : decode cX5_begin 26 = .ok (.invokestatic 24, 3) := by decide +kernel
theorem dX5_begin_29 : decode cX5_begin 29 = .ok (.aload_n 0, 1) := by decide +kernel
theorem dX5_begin_30 : decode cX5_begin 30 = .ok (.getfield 18, 3) := by decide +kernel
theorem dX5_begin_33 : decode cX5_begin 33 = .ok (.iconst 0, 1) := by decide +kernel
theorem dX5_begin_34 : decode cX5_begin 34 = .ok (.invokestatic 24, 3) := by decide +kernel
theorem dX5_begin_37 : decode cX5_begin 37 = .ok (.aload_n 0, 1) := by decide +kernel
theorem dX5_begin_38 : decode cX5_begin 38 = .ok (.getfield 21, 3) := by decide +kernel
theorem dX5_begin_41 : decode cX5_begin 41 = .ok (.iconst 0, 1) := by decide +kernel
theorem dX5_begin_42 : decode cX5_begin 42 = .ok (.invokestatic 24, 3) := by decide +kernel
theorem dX5_begin_45 : decode cX5_begin 45 = .ok (.return_, 1) := by decide +kernel
theorem dX5_become_0 : decode cX5_become 0 = .ok (.aload_n 0, 1) := by decide +kernel
theorem dX5_become_1 : decode cX5_become 1 = .ok (.aload_n 1, 1) := by decide +kernel
theorem dX5_become_2 : decode cX5_become 2 = .ok (.getfield 30, 3) := by decide +kernel
theorem dX5_become_5 : decode cX5_become 5 = .ok (.putfield 30, 3) := by decide +kernel
theorem dX5_become_8 : decode cX5_become 8 = .ok (.aload_n 1, 1) := by decide +kernel
theorem dX5_become_9 : decode cX5_become 9 = .ok (.getfield 9, 3) := by decide +kernel
theorem dX5_become_12 : decode cX5_become 12 = .ok (.iconst 0, 1) := by decide +kernel
theorem dX5_become_13 : decode cX5_become 13 = .ok (.aload_n 0, 1) := by decide +kernel
theorem dX5_become_14 : decode cX5_become 14 = .ok (.getfield 9, 3) := by decide +kernel
theorem dX5_become_17 : decode cX5_become 17 = .ok (.iconst 0, 1) := by decide +kernel
theorem dX5_become_18 : decode cX5_become 18 = .ok (.bipush 6, 2) := by decide +kernel
theorem dX5_become_20 : decode cX5_become 20 = .ok (.invokestatic 37, 3) := by decide +kernel
theorem dX5_become_23 : decode cX5_become 23 = .ok (.aload_n 1, 1) := by decide +kernel
theorem dX5_become_24 : decode cX5_become 24 = .ok (.getfield 15, 3) := by decide +kernel
theorem dX5_become_27 : decode cX5_become 27 = .ok (.iconst 0, 1) := by decide +kernel
theorem dX5_become_28 : decode cX5_become 28 = .ok (.aload_n 0, 1) := by decide +kernel
theorem dX5_become_29 : decode cX5_become 29 = .ok (.getfield 15, 3) := by decide +kernel
theorem dX5_become_32 : decode cX5_become 32 = .ok (.iconst 0, 1) := by decide +kernel
theorem dX5_become_33 : decode cX5_become 33 = .ok (.iconst 5, 1) := by decide +kernel
theorem dX5_become_34 : decode cX5_become 34 = .ok (.invokestatic 37, 3) := by decide +kernel
theorem dX5_become_37 : decode cX5_become 37 = .ok (.aload_n 1, 1) := by decide +kernel
theorem dX5_become_38 : decode cX5_become 38 = .ok (.getfield 18, 3) := by decide +kernel
theorem dX5_become_41 : decode cX5_become 41 = .ok (.iconst 0, 1) := by decide +kernel
theorem dX5_become_42 : decode cX5_become 42 = .ok (.aload_n 0, 1) := by decide +kernel
theorem dX5_become_43 : decode cX5_become 43 = .ok (.getfield 18, 3) := by decide +kernel
theorem dX5_become_46 : decode cX5_become 46 = .ok (.iconst 0, 1) := by decide +kernel
theorem dX5_become_47 : decode cX5_become 47 = .ok (.iconst 5, 1) := by decide +kernel
theorem dX5_become_48 : decode cX5_become 48 = .ok (.invokestatic 37, 3) := by decide +kernel
theorem dX5_become_51 : decode cX5_become 51 = .ok (.aload_n 1, 1) := by decide +kernel
theorem dX5_become_52 : decode cX5_become 52 = .ok (.getfield 21, 3) := by decide +kernel
theorem dX5_become_55 : decode cX5_become 55 = .ok (.iconst 0, 1) := by decide +kernel
theorem dX5_become_56 : decode cX5_become 56 = .ok (.aload_n 0, 1) := by decide +kernel
theorem dX5_become_57 : decode cX5_become 57 = .ok (.getfield 21, 3) := by decide +kernel
theorem dX5_become_60 : decode cX5_become 60 = .ok (.iconst 0, 1) := by decide +kernel
theorem dX5_become_61 : decode cX5_become 61 = .ok (.bipush 30, 2) := by decide +kernel
theorem dX5_become_63 : decode cX5_become 63 = .ok (.invokestatic 37, 3) := by decide +kernel
theorem dX5_become_66 : decode cX5_become 66 = .ok (.return_, 1) := by decide +kernel
theorem dX5_placeOf_0 : decode cX5_placeOf 0 = .ok (.iconst 0, 1) := by decide +kernel
theorem dX5_placeOf_1 : decode cX5_placeOf 1 = .ok (.istore_n 2, 1) := by decide +kernel
theorem dX5_placeOf_2 : decode cX5_placeOf 2 = .ok (.iload_n 2, 1) := by decide +kernel
theorem dX5_placeOf_3 : decode cX5_placeOf 3 = .ok (.iconst 5, 1) := by decide +kernel
theorem dX5_placeOf_4 : decode cX5_placeOf 4 = .ok (.if_icmp .ge 21, 3) := by decide +kernel
theorem dX5_placeOf_7 : decode cX5_placeOf 7 = .ok (.aload_n 0, 1) := by decide +kernel
theorem dX5_placeOf_8 : decode cX5_placeOf 8 = .ok (.getfield 15, 3) := by decide +kernel
theorem dX5_placeOf_11 : decode cX5_placeOf 11 = .ok (.iload_n 2, 1) := by decide +kernel
theorem dX5_placeOf_12 : decode cX5_placeOf 12 = .ok (.iaload, 1) := by decide +kernel
theorem dX5_placeOf_13 : decode cX5_placeOf 13 = .ok (.iload_n 1, 1) := by decide +kernel
theorem dX5_placeOf_14 : decode cX5_placeOf 14 = .ok (.if_icmp .ne 5, 3) := by decide +kernel
theorem dX5_placeOf_17 : decode cX5_placeOf 17 = .ok (.iload_n 2, 1) := by decide +kernel
theorem dX5_placeOf_18 : decode cX5_placeOf 18 = .ok (.ireturn, 1) := by decide +kernel
theorem dX5_placeOf_19 : decode cX5_placeOf 19 = .ok (.iinc 2 1, 3) := by decide +kernel
theorem dX5_placeOf_22 : decode cX5_placeOf 22 = .ok (.goto (-20), 3) := by decide +kernel
theorem dX5_placeOf_25 : decode cX5_placeOf 25 = .ok (.bipush (-9), 2) := by decide +kernel
theorem dX5_placeOf_27 : decode cX5_placeOf 27 = .ok (.ireturn, 1) := by decide +kernel
theorem dX5_place_0 : decode cX5_place 0 = .ok (.aload_n 0, 1) := by decide +kernel
theorem dX5_place_1 : decode cX5_place 1 = .ok (.getfield 15, 3) := by decide +kernel
theorem dX5_place_4 : decode cX5_place 4 = .ok (.iload_n 2, 1) := by decide +kernel
theorem dX5_place_5 : decode cX5_place 5 = .ok (.iload_n 1, 1) := by decide +kernel
theorem dX5_place_6 : decode cX5_place 6 = .ok (.iastore, 1) := by decide +kernel
theorem dX5_place_7 : decode cX5_place 7 = .ok (.aload_n 0, 1) := by decide +kernel
theorem dX5_place_8 : decode cX5_place 8 = .ok (.getfield 18, 3) := by decide +kernel
theorem dX5_place_11 : decode cX5_place 11 = .ok (.iload_n 2, 1) := by decide +kernel
theorem dX5_place_12 : decode cX5_place 12 = .ok (.iconst 0, 1) := by decide +kernel
theorem dX5_place_13 : decode cX5_place 13 = .ok (.iastore, 1) := by decide +kernel
theorem dX5_place_14 : decode cX5_place 14 = .ok (.return_, 1) := by decide +kernel
theorem dX5_sleepsAt_0 : decode cX5_sleepsAt 0 = .ok (.aload_n 0, 1) := by decide +kernel
theorem dX5_sleepsAt_1 : decode cX5_sleepsAt 1 = .ok (.getfield 15, 3) := by decide +kernel
theorem dX5_sleepsAt_4 : decode cX5_sleepsAt 4 = .ok (.iload_n 1, 1) := by decide +kernel
theorem dX5_sleepsAt_5 : decode cX5_sleepsAt 5 = .ok (.iaload, 1) := by decide +kernel
theorem dX5_sleepsAt_6 : decode cX5_sleepsAt 6 = .ok (.istore_n 2, 1) := by decide +kernel
theorem dX5_sleepsAt_7 : decode cX5_sleepsAt 7 = .ok (.iload_n 2, 1) := by decide +kernel
theorem dX5_sleepsAt_8 : decode cX5_sleepsAt 8 = .ok (.bipush (-9), 2) := by decide +kernel
theorem dX5_sleepsAt_10 : decode cX5_sleepsAt 10 = .ok (.if_icmp .eq 18, 3) := by decide +kernel
theorem dX5_sleepsAt_13 : decode cX5_sleepsAt 13 = .ok (.aload_n 0, 1) := by decide +kernel
theorem dX5_sleepsAt_14 : decode cX5_sleepsAt 14 = .ok (.getfield 9, 3) := by decide +kernel
theorem dX5_sleepsAt_17 : decode cX5_sleepsAt 17 = .ok (.iload_n 2, 1) := by decide +kernel
theorem dX5_sleepsAt_18 : decode cX5_sleepsAt 18 = .ok (.iaload, 1) := by decide +kernel
theorem dX5_sleepsAt_19 : decode cX5_sleepsAt 19 = .ok (.bipush 40, 2) := by decide +kernel
theorem dX5_sleepsAt_21 : decode cX5_sleepsAt 21 = .ok (.if_icmp .lt 7, 3) := by decide +kernel
theorem dX5_sleepsAt_24 : decode cX5_sleepsAt 24 = .ok (.iconst 1, 1) := by decide +kernel
theorem dX5_sleepsAt_25 : decode cX5_sleepsAt 25 = .ok (.goto 4, 3) := by decide +kernel
theorem dX5_sleepsAt_28 : decode cX5_sleepsAt 28 = .ok (.iconst 0, 1) := by decide +kernel
theorem dX5_sleepsAt_29 : decode cX5_sleepsAt 29 = .ok (.ireturn, 1) := by decide +kernel
theorem dX5_mannedPosts_0 : decode cX5_mannedPosts 0 = .ok (.iconst 0, 1) := by decide +kernel
theorem dX5_mannedPosts_1 : decode cX5_mannedPosts 1 = .ok (.istore_n 1, 1) := by decide +kernel
theorem dX5_mannedPosts_2 : decode cX5_mannedPosts 2 = .ok (.iconst 0, 1) := by decide +kernel
theorem dX5_mannedPosts_3 : decode cX5_mannedPosts 3 = .ok (.istore_n 2, 1) := by decide +kernel
theorem dX5_mannedPosts_4 : decode cX5_mannedPosts 4 = .ok (.iload_n 2, 1) := by decide +kernel
theorem dX5_mannedPosts_5 : decode cX5_mannedPosts 5 = .ok (.iconst 5, 1) := by decide +kernel
theorem dX5_mannedPosts_6 : decode cX5_mannedPosts 6 = .ok (.if_icmp .ge 26, 3) := by decide +kernel
theorem dX5_mannedPosts_9 : decode cX5_mannedPosts 9 = .ok (.aload_n 0, 1) := by decide +kernel
theorem dX5_mannedPosts_10 : decode cX5_mannedPosts 10 = .ok (.getfield 15, 3) := by decide +kernel
theorem dX5_mannedPosts_13 : decode cX5_mannedPosts 13 = .ok (.iload_n 2, 1) := by decide +kernel
theorem dX5_mannedPosts_14 : decode cX5_mannedPosts 14 = .ok (.iaload, 1) := by decide +kernel
theorem dX5_mannedPosts_15 : decode cX5_mannedPosts 15 = .ok (.bipush (-9), 2) := by decide +kernel
theorem dX5_mannedPosts_17 : decode cX5_mannedPosts 17 = .ok (.if_icmp .eq 9, 3) := by decide +kernel
theorem dX5_mannedPosts_20 : decode cX5_mannedPosts 20 = .ok (.iload_n 1, 1) := by decide +kernel
theorem dX5_mannedPosts_21 : decode cX5_mannedPosts 21 = .ok (.iconst 1, 1) := by decide +kernel
theorem dX5_mannedPosts_22 : decode cX5_mannedPosts 22 = .ok (.iload_n 2, 1) := by decide +kernel
theorem dX5_mannedPosts_23 : decode cX5_mannedPosts 23 = .ok (.ishl, 1) := by decide +kernel
theorem dX5_mannedPosts_24 : decode cX5_mannedPosts 24 = .ok (.ior, 1) := by decide +kernel
theorem dX5_mannedPosts_25 : decode cX5_mannedPosts 25 = .ok (.istore_n 1, 1) := by decide +kernel
theorem dX5_mannedPosts_26 : decode cX5_mannedPosts 26 = .ok (.iinc 2 1, 3) := by decide +kernel
theorem dX5_mannedPosts_29 : decode cX5_mannedPosts 29 = .ok (.goto (-25), 3) := by decide +kernel
theorem dX5_mannedPosts_32 : decode cX5_mannedPosts 32 = .ok (.iload_n 1, 1) := by decide +kernel
theorem dX5_mannedPosts_33 : decode cX5_mannedPosts 33 = .ok (.ireturn, 1) := by decide +kernel
theorem dX5_sleepingPosts_0 : decode cX5_sleepingPosts 0 = .ok (.iconst 0, 1) := by decide +kernel
theorem dX5_sleepingPosts_1 : decode cX5_sleepingPosts 1 = .ok (.istore_n 1, 1) := by decide +kernel
theorem dX5_sleepingPosts_2 : decode cX5_sleepingPosts 2 = .ok (.iconst 0, 1) := by decide +kernel
theorem dX5_sleepingPosts_3 : decode cX5_sleepingPosts 3 = .ok (.istore_n 2, 1) := by decide +kernel
theorem dX5_sleepingPosts_4 : decode cX5_sleepingPosts 4 = .ok (.iload_n 2, 1) := by decide +kernel
theorem dX5_sleepingPosts_5 : decode cX5_sleepingPosts 5 = .ok (.iconst 5, 1) := by decide +kernel
theorem dX5_sleepingPosts_6 : decode cX5_sleepingPosts 6 = .ok (.if_icmp .ge 23, 3) := by decide +kernel
theorem dX5_sleepingPosts_9 : decode cX5_sleepingPosts 9 = .ok (.aload_n 0, 1) := by decide +kernel
theorem dX5_sleepingPosts_10 : decode cX5_sleepingPosts 10 = .ok (.iload_n 2, 1) := by decide +kernel
theorem dX5_sleepingPosts_11 : decode cX5_sleepingPosts 11 = .ok (.invokevirtual 43, 3) := by decide +kernel
theorem dX5_sleepingPosts_14 : decode cX5_sleepingPosts 14 = .ok (.ifCond .eq 9, 3) := by decide +kernel
theorem dX5_sleepingPosts_17 : decode cX5_sleepingPosts 17 = .ok (.iload_n 1, 1) := by decide +kernel
theorem dX5_sleepingPosts_18 : decode cX5_sleepingPosts 18 = .ok (.iconst 1, 1) := by decide +kernel
theorem dX5_sleepingPosts_19 : decode cX5_sleepingPosts 19 = .ok (.iload_n 2, 1) := by decide +kernel
theorem dX5_sleepingPosts_20 : decode cX5_sleepingPosts 20 = .ok (.ishl, 1) := by decide +kernel
theorem dX5_sleepingPosts_21 : decode cX5_sleepingPosts 21 = .ok (.ior, 1) := by decide +kernel
theorem dX5_sleepingPosts_22 : decode cX5_sleepingPosts 22 = .ok (.istore_n 1, 1) := by decide +kernel
theorem dX5_sleepingPosts_23 : decode cX5_sleepingPosts 23 = .ok (.iinc 2 1, 3) := by decide +kernel
theorem dX5_sleepingPosts_26 : decode cX5_sleepingPosts 26 = .ok (.goto (-22), 3) := by decide +kernel
theorem dX5_sleepingPosts_29 : decode cX5_sleepingPosts 29 = .ok (.iload_n 1, 1) := by decide +kernel
theorem dX5_sleepingPosts_30 : decode cX5_sleepingPosts 30 = .ok (.ireturn, 1) := by decide +kernel
theorem dX5_watchedPosts_0 : decode cX5_watchedPosts 0 = .ok (.aload_n 1, 1) := by decide +kernel
theorem dX5_watchedPosts_1 : decode cX5_watchedPosts 1 = .ok (.aload_n 0, 1) := by decide +kernel
theorem dX5_watchedPosts_2 : decode cX5_watchedPosts 2 = .ok (.invokevirtual 47, 3) := by decide +kernel
theorem dX5_watchedPosts_5 : decode cX5_watchedPosts 5 = .ok (.aload_n 0, 1) := by decide +kernel
theorem dX5_watchedPosts_6 : decode cX5_watchedPosts 6 = .ok (.invokevirtual 51, 3) := by decide +kernel
theorem dX5_watchedPosts_9 : decode cX5_watchedPosts 9 = .ok (.iconst (-1), 1) := by decide +kernel
theorem dX5_watchedPosts_10 : decode cX5_watchedPosts 10 = .ok (.ixor, 1) := by decide +kernel
theorem dX5_watchedPosts_11 : decode cX5_watchedPosts 11 = .ok (.iand, 1) := by decide +kernel
theorem dX5_watchedPosts_12 : decode cX5_watchedPosts 12 = .ok (.invokevirtual 54, 3) := by decide +kernel
theorem dX5_watchedPosts_15 : decode cX5_watchedPosts 15 = .ok (.ireturn, 1) := by decide +kernel
theorem dX5_passHour_0 : decode cX5_passHour 0 = .ok (.iconst 0, 1) := by decide +kernel
theorem dX5_passHour_1 : decode cX5_passHour 1 = .ok (.istore_n 2, 1) := by decide +kernel
theorem dX5_passHour_2 : decode cX5_passHour 2 = .ok (.iload_n 2, 1) := by decide +kernel
theorem dX5_passHour_3 : decode cX5_passHour 3 = .ok (.aload_n 1, 1) := by decide +kernel
theorem dX5_passHour_4 : decode cX5_passHour 4 = .ok (.getfield 58, 3) := by decide +kernel
theorem dX5_passHour_7 : decode cX5_passHour 7 = .ok (.if_icmp .ge 96, 3) := by decide +kernel
theorem dX5_passHour_10 : decode cX5_passHour 10 = .ok (.aload_n 0, 1) := by decide +kernel
theorem dX5_passHour_11 : decode cX5_passHour 11 = .ok (.iload_n 2, 1) := by decide +kernel
theorem dX5_passHour_12 : decode cX5_passHour 12 = .ok (.invokevirtual 61, 3) := by decide +kernel
theorem dX5_passHour_15 : decode cX5_passHour 15 = .ok (.istore_n 3, 1) := by decide +kernel
theorem dX5_passHour_16 : decode cX5_passHour 16 = .ok (.iload_n 3, 1) := by decide +kernel
theorem dX5_passHour_17 : decode cX5_passHour 17 = .ok (.bipush (-9), 2) := by decide +kernel
theorem dX5_passHour_19 : decode cX5_passHour 19 = .ok (.if_icmp .ne 27, 3) := by decide +kernel
theorem dX5_passHour_22 : decode cX5_passHour 22 = .ok (.aload_n 0, 1) := by decide +kernel
theorem dX5_passHour_23 : decode cX5_passHour 23 = .ok (.getfield 9, 3) := by decide +kernel
theorem dX5_passHour_26 : decode cX5_passHour 26 = .ok (.iload_n 2, 1) := by decide +kernel
theorem dX5_passHour_27 : decode cX5_passHour 27 = .ok (.iconst 0, 1) := by decide +kernel
theorem dX5_passHour_28 : decode cX5_passHour 28 = .ok (.aload_n 0, 1) := by decide +kernel
theorem dX5_passHour_29 : decode cX5_passHour 29 = .ok (.getfield 9, 3) := by decide +kernel
theorem dX5_passHour_32 : decode cX5_passHour 32 = .ok (.iload_n 2, 1) := by decide +kernel
theorem dX5_passHour_33 : decode cX5_passHour 33 = .ok (.iaload, 1) := by decide +kernel
theorem dX5_passHour_34 : decode cX5_passHour 34 = .ok (.aload_n 1, 1) := by decide +kernel
theorem dX5_passHour_35 : decode cX5_passHour 35 = .ok (.getfield 64, 3) := by decide +kernel
theorem dX5_passHour_38 : decode cX5_passHour 38 = .ok (.isub, 1) := by decide +kernel
theorem dX5_passHour_39 : decode cX5_passHour 39 = .ok (.invokestatic 67, 3) := by decide +kernel
theorem dX5_passHour_42 : decode cX5_passHour 42 = .ok (.iastore, 1) := by decide +kernel
theorem dX5_passHour_43 : decode cX5_passHour 43 = .ok (.goto 54, 3) := by decide +kernel
theorem dX5_passHour_46 : decode cX5_passHour 46 = .ok (.aload_n 0, 1) := by decide +kernel
theorem dX5_passHour_47 : decode cX5_passHour 47 = .ok (.getfield 9, 3) := by decide +kernel
theorem dX5_passHour_50 : decode cX5_passHour 50 = .ok (.iload_n 2, 1) := by decide +kernel
theorem dX5_passHour_51 : decode cX5_passHour 51 = .ok (.bipush 60, 2) := by decide +kernel
theorem dX5_passHour_53 : decode cX5_passHour 53 = .ok (.aload_n 0, 1) := by decide +kernel
theorem dX5_passHour_54 : decode cX5_passHour 54 = .ok (.getfield 9, 3) := by decide +kernel
theorem dX5_passHour_57 : decode cX5_passHour 57 = .ok (.iload_n 2, 1) := by decide +kernel
theorem dX5_passHour_58 : decode cX5_passHour 58 = .ok (.iaload, 1) := by decide +kernel
theorem dX5_passHour_59 : decode cX5_passHour 59 = .ok (.aload_n 1, 1) := by decide +kernel
theorem dX5_passHour_60 : decode cX5_passHour 60 = .ok (.iload_n 3, 1) := by decide +kernel
theorem dX5_passHour_61 : decode cX5_passHour 61 = .ok (.aload_n 0, 1) := by decide +kernel
theorem dX5_passHour_62 : decode cX5_passHour 62 = .ok (.getfield 30, 3) := by decide +kernel
theorem dX5_passHour_65 : decode cX5_passHour 65 = .ok (.invokevirtual 73, 3) := by decide +kernel
theorem dX5_passHour_68 : decode cX5_passHour 68 = .ok (.iadd, 1) := by decide +kernel
theorem dX5_passHour_69 : decode cX5_passHour 69 = .ok (.invokestatic 76, 3) := by decide +kernel
theorem dX5_passHour_72 : decode cX5_passHour 72 = .ok (.iastore, 1) := by decide +kernel
theorem dX5_passHour_73 : decode cX5_passHour 73 = .ok (.aload_n 0, 1) := by decide +kernel
theorem dX5_passHour_74 : decode cX5_passHour 74 = .ok (.getfield 18, 3) := by decide +kernel
theorem dX5_passHour_77 : decode cX5_passHour 77 = .ok (.iload_n 3, 1) := by decide +kernel
theorem dX5_passHour_78 : decode cX5_passHour 78 = .ok (.dup2, 1) := by decide +kernel
theorem dX5_passHour_79 : decode cX5_passHour 79 = .ok (.iaload, 1) := by decide +kernel
theorem dX5_passHour_80 : decode cX5_passHour 80 = .ok (.iconst 1, 1) := by decide +kernel
theorem dX5_passHour_81 : decode cX5_passHour 81 = .ok (.iadd, 1) := by decide +kernel
theorem dX5_passHour_82 : decode cX5_passHour 82 = .ok (.iastore, 1) := by decide +kernel
theorem dX5_passHour_83 : decode cX5_passHour 83 = .ok (.aload_n 0, 1) := by decide +kernel
theorem dX5_passHour_84 : decode cX5_passHour 84 = .ok (.getfield 21, 3) := by decide +kernel
theorem dX5_passHour_87 : decode cX5_passHour 87 = .ok (.iload_n 2, 1) := by decide +kernel
theorem dX5_passHour_88 : decode cX5_passHour 88 = .ok (.iconst 5, 1) := by decide +kernel
theorem dX5_passHour_89 : decode cX5_passHour 89 = .ok (.imul, 1) := by decide +kernel
theorem dX5_passHour_90 : decode cX5_passHour 90 = .ok (.iload_n 3, 1) := by decide +kernel
theorem dX5_passHour_91 : decode cX5_passHour 91 = .ok (.iadd, 1) := by decide +kernel
theorem dX5_passHour_92 : decode cX5_passHour 92 = .ok (.dup2, 1) := by decide +kernel
theorem dX5_passHour_93 : decode cX5_passHour 93 = .ok (.iaload, 1) := by decide +kernel
theorem dX5_passHour_94 : decode cX5_passHour 94 = .ok (.iconst 1, 1) := by decide +kernel
theorem dX5_passHour_95 : decode cX5_passHour 95 = .ok (.iadd, 1) := by decide +kernel
theorem dX5_passHour_96 : decode cX5_passHour 96 = .ok (.iastore, 1) := by decide +kernel
theorem dX5_passHour_97 : decode cX5_passHour 97 = .ok (.iinc 2 1, 3) := by decide +kernel
theorem dX5_passHour_100 : decode cX5_passHour 100 = .ok (.goto (-98), 3) := by decide +kernel
theorem dX5_passHour_103 : decode cX5_passHour 103 = .ok (.aload_n 0, 1) := by decide +kernel
theorem dX5_passHour_104 : decode cX5_passHour 104 = .ok (.dup, 1) := by decide +kernel
theorem dX5_passHour_105 : decode cX5_passHour 105 = .ok (.getfield 30, 3) := by decide +kernel
theorem dX5_passHour_108 : decode cX5_passHour 108 = .ok (.iconst 1, 1) := by decide +kernel
theorem dX5_passHour_109 : decode cX5_passHour 109 = .ok (.iadd, 1) := by decide +kernel
theorem dX5_passHour_110 : decode cX5_passHour 110 = .ok (.putfield 30, 3) := by decide +kernel
theorem dX5_passHour_113 : decode cX5_passHour 113 = .ok (.return_, 1) := by decide +kernel
theorem dX5_bringRelief_0 : decode cX5_bringRelief 0 = .ok (.iconst 0, 1) := by decide +kernel
theorem dX5_bringRelief_1 : decode cX5_bringRelief 1 = .ok (.istore 4, 2) := by decide +kernel
theorem dX5_bringRelief_3 : decode cX5_bringRelief 3 = .ok (.iconst 0, 1) := by decide +kernel
theorem dX5_bringRelief_4 : decode cX5_bringRelief 4 = .ok (.istore 5, 2) := by decide +kernel
theorem dX5_bringRelief_6 : decode cX5_bringRelief 6 = .ok (.iload_n 2, 1) := by decide +kernel
theorem dX5_bringRelief_7 : decode cX5_bringRelief 7 = .ok (.istore 6, 2) := by decide +kernel
theorem dX5_bringRelief_9 : decode cX5_bringRelief 9 = .ok (.iconst 0, 1) := by decide +kernel
theorem dX5_bringRelief_10 : decode cX5_bringRelief 10 = .ok (.istore 7, 2) := by decide +kernel
theorem dX5_bringRelief_12 : decode cX5_bringRelief 12 = .ok (.iload 7, 2) := by decide +kernel
theorem dX5_bringRelief_14 : decode cX5_bringRelief 14 = .ok (.aload_n 1, 1) := by decide +kernel
theorem dX5_bringRelief_15 : decode cX5_bringRelief 15 = .ok (.getfield 79, 3) := by decide +kernel
theorem dX5_bringRelief_18 : decode cX5_bringRelief 18 = .ok (.if_icmp .ge 89, 3) := by decide +kernel
theorem dX5_bringRelief_21 : decode cX5_bringRelief 21 = .ok (.aload_n 0, 1) := by decide +kernel
theorem dX5_bringRelief_22 : decode cX5_bringRelief 22 = .ok (.getfield 15, 3) := by decide +kernel
theorem dX5_bringRelief_25 : decode cX5_bringRelief 25 = .ok (.iload 6, 2) := by decide +kernel
theorem dX5_bringRelief_27 : decode cX5_bringRelief 27 = .ok (.iaload, 1) := by decide +kernel
theorem dX5_bringRelief_28 : decode cX5_bringRelief 28 = .ok (.istore 8, 2) := by decide +kernel
theorem dX5_bringRelief_30 : decode cX5_bringRelief 30 = .ok (.iload 8, 2) := by decide +kernel
theorem dX5_bringRelief_32 : decode cX5_bringRelief 32 = .ok (.bipush (-9), 2) := by decide +kernel
theorem dX5_bringRelief_34 : decode cX5_bringRelief 34 = .ok (.if_icmp .eq 27, 3) := by decide +kernel
theorem dX5_bringRelief_37 : decode cX5_bringRelief 37 = .ok (.aload_n 0, 1) := by decide +kernel
theorem dX5_bringRelief_38 : decode cX5_bringRelief 38 = .ok (.getfield 18, 3) := by decide +kernel
theorem dX5_bringRelief_41 : decode cX5_bringRelief 41 = .ok (.iload 6, 2) := by decide +kernel
theorem dX5_bringRelief_43 : decode cX5_bringRelief 43 = .ok (.iaload, 1) := by decide +kernel
theorem dX5_bringRelief_44 : decode cX5_bringRelief 44 = .ok (.aload_n 1, 1) := by decide +kernel
theorem dX5_bringRelief_45 : decode cX5_bringRelief 45 = .ok (.getfield 82, 3) := by decide +kernel
theorem dX5_bringRelief_48 : decode cX5_bringRelief 48 = .ok (.if_icmp .lt 13, 3) := by decide +kernel
theorem dX5_bringRelief_51 : decode cX5_bringRelief 51 = .ok (.aload_n 0, 1) := by decide +kernel
theorem dX5_bringRelief_52 : decode cX5_bringRelief 52 = .ok (.aload_n 1, 1) := by decide +kernel
theorem dX5_bringRelief_53 : decode cX5_bringRelief 53 = .ok (.iload 5, 2) := by decide +kernel
theorem dX5_bringRelief_55 : decode cX5_bringRelief 55 = .ok (.invokevirtual 85, 3) := by decide +kernel
theorem dX5_bringRelief_58 : decode cX5_bringRelief 58 = .ok (.goto 5, 3) := by decide +kernel
theorem dX5_bringRelief_61 : decode cX5_bringRelief 61 = .ok (.bipush (-9), 2) := by decide +kernel
theorem dX5_bringRelief_63 : decode cX5_bringRelief 63 = .ok (.istore 9, 2) := by decide +kernel
theorem dX5_bringRelief_65 : decode cX5_bringRelief 65 = .ok (.iload 9, 2) := by decide +kernel
theorem dX5_bringRelief_67 : decode cX5_bringRelief 67 = .ok (.bipush (-9), 2) := by decide +kernel
theorem dX5_bringRelief_69 : decode cX5_bringRelief 69 = .ok (.if_icmp .eq 23, 3) := by decide +kernel
theorem dX5_bringRelief_72 : decode cX5_bringRelief 72 = .ok (.iload 5, 2) := by decide +kernel
theorem dX5_bringRelief_74 : decode cX5_bringRelief 74 = .ok (.iconst 1, 1) := by decide +kernel
theorem dX5_bringRelief_75 : decode cX5_bringRelief 75 = .ok (.iload 8, 2) := by decide +kernel
theorem dX5_bringRelief_77 : decode cX5_bringRelief 77 = .ok (.ishl, 1) := by decide +kernel
theorem dX5_bringRelief_78 : decode cX5_bringRelief 78 = .ok (.ior, 1) := by decide +kernel
theorem dX5_bringRelief_79 : decode cX5_bringRelief 79 = .ok (.istore 5, 2) := by decide +kernel
theorem dX5_bringRelief_81 : decode cX5_bringRelief 81 = .ok (.aload_n 0, 1) := by decide +kernel
theorem dX5_bringRelief_82 : decode cX5_bringRelief 82 = .ok (.iload 9, 2) := by decide +kernel
theorem dX5_bringRelief_84 : decode cX5_bringRelief 84 = .ok (.iload 6, 2) := by decide +kernel
theorem dX5_bringRelief_86 : decode cX5_bringRelief 86 = .ok (.invokevirtual 89, 3) := by decide +kernel
theorem dX5_bringRelief_89 : decode cX5_bringRelief 89 = .ok (.iinc 4 1, 3) := by decide +kernel
theorem dX5_bringRelief_92 : decode cX5_bringRelief 92 = .ok (.aload_n 1, 1) := by decide +kernel
theorem dX5_bringRelief_93 : decode cX5_bringRelief 93 = .ok (.iload 6, 2) := by decide +kernel
theorem dX5_bringRelief_95 : decode cX5_bringRelief 95 = .ok (.iload_n 3, 1) := by decide +kernel
theorem dX5_bringRelief_96 : decode cX5_bringRelief 96 = .ok (.invokevirtual 93, 3) := by decide +kernel
theorem dX5_bringRelief_99 : decode cX5_bringRelief 99 = .ok (.istore 6, 2) := by decide +kernel
theorem dX5_bringRelief_101 : decode cX5_bringRelief 101 = .ok (.iinc 7 1, 3) := by decide +kernel
theorem dX5_bringRelief_104 : decode cX5_bringRelief 104 = .ok (.goto (-92), 3) := by decide +kernel
theorem dX5_bringRelief_107 : decode cX5_bringRelief 107 = .ok (.iload 4, 2) := by decide +kernel
theorem dX5_bringRelief_109 : decode cX5_bringRelief 109 = .ok (.ireturn, 1) := by decide +kernel
theorem dX5_freshestMan_0 : decode cX5_freshestMan 0 = .ok (.bipush (-9), 2) := by decide +kernel
theorem dX5_freshestMan_2 : decode cX5_freshestMan 2 = .ok (.istore_n 3, 1) := by decide +kernel
theorem dX5_freshestMan_3 : decode cX5_freshestMan 3 = .ok (.iconst 0, 1) := by decide +kernel
theorem dX5_freshestMan_4 : decode cX5_freshestMan 4 = .ok (.istore 4, 2) := by decide +kernel
theorem dX5_freshestMan_6 : decode cX5_freshestMan 6 = .ok (.iload 4, 2) := by decide +kernel
theorem dX5_freshestMan_8 : decode cX5_freshestMan 8 = .ok (.aload_n 1, 1) := by decide +kernel
theorem dX5_freshestMan_9 : decode cX5_freshestMan 9 = .ok (.getfield 58, 3) := by decide +kernel
theorem dX5_freshestMan_12 : decode cX5_freshestMan 12 = .ok (.if_icmp .ge 66, 3) := by decide +kernel
theorem dX5_freshestMan_15 : decode cX5_freshestMan 15 = .ok (.iload_n 2, 1) := by decide +kernel
theorem dX5_freshestMan_16 : decode cX5_freshestMan 16 = .ok (.iload 4, 2) := by decide +kernel
theorem dX5_freshestMan_18 : decode cX5_freshestMan 18 = .ok (.ishr, 1) := by decide +kernel
theorem dX5_freshestMan_19 : decode cX5_freshestMan 19 = .ok (.iconst 1, 1) := by decide +kernel
theorem dX5_freshestMan_20 : decode cX5_freshestMan 20 = .ok (.iand, 1) := by decide +kernel
theorem dX5_freshestMan_21 : decode cX5_freshestMan 21 = .ok (.ifCond .ne 18, 3) := by decide +kernel
theorem dX5_freshestMan_24 : decode cX5_freshestMan 24 = .ok (.aload_n 0, 1) := by decide +kernel
theorem dX5_freshestMan_25 : decode cX5_freshestMan 25 = .ok (.iload 4, 2) := by decide +kernel
theorem dX5_freshestMan_27 : decode cX5_freshestMan 27 = .ok (.invokevirtual 61, 3) := by decide +kernel
theorem dX5_freshestMan_30 : decode cX5_freshestMan 30 = .ok (.bipush (-9), 2) := by decide +kernel
theorem dX5_freshestMan_32 : decode cX5_freshestMan 32 = .ok (.if_icmp .ne 7, 3) := by decide +kernel
theorem dX5_freshestMan_35 : decode cX5_freshestMan 35 = .ok (.iconst 1, 1) := by decide +kernel
theorem dX5_freshestMan_36 : decode cX5_freshestMan 36 = .ok (.goto 4, 3) := by decide +kernel
theorem dX5_freshestMan_39 : decode cX5_freshestMan 39 = .ok (.iconst 0, 1) := by decide +kernel
theorem dX5_freshestMan_40 : decode cX5_freshestMan 40 = .ok (.istore 5, 2) := by decide +kernel
theorem dX5_freshestMan_42 : decode cX5_freshestMan 42 = .ok (.iload 5, 2) := by decide +kernel
theorem dX5_freshestMan_44 : decode cX5_freshestMan 44 = .ok (.ifCond .eq 28, 3) := by decide +kernel
theorem dX5_freshestMan_47 : decode cX5_freshestMan 47 = .ok (.iload_n 3, 1) := by decide +kernel
theorem dX5_freshestMan_48 : decode cX5_freshestMan 48 = .ok (.bipush (-9), 2) := by decide +kernel
theorem dX5_freshestMan_50 : decode cX5_freshestMan 50 = .ok (.if_icmp .eq 19, 3) := by decide +kernel
theorem dX5_freshestMan_53 : decode cX5_freshestMan 53 = .ok (.aload_n 0, 1) := by decide +kernel
theorem dX5_freshestMan_54 : decode cX5_freshestMan 54 = .ok (.getfield 9, 3) := by decide +kernel
theorem dX5_freshestMan_57 : decode cX5_freshestMan 57 = .ok (.iload 4, 2) := by decide +kernel
theorem dX5_freshestMan_59 : decode cX5_freshestMan 59 = .ok (.iaload, 1) := by decide +kernel
theorem dX5_freshestMan_60 : decode cX5_freshestMan 60 = .ok (.aload_n 0, 1) := by decide +kernel
theorem dX5_freshestMan_61 : decode cX5_freshestMan 61 = .ok (.getfield 9, 3) := by decide +kernel
theorem dX5_freshestMan_64 : decode cX5_freshestMan 64 = .ok (.iload_n 3, 1) := by decide +kernel
theorem dX5_freshestMan_65 : decode cX5_freshestMan 65 = .ok (.iaload, 1) := by decide +kernel
theorem dX5_freshestMan_66 : decode cX5_freshestMan 66 = .ok (.if_icmp .ge 6, 3) := by decide +kernel
theorem dX5_freshestMan_69 : decode cX5_freshestMan 69 = .ok (.iload 4, 2) := by decide +kernel
theorem dX5_freshestMan_71 : decode cX5_freshestMan 71 = .ok (.istore_n 3, 1) := by decide +kernel
theorem dX5_freshestMan_72 : decode cX5_freshestMan 72 = .ok (.iinc 4 1, 3) := by decide +kernel
theorem dX5_freshestMan_75 : decode cX5_freshestMan 75 = .ok (.goto (-69), 3) := by decide +kernel
theorem dX5_freshestMan_78 : decode cX5_freshestMan 78 = .ok (.iload_n 3, 1) := by decide +kernel
theorem dX5_freshestMan_79 : decode cX5_freshestMan 79 = .ok (.ireturn, 1) := by decide +kernel
theorem dX5_advance_0 : decode cX5_advance 0 = .ok (.aload_n 0, 1) := by decide +kernel
theorem dX5_advance_1 : decode cX5_advance 1 = .ok (.aload_n 1, 1) := by decide +kernel
theorem dX5_advance_2 : decode cX5_advance 2 = .ok (.invokevirtual 96, 3) := by decide +kernel
theorem dX5_advance_5 : decode cX5_advance 5 = .ok (.iload_n 2, 1) := by decide +kernel
theorem dX5_advance_6 : decode cX5_advance 6 = .ok (.iconst 1, 1) := by decide +kernel
theorem dX5_advance_7 : decode cX5_advance 7 = .ok (.if_icmp .ne 11, 3) := by decide +kernel
theorem dX5_advance_10 : decode cX5_advance 10 = .ok (.aload_n 0, 1) := by decide +kernel
theorem dX5_advance_11 : decode cX5_advance 11 = .ok (.aload_n 1, 1) := by decide +kernel
theorem dX5_advance_12 : decode cX5_advance 12 = .ok (.iconst 0, 1) := by decide +kernel
theorem dX5_advance_13 : decode cX5_advance 13 = .ok (.iconst 1, 1) := by decide +kernel
theorem dX5_advance_14 : decode cX5_advance 14 = .ok (.invokevirtual 100, 3) := by decide +kernel
theorem dX5_advance_17 : decode cX5_advance 17 = .ok (.pop, 1) := by decide +kernel
theorem dX5_advance_18 : decode cX5_advance 18 = .ok (.return_, 1) := by decide +kernel
theorem dX5_greatestDebt_0 : decode cX5_greatestDebt 0 = .ok (.iconst 0, 1) := by decide +kernel
theorem dX5_greatestDebt_1 : decode cX5_greatestDebt 1 = .ok (.istore_n 2, 1) := by decide +kernel
theorem dX5_greatestDebt_2 : decode cX5_greatestDebt 2 = .ok (.iconst 0, 1) := by decide +kernel
theorem dX5_greatestDebt_3 : decode cX5_greatestDebt 3 = .ok (.istore_n 3, 1) := by decide +kernel
theorem dX5_greatestDebt_4 : decode cX5_greatestDebt 4 = .ok (.iload_n 3, 1) := by decide +kernel
theorem dX5_greatestDebt_5 : decode cX5_greatestDebt 5 = .ok (.aload_n 1, 1) := by decide +kernel
theorem dX5_greatestDebt_6 : decode cX5_greatestDebt 6 = .ok (.getfield 58, 3) := by decide +kernel
theorem dX5_greatestDebt_9 : decode cX5_greatestDebt 9 = .ok (.if_icmp .ge 20, 3) := by decide +kernel
theorem dX5_greatestDebt_12 : decode cX5_greatestDebt 12 = .ok (.iload_n 2, 1) := by decide +kernel
theorem dX5_greatestDebt_13 : decode cX5_greatestDebt 13 = .ok (.aload_n 0, 1) := by decide +kernel
theorem dX5_greatestDebt_14 : decode cX5_greatestDebt 14 = .ok (.getfield 9, 3) := by decide +kernel
theorem dX5_greatestDebt_17 : decode cX5_greatestDebt 17 = .ok (.iload_n 3, 1) := by decide +kernel
theorem dX5_greatestDebt_18 : decode cX5_greatestDebt 18 = .ok (.iaload, 1) := by decide +kernel
theorem dX5_greatestDebt_19 : decode cX5_greatestDebt 19 = .ok (.invokestatic 67, 3) := by decide +kernel
theorem dX5_greatestDebt_22 : decode cX5_greatestDebt 22 = .ok (.istore_n 2, 1) := by decide +kernel
theorem dX5_greatestDebt_23 : decode cX5_greatestDebt 23 = .ok (.iinc 3 1, 3) := by decide +kernel
theorem dX5_greatestDebt_26 : decode cX5_greatestDebt 26 = .ok (.goto (-22), 3) := by decide +kernel
theorem dX5_greatestDebt_29 : decode cX5_greatestDebt 29 = .ok (.iload_n 2, 1) := by decide +kernel
theorem dX5_greatestDebt_30 : decode cX5_greatestDebt 30 = .ok (.ireturn, 1) := by decide +kernel
theorem dX5_debtOnPost_0 : decode cX5_debtOnPost 0 = .ok (.iconst 0, 1) := by decide +kernel
theorem dX5_debtOnPost_1 : decode cX5_debtOnPost 1 = .ok (.istore_n 1, 1) := by decide +kernel
theorem dX5_debtOnPost_2 : decode cX5_debtOnPost 2 = .ok (.iconst 0, 1) := by decide +kernel
theorem dX5_debtOnPost_3 : decode cX5_debtOnPost 3 = .ok (.istore_n 2, 1) := by decide +kernel
theorem dX5_debtOnPost_4 : decode cX5_debtOnPost 4 = .ok (.iload_n 2, 1) := by decide +kernel
theorem dX5_debtOnPost_5 : decode cX5_debtOnPost 5 = .ok (.iconst 5, 1) := by decide +kernel
theorem dX5_debtOnPost_6 : decode cX5_debtOnPost 6 = .ok (.if_icmp .ge 34, 3) := by decide +kernel
theorem dX5_debtOnPost_9 : decode cX5_debtOnPost 9 = .ok (.aload_n 0, 1) := by decide +kernel
theorem dX5_debtOnPost_10 : decode cX5_debtOnPost 10 = .ok (.getfield 15, 3) := by decide +kernel
theorem dX5_debtOnPost_13 : decode cX5_debtOnPost 13 = .ok (.iload_n 2, 1) := by decide +kernel
theorem dX5_debtOnPost_14 : decode cX5_debtOnPost 14 = .ok (.iaload, 1) := by decide +kernel
theorem dX5_debtOnPost_15 : decode cX5_debtOnPost 15 = .ok (.bipush (-9), 2) := by decide +kernel
theorem dX5_debtOnPost_17 : decode cX5_debtOnPost 17 = .ok (.if_icmp .eq 17, 3) := by decide +kernel
theorem dX5_debtOnPost_20 : decode cX5_debtOnPost 20 = .ok (.iload_n 1, 1) := by decide +kernel
theorem dX5_debtOnPost_21 : decode cX5_debtOnPost 21 = .ok (.aload_n 0, 1) := by decide +kernel
theorem dX5_debtOnPost_22 : decode cX5_debtOnPost 22 = .ok (.getfield 9, 3) := by decide +kernel
theorem dX5_debtOnPost_25 : decode cX5_debtOnPost 25 = .ok (.aload_n 0, 1) := by decide +kernel
theorem dX5_debtOnPost_26 : decode cX5_debtOnPost 26 = .ok (.getfield 15, 3) := by decide +kernel
theorem dX5_debtOnPost_29 : decode cX5_debtOnPost 29 = .ok (.iload_n 2, 1) := by decide +kernel
theorem dX5_debtOnPost_30 : decode cX5_debtOnPost 30 = .ok (.iaload, 1) := by decide +kernel
theorem dX5_debtOnPost_31 : decode cX5_debtOnPost 31 = .ok (.iaload, 1) := by decide +kernel
theorem dX5_debtOnPost_32 : decode cX5_debtOnPost 32 = .ok (.iadd, 1) := by decide +kernel
theorem dX5_debtOnPost_33 : decode cX5_debtOnPost 33 = .ok (.istore_n 1, 1) := by decide +kernel
theorem dX5_debtOnPost_34 : decode cX5_debtOnPost 34 = .ok (.iinc 2 1, 3) := by decide +kernel
theorem dX5_debtOnPost_37 : decode cX5_debtOnPost 37 = .ok (.goto (-33), 3) := by decide +kernel
theorem dX5_debtOnPost_40 : decode cX5_debtOnPost 40 = .ok (.iload_n 1, 1) := by decide +kernel
theorem dX5_debtOnPost_41 : decode cX5_debtOnPost 41 = .ok (.ireturn, 1) := by decide +kernel
theorem dX5_coldOf_0 : decode cX5_coldOf 0 = .ok (.iconst 0, 1) := by decide +kernel
theorem dX5_coldOf_1 : decode cX5_coldOf 1 = .ok (.istore_n 3, 1) := by decide +kernel
theorem dX5_coldOf_2 : decode cX5_coldOf 2 = .ok (.iconst 0, 1) := by decide +kernel
theorem dX5_coldOf_3 : decode cX5_coldOf 3 = .ok (.istore 4, 2) := by decide +kernel
theorem dX5_coldOf_5 : decode cX5_coldOf 5 = .ok (.iload 4, 2) := by decide +kernel
theorem dX5_coldOf_7 : decode cX5_coldOf 7 = .ok (.aload_n 1, 1) := by decide +kernel
theorem dX5_coldOf_8 : decode cX5_coldOf 8 = .ok (.getfield 79, 3) := by decide +kernel
theorem dX5_coldOf_11 : decode cX5_coldOf 11 = .ok (.if_icmp .ge 31, 3) := by decide +kernel
theorem dX5_coldOf_14 : decode cX5_coldOf 14 = .ok (.iload_n 3, 1) := by decide +kernel
theorem dX5_coldOf_15 : decode cX5_coldOf 15 = .ok (.aload_n 0, 1) := by decide +kernel
theorem dX5_coldOf_16 : decode cX5_coldOf 16 = .ok (.getfield 21, 3) := by decide +kernel
theorem dX5_coldOf_19 : decode cX5_coldOf 19 = .ok (.iload_n 2, 1) := by decide +kernel
theorem dX5_coldOf_20 : decode cX5_coldOf 20 = .ok (.iconst 5, 1) := by decide +kernel
theorem dX5_coldOf_21 : decode cX5_coldOf 21 = .ok (.imul, 1) := by decide +kernel
theorem dX5_coldOf_22 : decode cX5_coldOf 22 = .ok (.iload 4, 2) := by decide +kernel
theorem dX5_coldOf_24 : decode cX5_coldOf 24 = .ok (.iadd, 1) := by decide +kernel
theorem dX5_coldOf_25 : decode cX5_coldOf 25 = .ok (.iaload, 1) := by decide +kernel
theorem dX5_coldOf_26 : decode cX5_coldOf 26 = .ok (.aload_n 1, 1) := by decide +kernel
theorem dX5_coldOf_27 : decode cX5_coldOf 27 = .ok (.getfield 104, 3) := by decide +kernel
theorem dX5_coldOf_30 : decode cX5_coldOf 30 = .ok (.iload 4, 2) := by decide +kernel
theorem dX5_coldOf_32 : decode cX5_coldOf 32 = .ok (.iaload, 1) := by decide +kernel
theorem dX5_coldOf_33 : decode cX5_coldOf 33 = .ok (.imul, 1) := by decide +kernel
theorem dX5_coldOf_34 : decode cX5_coldOf 34 = .ok (.iadd, 1) := by decide +kernel
theorem dX5_coldOf_35 : decode cX5_coldOf 35 = .ok (.istore_n 3, 1) := by decide +kernel
theorem dX5_coldOf_36 : decode cX5_coldOf 36 = .ok (.iinc 4 1, 3) := by decide +kernel
theorem dX5_coldOf_39 : decode cX5_coldOf 39 = .ok (.goto (-34), 3) := by decide +kernel
theorem dX5_coldOf_42 : decode cX5_coldOf 42 = .ok (.iload_n 3, 1) := by decide +kernel
theorem dX5_coldOf_43 : decode cX5_coldOf 43 = .ok (.ireturn, 1) := by decide +kernel
theorem dX6_init_0 : decode cX6_init 0 = .ok (.aload_n 0, 1) := by decide +kernel
theorem dX6_init_1 : decode cX6_init 1 = .ok (.invokespecial 1, 3) := by decide +kernel
theorem dX6_init_4 : decode cX6_init 4 = .ok (.aload_n 0, 1) := by decide +kernel
theorem dX6_init_5 : decode cX6_init 5 = .ok (.new 7, 3) := by decide +kernel
theorem dX6_init_8 : decode cX6_init 8 = .ok (.dup, 1) := by decide +kernel
theorem dX6_init_9 : decode cX6_init 9 = .ok (.invokespecial 9, 3) := by decide +kernel
theorem dX6_init_12 : decode cX6_init 12 = .ok (.putfield 10, 3) := by decide +kernel
theorem dX6_init_15 : decode cX6_init 15 = .ok (.aload_n 0, 1) := by decide +kernel
theorem dX6_init_16 : decode cX6_init 16 = .ok (.new 16, 3) := by decide +kernel
theorem dX6_init_19 : decode cX6_init 19 = .ok (.dup, 1) := by decide +kernel
theorem dX6_init_20 : decode cX6_init 20 = .ok (.invokespecial 18, 3) := by decide +kernel
theorem dX6_init_23 : decode cX6_init 23 = .ok (.putfield 19, 3) := by decide +kernel
theorem dX6_init_26 : decode cX6_init 26 = .ok (.aload_n 0, 1) := by decide +kernel
theorem dX6_init_27 : decode cX6_init 27 = .ok (.new 16, 3) := by decide +kernel
theorem dX6_init_30 : decode cX6_init 30 = .ok (.dup, 1) := by decide +kernel
theorem dX6_init_31 : decode cX6_init 31 = .ok (.invokespecial 18, 3) := by decide +kernel
theorem dX6_init_34 : decode cX6_init 34 = .ok (.putfield 23, 3) := by decide +kernel
theorem dX6_init_37 : decode cX6_init 37 = .ok (.aload_n 0, 1) := by decide +kernel
theorem dX6_init_38 : decode cX6_init 38 = .ok (.new 26, 3) := by decide +kernel
theorem dX6_init_41 : decode cX6_init 41 = .ok (.dup, 1) := by decide +kernel
theorem dX6_init_42 : decode cX6_init 42 = .ok (.invokespecial 28, 3) := by decide +kernel
theorem dX6_init_45 : decode cX6_init 45 = .ok (.putfield 29, 3) := by decide +kernel
theorem dX6_init_48 : decode cX6_init 48 = .ok (.aload_n 0, 1) := by decide +kernel
theorem dX6_init_49 : decode cX6_init 49 = .ok (.new 26, 3) := by decide +kernel
theorem dX6_init_52 : decode cX6_init 52 = .ok (.dup, 1) := by decide +kernel
theorem dX6_init_53 : decode cX6_init 53 = .ok (.invokespecial 28, 3) := by decide +kernel
theorem dX6_init_56 : decode cX6_init 56 = .ok (.putfield 33, 3) := by decide +kernel
theorem dX6_init_59 : decode cX6_init 59 = .ok (.aload_n 0, 1) := by decide +kernel
theorem dX6_init_60 : decode cX6_init 60 = .ok (.new 36, 3) := by decide +kernel
theorem dX6_init_63 : decode cX6_init 63 = .ok (.dup, 1) := by decide +kernel
theorem dX6_init_64 : decode cX6_init 64 = .ok (.invokespecial 38, 3) := by decide +kernel
theorem dX6_init_67 : decode cX6_init 67 = .ok (.putfield 39, 3) := by decide +kernel
theorem dX6_init_70 : decode cX6_init 70 = .ok (.aload_n 0, 1) := by decide +kernel
theorem dX6_init_71 : decode cX6_init 71 = .ok (.iconst 2, 1) := by decide +kernel
theorem dX6_init_72 : decode cX6_init 72 = .ok (.anewarray 26, 3) := by decide +kernel
theorem dX6_init_75 : decode cX6_init 75 = .ok (.putfield 43, 3) := by decide +kernel
theorem dX6_init_78 : decode cX6_init 78 = .ok (.aload_n 0, 1) := by decide +kernel
theorem dX6_init_79 : decode cX6_init 79 = .ok (.iconst 2, 1) := by decide +kernel
theorem dX6_init_80 : decode cX6_init 80 = .ok (.newarray .boolean, 2) := by decide +kernel
theorem dX6_init_82 : decode cX6_init 82 = .ok (.putfield 47, 3) := by decide +kernel
theorem dX6_init_85 : decode cX6_init 85 = .ok (.aload_n 0, 1) := by decide +kernel
theorem dX6_init_86 : decode cX6_init 86 = .ok (.new 51, 3) := by decide +kernel
theorem dX6_init_89 : decode cX6_init 89 = .ok (.dup, 1) := by decide +kernel
theorem dX6_init_90 : decode cX6_init 90 = .ok (.invokespecial 53, 3) := by decide +kernel
theorem dX6_init_93 : decode cX6_init 93 = .ok (.putfield 54, 3) := by decide +kernel
theorem dX6_init_96 : decode cX6_init 96 = .ok (.aload_n 0, 1) := by decide +kernel
theorem dX6_init_97 : decode cX6_init 97 = .ok (.new 58, 3) := by decide +kernel
theorem dX6_init_100 : decode cX6_init 100 = .ok (.dup, 1) := by decide +kernel
theorem dX6_init_101 : decode cX6_init 101 = .ok (.invokespecial 60, 3) := by decide +kernel
theorem dX6_init_104 : decode cX6_init 104 = .ok (.putfield 61, 3) := by decide +kernel
theorem dX6_init_107 : decode cX6_init 107 = .ok (.iconst 0, 1) := by decide +kernel
theorem dX6_init_108 : decode cX6_init 108 = .ok (.istore_n 1, 1) := by decide +kernel
theorem dX6_init_109 : decode cX6_init 109 = .ok (.iload_n 1, 1) := by decide +kernel
theorem dX6_init_110 : decode cX6_init 110 = .ok (.iconst 2, 1) := by decide +kernel
theorem dX6_init_111 : decode cX6_init 111 = .ok (.if_icmp .ge 22, 3) := by decide +kernel
theorem dX6_init_114 : decode cX6_init 114 = .ok (.aload_n 0, 1) := by decide +kernel
theorem dX6_init_115 : decode cX6_init 115 = .ok (.getfield 43, 3) := by decide +kernel
theorem dX6_init_118 : decode cX6_init 118 = .ok (.iload_n 1, 1) := by decide +kernel
theorem dX6_init_119 : decode cX6_init 119 = .ok (.new 26, 3) := by decide +kernel
theorem dX6_init_122 : decode cX6_init 122 = .ok (.dup, 1) := by decide +kernel
theorem dX6_init_123 : decode cX6_init 123 = .ok (.invokespecial 28, 3) := by decide +kernel
theorem dX6_init_126 : decode cX6_init 126 = .ok (.aastore, 1) := by decide +kernel
theorem dX6_init_127 : decode cX6_init 127 = .ok (.iinc 1 1, 3) := by decide +kernel
theorem dX6_init_130 : decode cX6_init 130 = .ok (.goto (-21), 3) := by decide +kernel
theorem dX6_init_133 : decode cX6_init 133 = .ok (.return_, 1) := by decide +kernel
theorem dX6_type_0 : decode cX6_type 0 = .ok (.iload_n 1, 1) := by decide +kernel
theorem dX6_type_1 : decode cX6_type 1 = .ok (.iconst 0, 1) := by decide +kernel
theorem dX6_type_2 : decode cX6_type 2 = .ok (.sipush 255, 3) := by decide +kernel
theorem dX6_type_5 : decode cX6_type 5 = .ok (.invokestatic 65, 3) := by decide +kernel
theorem dX6_type_8 : decode cX6_type 8 = .ok (.ifCond .ne 5, 3) := by decide +kernel
theorem dX6_type_11 : decode cX6_type 11 = .ok (.iconst (-1), 1) := by decide +kernel
theorem dX6_type_12 : decode cX6_type 12 = .ok (.ireturn, 1) := by decide +kernel
theorem dX6_type_13 : decode cX6_type 13 = .ok (.aload_n 0, 1) := by decide +kernel
theorem dX6_type_14 : decode cX6_type 14 = .ok (.getfield 10, 3) := by decide +kernel
theorem dX6_type_17 : decode cX6_type 17 = .ok (.iload_n 1, 1) := by decide +kernel
theorem dX6_type_18 : decode cX6_type 18 = .ok (.invokevirtual 69, 3) := by decide +kernel
theorem dX6_type_21 : decode cX6_type 21 = .ok (.ifCond .eq 13, 3) := by decide +kernel
theorem dX6_type_24 : decode cX6_type 24 = .ok (.aload_n 0, 1) := by decide +kernel
theorem dX6_type_25 : decode cX6_type 25 = .ok (.getfield 10, 3) := by decide +kernel
theorem dX6_type_28 : decode cX6_type 28 = .ok (.getfield 73, 3) := by decide +kernel
theorem dX6_type_31 : decode cX6_type 31 = .ok (.goto 5, 3) := by decide +kernel
theorem dX6_type_34 : decode cX6_type 34 = .ok (.bipush (-3), 2) := by decide +kernel
theorem dX6_type_36 : decode cX6_type 36 = .ok (.ireturn, 1) := by decide +kernel
theorem dX6_clear_0 : decode cX6_clear 0 = .ok (.aload_n 0, 1) := by decide +kernel
theorem dX6_clear_1 : decode cX6_clear 1 = .ok (.getfield 10, 3) := by decide +kernel
theorem dX6_clear_4 : decode cX6_clear 4 = .ok (.getfield 73, 3) := by decide +kernel
theorem dX6_clear_7 : decode cX6_clear 7 = .ok (.istore_n 1, 1) := by decide +kernel
theorem dX6_clear_8 : decode cX6_clear 8 = .ok (.aload_n 0, 1) := by decide +kernel
theorem dX6_clear_9 : decode cX6_clear 9 = .ok (.getfield 10, 3) := by decide +kernel
theorem dX6_clear_12 : decode cX6_clear 12 = .ok (.iconst 0, 1) := by decide +kernel
theorem dX6_clear_13 : decode cX6_clear 13 = .ok (.putfield 73, 3) := by decide +kernel
theorem dX6_clear_16 : decode cX6_clear 16 = .ok (.iload_n 1, 1) := by decide +kernel
theorem dX6_clear_17 : decode cX6_clear 17 = .ok (.ireturn, 1) := by decide +kernel
theorem dX6_depot_0 : decode cX6_depot 0 = .ok (.aload_n 0, 1) := by decide +kernel
theorem dX6_depot_1 : decode cX6_depot 1 = .ok (.getfield 10, 3) := by decide +kernel
theorem dX6_depot_4 : decode cX6_depot 4 = .ok (.aload_n 0, 1) := by decide +kernel
theorem dX6_depot_5 : decode cX6_depot 5 = .ok (.getfield 23, 3) := by decide +kernel
theorem dX6_depot_8 : decode cX6_depot 8 = .ok (.invokevirtual 77, 3) := by decide +kernel
theorem dX6_depot_11 : decode cX6_depot 11 = .ok (.istore_n 1, 1) := by decide +kernel
theorem dX6_depot_12 : decode cX6_depot 12 = .ok (.iload_n 1, 1) := by decide +kernel
theorem dX6_depot_13 : decode cX6_depot 13 = .ok (.ifCond .lt 26, 3) := by decide +kernel
theorem dX6_depot_16 : decode cX6_depot 16 = .ok (.aload_n 0, 1) := by decide +kernel
theorem dX6_depot_17 : decode cX6_depot 17 = .ok (.getfield 19, 3) := by decide +kernel
theorem dX6_depot_20 : decode cX6_depot 20 = .ok (.aload_n 0, 1) := by decide +kernel
theorem dX6_depot_21 : decode cX6_depot 21 = .ok (.getfield 23, 3) := by decide +kernel
theorem dX6_depot_24 : decode cX6_depot 24 = .ok (.invokevirtual 81, 3) := by decide +kernel
theorem dX6_depot_27 : decode cX6_depot 27 = .ok (.aload_n 0, 1) := by decide +kernel
theorem dX6_depot_28 : decode cX6_depot 28 = .ok (.getfield 10, 3) := by decide +kernel
theorem dX6_depot_31 : decode cX6_depot 31 = .ok (.iconst 0, 1) := by decide +kernel
theorem dX6_depot_32 : decode cX6_depot 32 = .ok (.putfield 73, 3) := by decide +kernel
theorem dX6_depot_35 : decode cX6_depot 35 = .ok (.aload_n 0, 1) := by decide +kernel
theorem dX6_depot_36 : decode cX6_depot 36 = .ok (.invokevirtual 85, 3) := by decide +kernel
theorem dX6_depot_39 : decode cX6_depot 39 = .ok (.iload_n 1, 1) := by decide +kernel
theorem dX6_depot_40 : decode cX6_depot 40 = .ok (.ireturn, 1) := by decide +kernel
theorem dX6_post_0 : decode cX6_post 0 = .ok (.aload_n 0, 1) := by decide +kernel
theorem dX6_post_1 : decode cX6_post 1 = .ok (.iload_n 1, 1) := by decide +kernel
theorem dX6_post_2 : decode cX6_post 2 = .ok (.invokevirtual 88, 3) := by decide +kernel
theorem dX6_post_5 : decode cX6_post 5 = .ok (.ifCond .ne 5, 3) := by decide +kernel
theorem dX6_post_8 : decode cX6_post 8 = .ok (.iconst (-1), 1) := by decide +kernel
theorem dX6_post_9 : decode cX6_post 9 = .ok (.ireturn, 1) := by decide +kernel
theorem dX6_post_10 : decode cX6_post 10 = .ok (.iload_n 2, 1) := by decide +kernel
theorem dX6_post_11 : decode cX6_post 11 = .ok (.tableswitch 68 0 3 #[29, 38, 48, 58], 29) := by decide +kernel
theorem dX6_post_40 : decode cX6_post 40 = .ok (.aload_n 0, 1) := by decide +kernel
theorem dX6_post_41 : decode cX6_post 41 = .ok (.getfield 19, 3) := by decide +kernel
theorem dX6_post_44 : decode cX6_post 44 = .ok (.iload_n 1, 1) := by decide +kernel
theorem dX6_post_45 : decode cX6_post 45 = .ok (.invokevirtual 91, 3) := by decide +kernel
theorem dX6_post_48 : decode cX6_post 48 = .ok (.ireturn, 1) := by decide +kernel
theorem dX6_post_49 : decode cX6_post 49 = .ok (.aload_n 0, 1) := by decide +kernel
theorem dX6_post_50 : decode cX6_post 50 = .ok (.getfield 19, 3) := by decide +kernel
theorem dX6_post_53 : decode cX6_post 53 = .ok (.getfield 95, 3) := by decide +kernel
theorem dX6_post_56 : decode cX6_post 56 = .ok (.iload_n 1, 1) := by decide +kernel
theorem dX6_post_57 : decode cX6_post 57 = .ok (.iaload, 1) := by decide +kernel
theorem dX6_post_58 : decode cX6_post 58 = .ok (.ireturn, 1) := by decide +kernel
theorem dX6_post_59 : decode cX6_post 59 = .ok (.aload_n 0, 1) := by decide +kernel
theorem dX6_post_60 : decode cX6_post 60 = .ok (.getfield 29, 3) := by decide +kernel
theorem dX6_post_63 : decode cX6_post 63 = .ok (.getfield 99, 3) := by decide +kernel
theorem dX6_post_66 : decode cX6_post 66 = .ok (.iload_n 1, 1) := by decide +kernel
theorem dX6_post_67 : decode cX6_post 67 = .ok (.iaload, 1) := by decide +kernel
theorem dX6_post_68 : decode cX6_post 68 = .ok (.ireturn, 1) := by decide +kernel
theorem dX6_post_69 : decode cX6_post 69 = .ok (.aload_n 0, 1) := by decide +kernel
theorem dX6_post_70 : decode cX6_post 70 = .ok (.getfield 29, 3) := by decide +kernel
theorem dX6_post_73 : decode cX6_post 73 = .ok (.getfield 102, 3) := by decide +kernel
theorem dX6_post_76 : decode cX6_post 76 = .ok (.iload_n 1, 1) := by decide +kernel
theorem dX6_post_77 : decode cX6_post 77 = .ok (.iaload, 1) := by decide +kernel
theorem dX6_post_78 : decode cX6_post 78 = .ok (.ireturn, 1) := by decide +kernel
theorem dX6_post_79 : decode cX6_post 79 = .ok (.iconst (-1), 1) := by decide +kernel
theorem dX6_post_80 : decode cX6_post 80 = .ok (.ireturn, 1) := by decide +kernel
theorem dX6_man_0 : decode cX6_man 0 = .ok (.aload_n 0, 1) := by decide +kernel
theorem dX6_man_1 : decode cX6_man 1 = .ok (.iload_n 1, 1) := by decide +kernel
theorem dX6_man_2 : decode cX6_man 2 = .ok (.invokevirtual 105, 3) := by decide +kernel
theorem dX6_man_5 : decode cX6_man 5 = .ok (.ifCond .ne 5, 3) := by decide +kernel
theorem dX6_man_8 : decode cX6_man 8 = .ok (.iconst (-1), 1) := by decide +kernel
theorem dX6_man_9 : decode cX6_man 9 = .ok (.ireturn, 1) := by decide +kernel
theorem dX6_man_10 : decode cX6_man 10 = .ok (.aload_n 0, 1) := by decide +kernel
theorem dX6_man_11 : decode cX6_man 11 = .ok (.getfield 29, 3) := by decide +kernel
theorem dX6_man_14 : decode cX6_man 14 = .ok (.iload_n 1, 1) := by decide +kernel
theorem dX6_man_15 : decode cX6_man 15 = .ok (.invokevirtual 108, 3) := by decide +kernel
theorem dX6_man_18 : decode cX6_man 18 = .ok (.istore_n 3, 1) := by decide +kernel
theorem dX6_man_19 : decode cX6_man 19 = .ok (.iload_n 2, 1) := by decide +kernel
theorem dX6_man_20 : decode cX6_man 20 = .ok (.tableswitch 63 0 2 #[28, 38, 40], 28) := by decide +kernel
theorem dX6_man_48 : decode cX6_man 48 = .ok (.aload_n 0, 1) := by decide +kernel
theorem dX6_man_49 : decode cX6_man 49 = .ok (.getfield 29, 3) := by decide +kernel
theorem dX6_man_52 : decode cX6_man 52 = .ok (.getfield 111, 3) := by decide +kernel
theorem dX6_man_55 : decode cX6_man 55 = .ok (.iload_n 1, 1) := by decide +kernel
theorem dX6_man_56 : decode cX6_man 56 = .ok (.iaload, 1) := by decide +kernel
theorem dX6_man_57 : decode cX6_man 57 = .ok (.ireturn, 1) := by decide +kernel
theorem dX6_man_58 : decode cX6_man 58 = .ok (.iload_n 3, 1) := by decide +kernel
theorem dX6_man_59 : decode cX6_man 59 = .ok (.ireturn, 1) := by decide +kernel
theorem dX6_man_60 : decode cX6_man 60 = .ok (.iload_n 3, 1) := by decide +kernel
theorem dX6_man_61 : decode cX6_man 61 = .ok (.bipush (-9), 2) := by decide +kernel
theorem dX6_man_63 : decode cX6_man 63 = .ok (.if_icmp .eq 18, 3) := by decide +kernel
theorem dX6_man_66 : decode cX6_man 66 = .ok (.aload_n 0, 1) := by decide +kernel
theorem dX6_man_67 : decode cX6_man 67 = .ok (.getfield 29, 3) := by decide +kernel
theorem dX6_man_70 : decode cX6_man 70 = .ok (.iload_n 3, 1) := by decide +kernel
theorem dX6_man_71 : decode cX6_man 71 = .ok (.invokevirtual 114, 3) := by decide +kernel
theorem dX6_man_74 : decode cX6_man 74 = .ok (.ifCond .eq 7, 3) := by decide +kernel
theorem dX6_man_77 : decode cX6_man 77 = .ok (.iconst 1, 1) := by decide +kernel
theorem dX6_man_78 : decode cX6_man 78 = .ok (.goto 4, 3) := by decide +kernel
theorem dX6_man_81 : decode cX6_man 81 = .ok (.iconst 0, 1) := by decide +kernel
theorem dX6_man_82 : decode cX6_man 82 = .ok (.ireturn, 1) := by decide +kernel
theorem dX6_man_83 : decode cX6_man 83 = .ok (.iconst (-1), 1) := by decide +kernel
theorem dX6_man_84 : decode cX6_man 84 = .ok (.ireturn, 1) := by decide +kernel
theorem dX6_now_0 : decode cX6_now 0 = .ok (.iload_n 1, 1) := by decide +kernel
theorem dX6_now_1 : decode cX6_now 1 = .ok (.tableswitch 79 0 4 #[35, 43, 51, 59, 71], 35) := by decide +kernel
theorem dX6_now_36 : decode cX6_now 36 = .ok (.aload_n 0, 1) := by decide +kernel
theorem dX6_now_37 : decode cX6_now 37 = .ok (.getfield 29, 3) := by decide +kernel
theorem dX6_now_40 : decode cX6_now 40 = .ok (.getfield 117, 3) := by decide +kernel
theorem dX6_now_43 : decode cX6_now 43 = .ok (.ireturn, 1) := by decide +kernel
theorem dX6_now_44 : decode cX6_now 44 = .ok (.aload_n 0, 1) := by decide +kernel
theorem dX6_now_45 : decode cX6_now 45 = .ok (.getfield 29, 3) := by decide +kernel
theorem dX6_now_48 : decode cX6_now 48 = .ok (.invokevirtual 120, 3) := by decide +kernel
theorem dX6_now_51 : decode cX6_now 51 = .ok (.ireturn, 1) := by decide +kernel
theorem dX6_now_52 : decode cX6_now 52 = .ok (.aload_n 0, 1) := by decide +kernel
theorem dX6_now_53 : decode cX6_now 53 = .ok (.getfield 29, 3) := by decide +kernel
theorem dX6_now_56 : decode cX6_now 56 = .ok (.invokevirtual 124, 3) := by decide +kernel
theorem dX6_now_59 : decode cX6_now 59 = .ok (.ireturn, 1) := by decide +kernel
theorem dX6_now_60 : decode cX6_now 60 = .ok (.aload_n 0, 1) := by decide +kernel
theorem dX6_now_61 : decode cX6_now 61 = .ok (.getfield 29, 3) := by decide +kernel
theorem dX6_now_64 : decode cX6_now 64 = .ok (.aload_n 0, 1) := by decide +kernel
theorem dX6_now_65 : decode cX6_now 65 = .ok (.getfield 19, 3) := by decide +kernel
theorem dX6_now_68 : decode cX6_now 68 = .ok (.invokevirtual 127, 3) := by decide +kernel
theorem dX6_now_71 : decode cX6_now 71 = .ok (.ireturn, 1) := by decide +kernel
theorem dX6_now_72 : decode cX6_now 72 = .ok (.aload_n 0, 1) := by decide +kernel
theorem dX6_now_73 : decode cX6_now 73 = .ok (.getfield 39, 3) := by decide +kernel
theorem dX6_now_76 : decode cX6_now 76 = .ok (.getfield 130, 3) := by decide +kernel
theorem dX6_now_79 : decode cX6_now 79 = .ok (.ireturn, 1) := by decide +kernel
theorem dX6_now_80 : decode cX6_now 80 = .ok (.iconst (-1), 1) := by decide +kernel
theorem dX6_now_81 : decode cX6_now 81 = .ok (.ireturn, 1) := by decide +kernel
theorem dX6_sends_0 : decode cX6_sends 0 = .ok (.aload_n 0, 1) := by decide +kernel
theorem dX6_sends_1 : decode cX6_sends 1 = .ok (.iload_n 1, 1) := by decide +kernel
theorem dX6_sends_2 : decode cX6_sends 2 = .ok (.invokevirtual 105, 3) := by decide +kernel
theorem dX6_sends_5 : decode cX6_sends 5 = .ok (.ifCond .eq 11, 3) := by decide +kernel
theorem dX6_sends_8 : decode cX6_sends 8 = .ok (.aload_n 0, 1) := by decide +kernel
theorem dX6_sends_9 : decode cX6_sends 9 = .ok (.iload_n 2, 1) := by decide +kernel
theorem dX6_sends_10 : decode cX6_sends 10 = .ok (.invokevirtual 88, 3) := by decide +kernel
theorem dX6_sends_13 : decode cX6_sends 13 = .ok (.ifCond .ne 5, 3) := by decide +kernel
theorem dX6_sends_16 : decode cX6_sends 16 = .ok (.iconst (-1), 1) := by decide +kernel
theorem dX6_sends_17 : decode cX6_sends 17 = .ok (.ireturn, 1) := by decide +kernel
theorem dX6_sends_18 : decode cX6_sends 18 = .ok (.aload_n 0, 1) := by decide +kernel
theorem dX6_sends_19 : decode cX6_sends 19 = .ok (.getfield 29, 3) := by decide +kernel
theorem dX6_sends_22 : decode cX6_sends 22 = .ok (.getfield 99, 3) := by decide +kernel
theorem dX6_sends_25 : decode cX6_sends 25 = .ok (.iload_n 2, 1) := by decide +kernel
theorem dX6_sends_26 : decode cX6_sends 26 = .ok (.iaload, 1) := by decide +kernel
theorem dX6_sends_27 : decode cX6_sends 27 = .ok (.bipush (-9), 2) := by decide +kernel
theorem dX6_sends_29 : decode cX6_sends 29 = .ok (.if_icmp .ne 16, 3) := by decide +kernel
theorem dX6_sends_32 : decode cX6_sends 32 = .ok (.aload_n 0, 1) := by decide +kernel
theorem dX6_sends_33 : decode cX6_sends 33 = .ok (.getfield 29, 3) := by decide +kernel
theorem dX6_sends_36 : decode cX6_sends 36 = .ok (.iload_n 1, 1) := by decide +kernel
theorem dX6_sends_37 : decode cX6_sends 37 = .ok (.invokevirtual 108, 3) := by decide +kernel
theorem dX6_sends_40 : decode cX6_sends 40 = .ok (.bipush (-9), 2) := by decide +kernel
theorem dX6_sends_42 : decode cX6_sends 42 = .ok (.if_icmp .eq 6, 3) := by decide +kernel
theorem dX6_sends_45 : decode cX6_sends 45 = .ok (.bipush (-2), 2) := by decide +kernel
theorem dX6_sends_47 : decode cX6_sends 47 = .ok (.ireturn, 1) := by decide +kernel
theorem dX6_sends_48 : decode cX6_sends 48 = .ok (.aload_n 0, 1) := by decide +kernel
theorem dX6_sends_49 : decode cX6_sends 49 = .ok (.getfield 39, 3) := by decide +kernel
theorem dX6_sends_52 : decode cX6_sends 52 = .ok (.aload_n 0, 1) := by decide +kernel
theorem dX6_sends_53 : decode cX6_sends 53 = .ok (.getfield 29, 3) := by decide +kernel
theorem dX6_sends_56 : decode cX6_sends 56 = .ok (.invokevirtual 133, 3) := by decide +kernel
theorem dX6_sends_59 : decode cX6_sends 59 = .ok (.aload_n 0, 1) := by decide +kernel
theorem dX6_sends_60 : decode cX6_sends 60 = .ok (.getfield 29, 3) := by decide +kernel
theorem dX6_sends_63 : decode cX6_sends 63 = .ok (.iload_n 1, 1) := by decide +kernel
theorem dX6_sends_64 : decode cX6_sends 64 = .ok (.iload_n 2, 1) := by decide +kernel
theorem dX6_sends_65 : decode cX6_sends 65 = .ok (.invokevirtual 137, 3) := by decide +kernel
theorem dX6_sends_68 : decode cX6_sends 68 = .ok (.aload_n 0, 1) := by decide +kernel
theorem dX6_sends_69 : decode cX6_sends 69 = .ok (.getfield 29, 3) := by decide +kernel
theorem dX6_sends_72 : decode cX6_sends 72 = .ok (.invokevirtual 120, 3) := by decide +kernel
theorem dX6_sends_75 : decode cX6_sends 75 = .ok (.invokestatic 141, 3) := by decide +kernel
theorem dX6_sends_78 : decode cX6_sends 78 = .ok (.ireturn, 1) := by decide +kernel
theorem dX6_calls_0 : decode cX6_calls 0 = .ok (.aload_n 0, 1) := by decide +kernel
theorem dX6_calls_1 : decode cX6_calls 1 = .ok (.iload_n 1, 1) := by decide +kernel
theorem dX6_calls_2 : decode cX6_calls 2 = .ok (.invokevirtual 88, 3) := by decide +kernel
theorem dX6_calls_5 : decode cX6_calls 5 = .ok (.ifCond .ne 5, 3) := by decide +kernel
theorem dX6_calls_8 : decode cX6_calls 8 = .ok (.iconst (-1), 1) := by decide +kernel
theorem dX6_calls_9 : decode cX6_calls 9 = .ok (.ireturn, 1) := by decide +kernel
theorem dX6_calls_10 : decode cX6_calls 10 = .ok (.aload_n 0, 1) := by decide +kernel
theorem dX6_calls_11 : decode cX6_calls 11 = .ok (.getfield 29, 3) := by decide +kernel
theorem dX6_calls_14 : decode cX6_calls 14 = .ok (.getfield 99, 3) := by decide +kernel
theorem dX6_calls_17 : decode cX6_calls 17 = .ok (.iload_n 1, 1) := by decide +kernel
theorem dX6_calls_18 : decode cX6_calls 18 = .ok (.iaload, 1) := by decide +kernel
theorem dX6_calls_19 : decode cX6_calls 19 = .ok (.istore_n 2, 1) := by decide +kernel
theorem dX6_calls_20 : decode cX6_calls 20 = .ok (.iload_n 2, 1) := by decide +kernel
theorem dX6_calls_21 : decode cX6_calls 21 = .ok (.bipush (-9), 2) := by decide +kernel
theorem dX6_calls_23 : decode cX6_calls 23 = .ok (.if_icmp .ne 6, 3) := by decide +kernel
theorem dX6_calls_26 : decode cX6_calls 26 = .ok (.bipush (-2), 2) := by decide +kernel
theorem dX6_calls_28 : decode cX6_calls 28 = .ok (.ireturn, 1) := by decide +kernel
theorem dX6_calls_29 : decode cX6_calls 29 = .ok (.aload_n 0, 1) := by decide +kernel
theorem dX6_calls_30 : decode cX6_calls 30 = .ok (.getfield 39, 3) := by decide +kernel
theorem dX6_calls_33 : decode cX6_calls 33 = .ok (.aload_n 0, 1) := by decide +kernel
theorem dX6_calls_34 : decode cX6_calls 34 = .ok (.getfield 29, 3) := by decide +kernel
theorem dX6_calls_37 : decode cX6_calls 37 = .ok (.invokevirtual 133, 3) := by decide +kernel
theorem dX6_calls_40 : decode cX6_calls 40 = .ok (.aload_n 0, 1) := by decide +kernel
theorem dX6_calls_41 : decode cX6_calls 41 = .ok (.getfield 29, 3) := by decide +kernel
theorem dX6_calls_44 : decode cX6_calls 44 = .ok (.bipush (-9), 2) := by decide +kernel
theorem dX6_calls_46 : decode cX6_calls 46 = .ok (.iload_n 1, 1) := by decide +kernel
theorem dX6_calls_47 : decode cX6_calls 47 = .ok (.invokevirtual 137, 3) := by decide +kernel
theorem dX6_calls_50 : decode cX6_calls 50 = .ok (.iload_n 2, 1) := by decide +kernel
theorem dX6_calls_51 : decode cX6_calls 51 = .ok (.ireturn, 1) := by decide +kernel
theorem dX6_hour_0 : decode cX6_hour 0 = .ok (.aload_n 0, 1) := by decide +kernel
theorem dX6_hour_1 : decode cX6_hour 1 = .ok (.getfield 29, 3) := by decide +kernel
theorem dX6_hour_4 : decode cX6_hour 4 = .ok (.getfield 117, 3) := by decide +kernel
theorem dX6_hour_7 : decode cX6_hour 7 = .ok (.sipush 200, 3) := by decide +kernel
theorem dX6_hour_10 : decode cX6_hour 10 = .ok (.if_icmp .lt 6, 3) := by decide +kernel
theorem dX6_hour_13 : decode cX6_hour 13 = .ok (.bipush (-2), 2) := by decide +kernel
theorem dX6_hour_15 : decode cX6_hour 15 = .ok (.ireturn, 1) := by decide +kernel
theorem dX6_hour_16 : decode cX6_hour 16 = .ok (.aload_n 0, 1) := by decide +kernel
theorem dX6_hour_17 : decode cX6_hour 17 = .ok (.getfield 39, 3) := by decide +kernel
theorem dX6_hour_20 : decode cX6_hour 20 = .ok (.aload_n 0, 1) := by decide +kernel
theorem dX6_hour_21 : decode cX6_hour 21 = .ok (.getfield 29, 3) := by decide +kernel
theorem dX6_hour_24 : decode cX6_hour 24 = .ok (.invokevirtual 133, 3) := by decide +kernel
theorem dX6_hour_27 : decode cX6_hour 27 = .ok (.aload_n 0, 1) := by decide +kernel
theorem dX6_hour_28 : decode cX6_hour 28 = .ok (.getfield 29, 3) := by decide +kernel
theorem dX6_hour_31 : decode cX6_hour 31 = .ok (.aload_n 0, 1) := by decide +kernel
theorem dX6_hour_32 : decode cX6_hour 32 = .ok (.getfield 19, 3) := by decide +kernel
theorem dX6_hour_35 : decode cX6_hour 35 = .ok (.invokevirtual 146, 3) := by decide +kernel
theorem dX6_hour_38 : decode cX6_hour 38 = .ok (.aload_n 0, 1) := by decide +kernel
theorem dX6_hour_39 : decode cX6_hour 39 = .ok (.getfield 29, 3) := by decide +kernel
theorem dX6_hour_42 : decode cX6_hour 42 = .ok (.invokevirtual 124, 3) := by decide +kernel
theorem dX6_hour_45 : decode cX6_hour 45 = .ok (.ireturn, 1) := by decide +kernel
theorem dX6_relieves_0 : decode cX6_relieves 0 = .ok (.aload_n 0, 1) := by decide +kernel
theorem dX6_relieves_1 : decode cX6_relieves 1 = .ok (.iload_n 1, 1) := by decide +kernel
theorem dX6_relieves_2 : decode cX6_relieves 2 = .ok (.invokevirtual 88, 3) := by decide +kernel
theorem dX6_relieves_5 : decode cX6_relieves 5 = .ok (.ifCond .eq 12, 3) := by decide +kernel
theorem dX6_relieves_8 : decode cX6_relieves 8 = .ok (.iload_n 2, 1) := by decide +kernel
theorem dX6_relieves_9 : decode cX6_relieves 9 = .ok (.iconst 0, 1) := by decide +kernel
theorem dX6_relieves_10 : decode cX6_relieves 10 = .ok (.iconst 1, 1) := by decide +kernel
theorem dX6_relieves_11 : decode cX6_relieves 11 = .ok (.invokestatic 65, 3) := by decide +kernel
theorem dX6_relieves_14 : decode cX6_relieves 14 = .ok (.ifCond .ne 5, 3) := by decide +kernel
theorem dX6_relieves_17 : decode cX6_relieves 17 = .ok (.iconst (-1), 1) := by decide +kernel
theorem dX6_relieves_18 : decode cX6_relieves 18 = .ok (.ireturn, 1) := by decide +kernel
theorem dX6_relieves_19 : decode cX6_relieves 19 = .ok (.aload_n 0, 1) := by decide +kernel
theorem dX6_relieves_20 : decode cX6_relieves 20 = .ok (.getfield 39, 3) := by decide +kernel
theorem dX6_relieves_23 : decode cX6_relieves 23 = .ok (.aload_n 0, 1) := by decide +kernel
theorem dX6_relieves_24 : decode cX6_relieves 24 = .ok (.getfield 29, 3) := by decide +kernel
theorem dX6_relieves_27 : decode cX6_relieves 27 = .ok (.invokevirtual 133, 3) := by decide +kernel
theorem dX6_relieves_30 : decode cX6_relieves 30 = .ok (.aload_n 0, 1) := by decide +kernel
theorem dX6_relieves_31 : decode cX6_relieves 31 = .ok (.getfield 29, 3) := by decide +kernel
theorem dX6_relieves_34 : decode cX6_relieves 34 = .ok (.aload_n 0, 1) := by decide +kernel
theorem dX6_relieves_35 : decode cX6_relieves 35 = .ok (.getfield 19, 3) := by decide +kernel
theorem dX6_relieves_38 : decode cX6_relieves 38 = .ok (.iload_n 1, 1) := by decide +kernel
theorem dX6_relieves_39 : decode cX6_relieves 39 = .ok (.iload_n 2, 1) := by decide +kernel
theorem dX6_relieves_40 : decode cX6_relieves 40 = .ok (.invokevirtual 149, 3) := by decide +kernel
theorem dX6_relieves_43 : decode cX6_relieves 43 = .ok (.ireturn, 1) := by decide +kernel
theorem dX6_undo_0 : decode cX6_undo 0 = .ok (.aload_n 0, 1) := by decide +kernel
theorem dX6_undo_1 : decode cX6_undo 1 = .ok (.getfield 39, 3) := by decide +kernel
theorem dX6_undo_4 : decode cX6_undo 4 = .ok (.getfield 130, 3) := by decide +kernel
theorem dX6_undo_7 : decode cX6_undo 7 = .ok (.ifCond .ne 6, 3) := by decide +kernel
theorem dX6_undo_10 : decode cX6_undo 10 = .ok (.bipush (-2), 2) := by decide +kernel
theorem dX6_undo_12 : decode cX6_undo 12 = .ok (.ireturn, 1) := by decide +kernel
theorem dX6_undo_13 : decode cX6_undo 13 = .ok (.aload_n 0, 1) := by decide +kernel
theorem dX6_undo_14 : decode cX6_undo 14 = .ok (.getfield 39, 3) := by decide +kernel
theorem dX6_undo_17 : decode cX6_undo 17 = .ok (.aload_n 0, 1) := by decide +kernel
theorem dX6_undo_18 : decode cX6_undo 18 = .ok (.getfield 29, 3) := by decide +kernel
theorem dX6_undo_21 : decode cX6_undo 21 = .ok (.invokevirtual 153, 3) := by decide +kernel
theorem dX6_undo_24 : decode cX6_undo 24 = .ok (.aload_n 0, 1) := by decide +kernel
theorem dX6_undo_25 : decode cX6_undo 25 = .ok (.getfield 39, 3) := by decide +kernel
theorem dX6_undo_28 : decode cX6_undo 28 = .ok (.getfield 130, 3) := by decide +kernel
theorem dX6_undo_31 : decode cX6_undo 31 = .ok (.ireturn, 1) := by decide +kernel
theorem dX6_inHours_0 : decode cX6_inHours 0 = .ok (.iload_n 1, 1) := by decide +kernel
theorem dX6_inHours_1 : decode cX6_inHours 1 = .ok (.iconst 0, 1) := by decide +kernel
end
section
theorem dX6_inHours_2 : decode cX6_inHours 2 = .ok (.bipush 60, 2) := by decide +kernel
theorem dX6_inHours_4 : decode cX6_inHours 4 = .ok (.invokestatic 65, 3) := by decide +kernel
theorem dX6_inHours_7 : decode cX6_inHours 7 = .ok (.ifCond .eq 21, 3) := by decide +kernel
theorem dX6_inHours_10 : decode cX6_inHours 10 = .ok (.iload_n 2, 1) := by decide +kernel
theorem dX6_inHours_11 : decode cX6_inHours 11 = .ok (.iconst 0, 1) := by decide +kernel
theorem dX6_inHours_12 : decode cX6_inHours 12 = .ok (.iconst 1, 1) := by decide +kernel
theorem dX6_inHours_13 : decode cX6_inHours 13 = .ok (.invokestatic 65, 3) := by decide +kernel
theorem dX6_inHours_16 : decode cX6_inHours 16 = .ok (.ifCond .eq 12, 3) := by decide +kernel
theorem dX6_inHours_19 : decode cX6_inHours 19 = .ok (.iload_n 3, 1) := by decide +kernel
theorem dX6_inHours_20 : decode cX6_inHours 20 = .ok (.iconst 0, 1) := by decide +kernel
theorem dX6_inHours_21 : decode cX6_inHours 21 = .ok (.iconst 2, 1) := by decide +kernel
theorem dX6_inHours_22 : decode cX6_inHours 22 = .ok (.invokestatic 65, 3) := by decide +kernel
theorem dX6_inHours_25 : decode cX6_inHours 25 = .ok (.ifCond .ne 5, 3) := by decide +kernel
theorem dX6_inHours_28 : decode cX6_inHours 28 = .ok (.iconst (-1), 1) := by decide +kernel
theorem dX6_inHours_29 : decode cX6_inHours 29 = .ok (.ireturn, 1) := by decide +kernel
theorem dX6_inHours_30 : decode cX6_inHours 30 = .ok (.aload_n 0, 1) := by decide +kernel
theorem dX6_inHours_31 : decode cX6_inHours 31 = .ok (.getfield 33, 3) := by decide +kernel
theorem dX6_inHours_34 : decode cX6_inHours 34 = .ok (.aload_n 0, 1) := by decide +kernel
theorem dX6_inHours_35 : decode cX6_inHours 35 = .ok (.getfield 29, 3) := by decide +kernel
theorem dX6_inHours_38 : decode cX6_inHours 38 = .ok (.invokevirtual 156, 3) := by decide +kernel
theorem dX6_inHours_41 : decode cX6_inHours 41 = .ok (.aload_n 0, 1) := by decide +kernel
theorem dX6_inHours_42 : decode cX6_inHours 42 = .ok (.getfield 33, 3) := by decide +kernel
theorem dX6_inHours_45 : decode cX6_inHours 45 = .ok (.invokevirtual 124, 3) := by decide +kernel
theorem dX6_inHours_48 : decode cX6_inHours 48 = .ok (.invokestatic 141, 3) := by decide +kernel
theorem dX6_inHours_51 : decode cX6_inHours 51 = .ok (.istore 4, 2) := by decide +kernel
theorem dX6_inHours_53 : decode cX6_inHours 53 = .ok (.iconst 0, 1) := by decide +kernel
theorem dX6_inHours_54 : decode cX6_inHours 54 = .ok (.istore 5, 2) := by decide +kernel
theorem dX6_inHours_56 : decode cX6_inHours 56 = .ok (.iload 5, 2) := by decide +kernel
theorem dX6_inHours_58 : decode cX6_inHours 58 = .ok (.iload_n 1, 1) := by decide +kernel
theorem dX6_inHours_59 : decode cX6_inHours 59 = .ok (.if_icmp .ge 38, 3) := by decide +kernel
theorem dX6_inHours_62 : decode cX6_inHours 62 = .ok (.aload_n 0, 1) := by decide +kernel
theorem dX6_inHours_63 : decode cX6_inHours 63 = .ok (.getfield 33, 3) := by decide +kernel
theorem dX6_inHours_66 : decode cX6_inHours 66 = .ok (.aload_n 0, 1) := by decide +kernel
theorem dX6_inHours_67 : decode cX6_inHours 67 = .ok (.getfield 19, 3) := by decide +kernel
theorem dX6_inHours_70 : decode cX6_inHours 70 = .ok (.iload_n 2, 1) := by decide +kernel
theorem dX6_inHours_71 : decode cX6_inHours 71 = .ok (.invokevirtual 158, 3) := by decide +kernel
theorem dX6_inHours_74 : decode cX6_inHours 74 = .ok (.iload 4, 2) := by decide +kernel
theorem dX6_inHours_76 : decode cX6_inHours 76 = .ok (.aload_n 0, 1) := by decide +kernel
theorem dX6_inHours_77 : decode cX6_inHours 77 = .ok (.getfield 33, 3) := by decide +kernel
theorem dX6_inHours_80 : decode cX6_inHours 80 = .ok (.invokevirtual 124, 3) := by decide +kernel
theorem dX6_inHours_83 : decode cX6_inHours 83 = .ok (.invokestatic 141, 3) := by decide +kernel
theorem dX6_inHours_86 : decode cX6_inHours 86 = .ok (.invokestatic 162, 3) := by decide +kernel
theorem dX6_inHours_89 : decode cX6_inHours 89 = .ok (.istore 4, 2) := by decide +kernel
theorem dX6_inHours_91 : decode cX6_inHours 91 = .ok (.iinc 5 1, 3) := by decide +kernel
theorem dX6_inHours_94 : decode cX6_inHours 94 = .ok (.goto (-38), 3) := by decide +kernel
theorem dX6_inHours_97 : decode cX6_inHours 97 = .ok (.iload_n 3, 1) := by decide +kernel
theorem dX6_inHours_98 : decode cX6_inHours 98 = .ok (.ifCond .ne 11, 3) := by decide +kernel
theorem dX6_inHours_101 : decode cX6_inHours 101 = .ok (.aload_n 0, 1) := by decide +kernel
theorem dX6_inHours_102 : decode cX6_inHours 102 = .ok (.getfield 33, 3) := by decide +kernel
theorem dX6_inHours_105 : decode cX6_inHours 105 = .ok (.invokevirtual 124, 3) := by decide +kernel
theorem dX6_inHours_108 : decode cX6_inHours 108 = .ok (.ireturn, 1) := by decide +kernel
theorem dX6_inHours_109 : decode cX6_inHours 109 = .ok (.iload_n 3, 1) := by decide +kernel
theorem dX6_inHours_110 : decode cX6_inHours 110 = .ok (.iconst 1, 1) := by decide +kernel
theorem dX6_inHours_111 : decode cX6_inHours 111 = .ok (.if_icmp .ne 8, 3) := by decide +kernel
theorem dX6_inHours_114 : decode cX6_inHours 114 = .ok (.iload 4, 2) := by decide +kernel
theorem dX6_inHours_116 : decode cX6_inHours 116 = .ok (.goto 14, 3) := by decide +kernel
theorem dX6_inHours_119 : decode cX6_inHours 119 = .ok (.aload_n 0, 1) := by decide +kernel
theorem dX6_inHours_120 : decode cX6_inHours 120 = .ok (.getfield 33, 3) := by decide +kernel
theorem dX6_inHours_123 : decode cX6_inHours 123 = .ok (.aload_n 0, 1) := by decide +kernel
theorem dX6_inHours_124 : decode cX6_inHours 124 = .ok (.getfield 19, 3) := by decide +kernel
theorem dX6_inHours_127 : decode cX6_inHours 127 = .ok (.invokevirtual 168, 3) := by decide +kernel
theorem dX6_inHours_130 : decode cX6_inHours 130 = .ok (.ireturn, 1) := by decide +kernel
theorem dX6_round_0 : decode cX6_round 0 = .ok (.iload_n 1, 1) := by decide +kernel
theorem dX6_round_1 : decode cX6_round 1 = .ok (.iconst 0, 1) := by decide +kernel
theorem dX6_round_2 : decode cX6_round 2 = .ok (.iconst 1, 1) := by decide +kernel
theorem dX6_round_3 : decode cX6_round 3 = .ok (.invokestatic 65, 3) := by decide +kernel
theorem dX6_round_6 : decode cX6_round 6 = .ok (.ifCond .ne 5, 3) := by decide +kernel
theorem dX6_round_9 : decode cX6_round 9 = .ok (.iconst (-1), 1) := by decide +kernel
theorem dX6_round_10 : decode cX6_round 10 = .ok (.ireturn, 1) := by decide +kernel
theorem dX6_round_11 : decode cX6_round 11 = .ok (.bipush (-9), 2) := by decide +kernel
theorem dX6_round_13 : decode cX6_round 13 = .ok (.istore_n 2, 1) := by decide +kernel
theorem dX6_round_14 : decode cX6_round 14 = .ok (.bipush (-9), 2) := by decide +kernel
theorem dX6_round_16 : decode cX6_round 16 = .ok (.istore_n 3, 1) := by decide +kernel
theorem dX6_round_17 : decode cX6_round 17 = .ok (.iconst 1, 1) := by decide +kernel
theorem dX6_round_18 : decode cX6_round 18 = .ok (.istore 4, 2) := by decide +kernel
theorem dX6_round_20 : decode cX6_round 20 = .ok (.iload 4, 2) := by decide +kernel
theorem dX6_round_22 : decode cX6_round 22 = .ok (.ifCond .lt 90, 3) := by decide +kernel
theorem dX6_round_25 : decode cX6_round 25 = .ok (.iconst 0, 1) := by decide +kernel
theorem dX6_round_26 : decode cX6_round 26 = .ok (.istore 5, 2) := by decide +kernel
theorem dX6_round_28 : decode cX6_round 28 = .ok (.iload 5, 2) := by decide +kernel
theorem dX6_round_30 : decode cX6_round 30 = .ok (.aload_n 0, 1) := by decide +kernel
theorem dX6_round_31 : decode cX6_round 31 = .ok (.getfield 19, 3) := by decide +kernel
theorem dX6_round_34 : decode cX6_round 34 = .ok (.getfield 171, 3) := by decide +kernel
theorem dX6_round_37 : decode cX6_round 37 = .ok (.if_icmp .ge 69, 3) := by decide +kernel
theorem dX6_round_40 : decode cX6_round 40 = .ok (.aload_n 0, 1) := by decide +kernel
theorem dX6_round_41 : decode cX6_round 41 = .ok (.getfield 33, 3) := by decide +kernel
theorem dX6_round_44 : decode cX6_round 44 = .ok (.aload_n 0, 1) := by decide +kernel
theorem dX6_round_45 : decode cX6_round 45 = .ok (.getfield 29, 3) := by decide +kernel
theorem dX6_round_48 : decode cX6_round 48 = .ok (.invokevirtual 156, 3) := by decide +kernel
theorem dX6_round_51 : decode cX6_round 51 = .ok (.aload_n 0, 1) := by decide +kernel
theorem dX6_round_52 : decode cX6_round 52 = .ok (.getfield 33, 3) := by decide +kernel
theorem dX6_round_55 : decode cX6_round 55 = .ok (.aload_n 0, 1) := by decide +kernel
theorem dX6_round_56 : decode cX6_round 56 = .ok (.getfield 19, 3) := by decide +kernel
theorem dX6_round_59 : decode cX6_round 59 = .ok (.iload 5, 2) := by decide +kernel
theorem dX6_round_61 : decode cX6_round 61 = .ok (.iload 4, 2) := by decide +kernel
theorem dX6_round_63 : decode cX6_round 63 = .ok (.invokevirtual 149, 3) := by decide +kernel
theorem dX6_round_66 : decode cX6_round 66 = .ok (.pop, 1) := by decide +kernel
theorem dX6_round_67 : decode cX6_round 67 = .ok (.aload_n 0, 1) := by decide +kernel
theorem dX6_round_68 : decode cX6_round 68 = .ok (.getfield 33, 3) := by decide +kernel
theorem dX6_round_71 : decode cX6_round 71 = .ok (.invokevirtual 174, 3) := by decide +kernel
theorem dX6_round_74 : decode cX6_round 74 = .ok (.istore 6, 2) := by decide +kernel
theorem dX6_round_76 : decode cX6_round 76 = .ok (.iload_n 2, 1) := by decide +kernel
theorem dX6_round_77 : decode cX6_round 77 = .ok (.bipush (-9), 2) := by decide +kernel
theorem dX6_round_79 : decode cX6_round 79 = .ok (.if_icmp .eq 9, 3) := by decide +kernel
theorem dX6_round_82 : decode cX6_round 82 = .ok (.iload 6, 2) := by decide +kernel
theorem dX6_round_84 : decode cX6_round 84 = .ok (.iload_n 3, 1) := by decide +kernel
theorem dX6_round_85 : decode cX6_round 85 = .ok (.if_icmp .ge 15, 3) := by decide +kernel
theorem dX6_round_88 : decode cX6_round 88 = .ok (.bipush 10, 2) := by decide +kernel
theorem dX6_round_90 : decode cX6_round 90 = .ok (.iload 4, 2) := by decide +kernel
theorem dX6_round_92 : decode cX6_round 92 = .ok (.imul, 1) := by decide +kernel
theorem dX6_round_93 : decode cX6_round 93 = .ok (.iload 5, 2) := by decide +kernel
theorem dX6_round_95 : decode cX6_round 95 = .ok (.iadd, 1) := by decide +kernel
theorem dX6_round_96 : decode cX6_round 96 = .ok (.istore_n 2, 1) := by decide +kernel
theorem dX6_round_97 : decode cX6_round 97 = .ok (.iload 6, 2) := by decide +kernel
theorem dX6_round_99 : decode cX6_round 99 = .ok (.istore_n 3, 1) := by decide +kernel
theorem dX6_round_100 : decode cX6_round 100 = .ok (.iinc 5 1, 3) := by decide +kernel
theorem dX6_round_103 : decode cX6_round 103 = .ok (.goto (-75), 3) := by decide +kernel
theorem dX6_round_106 : decode cX6_round 106 = .ok (.iinc 4 (-1), 3) := by decide +kernel
theorem dX6_round_109 : decode cX6_round 109 = .ok (.goto (-89), 3) := by decide +kernel
theorem dX6_round_112 : decode cX6_round 112 = .ok (.iload_n 1, 1) := by decide +kernel
theorem dX6_round_113 : decode cX6_round 113 = .ok (.ifCond .ne 7, 3) := by decide +kernel
theorem dX6_round_116 : decode cX6_round 116 = .ok (.iload_n 2, 1) := by decide +kernel
theorem dX6_round_117 : decode cX6_round 117 = .ok (.goto 4, 3) := by decide +kernel
theorem dX6_round_120 : decode cX6_round 120 = .ok (.iload_n 3, 1) := by decide +kernel
theorem dX6_round_121 : decode cX6_round 121 = .ok (.ireturn, 1) := by decide +kernel
theorem dX6_rota_0 : decode cX6_rota 0 = .ok (.iload_n 1, 1) := by decide +kernel
theorem dX6_rota_1 : decode cX6_rota 1 = .ok (.iconst (-1), 1) := by decide +kernel
theorem dX6_rota_2 : decode cX6_rota 2 = .ok (.if_icmp .eq 13, 3) := by decide +kernel
theorem dX6_rota_5 : decode cX6_rota 5 = .ok (.aload_n 0, 1) := by decide +kernel
theorem dX6_rota_6 : decode cX6_rota 6 = .ok (.iload_n 1, 1) := by decide +kernel
theorem dX6_rota_7 : decode cX6_rota 7 = .ok (.invokevirtual 88, 3) := by decide +kernel
theorem dX6_rota_10 : decode cX6_rota 10 = .ok (.ifCond .ne 5, 3) := by decide +kernel
theorem dX6_rota_13 : decode cX6_rota 13 = .ok (.iconst (-1), 1) := by decide +kernel
theorem dX6_rota_14 : decode cX6_rota 14 = .ok (.ireturn, 1) := by decide +kernel
theorem dX6_rota_15 : decode cX6_rota 15 = .ok (.aload_n 0, 1) := by decide +kernel
theorem dX6_rota_16 : decode cX6_rota 16 = .ok (.getfield 19, 3) := by decide +kernel
theorem dX6_rota_19 : decode cX6_rota 19 = .ok (.getfield 171, 3) := by decide +kernel
theorem dX6_rota_22 : decode cX6_rota 22 = .ok (.ifCond .eq 20, 3) := by decide +kernel
theorem dX6_rota_25 : decode cX6_rota 25 = .ok (.aload_n 0, 1) := by decide +kernel
theorem dX6_rota_26 : decode cX6_rota 26 = .ok (.getfield 19, 3) := by decide +kernel
theorem dX6_rota_29 : decode cX6_rota 29 = .ok (.getfield 177, 3) := by decide +kernel
theorem dX6_rota_32 : decode cX6_rota 32 = .ok (.aload_n 0, 1) := by decide +kernel
theorem dX6_rota_33 : decode cX6_rota 33 = .ok (.getfield 19, 3) := by decide +kernel
theorem dX6_rota_36 : decode cX6_rota 36 = .ok (.getfield 171, 3) := by decide +kernel
theorem dX6_rota_39 : decode cX6_rota 39 = .ok (.if_icmp .ge 6, 3) := by decide +kernel
theorem dX6_rota_42 : decode cX6_rota 42 = .ok (.bipush (-9), 2) := by decide +kernel
theorem dX6_rota_44 : decode cX6_rota 44 = .ok (.ireturn, 1) := by decide +kernel
theorem dX6_rota_45 : decode cX6_rota 45 = .ok (.aload_n 0, 1) := by decide +kernel
theorem dX6_rota_46 : decode cX6_rota 46 = .ok (.getfield 61, 3) := by decide +kernel
theorem dX6_rota_49 : decode cX6_rota 49 = .ok (.aload_n 0, 1) := by decide +kernel
theorem dX6_rota_50 : decode cX6_rota 50 = .ok (.getfield 19, 3) := by decide +kernel
theorem dX6_rota_53 : decode cX6_rota 53 = .ok (.aload_n 0, 1) := by decide +kernel
theorem dX6_rota_54 : decode cX6_rota 54 = .ok (.getfield 29, 3) := by decide +kernel
theorem dX6_rota_57 : decode cX6_rota 57 = .ok (.invokevirtual 180, 3) := by decide +kernel
theorem dX6_rota_60 : decode cX6_rota 60 = .ok (.iload_n 1, 1) := by decide +kernel
theorem dX6_rota_61 : decode cX6_rota 61 = .ok (.iconst (-1), 1) := by decide +kernel
theorem dX6_rota_62 : decode cX6_rota 62 = .ok (.if_icmp .ne 13, 3) := by decide +kernel
theorem dX6_rota_65 : decode cX6_rota 65 = .ok (.aload_n 0, 1) := by decide +kernel
theorem dX6_rota_66 : decode cX6_rota 66 = .ok (.getfield 61, 3) := by decide +kernel
theorem dX6_rota_69 : decode cX6_rota 69 = .ok (.getfield 184, 3) := by decide +kernel
theorem dX6_rota_72 : decode cX6_rota 72 = .ok (.goto 12, 3) := by decide +kernel
theorem dX6_rota_75 : decode cX6_rota 75 = .ok (.aload_n 0, 1) := by decide +kernel
theorem dX6_rota_76 : decode cX6_rota 76 = .ok (.getfield 61, 3) := by decide +kernel
theorem dX6_rota_79 : decode cX6_rota 79 = .ok (.getfield 187, 3) := by decide +kernel
theorem dX6_rota_82 : decode cX6_rota 82 = .ok (.iload_n 1, 1) := by decide +kernel
theorem dX6_rota_83 : decode cX6_rota 83 = .ok (.iaload, 1) := by decide +kernel
theorem dX6_rota_84 : decode cX6_rota 84 = .ok (.ireturn, 1) := by decide +kernel
theorem dX6_leave_0 : decode cX6_leave 0 = .ok (.iconst 0, 1) := by decide +kernel
theorem dX6_leave_1 : decode cX6_leave 1 = .ok (.istore_n 1, 1) := by decide +kernel
theorem dX6_leave_2 : decode cX6_leave 2 = .ok (.iconst 1, 1) := by decide +kernel
theorem dX6_leave_3 : decode cX6_leave 3 = .ok (.istore_n 2, 1) := by decide +kernel
theorem dX6_leave_4 : decode cX6_leave 4 = .ok (.iload_n 2, 1) := by decide +kernel
theorem dX6_leave_5 : decode cX6_leave 5 = .ok (.aload_n 0, 1) := by decide +kernel
theorem dX6_leave_6 : decode cX6_leave 6 = .ok (.getfield 19, 3) := by decide +kernel
theorem dX6_leave_9 : decode cX6_leave 9 = .ok (.invokevirtual 190, 3) := by decide +kernel
theorem dX6_leave_12 : decode cX6_leave 12 = .ok (.if_icmp .gt 30, 3) := by decide +kernel
theorem dX6_leave_15 : decode cX6_leave 15 = .ok (.iload_n 2, 1) := by decide +kernel
theorem dX6_leave_16 : decode cX6_leave 16 = .ok (.invokestatic 141, 3) := by decide +kernel
theorem dX6_leave_19 : decode cX6_leave 19 = .ok (.iload_n 1, 1) := by decide +kernel
theorem dX6_leave_20 : decode cX6_leave 20 = .ok (.invokestatic 141, 3) := by decide +kernel
theorem dX6_leave_23 : decode cX6_leave 23 = .ok (.if_icmp .le 13, 3) := by decide +kernel
theorem dX6_leave_26 : decode cX6_leave 26 = .ok (.aload_n 0, 1) := by decide +kernel
theorem dX6_leave_27 : decode cX6_leave 27 = .ok (.iload_n 2, 1) := by decide +kernel
theorem dX6_leave_28 : decode cX6_leave 28 = .ok (.invokevirtual 193, 3) := by decide +kernel
theorem dX6_leave_31 : decode cX6_leave 31 = .ok (.ifCond .eq 5, 3) := by decide +kernel
theorem dX6_leave_34 : decode cX6_leave 34 = .ok (.iload_n 2, 1) := by decide +kernel
theorem dX6_leave_35 : decode cX6_leave 35 = .ok (.istore_n 1, 1) := by decide +kernel
theorem dX6_leave_36 : decode cX6_leave 36 = .ok (.iinc 2 1, 3) := by decide +kernel
theorem dX6_leave_39 : decode cX6_leave 39 = .ok (.goto (-35), 3) := by decide +kernel
theorem dX6_leave_42 : decode cX6_leave 42 = .ok (.iload_n 1, 1) := by decide +kernel
theorem dX6_leave_43 : decode cX6_leave 43 = .ok (.ireturn, 1) := by decide +kernel
theorem dX6_two_0 : decode cX6_two 0 = .ok (.bipush (-9), 2) := by decide +kernel
theorem dX6_two_2 : decode cX6_two 2 = .ok (.istore_n 1, 1) := by decide +kernel
theorem dX6_two_3 : decode cX6_two 3 = .ok (.iconst (-1), 1) := by decide +kernel
theorem dX6_two_4 : decode cX6_two 4 = .ok (.istore_n 2, 1) := by decide +kernel
theorem dX6_two_5 : decode cX6_two 5 = .ok (.iconst 0, 1) := by decide +kernel
theorem dX6_two_6 : decode cX6_two 6 = .ok (.istore_n 3, 1) := by decide +kernel
theorem dX6_two_7 : decode cX6_two 7 = .ok (.iload_n 3, 1) := by decide +kernel
theorem dX6_two_8 : decode cX6_two 8 = .ok (.aload_n 0, 1) := by decide +kernel
theorem dX6_two_9 : decode cX6_two 9 = .ok (.getfield 19, 3) := by decide +kernel
theorem dX6_two_12 : decode cX6_two 12 = .ok (.getfield 171, 3) := by decide +kernel
theorem dX6_two_15 : decode cX6_two 15 = .ok (.if_icmp .ge 30, 3) := by decide +kernel
theorem dX6_two_18 : decode cX6_two 18 = .ok (.aload_n 0, 1) := by decide +kernel
theorem dX6_two_19 : decode cX6_two 19 = .ok (.iload_n 3, 1) := by decide +kernel
theorem dX6_two_20 : decode cX6_two 20 = .ok (.invokevirtual 196, 3) := by decide +kernel
theorem dX6_two_23 : decode cX6_two 23 = .ok (.invokestatic 141, 3) := by decide +kernel
theorem dX6_two_26 : decode cX6_two 26 = .ok (.istore 4, 2) := by decide +kernel
theorem dX6_two_28 : decode cX6_two 28 = .ok (.iload 4, 2) := by decide +kernel
theorem dX6_two_30 : decode cX6_two 30 = .ok (.iload_n 2, 1) := by decide +kernel
theorem dX6_two_31 : decode cX6_two 31 = .ok (.if_icmp .le 8, 3) := by decide +kernel
theorem dX6_two_34 : decode cX6_two 34 = .ok (.iload 4, 2) := by decide +kernel
theorem dX6_two_36 : decode cX6_two 36 = .ok (.istore_n 2, 1) := by decide +kernel
theorem dX6_two_37 : decode cX6_two 37 = .ok (.iload_n 3, 1) := by decide +kernel
theorem dX6_two_38 : decode cX6_two 38 = .ok (.istore_n 1, 1) := by decide +kernel
theorem dX6_two_39 : decode cX6_two 39 = .ok (.iinc 3 1, 3) := by decide +kernel
theorem dX6_two_42 : decode cX6_two 42 = .ok (.goto (-35), 3) := by decide +kernel
theorem dX6_two_45 : decode cX6_two 45 = .ok (.iload_n 1, 1) := by decide +kernel
theorem dX6_two_46 : decode cX6_two 46 = .ok (.ireturn, 1) := by decide +kernel
theorem dX6_unseen_0 : decode cX6_unseen 0 = .ok (.aload_n 0, 1) := by decide +kernel
theorem dX6_unseen_1 : decode cX6_unseen 1 = .ok (.iload_n 1, 1) := by decide +kernel
theorem dX6_unseen_2 : decode cX6_unseen 2 = .ok (.invokevirtual 88, 3) := by decide +kernel
theorem dX6_unseen_5 : decode cX6_unseen 5 = .ok (.ifCond .eq 13, 3) := by decide +kernel
theorem dX6_unseen_8 : decode cX6_unseen 8 = .ok (.iload_n 2, 1) := by decide +kernel
theorem dX6_unseen_9 : decode cX6_unseen 9 = .ok (.iconst 1, 1) := by decide +kernel
theorem dX6_unseen_10 : decode cX6_unseen 10 = .ok (.bipush 12, 2) := by decide +kernel
theorem dX6_unseen_12 : decode cX6_unseen 12 = .ok (.invokestatic 65, 3) := by decide +kernel
theorem dX6_unseen_15 : decode cX6_unseen 15 = .ok (.ifCond .ne 5, 3) := by decide +kernel
theorem dX6_unseen_18 : decode cX6_unseen 18 = .ok (.iconst (-1), 1) := by decide +kernel
theorem dX6_unseen_19 : decode cX6_unseen 19 = .ok (.ireturn, 1) := by decide +kernel
theorem dX6_unseen_20 : decode cX6_unseen 20 = .ok (.aload_n 0, 1) := by decide +kernel
theorem dX6_unseen_21 : decode cX6_unseen 21 = .ok (.getfield 33, 3) := by decide +kernel
theorem dX6_unseen_24 : decode cX6_unseen 24 = .ok (.aload_n 0, 1) := by decide +kernel
theorem dX6_unseen_25 : decode cX6_unseen 25 = .ok (.getfield 29, 3) := by decide +kernel
theorem dX6_unseen_28 : decode cX6_unseen 28 = .ok (.invokevirtual 156, 3) := by decide +kernel
theorem dX6_unseen_31 : decode cX6_unseen 31 = .ok (.iconst 0, 1) := by decide +kernel
theorem dX6_unseen_32 : decode cX6_unseen 32 = .ok (.istore_n 3, 1) := by decide +kernel
theorem dX6_unseen_33 : decode cX6_unseen 33 = .ok (.iload_n 3, 1) := by decide +kernel
theorem dX6_unseen_34 : decode cX6_unseen 34 = .ok (.iload_n 2, 1) := by decide +kernel
theorem dX6_unseen_35 : decode cX6_unseen 35 = .ok (.if_icmp .ge 42, 3) := by decide +kernel
theorem dX6_unseen_38 : decode cX6_unseen 38 = .ok (.aload_n 0, 1) := by decide +kernel
theorem dX6_unseen_39 : decode cX6_unseen 39 = .ok (.getfield 33, 3) := by decide +kernel
theorem dX6_unseen_42 : decode cX6_unseen 42 = .ok (.aload_n 0, 1) := by decide +kernel
theorem dX6_unseen_43 : decode cX6_unseen 43 = .ok (.getfield 19, 3) := by decide +kernel
theorem dX6_unseen_46 : decode cX6_unseen 46 = .ok (.iconst 0, 1) := by decide +kernel
theorem dX6_unseen_47 : decode cX6_unseen 47 = .ok (.invokevirtual 158, 3) := by decide +kernel
theorem dX6_unseen_50 : decode cX6_unseen 50 = .ok (.aload_n 0, 1) := by decide +kernel
theorem dX6_unseen_51 : decode cX6_unseen 51 = .ok (.getfield 33, 3) := by decide +kernel
theorem dX6_unseen_54 : decode cX6_unseen 54 = .ok (.aload_n 0, 1) := by decide +kernel
theorem dX6_unseen_55 : decode cX6_unseen 55 = .ok (.getfield 19, 3) := by decide +kernel
theorem dX6_unseen_58 : decode cX6_unseen 58 = .ok (.invokevirtual 127, 3) := by decide +kernel
theorem dX6_unseen_61 : decode cX6_unseen 61 = .ok (.iload_n 1, 1) := by decide +kernel
theorem dX6_unseen_62 : decode cX6_unseen 62 = .ok (.ishr, 1) := by decide +kernel
theorem dX6_unseen_63 : decode cX6_unseen 63 = .ok (.iconst 1, 1) := by decide +kernel
theorem dX6_unseen_64 : decode cX6_unseen 64 = .ok (.iand, 1) := by decide +kernel
theorem dX6_unseen_65 : decode cX6_unseen 65 = .ok (.iconst 1, 1) := by decide +kernel
theorem dX6_unseen_66 : decode cX6_unseen 66 = .ok (.if_icmp .ne 5, 3) := by decide +kernel
theorem dX6_unseen_69 : decode cX6_unseen 69 = .ok (.iconst 0, 1) := by decide +kernel
theorem dX6_unseen_70 : decode cX6_unseen 70 = .ok (.ireturn, 1) := by decide +kernel
theorem dX6_unseen_71 : decode cX6_unseen 71 = .ok (.iinc 3 1, 3) := by decide +kernel
theorem dX6_unseen_74 : decode cX6_unseen 74 = .ok (.goto (-41), 3) := by decide +kernel
theorem dX6_unseen_77 : decode cX6_unseen 77 = .ok (.iconst 1, 1) := by decide +kernel
theorem dX6_unseen_78 : decode cX6_unseen 78 = .ok (.ireturn, 1) := by decide +kernel
theorem dX6_odds_0 : decode cX6_odds 0 = .ok (.iload_n 1, 1) := by decide +kernel
theorem dX6_odds_1 : decode cX6_odds 1 = .ok (.iconst 0, 1) := by decide +kernel
theorem dX6_odds_2 : decode cX6_odds 2 = .ok (.bipush 10, 2) := by decide +kernel
theorem dX6_odds_4 : decode cX6_odds 4 = .ok (.invokestatic 65, 3) := by decide +kernel
theorem dX6_odds_7 : decode cX6_odds 7 = .ok (.ifCond .eq 12, 3) := by decide +kernel
theorem dX6_odds_10 : decode cX6_odds 10 = .ok (.iload_n 2, 1) := by decide +kernel
theorem dX6_odds_11 : decode cX6_odds 11 = .ok (.iconst 0, 1) := by decide +kernel
theorem dX6_odds_12 : decode cX6_odds 12 = .ok (.iconst 1, 1) := by decide +kernel
theorem dX6_odds_13 : decode cX6_odds 13 = .ok (.invokestatic 65, 3) := by decide +kernel
theorem dX6_odds_16 : decode cX6_odds 16 = .ok (.ifCond .ne 5, 3) := by decide +kernel
theorem dX6_odds_19 : decode cX6_odds 19 = .ok (.iconst (-1), 1) := by decide +kernel
theorem dX6_odds_20 : decode cX6_odds 20 = .ok (.ireturn, 1) := by decide +kernel
theorem dX6_odds_21 : decode cX6_odds 21 = .ok (.aload_n 0, 1) := by decide +kernel
theorem dX6_odds_22 : decode cX6_odds 22 = .ok (.getfield 29, 3) := by decide +kernel
theorem dX6_odds_25 : decode cX6_odds 25 = .ok (.invokevirtual 124, 3) := by decide +kernel
theorem dX6_odds_28 : decode cX6_odds 28 = .ok (.istore_n 3, 1) := by decide +kernel
theorem dX6_odds_29 : decode cX6_odds 29 = .ok (.aload_n 0, 1) := by decide +kernel
theorem dX6_odds_30 : decode cX6_odds 30 = .ok (.getfield 29, 3) := by decide +kernel
theorem dX6_odds_33 : decode cX6_odds 33 = .ok (.invokevirtual 120, 3) := by decide +kernel
theorem dX6_odds_36 : decode cX6_odds 36 = .ok (.iload_n 3, 1) := by decide +kernel
theorem dX6_odds_37 : decode cX6_odds 37 = .ok (.iconst (-1), 1) := by decide +kernel
theorem dX6_odds_38 : decode cX6_odds 38 = .ok (.ixor, 1) := by decide +kernel
theorem dX6_odds_39 : decode cX6_odds 39 = .ok (.iand, 1) := by decide +kernel
theorem dX6_odds_40 : decode cX6_odds 40 = .ok (.istore 4, 2) := by decide +kernel
theorem dX6_odds_42 : decode cX6_odds 42 = .ok (.iconst 0, 1) := by decide +kernel
theorem dX6_odds_43 : decode cX6_odds 43 = .ok (.istore 5, 2) := by decide +kernel
theorem dX6_odds_45 : decode cX6_odds 45 = .ok (.iconst 0, 1) := by decide +kernel
theorem dX6_odds_46 : decode cX6_odds 46 = .ok (.istore 6, 2) := by decide +kernel
theorem dX6_odds_48 : decode cX6_odds 48 = .ok (.iload 6, 2) := by decide +kernel
theorem dX6_odds_50 : decode cX6_odds 50 = .ok (.aload_n 0, 1) := by decide +kernel
theorem dX6_odds_51 : decode cX6_odds 51 = .ok (.getfield 19, 3) := by decide +kernel
theorem dX6_odds_54 : decode cX6_odds 54 = .ok (.invokevirtual 190, 3) := by decide +kernel
theorem dX6_odds_57 : decode cX6_odds 57 = .ok (.if_icmp .gt 64, 3) := by decide +kernel
theorem dX6_odds_60 : decode cX6_odds 60 = .ok (.iload 6, 2) := by decide +kernel
theorem dX6_odds_62 : decode cX6_odds 62 = .ok (.iload_n 3, 1) := by decide +kernel
theorem dX6_odds_63 : decode cX6_odds 63 = .ok (.iconst (-1), 1) := by decide +kernel
theorem dX6_odds_64 : decode cX6_odds 64 = .ok (.ixor, 1) := by decide +kernel
theorem dX6_odds_65 : decode cX6_odds 65 = .ok (.iand, 1) := by decide +kernel
theorem dX6_odds_66 : decode cX6_odds 66 = .ok (.ifCond .ne 7, 3) := by decide +kernel
theorem dX6_odds_69 : decode cX6_odds 69 = .ok (.iconst 1, 1) := by decide +kernel
theorem dX6_odds_70 : decode cX6_odds 70 = .ok (.goto 4, 3) := by decide +kernel
theorem dX6_odds_73 : decode cX6_odds 73 = .ok (.iconst 0, 1) := by decide +kernel
theorem dX6_odds_74 : decode cX6_odds 74 = .ok (.istore 7, 2) := by decide +kernel
theorem dX6_odds_76 : decode cX6_odds 76 = .ok (.iload 7, 2) := by decide +kernel
theorem dX6_odds_78 : decode cX6_odds 78 = .ok (.ifCond .eq 37, 3) := by decide +kernel
theorem dX6_odds_81 : decode cX6_odds 81 = .ok (.aload_n 0, 1) := by decide +kernel
theorem dX6_odds_82 : decode cX6_odds 82 = .ok (.getfield 19, 3) := by decide +kernel
theorem dX6_odds_85 : decode cX6_odds 85 = .ok (.iload 4, 2) := by decide +kernel
theorem dX6_odds_87 : decode cX6_odds 87 = .ok (.iload 6, 2) := by decide +kernel
theorem dX6_odds_89 : decode cX6_odds 89 = .ok (.ior, 1) := by decide +kernel
theorem dX6_odds_90 : decode cX6_odds 90 = .ok (.invokevirtual 199, 3) := by decide +kernel
theorem dX6_odds_93 : decode cX6_odds 93 = .ok (.aload_n 0, 1) := by decide +kernel
theorem dX6_odds_94 : decode cX6_odds 94 = .ok (.getfield 19, 3) := by decide +kernel
theorem dX6_odds_97 : decode cX6_odds 97 = .ok (.invokevirtual 190, 3) := by decide +kernel
theorem dX6_odds_100 : decode cX6_odds 100 = .ok (.if_icmp .ne 15, 3) := by decide +kernel
theorem dX6_odds_103 : decode cX6_odds 103 = .ok (.iload 5, 2) := by decide +kernel
theorem dX6_odds_105 : decode cX6_odds 105 = .ok (.iload 6, 2) := by decide +kernel
theorem dX6_odds_107 : decode cX6_odds 107 = .ok (.iload_n 3, 1) := by decide +kernel
theorem dX6_odds_108 : decode cX6_odds 108 = .ok (.iload_n 1, 1) := by decide +kernel
theorem dX6_odds_109 : decode cX6_odds 109 = .ok (.invokestatic 202, 3) := by decide +kernel
theorem dX6_odds_112 : decode cX6_odds 112 = .ok (.iadd, 1) := by decide +kernel
theorem dX6_odds_113 : decode cX6_odds 113 = .ok (.istore 5, 2) := by decide +kernel
theorem dX6_odds_115 : decode cX6_odds 115 = .ok (.iinc 6 1, 3) := by decide +kernel
theorem dX6_odds_118 : decode cX6_odds 118 = .ok (.goto (-70), 3) := by decide +kernel
theorem dX6_odds_121 : decode cX6_odds 121 = .ok (.iload 5, 2) := by decide +kernel
theorem dX6_odds_123 : decode cX6_odds 123 = .ok (.bipush 10, 2) := by decide +kernel
theorem dX6_odds_125 : decode cX6_odds 125 = .ok (.iload_n 3, 1) := by decide +kernel
theorem dX6_odds_126 : decode cX6_odds 126 = .ok (.invokestatic 141, 3) := by decide +kernel
theorem dX6_odds_129 : decode cX6_odds 129 = .ok (.invokestatic 206, 3) := by decide +kernel
theorem dX6_odds_132 : decode cX6_odds 132 = .ok (.iload_n 2, 1) := by decide +kernel
theorem dX6_odds_133 : decode cX6_odds 133 = .ok (.invokestatic 209, 3) := by decide +kernel
theorem dX6_odds_136 : decode cX6_odds 136 = .ok (.ireturn, 1) := by decide +kernel
theorem dX6_creep_0 : decode cX6_creep 0 = .ok (.iload_n 1, 1) := by decide +kernel
theorem dX6_creep_1 : decode cX6_creep 1 = .ok (.iconst 1, 1) := by decide +kernel
theorem dX6_creep_2 : decode cX6_creep 2 = .ok (.bipush 24, 2) := by decide +kernel
theorem dX6_creep_4 : decode cX6_creep 4 = .ok (.invokestatic 65, 3) := by decide +kernel
theorem dX6_creep_7 : decode cX6_creep 7 = .ok (.ifCond .eq 12, 3) := by decide +kernel
theorem dX6_creep_10 : decode cX6_creep 10 = .ok (.iload_n 2, 1) := by decide +kernel
theorem dX6_creep_11 : decode cX6_creep 11 = .ok (.iconst 0, 1) := by decide +kernel
theorem dX6_creep_12 : decode cX6_creep 12 = .ok (.iconst 1, 1) := by decide +kernel
theorem dX6_creep_13 : decode cX6_creep 13 = .ok (.invokestatic 65, 3) := by decide +kernel
theorem dX6_creep_16 : decode cX6_creep 16 = .ok (.ifCond .ne 5, 3) := by decide +kernel
theorem dX6_creep_19 : decode cX6_creep 19 = .ok (.iconst (-1), 1) := by decide +kernel
theorem dX6_creep_20 : decode cX6_creep 20 = .ok (.ireturn, 1) := by decide +kernel
theorem dX6_creep_21 : decode cX6_creep 21 = .ok (.aload_n 0, 1) := by decide +kernel
theorem dX6_creep_22 : decode cX6_creep 22 = .ok (.getfield 33, 3) := by decide +kernel
theorem dX6_creep_25 : decode cX6_creep 25 = .ok (.aload_n 0, 1) := by decide +kernel
theorem dX6_creep_26 : decode cX6_creep 26 = .ok (.getfield 29, 3) := by decide +kernel
theorem dX6_creep_29 : decode cX6_creep 29 = .ok (.invokevirtual 156, 3) := by decide +kernel
theorem dX6_creep_32 : decode cX6_creep 32 = .ok (.iconst 0, 1) := by decide +kernel
theorem dX6_creep_33 : decode cX6_creep 33 = .ok (.istore_n 3, 1) := by decide +kernel
theorem dX6_creep_34 : decode cX6_creep 34 = .ok (.iload_n 3, 1) := by decide +kernel
theorem dX6_creep_35 : decode cX6_creep 35 = .ok (.iload_n 1, 1) := by decide +kernel
theorem dX6_creep_36 : decode cX6_creep 36 = .ok (.if_icmp .gt 49, 3) := by decide +kernel
theorem dX6_creep_39 : decode cX6_creep 39 = .ok (.aload_n 0, 1) := by decide +kernel
theorem dX6_creep_40 : decode cX6_creep 40 = .ok (.getfield 33, 3) := by decide +kernel
theorem dX6_creep_43 : decode cX6_creep 43 = .ok (.invokevirtual 124, 3) := by decide +kernel
theorem dX6_creep_46 : decode cX6_creep 46 = .ok (.istore 4, 2) := by decide +kernel
theorem dX6_creep_48 : decode cX6_creep 48 = .ok (.iload 4, 2) := by decide +kernel
theorem dX6_creep_50 : decode cX6_creep 50 = .ok (.ifCond .eq 17, 3) := by decide +kernel
theorem dX6_creep_53 : decode cX6_creep 53 = .ok (.iload_n 2, 1) := by decide +kernel
theorem dX6_creep_54 : decode cX6_creep 54 = .ok (.ifCond .ne 7, 3) := by decide +kernel
theorem dX6_creep_57 : decode cX6_creep 57 = .ok (.iload_n 3, 1) := by decide +kernel
theorem dX6_creep_58 : decode cX6_creep 58 = .ok (.goto 8, 3) := by decide +kernel
theorem dX6_creep_61 : decode cX6_creep 61 = .ok (.iload 4, 2) := by decide +kernel
theorem dX6_creep_63 : decode cX6_creep 63 = .ok (.invokestatic 212, 3) := by decide +kernel
theorem dX6_creep_66 : decode cX6_creep 66 = .ok (.ireturn, 1) := by decide +kernel
theorem dX6_creep_67 : decode cX6_creep 67 = .ok (.aload_n 0, 1) := by decide +kernel
theorem dX6_creep_68 : decode cX6_creep 68 = .ok (.getfield 33, 3) := by decide +kernel
theorem dX6_creep_71 : decode cX6_creep 71 = .ok (.aload_n 0, 1) := by decide +kernel
theorem dX6_creep_72 : decode cX6_creep 72 = .ok (.getfield 19, 3) := by decide +kernel
theorem dX6_creep_75 : decode cX6_creep 75 = .ok (.iconst 1, 1) := by decide +kernel
theorem dX6_creep_76 : decode cX6_creep 76 = .ok (.invokevirtual 158, 3) := by decide +kernel
theorem dX6_creep_79 : decode cX6_creep 79 = .ok (.iinc 3 1, 3) := by decide +kernel
theorem dX6_creep_82 : decode cX6_creep 82 = .ok (.goto (-48), 3) := by decide +kernel
theorem dX6_creep_85 : decode cX6_creep 85 = .ok (.bipush (-9), 2) := by decide +kernel
theorem dX6_creep_87 : decode cX6_creep 87 = .ok (.ireturn, 1) := by decide +kernel
theorem dX6_found_0 : decode cX6_found 0 = .ok (.aload_n 0, 1) := by decide +kernel
theorem dX6_found_1 : decode cX6_found 1 = .ok (.iload_n 1, 1) := by decide +kernel
theorem dX6_found_2 : decode cX6_found 2 = .ok (.invokevirtual 105, 3) := by decide +kernel
theorem dX6_found_5 : decode cX6_found 5 = .ok (.ifCond .eq 22, 3) := by decide +kernel
theorem dX6_found_8 : decode cX6_found 8 = .ok (.iload_n 2, 1) := by decide +kernel
theorem dX6_found_9 : decode cX6_found 9 = .ok (.iconst 0, 1) := by decide +kernel
theorem dX6_found_10 : decode cX6_found 10 = .ok (.bipush 24, 2) := by decide +kernel
theorem dX6_found_12 : decode cX6_found 12 = .ok (.invokestatic 65, 3) := by decide +kernel
theorem dX6_found_15 : decode cX6_found 15 = .ok (.ifCond .eq 12, 3) := by decide +kernel
theorem dX6_found_18 : decode cX6_found 18 = .ok (.iload_n 3, 1) := by decide +kernel
theorem dX6_found_19 : decode cX6_found 19 = .ok (.iconst 0, 1) := by decide +kernel
theorem dX6_found_20 : decode cX6_found 20 = .ok (.iconst 1, 1) := by decide +kernel
theorem dX6_found_21 : decode cX6_found 21 = .ok (.invokestatic 65, 3) := by decide +kernel
theorem dX6_found_24 : decode cX6_found 24 = .ok (.ifCond .ne 5, 3) := by decide +kernel
theorem dX6_found_27 : decode cX6_found 27 = .ok (.iconst (-1), 1) := by decide +kernel
theorem dX6_found_28 : decode cX6_found 28 = .ok (.ireturn, 1) := by decide +kernel
theorem dX6_found_29 : decode cX6_found 29 = .ok (.aload_n 0, 1) := by decide +kernel
theorem dX6_found_30 : decode cX6_found 30 = .ok (.getfield 54, 3) := by decide +kernel
theorem dX6_found_33 : decode cX6_found 33 = .ok (.iload_n 1, 1) := by decide +kernel
theorem dX6_found_34 : decode cX6_found 34 = .ok (.iload_n 2, 1) := by decide +kernel
theorem dX6_found_35 : decode cX6_found 35 = .ok (.iload_n 3, 1) := by decide +kernel
theorem dX6_found_36 : decode cX6_found 36 = .ok (.invokevirtual 215, 3) := by decide +kernel
theorem dX6_found_39 : decode cX6_found 39 = .ok (.ifCond .eq 13, 3) := by decide +kernel
theorem dX6_found_42 : decode cX6_found 42 = .ok (.aload_n 0, 1) := by decide +kernel
theorem dX6_found_43 : decode cX6_found 43 = .ok (.getfield 54, 3) := by decide +kernel
theorem dX6_found_46 : decode cX6_found 46 = .ok (.getfield 218, 3) := by decide +kernel
theorem dX6_found_49 : decode cX6_found 49 = .ok (.goto 5, 3) := by decide +kernel
theorem dX6_found_52 : decode cX6_found 52 = .ok (.bipush (-3), 2) := by decide +kernel
theorem dX6_found_54 : decode cX6_found 54 = .ok (.ireturn, 1) := by decide +kernel
theorem dX6_forget_0 : decode cX6_forget 0 = .ok (.aload_n 0, 1) := by decide +kernel
theorem dX6_forget_1 : decode cX6_forget 1 = .ok (.getfield 54, 3) := by decide +kernel
theorem dX6_forget_4 : decode cX6_forget 4 = .ok (.getfield 218, 3) := by decide +kernel
theorem dX6_forget_7 : decode cX6_forget 7 = .ok (.istore_n 1, 1) := by decide +kernel
theorem dX6_forget_8 : decode cX6_forget 8 = .ok (.aload_n 0, 1) := by decide +kernel
theorem dX6_forget_9 : decode cX6_forget 9 = .ok (.getfield 54, 3) := by decide +kernel
theorem dX6_forget_12 : decode cX6_forget 12 = .ok (.iconst 0, 1) := by decide +kernel
theorem dX6_forget_13 : decode cX6_forget 13 = .ok (.putfield 218, 3) := by decide +kernel
theorem dX6_forget_16 : decode cX6_forget 16 = .ok (.iload_n 1, 1) := by decide +kernel
theorem dX6_forget_17 : decode cX6_forget 17 = .ok (.ireturn, 1) := by decide +kernel
theorem dX6_fits_0 : decode cX6_fits 0 = .ok (.aload_n 0, 1) := by decide +kernel
theorem dX6_fits_1 : decode cX6_fits 1 = .ok (.iload_n 1, 1) := by decide +kernel
theorem dX6_fits_2 : decode cX6_fits 2 = .ok (.invokevirtual 105, 3) := by decide +kernel
theorem dX6_fits_5 : decode cX6_fits 5 = .ok (.ifCond .eq 12, 3) := by decide +kernel
theorem dX6_fits_8 : decode cX6_fits 8 = .ok (.iload_n 2, 1) := by decide +kernel
theorem dX6_fits_9 : decode cX6_fits 9 = .ok (.iconst 0, 1) := by decide +kernel
theorem dX6_fits_10 : decode cX6_fits 10 = .ok (.iconst 1, 1) := by decide +kernel
theorem dX6_fits_11 : decode cX6_fits 11 = .ok (.invokestatic 65, 3) := by decide +kernel
theorem dX6_fits_14 : decode cX6_fits 14 = .ok (.ifCond .ne 5, 3) := by decide +kernel
theorem dX6_fits_17 : decode cX6_fits 17 = .ok (.iconst (-1), 1) := by decide +kernel
theorem dX6_fits_18 : decode cX6_fits 18 = .ok (.ireturn, 1) := by decide +kernel
theorem dX6_fits_19 : decode cX6_fits 19 = .ok (.aload_n 0, 1) := by decide +kernel
theorem dX6_fits_20 : decode cX6_fits 20 = .ok (.getfield 29, 3) := by decide +kernel
theorem dX6_fits_23 : decode cX6_fits 23 = .ok (.iload_n 1, 1) := by decide +kernel
theorem dX6_fits_24 : decode cX6_fits 24 = .ok (.invokevirtual 108, 3) := by decide +kernel
theorem dX6_fits_27 : decode cX6_fits 27 = .ok (.istore_n 3, 1) := by decide +kernel
theorem dX6_fits_28 : decode cX6_fits 28 = .ok (.iconst 0, 1) := by decide +kernel
theorem dX6_fits_29 : decode cX6_fits 29 = .ok (.istore 4, 2) := by decide +kernel
theorem dX6_fits_31 : decode cX6_fits 31 = .ok (.bipush (-9), 2) := by decide +kernel
theorem dX6_fits_33 : decode cX6_fits 33 = .ok (.istore 5, 2) := by decide +kernel
theorem dX6_fits_35 : decode cX6_fits 35 = .ok (.iconst 0, 1) := by decide +kernel
theorem dX6_fits_36 : decode cX6_fits 36 = .ok (.istore 6, 2) := by decide +kernel
theorem dX6_fits_38 : decode cX6_fits 38 = .ok (.iload 6, 2) := by decide +kernel
theorem dX6_fits_40 : decode cX6_fits 40 = .ok (.bipush 60, 2) := by decide +kernel
theorem dX6_fits_42 : decode cX6_fits 42 = .ok (.if_icmp .gt 41, 3) := by decide +kernel
theorem dX6_fits_45 : decode cX6_fits 45 = .ok (.aload_n 0, 1) := by decide +kernel
theorem dX6_fits_46 : decode cX6_fits 46 = .ok (.getfield 54, 3) := by decide +kernel
theorem dX6_fits_49 : decode cX6_fits 49 = .ok (.iload_n 1, 1) := by decide +kernel
theorem dX6_fits_50 : decode cX6_fits 50 = .ok (.aload_n 0, 1) := by decide +kernel
theorem dX6_fits_51 : decode cX6_fits 51 = .ok (.iload_n 3, 1) := by decide +kernel
theorem dX6_fits_52 : decode cX6_fits 52 = .ok (.iload 6, 2) := by decide +kernel
theorem dX6_fits_54 : decode cX6_fits 54 = .ok (.invokevirtual 221, 3) := by decide +kernel
theorem dX6_fits_57 : decode cX6_fits 57 = .ok (.invokevirtual 224, 3) := by decide +kernel
theorem dX6_fits_60 : decode cX6_fits 60 = .ok (.ifCond .eq 17, 3) := by decide +kernel
theorem dX6_fits_63 : decode cX6_fits 63 = .ok (.iinc 4 1, 3) := by decide +kernel
theorem dX6_fits_66 : decode cX6_fits 66 = .ok (.iload 5, 2) := by decide +kernel
theorem dX6_fits_68 : decode cX6_fits 68 = .ok (.bipush (-9), 2) := by decide +kernel
theorem dX6_fits_70 : decode cX6_fits 70 = .ok (.if_icmp .ne 7, 3) := by decide +kernel
theorem dX6_fits_73 : decode cX6_fits 73 = .ok (.iload 6, 2) := by decide +kernel
theorem dX6_fits_75 : decode cX6_fits 75 = .ok (.istore 5, 2) := by decide +kernel
theorem dX6_fits_77 : decode cX6_fits 77 = .ok (.iinc 6 1, 3) := by decide +kernel
theorem dX6_fits_80 : decode cX6_fits 80 = .ok (.goto (-42), 3) := by decide +kernel
theorem dX6_fits_83 : decode cX6_fits 83 = .ok (.iload_n 2, 1) := by decide +kernel
theorem dX6_fits_84 : decode cX6_fits 84 = .ok (.ifCond .ne 8, 3) := by decide +kernel
theorem dX6_fits_87 : decode cX6_fits 87 = .ok (.iload 4, 2) := by decide +kernel
theorem dX6_fits_89 : decode cX6_fits 89 = .ok (.goto 5, 3) := by decide +kernel
theorem dX6_fits_92 : decode cX6_fits 92 = .ok (.iload 5, 2) := by decide +kernel
theorem dX6_fits_94 : decode cX6_fits 94 = .ok (.ireturn, 1) := by decide +kernel
theorem dX6_had_0 : decode cX6_had 0 = .ok (.aload_n 0, 1) := by decide +kernel
theorem dX6_had_1 : decode cX6_had 1 = .ok (.iload_n 1, 1) := by decide +kernel
theorem dX6_had_2 : decode cX6_had 2 = .ok (.invokevirtual 105, 3) := by decide +kernel
theorem dX6_had_5 : decode cX6_had 5 = .ok (.ifCond .eq 11, 3) := by decide +kernel
theorem dX6_had_8 : decode cX6_had 8 = .ok (.aload_n 0, 1) := by decide +kernel
theorem dX6_had_9 : decode cX6_had 9 = .ok (.iload_n 2, 1) := by decide +kernel
theorem dX6_had_10 : decode cX6_had 10 = .ok (.invokevirtual 88, 3) := by decide +kernel
theorem dX6_had_13 : decode cX6_had 13 = .ok (.ifCond .ne 5, 3) := by decide +kernel
theorem dX6_had_16 : decode cX6_had 16 = .ok (.iconst (-1), 1) := by decide +kernel
theorem dX6_had_17 : decode cX6_had 17 = .ok (.ireturn, 1) := by decide +kernel
theorem dX6_had_18 : decode cX6_had 18 = .ok (.aload_n 0, 1) := by decide +kernel
theorem dX6_had_19 : decode cX6_had 19 = .ok (.getfield 29, 3) := by decide +kernel
theorem dX6_had_22 : decode cX6_had 22 = .ok (.getfield 228, 3) := by decide +kernel
theorem dX6_had_25 : decode cX6_had 25 = .ok (.iload_n 1, 1) := by decide +kernel
theorem dX6_had_26 : decode cX6_had 26 = .ok (.iconst 5, 1) := by decide +kernel
theorem dX6_had_27 : decode cX6_had 27 = .ok (.imul, 1) := by decide +kernel
theorem dX6_had_28 : decode cX6_had 28 = .ok (.iload_n 2, 1) := by decide +kernel
theorem dX6_had_29 : decode cX6_had 29 = .ok (.iadd, 1) := by decide +kernel
theorem dX6_had_30 : decode cX6_had 30 = .ok (.iaload, 1) := by decide +kernel
theorem dX6_had_31 : decode cX6_had 31 = .ok (.ireturn, 1) := by decide +kernel
theorem dX6_fair_0 : decode cX6_fair 0 = .ok (.aload_n 0, 1) := by decide +kernel
theorem dX6_fair_1 : decode cX6_fair 1 = .ok (.getfield 19, 3) := by decide +kernel
theorem dX6_fair_4 : decode cX6_fair 4 = .ok (.getfield 177, 3) := by decide +kernel
theorem dX6_fair_7 : decode cX6_fair 7 = .ok (.ifCond .ne 5, 3) := by decide +kernel
theorem dX6_fair_10 : decode cX6_fair 10 = .ok (.iconst 0, 1) := by decide +kernel
theorem dX6_fair_11 : decode cX6_fair 11 = .ok (.ireturn, 1) := by decide +kernel
theorem dX6_fair_12 : decode cX6_fair 12 = .ok (.aload_n 0, 1) := by decide +kernel
theorem dX6_fair_13 : decode cX6_fair 13 = .ok (.getfield 29, 3) := by decide +kernel
theorem dX6_fair_16 : decode cX6_fair 16 = .ok (.aload_n 0, 1) := by decide +kernel
theorem dX6_fair_17 : decode cX6_fair 17 = .ok (.getfield 19, 3) := by decide +kernel
theorem dX6_fair_20 : decode cX6_fair 20 = .ok (.iconst 0, 1) := by decide +kernel
theorem dX6_fair_21 : decode cX6_fair 21 = .ok (.invokevirtual 231, 3) := by decide +kernel
theorem dX6_fair_24 : decode cX6_fair 24 = .ok (.istore_n 1, 1) := by decide +kernel
theorem dX6_fair_25 : decode cX6_fair 25 = .ok (.iload_n 1, 1) := by decide +kernel
theorem dX6_fair_26 : decode cX6_fair 26 = .ok (.istore_n 2, 1) := by decide +kernel
theorem dX6_fair_27 : decode cX6_fair 27 = .ok (.iconst 1, 1) := by decide +kernel
theorem dX6_fair_28 : decode cX6_fair 28 = .ok (.istore_n 3, 1) := by decide +kernel
theorem dX6_fair_29 : decode cX6_fair 29 = .ok (.iload_n 3, 1) := by decide +kernel
theorem dX6_fair_30 : decode cX6_fair 30 = .ok (.aload_n 0, 1) := by decide +kernel
theorem dX6_fair_31 : decode cX6_fair 31 = .ok (.getfield 19, 3) := by decide +kernel
theorem dX6_fair_34 : decode cX6_fair 34 = .ok (.getfield 177, 3) := by decide +kernel
theorem dX6_fair_37 : decode cX6_fair 37 = .ok (.if_icmp .ge 37, 3) := by decide +kernel
theorem dX6_fair_40 : decode cX6_fair 40 = .ok (.aload_n 0, 1) := by decide +kernel
theorem dX6_fair_41 : decode cX6_fair 41 = .ok (.getfield 29, 3) := by decide +kernel
theorem dX6_fair_44 : decode cX6_fair 44 = .ok (.aload_n 0, 1) := by decide +kernel
theorem dX6_fair_45 : decode cX6_fair 45 = .ok (.getfield 19, 3) := by decide +kernel
theorem dX6_fair_48 : decode cX6_fair 48 = .ok (.iload_n 3, 1) := by decide +kernel
theorem dX6_fair_49 : decode cX6_fair 49 = .ok (.invokevirtual 231, 3) := by decide +kernel
theorem dX6_fair_52 : decode cX6_fair 52 = .ok (.istore 4, 2) := by decide +kernel
theorem dX6_fair_54 : decode cX6_fair 54 = .ok (.iload_n 1, 1) := by decide +kernel
theorem dX6_fair_55 : decode cX6_fair 55 = .ok (.iload 4, 2) := by decide +kernel
theorem dX6_fair_57 : decode cX6_fair 57 = .ok (.invokestatic 235, 3) := by decide +kernel
theorem dX6_fair_60 : decode cX6_fair 60 = .ok (.istore_n 1, 1) := by decide +kernel
theorem dX6_fair_61 : decode cX6_fair 61 = .ok (.iload_n 2, 1) := by decide +kernel
theorem dX6_fair_62 : decode cX6_fair 62 = .ok (.iload 4, 2) := by decide +kernel
theorem dX6_fair_64 : decode cX6_fair 64 = .ok (.invokestatic 162, 3) := by decide +kernel
theorem dX6_fair_67 : decode cX6_fair 67 = .ok (.istore_n 2, 1) := by decide +kernel
theorem dX6_fair_68 : decode cX6_fair 68 = .ok (.iinc 3 1, 3) := by decide +kernel
theorem dX6_fair_71 : decode cX6_fair 71 = .ok (.goto (-42), 3) := by decide +kernel
theorem dX6_fair_74 : decode cX6_fair 74 = .ok (.iload_n 2, 1) := by decide +kernel
theorem dX6_fair_75 : decode cX6_fair 75 = .ok (.iload_n 1, 1) := by decide +kernel
theorem dX6_fair_76 : decode cX6_fair 76 = .ok (.isub, 1) := by decide +kernel
theorem dX6_fair_77 : decode cX6_fair 77 = .ok (.ireturn, 1) := by decide +kernel
theorem dX6_cow_0 : decode cX6_cow 0 = .ok (.iload_n 1, 1) := by decide +kernel
theorem dX6_cow_1 : decode cX6_cow 1 = .ok (.iconst 0, 1) := by decide +kernel
theorem dX6_cow_2 : decode cX6_cow 2 = .ok (.bipush 9, 2) := by decide +kernel
theorem dX6_cow_4 : decode cX6_cow 4 = .ok (.invokestatic 65, 3) := by decide +kernel
theorem dX6_cow_7 : decode cX6_cow 7 = .ok (.ifCond .eq 22, 3) := by decide +kernel
theorem dX6_cow_10 : decode cX6_cow 10 = .ok (.iload_n 2, 1) := by decide +kernel
theorem dX6_cow_11 : decode cX6_cow 11 = .ok (.iconst 0, 1) := by decide +kernel
theorem dX6_cow_12 : decode cX6_cow 12 = .ok (.bipush 9, 2) := by decide +kernel
theorem dX6_cow_14 : decode cX6_cow 14 = .ok (.invokestatic 65, 3) := by decide +kernel
theorem dX6_cow_17 : decode cX6_cow 17 = .ok (.ifCond .eq 12, 3) := by decide +kernel
theorem dX6_cow_20 : decode cX6_cow 20 = .ok (.iload_n 3, 1) := by decide +kernel
theorem dX6_cow_21 : decode cX6_cow 21 = .ok (.iconst 0, 1) := by decide +kernel
theorem dX6_cow_22 : decode cX6_cow 22 = .ok (.iconst 1, 1) := by decide +kernel
theorem dX6_cow_23 : decode cX6_cow 23 = .ok (.invokestatic 65, 3) := by decide +kernel
theorem dX6_cow_26 : decode cX6_cow 26 = .ok (.ifCond .ne 5, 3) := by decide +kernel
theorem dX6_cow_29 : decode cX6_cow 29 = .ok (.iconst (-1), 1) := by decide +kernel
theorem dX6_cow_30 : decode cX6_cow 30 = .ok (.ireturn, 1) := by decide +kernel
theorem dX6_cow_31 : decode cX6_cow 31 = .ok (.iload_n 1, 1) := by decide +kernel
theorem dX6_cow_32 : decode cX6_cow 32 = .ok (.iload_n 2, 1) := by decide +kernel
theorem dX6_cow_33 : decode cX6_cow 33 = .ok (.imul, 1) := by decide +kernel
theorem dX6_cow_34 : decode cX6_cow 34 = .ok (.istore 4, 2) := by decide +kernel
theorem dX6_cow_36 : decode cX6_cow 36 = .ok (.bipush 10, 2) := by decide +kernel
theorem dX6_cow_38 : decode cX6_cow 38 = .ok (.iload_n 1, 1) := by decide +kernel
theorem dX6_cow_39 : decode cX6_cow 39 = .ok (.isub, 1) := by decide +kernel
theorem dX6_cow_40 : decode cX6_cow 40 = .ok (.bipush 10, 2) := by decide +kernel
theorem dX6_cow_42 : decode cX6_cow 42 = .ok (.imul, 1) := by decide +kernel
theorem dX6_cow_43 : decode cX6_cow 43 = .ok (.istore 5, 2) := by decide +kernel
theorem dX6_cow_45 : decode cX6_cow 45 = .ok (.iload 4, 2) := by decide +kernel
theorem dX6_cow_47 : decode cX6_cow 47 = .ok (.iload 4, 2) := by decide +kernel
theorem dX6_cow_49 : decode cX6_cow 49 = .ok (.iload 5, 2) := by decide +kernel
theorem dX6_cow_51 : decode cX6_cow 51 = .ok (.iadd, 1) := by decide +kernel
theorem dX6_cow_52 : decode cX6_cow 52 = .ok (.iload_n 3, 1) := by decide +kernel
theorem dX6_cow_53 : decode cX6_cow 53 = .ok (.invokestatic 209, 3) := by decide +kernel
theorem dX6_cow_56 : decode cX6_cow 56 = .ok (.ireturn, 1) := by decide +kernel
theorem dX6_rate_0 : decode cX6_rate 0 = .ok (.aload_n 0, 1) := by decide +kernel
theorem dX6_rate_1 : decode cX6_rate 1 = .ok (.iload_n 2, 1) := by decide +kernel
theorem dX6_rate_2 : decode cX6_rate 2 = .ok (.invokevirtual 88, 3) := by decide +kernel
theorem dX6_rate_5 : decode cX6_rate 5 = .ok (.ifCond .ne 6, 3) := by decide +kernel
theorem dX6_rate_8 : decode cX6_rate 8 = .ok (.ldc 238, 2) := by decide +kernel
theorem dX6_rate_10 : decode cX6_rate 10 = .ok (.ireturn, 1) := by decide +kernel
theorem dX6_rate_11 : decode cX6_rate 11 = .ok (.iload_n 1, 1) := by decide +kernel
theorem dX6_rate_12 : decode cX6_rate 12 = .ok (.tableswitch 76 0 5 #[40, 46, 52, 58, 64, 70], 40) := by decide +kernel
theorem dX6_rate_52 : decode cX6_rate 52 = .ok (.aload_n 0, 1) := by decide +kernel
theorem dX6_rate_53 : decode cX6_rate 53 = .ok (.iload_n 2, 1) := by decide +kernel
theorem dX6_rate_54 : decode cX6_rate 54 = .ok (.invokevirtual 239, 3) := by decide +kernel
theorem dX6_rate_57 : decode cX6_rate 57 = .ok (.ireturn, 1) := by decide +kernel
theorem dX6_rate_58 : decode cX6_rate 58 = .ok (.aload_n 0, 1) := by decide +kernel
theorem dX6_rate_59 : decode cX6_rate 59 = .ok (.iload_n 2, 1) := by decide +kernel
theorem dX6_rate_60 : decode cX6_rate 60 = .ok (.invokevirtual 242, 3) := by decide +kernel
theorem dX6_rate_63 : decode cX6_rate 63 = .ok (.ireturn, 1) := by decide +kernel
theorem dX6_rate_64 : decode cX6_rate 64 = .ok (.aload_n 0, 1) := by decide +kernel
theorem dX6_rate_65 : decode cX6_rate 65 = .ok (.iload_n 2, 1) := by decide +kernel
theorem dX6_rate_66 : decode cX6_rate 66 = .ok (.invokevirtual 245, 3) := by decide +kernel
theorem dX6_rate_69 : decode cX6_rate 69 = .ok (.ireturn, 1) := by decide +kernel
theorem dX6_rate_70 : decode cX6_rate 70 = .ok (.aload_n 0, 1) := by decide +kernel
theorem dX6_rate_71 : decode cX6_rate 71 = .ok (.iload_n 2, 1) := by decide +kernel
theorem dX6_rate_72 : decode cX6_rate 72 = .ok (.invokevirtual 248, 3) := by decide +kernel
theorem dX6_rate_75 : decode cX6_rate 75 = .ok (.ireturn, 1) := by decide +kernel
theorem dX6_rate_76 : decode cX6_rate 76 = .ok (.aload_n 0, 1) := by decide +kernel
theorem dX6_rate_77 : decode cX6_rate 77 = .ok (.iload_n 2, 1) := by decide +kernel
theorem dX6_rate_78 : decode cX6_rate 78 = .ok (.invokevirtual 251, 3) := by decide +kernel
theorem dX6_rate_81 : decode cX6_rate 81 = .ok (.ireturn, 1) := by decide +kernel
theorem dX6_rate_82 : decode cX6_rate 82 = .ok (.aload_n 0, 1) := by decide +kernel
theorem dX6_rate_83 : decode cX6_rate 83 = .ok (.iload_n 2, 1) := by decide +kernel
theorem dX6_rate_84 : decode cX6_rate 84 = .ok (.invokevirtual 254, 3) := by decide +kernel
theorem dX6_rate_87 : decode cX6_rate 87 = .ok (.ireturn, 1) := by decide +kernel
theorem dX6_rate_88 : decode cX6_rate 88 = .ok (.ldc 238, 2) := by decide +kernel
theorem dX6_rate_90 : decode cX6_rate 90 = .ok (.ireturn, 1) := by decide +kernel
theorem dX6_keep_0 : decode cX6_keep 0 = .ok (.iload_n 1, 1) := by decide +kernel
theorem dX6_keep_1 : decode cX6_keep 1 = .ok (.iconst 0, 1) := by decide +kernel
theorem dX6_keep_2 : decode cX6_keep 2 = .ok (.iconst 1, 1) := by decide +kernel
theorem dX6_keep_3 : decode cX6_keep 3 = .ok (.invokestatic 65, 3) := by decide +kernel
theorem dX6_keep_6 : decode cX6_keep 6 = .ok (.ifCond .ne 5, 3) := by decide +kernel
theorem dX6_keep_9 : decode cX6_keep 9 = .ok (.iconst (-1), 1) := by decide +kernel
theorem dX6_keep_10 : decode cX6_keep 10 = .ok (.ireturn, 1) := by decide +kernel
theorem dX6_keep_11 : decode cX6_keep 11 = .ok (.aload_n 0, 1) := by decide +kernel
theorem dX6_keep_12 : decode cX6_keep 12 = .ok (.getfield 43, 3) := by decide +kernel
theorem dX6_keep_15 : decode cX6_keep 15 = .ok (.iload_n 1, 1) := by decide +kernel
theorem dX6_keep_16 : decode cX6_keep 16 = .ok (.aaload, 1) := by decide +kernel
theorem dX6_keep_17 : decode cX6_keep 17 = .ok (.aload_n 0, 1) := by decide +kernel
theorem dX6_keep_18 : decode cX6_keep 18 = .ok (.getfield 29, 3) := by decide +kernel
theorem dX6_keep_21 : decode cX6_keep 21 = .ok (.invokevirtual 156, 3) := by decide +kernel
theorem dX6_keep_24 : decode cX6_keep 24 = .ok (.aload_n 0, 1) := by decide +kernel
theorem dX6_keep_25 : decode cX6_keep 25 = .ok (.getfield 47, 3) := by decide +kernel
theorem dX6_keep_28 : decode cX6_keep 28 = .ok (.iload_n 1, 1) := by decide +kernel
theorem dX6_keep_29 : decode cX6_keep 29 = .ok (.iconst 1, 1) := by decide +kernel
theorem dX6_keep_30 : decode cX6_keep 30 = .ok (.bastore, 1) := by decide +kernel
theorem dX6_keep_31 : decode cX6_keep 31 = .ok (.aload_n 0, 1) := by decide +kernel
theorem dX6_keep_32 : decode cX6_keep 32 = .ok (.getfield 29, 3) := by decide +kernel
theorem dX6_keep_35 : decode cX6_keep 35 = .ok (.getfield 117, 3) := by decide +kernel
theorem dX6_keep_38 : decode cX6_keep 38 = .ok (.ireturn, 1) := by decide +kernel
theorem dX6_back_0 : decode cX6_back 0 = .ok (.iload_n 1, 1) := by decide +kernel
theorem dX6_back_1 : decode cX6_back 1 = .ok (.iconst 0, 1) := by decide +kernel
theorem dX6_back_2 : decode cX6_back 2 = .ok (.iconst 1, 1) := by decide +kernel
theorem dX6_back_3 : decode cX6_back 3 = .ok (.invokestatic 65, 3) := by decide +kernel
theorem dX6_back_6 : decode cX6_back 6 = .ok (.ifCond .ne 5, 3) := by decide +kernel
theorem dX6_back_9 : decode cX6_back 9 = .ok (.iconst (-1), 1) := by decide +kernel
theorem dX6_back_10 : decode cX6_back 10 = .ok (.ireturn, 1) := by decide +kernel
theorem dX6_back_11 : decode cX6_back 11 = .ok (.aload_n 0, 1) := by decide +kernel
theorem dX6_back_12 : decode cX6_back 12 = .ok (.getfield 47, 3) := by decide +kernel
theorem dX6_back_15 : decode cX6_back 15 = .ok (.iload_n 1, 1) := by decide +kernel
theorem dX6_back_16 : decode cX6_back 16 = .ok (.baload, 1) := by decide +kernel
theorem dX6_back_17 : decode cX6_back 17 = .ok (.ifCond .ne 6, 3) := by decide +kernel
theorem dX6_back_20 : decode cX6_back 20 = .ok (.bipush (-2), 2) := by decide +kernel
theorem dX6_back_22 : decode cX6_back 22 = .ok (.ireturn, 1) := by decide +kernel
theorem dX6_back_23 : decode cX6_back 23 = .ok (.aload_n 0, 1) := by decide +kernel
theorem dX6_back_24 : decode cX6_back 24 = .ok (.getfield 29, 3) := by decide +kernel
theorem dX6_back_27 : decode cX6_back 27 = .ok (.aload_n 0, 1) := by decide +kernel
theorem dX6_back_28 : decode cX6_back 28 = .ok (.getfield 43, 3) := by decide +kernel
theorem dX6_back_31 : decode cX6_back 31 = .ok (.iload_n 1, 1) := by decide +kernel
theorem dX6_back_32 : decode cX6_back 32 = .ok (.aaload, 1) := by decide +kernel
theorem dX6_back_33 : decode cX6_back 33 = .ok (.invokevirtual 156, 3) := by decide +kernel
theorem dX6_back_36 : decode cX6_back 36 = .ok (.aload_n 0, 1) := by decide +kernel
theorem dX6_back_37 : decode cX6_back 37 = .ok (.getfield 39, 3) := by decide +kernel
theorem dX6_back_40 : decode cX6_back 40 = .ok (.iconst 0, 1) := by decide +kernel
theorem dX6_back_41 : decode cX6_back 41 = .ok (.putfield 130, 3) := by decide +kernel
theorem dX6_back_44 : decode cX6_back 44 = .ok (.aload_n 0, 1) := by decide +kernel
theorem dX6_back_45 : decode cX6_back 45 = .ok (.getfield 29, 3) := by decide +kernel
theorem dX6_back_48 : decode cX6_back 48 = .ok (.getfield 117, 3) := by decide +kernel
theorem dX6_back_51 : decode cX6_back 51 = .ok (.ireturn, 1) := by decide +kernel
theorem dX6_count_0 : decode cX6_count 0 = .ok (.iload_n 1, 1) := by decide +kernel
theorem dX6_count_1 : decode cX6_count 1 = .ok (.tableswitch 87 0 5 #[39, 47, 55, 63, 71, 79], 39) := by decide +kernel
theorem dX6_count_40 : decode cX6_count 40 = .ok (.aload_n 0, 1) := by decide +kernel
theorem dX6_count_41 : decode cX6_count 41 = .ok (.getfield 19, 3) := by decide +kernel
theorem dX6_count_44 : decode cX6_count 44 = .ok (.getfield 171, 3) := by decide +kernel
theorem dX6_count_47 : decode cX6_count 47 = .ok (.ireturn, 1) := by decide +kernel
theorem dX6_count_48 : decode cX6_count 48 = .ok (.aload_n 0, 1) := by decide +kernel
theorem dX6_count_49 : decode cX6_count 49 = .ok (.getfield 19, 3) := by decide +kernel
theorem dX6_count_52 : decode cX6_count 52 = .ok (.getfield 177, 3) := by decide +kernel
theorem dX6_count_55 : decode cX6_count 55 = .ok (.ireturn, 1) := by decide +kernel
theorem dX6_count_56 : decode cX6_count 56 = .ok (.aload_n 0, 1) := by decide +kernel
theorem dX6_count_57 : decode cX6_count 57 = .ok (.getfield 19, 3) := by decide +kernel
theorem dX6_count_60 : decode cX6_count 60 = .ok (.getfield 257, 3) := by decide +kernel
theorem dX6_count_63 : decode cX6_count 63 = .ok (.ireturn, 1) := by decide +kernel
theorem dX6_count_64 : decode cX6_count 64 = .ok (.aload_n 0, 1) := by decide +kernel
theorem dX6_count_65 : decode cX6_count 65 = .ok (.getfield 19, 3) := by decide +kernel
theorem dX6_count_68 : decode cX6_count 68 = .ok (.getfield 260, 3) := by decide +kernel
theorem dX6_count_71 : decode cX6_count 71 = .ok (.ireturn, 1) := by decide +kernel
theorem dX6_count_72 : decode cX6_count 72 = .ok (.aload_n 0, 1) := by decide +kernel
theorem dX6_count_73 : decode cX6_count 73 = .ok (.getfield 54, 3) := by decide +kernel
theorem dX6_count_76 : decode cX6_count 76 = .ok (.getfield 218, 3) := by decide +kernel
theorem dX6_count_79 : decode cX6_count 79 = .ok (.ireturn, 1) := by decide +kernel
theorem dX6_count_80 : decode cX6_count 80 = .ok (.aload_n 0, 1) := by decide +kernel
theorem dX6_count_81 : decode cX6_count 81 = .ok (.getfield 10, 3) := by decide +kernel
theorem dX6_count_84 : decode cX6_count 84 = .ok (.getfield 73, 3) := by decide +kernel
theorem dX6_count_87 : decode cX6_count 87 = .ok (.ireturn, 1) := by decide +kernel
theorem dX6_count_88 : decode cX6_count 88 = .ok (.iconst (-1), 1) := by decide +kernel
theorem dX6_count_89 : decode cX6_count 89 = .ok (.ireturn, 1) := by decide +kernel
theorem dX6_trace_0 : decode cX6_trace 0 = .ok (.aload_n 0, 1) := by decide +kernel
theorem dX6_trace_1 : decode cX6_trace 1 = .ok (.getfield 263, 3) := by decide +kernel
theorem dX6_trace_4 : decode cX6_trace 4 = .ok (.lreturn, 1) := by decide +kernel
theorem dX6_within_0 : decode cX6_within 0 = .ok (.iload_n 0, 1) := by decide +kernel
theorem dX6_within_1 : decode cX6_within 1 = .ok (.iload_n 1, 1) := by decide +kernel
theorem dX6_within_2 : decode cX6_within 2 = .ok (.if_icmp .lt 12, 3) := by decide +kernel
theorem dX6_within_5 : decode cX6_within 5 = .ok (.iload_n 0, 1) := by decide +kernel
theorem dX6_within_6 : decode cX6_within 6 = .ok (.iload_n 2, 1) := by decide +kernel
theorem dX6_within_7 : decode cX6_within 7 = .ok (.if_icmp .gt 7, 3) := by decide +kernel
theorem dX6_within_10 : decode cX6_within 10 = .ok (.iconst 1, 1) := by decide +kernel
theorem dX6_within_11 : decode cX6_within 11 = .ok (.goto 4, 3) := by decide +kernel
theorem dX6_within_14 : decode cX6_within 14 = .ok (.iconst 0, 1) := by decide +kernel
theorem dX6_within_15 : decode cX6_within 15 = .ok (.ireturn, 1) := by decide +kernel
theorem dX6_isPost_0 : decode cX6_isPost 0 = .ok (.iload_n 1, 1) := by decide +kernel
theorem dX6_isPost_1 : decode cX6_isPost 1 = .ok (.iconst 0, 1) := by decide +kernel
theorem dX6_isPost_2 : decode cX6_isPost 2 = .ok (.aload_n 0, 1) := by decide +kernel
theorem dX6_isPost_3 : decode cX6_isPost 3 = .ok (.getfield 19, 3) := by decide +kernel
theorem dX6_isPost_6 : decode cX6_isPost 6 = .ok (.getfield 171, 3) := by decide +kernel
theorem dX6_isPost_9 : decode cX6_isPost 9 = .ok (.iconst 1, 1) := by decide +kernel
theorem dX6_isPost_10 : decode cX6_isPost 10 = .ok (.isub, 1) := by decide +kernel
theorem dX6_isPost_11 : decode cX6_isPost 11 = .ok (.invokestatic 65, 3) := by decide +kernel
theorem dX6_isPost_14 : decode cX6_isPost 14 = .ok (.ireturn, 1) := by decide +kernel
theorem dX6_isMan_0 : decode cX6_isMan 0 = .ok (.iload_n 1, 1) := by decide +kernel
theorem dX6_isMan_1 : decode cX6_isMan 1 = .ok (.iconst 0, 1) := by decide +kernel
theorem dX6_isMan_2 : decode cX6_isMan 2 = .ok (.aload_n 0, 1) := by decide +kernel
theorem dX6_isMan_3 : decode cX6_isMan 3 = .ok (.getfield 19, 3) := by decide +kernel
theorem dX6_isMan_6 : decode cX6_isMan 6 = .ok (.getfield 177, 3) := by decide +kernel
theorem dX6_isMan_9 : decode cX6_isMan 9 = .ok (.iconst 1, 1) := by decide +kernel
theorem dX6_isMan_10 : decode cX6_isMan 10 = .ok (.isub, 1) := by decide +kernel
theorem dX6_isMan_11 : decode cX6_isMan 11 = .ok (.invokestatic 65, 3) := by decide +kernel
theorem dX6_isMan_14 : decode cX6_isMan 14 = .ok (.ireturn, 1) := by decide +kernel
theorem dX6_beginAnew_0 : decode cX6_beginAnew 0 = .ok (.aload_n 0, 1) := by decide +kernel
theorem dX6_beginAnew_1 : decode cX6_beginAnew 1 = .ok (.getfield 29, 3) := by decide +kernel
theorem dX6_beginAnew_4 : decode cX6_beginAnew 4 = .ok (.aload_n 0, 1) := by decide +kernel
theorem dX6_beginAnew_5 : decode cX6_beginAnew 5 = .ok (.getfield 19, 3) := by decide +kernel
theorem dX6_beginAnew_8 : decode cX6_beginAnew 8 = .ok (.invokevirtual 267, 3) := by decide +kernel
theorem dX6_beginAnew_11 : decode cX6_beginAnew 11 = .ok (.aload_n 0, 1) := by decide +kernel
theorem dX6_beginAnew_12 : decode cX6_beginAnew 12 = .ok (.getfield 39, 3) := by decide +kernel
theorem dX6_beginAnew_15 : decode cX6_beginAnew 15 = .ok (.iconst 0, 1) := by decide +kernel
theorem dX6_beginAnew_16 : decode cX6_beginAnew 16 = .ok (.putfield 130, 3) := by decide +kernel
theorem dX6_beginAnew_19 : decode cX6_beginAnew 19 = .ok (.aload_n 0, 1) := by decide +kernel
theorem dX6_beginAnew_20 : decode cX6_beginAnew 20 = .ok (.getfield 54, 3) := by decide +kernel
theorem dX6_beginAnew_23 : decode cX6_beginAnew 23 = .ok (.iconst 0, 1) := by decide +kernel
theorem dX6_beginAnew_24 : decode cX6_beginAnew 24 = .ok (.putfield 218, 3) := by decide +kernel
theorem dX6_beginAnew_27 : decode cX6_beginAnew 27 = .ok (.iconst 0, 1) := by decide +kernel
theorem dX6_beginAnew_28 : decode cX6_beginAnew 28 = .ok (.istore_n 1, 1) := by decide +kernel
theorem dX6_beginAnew_29 : decode cX6_beginAnew 29 = .ok (.iload_n 1, 1) := by decide +kernel
theorem dX6_beginAnew_30 : decode cX6_beginAnew 30 = .ok (.iconst 2, 1) := by decide +kernel
theorem dX6_beginAnew_31 : decode cX6_beginAnew 31 = .ok (.if_icmp .ge 16, 3) := by decide +kernel
theorem dX6_beginAnew_34 : decode cX6_beginAnew 34 = .ok (.aload_n 0, 1) := by decide +kernel
theorem dX6_beginAnew_35 : decode cX6_beginAnew 35 = .ok (.getfield 47, 3) := by decide +kernel
theorem dX6_beginAnew_38 : decode cX6_beginAnew 38 = .ok (.iload_n 1, 1) := by decide +kernel
theorem dX6_beginAnew_39 : decode cX6_beginAnew 39 = .ok (.iconst 0, 1) := by decide +kernel
theorem dX6_beginAnew_40 : decode cX6_beginAnew 40 = .ok (.bastore, 1) := by decide +kernel
theorem dX6_beginAnew_41 : decode cX6_beginAnew 41 = .ok (.iinc 1 1, 3) := by decide +kernel
theorem dX6_beginAnew_44 : decode cX6_beginAnew 44 = .ok (.goto (-15), 3) := by decide +kernel
theorem dX6_beginAnew_47 : decode cX6_beginAnew 47 = .ok (.return_, 1) := by decide +kernel
theorem dX6_canBeLeft_0 : decode cX6_canBeLeft 0 = .ok (.aload_n 0, 1) := by decide +kernel
theorem dX6_canBeLeft_1 : decode cX6_canBeLeft 1 = .ok (.getfield 19, 3) := by decide +kernel
theorem dX6_canBeLeft_4 : decode cX6_canBeLeft 4 = .ok (.invokevirtual 190, 3) := by decide +kernel
theorem dX6_canBeLeft_7 : decode cX6_canBeLeft 7 = .ok (.iload_n 1, 1) := by decide +kernel
theorem dX6_canBeLeft_8 : decode cX6_canBeLeft 8 = .ok (.iconst (-1), 1) := by decide +kernel
theorem dX6_canBeLeft_9 : decode cX6_canBeLeft 9 = .ok (.ixor, 1) := by decide +kernel
theorem dX6_canBeLeft_10 : decode cX6_canBeLeft 10 = .ok (.iand, 1) := by decide +kernel
theorem dX6_canBeLeft_11 : decode cX6_canBeLeft 11 = .ok (.istore_n 2, 1) := by decide +kernel
theorem dX6_canBeLeft_12 : decode cX6_canBeLeft 12 = .ok (.aload_n 0, 1) := by decide +kernel
theorem dX6_canBeLeft_13 : decode cX6_canBeLeft 13 = .ok (.getfield 19, 3) := by decide +kernel
theorem dX6_canBeLeft_16 : decode cX6_canBeLeft 16 = .ok (.iload_n 2, 1) := by decide +kernel
theorem dX6_canBeLeft_17 : decode cX6_canBeLeft 17 = .ok (.invokevirtual 199, 3) := by decide +kernel
theorem dX6_canBeLeft_20 : decode cX6_canBeLeft 20 = .ok (.aload_n 0, 1) := by decide +kernel
theorem dX6_canBeLeft_21 : decode cX6_canBeLeft 21 = .ok (.getfield 19, 3) := by decide +kernel
theorem dX6_canBeLeft_24 : decode cX6_canBeLeft 24 = .ok (.invokevirtual 190, 3) := by decide +kernel
theorem dX6_canBeLeft_27 : decode cX6_canBeLeft 27 = .ok (.if_icmp .ne 7, 3) := by decide +kernel
theorem dX6_canBeLeft_30 : decode cX6_canBeLeft 30 = .ok (.iconst 1, 1) := by decide +kernel
theorem dX6_canBeLeft_31 : decode cX6_canBeLeft 31 = .ok (.goto 4, 3) := by decide +kernel
theorem dX6_canBeLeft_34 : decode cX6_canBeLeft 34 = .ok (.iconst 0, 1) := by decide +kernel
theorem dX6_canBeLeft_35 : decode cX6_canBeLeft 35 = .ok (.ireturn, 1) := by decide +kernel
theorem dX6_seenOnlyFrom_0 : decode cX6_seenOnlyFrom 0 = .ok (.aload_n 0, 1) := by decide +kernel
theorem dX6_seenOnlyFrom_1 : decode cX6_seenOnlyFrom 1 = .ok (.getfield 19, 3) := by decide +kernel
theorem dX6_seenOnlyFrom_4 : decode cX6_seenOnlyFrom 4 = .ok (.iload_n 1, 1) := by decide +kernel
theorem dX6_seenOnlyFrom_5 : decode cX6_seenOnlyFrom 5 = .ok (.invokevirtual 91, 3) := by decide +kernel
theorem dX6_seenOnlyFrom_8 : decode cX6_seenOnlyFrom 8 = .ok (.istore_n 2, 1) := by decide +kernel
theorem dX6_seenOnlyFrom_9 : decode cX6_seenOnlyFrom 9 = .ok (.iconst 0, 1) := by decide +kernel
theorem dX6_seenOnlyFrom_10 : decode cX6_seenOnlyFrom 10 = .ok (.istore_n 3, 1) := by decide +kernel
theorem dX6_seenOnlyFrom_11 : decode cX6_seenOnlyFrom 11 = .ok (.iload_n 3, 1) := by decide +kernel
theorem dX6_seenOnlyFrom_12 : decode cX6_seenOnlyFrom 12 = .ok (.aload_n 0, 1) := by decide +kernel
theorem dX6_seenOnlyFrom_13 : decode cX6_seenOnlyFrom 13 = .ok (.getfield 19, 3) := by decide +kernel
theorem dX6_seenOnlyFrom_16 : decode cX6_seenOnlyFrom 16 = .ok (.getfield 171, 3) := by decide +kernel
theorem dX6_seenOnlyFrom_19 : decode cX6_seenOnlyFrom 19 = .ok (.if_icmp .ge 27, 3) := by decide +kernel
theorem dX6_seenOnlyFrom_22 : decode cX6_seenOnlyFrom 22 = .ok (.iload_n 3, 1) := by decide +kernel
theorem dX6_seenOnlyFrom_23 : decode cX6_seenOnlyFrom 23 = .ok (.iload_n 1, 1) := by decide +kernel
theorem dX6_seenOnlyFrom_24 : decode cX6_seenOnlyFrom 24 = .ok (.if_icmp .eq 16, 3) := by decide +kernel
theorem dX6_seenOnlyFrom_27 : decode cX6_seenOnlyFrom 27 = .ok (.iload_n 2, 1) := by decide +kernel
theorem dX6_seenOnlyFrom_28 : decode cX6_seenOnlyFrom 28 = .ok (.aload_n 0, 1) := by decide +kernel
theorem dX6_seenOnlyFrom_29 : decode cX6_seenOnlyFrom 29 = .ok (.getfield 19, 3) := by decide +kernel
theorem dX6_seenOnlyFrom_32 : decode cX6_seenOnlyFrom 32 = .ok (.iload_n 3, 1) := by decide +kernel
theorem dX6_seenOnlyFrom_33 : decode cX6_seenOnlyFrom 33 = .ok (.invokevirtual 91, 3) := by decide +kernel
theorem dX6_seenOnlyFrom_36 : decode cX6_seenOnlyFrom 36 = .ok (.iconst (-1), 1) := by decide +kernel
theorem dX6_seenOnlyFrom_37 : decode cX6_seenOnlyFrom 37 = .ok (.ixor, 1) := by decide +kernel
theorem dX6_seenOnlyFrom_38 : decode cX6_seenOnlyFrom 38 = .ok (.iand, 1) := by decide +kernel
theorem dX6_seenOnlyFrom_39 : decode cX6_seenOnlyFrom 39 = .ok (.istore_n 2, 1) := by decide +kernel
theorem dX6_seenOnlyFrom_40 : decode cX6_seenOnlyFrom 40 = .ok (.iinc 3 1, 3) := by decide +kernel
theorem dX6_seenOnlyFrom_43 : decode cX6_seenOnlyFrom 43 = .ok (.goto (-32), 3) := by decide +kernel
theorem dX6_seenOnlyFrom_46 : decode cX6_seenOnlyFrom 46 = .ok (.iload_n 2, 1) := by decide +kernel
theorem dX6_seenOnlyFrom_47 : decode cX6_seenOnlyFrom 47 = .ok (.ireturn, 1) := by decide +kernel
theorem dX6_weightOfWaking_0 : decode cX6_weightOfWaking 0 = .ok (.iload_n 2, 1) := by decide +kernel
theorem dX6_weightOfWaking_1 : decode cX6_weightOfWaking 1 = .ok (.iload_n 0, 1) := by decide +kernel
theorem dX6_weightOfWaking_2 : decode cX6_weightOfWaking 2 = .ok (.invokestatic 141, 3) := by decide +kernel
theorem dX6_weightOfWaking_5 : decode cX6_weightOfWaking 5 = .ok (.invokestatic 206, 3) := by decide +kernel
theorem dX6_weightOfWaking_8 : decode cX6_weightOfWaking 8 = .ok (.bipush 10, 2) := by decide +kernel
theorem dX6_weightOfWaking_10 : decode cX6_weightOfWaking 10 = .ok (.iload_n 2, 1) := by decide +kernel
theorem dX6_weightOfWaking_11 : decode cX6_weightOfWaking 11 = .ok (.isub, 1) := by decide +kernel
theorem dX6_weightOfWaking_12 : decode cX6_weightOfWaking 12 = .ok (.iload_n 1, 1) := by decide +kernel
theorem dX6_weightOfWaking_13 : decode cX6_weightOfWaking 13 = .ok (.iload_n 0, 1) := by decide +kernel
theorem dX6_weightOfWaking_14 : decode cX6_weightOfWaking 14 = .ok (.iconst (-1), 1) := by decide +kernel
theorem dX6_weightOfWaking_15 : decode cX6_weightOfWaking 15 = .ok (.ixor, 1) := by decide +kernel
theorem dX6_weightOfWaking_16 : decode cX6_weightOfWaking 16 = .ok (.iand, 1) := by decide +kernel
theorem dX6_weightOfWaking_17 : decode cX6_weightOfWaking 17 = .ok (.invokestatic 141, 3) := by decide +kernel
theorem dX6_weightOfWaking_20 : decode cX6_weightOfWaking 20 = .ok (.invokestatic 206, 3) := by decide +kernel
theorem dX6_weightOfWaking_23 : decode cX6_weightOfWaking 23 = .ok (.imul, 1) := by decide +kernel
theorem dX6_weightOfWaking_24 : decode cX6_weightOfWaking 24 = .ok (.ireturn, 1) := by decide +kernel
theorem dX6_power_0 : decode cX6_power 0 = .ok (.iconst 1, 1) := by decide +kernel
theorem dX6_power_1 : decode cX6_power 1 = .ok (.istore_n 2, 1) := by decide +kernel
theorem dX6_power_2 : decode cX6_power 2 = .ok (.iconst 0, 1) := by decide +kernel
theorem dX6_power_3 : decode cX6_power 3 = .ok (.istore_n 3, 1) := by decide +kernel
theorem dX6_power_4 : decode cX6_power 4 = .ok (.iload_n 3, 1) := by decide +kernel
theorem dX6_power_5 : decode cX6_power 5 = .ok (.iload_n 1, 1) := by decide +kernel
theorem dX6_power_6 : decode cX6_power 6 = .ok (.if_icmp .ge 13, 3) := by decide +kernel
theorem dX6_power_9 : decode cX6_power 9 = .ok (.iload_n 2, 1) := by decide +kernel
theorem dX6_power_10 : decode cX6_power 10 = .ok (.iload_n 0, 1) := by decide +kernel
theorem dX6_power_11 : decode cX6_power 11 = .ok (.imul, 1) := by decide +kernel
theorem dX6_power_12 : decode cX6_power 12 = .ok (.istore_n 2, 1) := by decide +kernel
theorem dX6_power_13 : decode cX6_power 13 = .ok (.iinc 3 1, 3) := by decide +kernel
theorem dX6_power_16 : decode cX6_power 16 = .ok (.goto (-12), 3) := by decide +kernel
theorem dX6_power_19 : decode cX6_power 19 = .ok (.iload_n 2, 1) := by decide +kernel
theorem dX6_power_20 : decode cX6_power 20 = .ok (.ireturn, 1) := by decide +kernel
theorem dX6_leastTerms_0 : decode cX6_leastTerms 0 = .ok (.iconst 1, 1) := by decide +kernel
theorem dX6_leastTerms_1 : decode cX6_leastTerms 1 = .ok (.iload_n 0, 1) := by decide +kernel
theorem dX6_leastTerms_2 : decode cX6_leastTerms 2 = .ok (.iload_n 1, 1) := by decide +kernel
theorem dX6_leastTerms_3 : decode cX6_leastTerms 3 = .ok (.invokestatic 270, 3) := by decide +kernel
theorem dX6_leastTerms_6 : decode cX6_leastTerms 6 = .ok (.invokestatic 162, 3) := by decide +kernel
theorem dX6_leastTerms_9 : decode cX6_leastTerms 9 = .ok (.istore_n 3, 1) := by decide +kernel
theorem dX6_leastTerms_10 : decode cX6_leastTerms 10 = .ok (.iload_n 2, 1) := by decide +kernel
theorem dX6_leastTerms_11 : decode cX6_leastTerms 11 = .ok (.ifCond .ne 7, 3) := by decide +kernel
theorem dX6_leastTerms_14 : decode cX6_leastTerms 14 = .ok (.iload_n 0, 1) := by decide +kernel
theorem dX6_leastTerms_15 : decode cX6_leastTerms 15 = .ok (.goto 4, 3) := by decide +kernel
theorem dX6_leastTerms_18 : decode cX6_leastTerms 18 = .ok (.iload_n 1, 1) := by decide +kernel
theorem dX6_leastTerms_19 : decode cX6_leastTerms 19 = .ok (.iload_n 3, 1) := by decide +kernel
theorem dX6_leastTerms_20 : decode cX6_leastTerms 20 = .ok (.idiv, 1) := by decide +kernel
theorem dX6_leastTerms_21 : decode cX6_leastTerms 21 = .ok (.ireturn, 1) := by decide +kernel
theorem dX6_commonDivisor_0 : decode cX6_commonDivisor 0 = .ok (.iload_n 0, 1) := by decide +kernel
theorem dX6_commonDivisor_1 : decode cX6_commonDivisor 1 = .ok (.istore_n 2, 1) := by decide +kernel
theorem dX6_commonDivisor_2 : decode cX6_commonDivisor 2 = .ok (.iload_n 1, 1) := by decide +kernel
theorem dX6_commonDivisor_3 : decode cX6_commonDivisor 3 = .ok (.istore_n 3, 1) := by decide +kernel
theorem dX6_commonDivisor_4 : decode cX6_commonDivisor 4 = .ok (.iconst 0, 1) := by decide +kernel
theorem dX6_commonDivisor_5 : decode cX6_commonDivisor 5 = .ok (.istore 4, 2) := by decide +kernel
theorem dX6_commonDivisor_7 : decode cX6_commonDivisor 7 = .ok (.iload 4, 2) := by decide +kernel
theorem dX6_commonDivisor_9 : decode cX6_commonDivisor 9 = .ok (.bipush 64, 2) := by decide +kernel
theorem dX6_commonDivisor_11 : decode cX6_commonDivisor 11 = .ok (.if_icmp .ge 23, 3) := by decide +kernel
theorem dX6_commonDivisor_14 : decode cX6_commonDivisor 14 = .ok (.iload_n 3, 1) := by decide +kernel
theorem dX6_commonDivisor_15 : decode cX6_commonDivisor 15 = .ok (.ifCond .eq 19, 3) := by decide +kernel
theorem dX6_commonDivisor_18 : decode cX6_commonDivisor 18 = .ok (.iload_n 2, 1) := by decide +kernel
theorem dX6_commonDivisor_19 : decode cX6_commonDivisor 19 = .ok (.iload_n 3, 1) := by decide +kernel
theorem dX6_commonDivisor_20 : decode cX6_commonDivisor 20 = .ok (.irem, 1) := by decide +kernel
theorem dX6_commonDivisor_21 : decode cX6_commonDivisor 21 = .ok (.istore 5, 2) := by decide +kernel
theorem dX6_commonDivisor_23 : decode cX6_commonDivisor 23 = .ok (.iload_n 3, 1) := by decide +kernel
theorem dX6_commonDivisor_24 : decode cX6_commonDivisor 24 = .ok (.istore_n 2, 1) := by decide +kernel
theorem dX6_commonDivisor_25 : decode cX6_commonDivisor 25 = .ok (.iload 5, 2) := by decide +kernel
theorem dX6_commonDivisor_27 : decode cX6_commonDivisor 27 = .ok (.istore_n 3, 1) := by decide +kernel
theorem dX6_commonDivisor_28 : decode cX6_commonDivisor 28 = .ok (.iinc 4 1, 3) := by decide +kernel
theorem dX6_commonDivisor_31 : decode cX6_commonDivisor 31 = .ok (.goto (-24), 3) := by decide +kernel
theorem dX6_commonDivisor_34 : decode cX6_commonDivisor 34 = .ok (.iload_n 2, 1) := by decide +kernel
theorem dX6_commonDivisor_35 : decode cX6_commonDivisor 35 = .ok (.ireturn, 1) := by decide +kernel
theorem dX6_hoursAsleep_0 : decode cX6_hoursAsleep 0 = .ok (.iload_n 1, 1) := by decide +kernel
theorem dX6_hoursAsleep_1 : decode cX6_hoursAsleep 1 = .ok (.bipush (-9), 2) := by decide +kernel
theorem dX6_hoursAsleep_3 : decode cX6_hoursAsleep 3 = .ok (.if_icmp .ne 5, 3) := by decide +kernel
theorem dX6_hoursAsleep_6 : decode cX6_hoursAsleep 6 = .ok (.iconst 0, 1) := by decide +kernel
theorem dX6_hoursAsleep_7 : decode cX6_hoursAsleep 7 = .ok (.ireturn, 1) := by decide +kernel
theorem dX6_hoursAsleep_8 : decode cX6_hoursAsleep 8 = .ok (.iconst 0, 1) := by decide +kernel
theorem dX6_hoursAsleep_9 : decode cX6_hoursAsleep 9 = .ok (.istore_n 3, 1) := by decide +kernel
theorem dX6_hoursAsleep_10 : decode cX6_hoursAsleep 10 = .ok (.iload_n 2, 1) := by decide +kernel
theorem dX6_hoursAsleep_11 : decode cX6_hoursAsleep 11 = .ok (.istore 4, 2) := by decide +kernel
theorem dX6_hoursAsleep_13 : decode cX6_hoursAsleep 13 = .ok (.iconst 0, 1) := by decide +kernel
theorem dX6_hoursAsleep_14 : decode cX6_hoursAsleep 14 = .ok (.istore 5, 2) := by decide +kernel
theorem dX6_hoursAsleep_16 : decode cX6_hoursAsleep 16 = .ok (.iload 5, 2) := by decide +kernel
theorem dX6_hoursAsleep_18 : decode cX6_hoursAsleep 18 = .ok (.bipush 24, 2) := by decide +kernel
theorem dX6_hoursAsleep_20 : decode cX6_hoursAsleep 20 = .ok (.if_icmp .gt 51, 3) := by decide +kernel
theorem dX6_hoursAsleep_23 : decode cX6_hoursAsleep 23 = .ok (.iload 4, 2) := by decide +kernel
theorem dX6_hoursAsleep_25 : decode cX6_hoursAsleep 25 = .ok (.bipush 40, 2) := by decide +kernel
theorem dX6_hoursAsleep_27 : decode cX6_hoursAsleep 27 = .ok (.if_icmp .lt 10, 3) := by decide +kernel
theorem dX6_hoursAsleep_30 : decode cX6_hoursAsleep 30 = .ok (.iload_n 3, 1) := by decide +kernel
theorem dX6_hoursAsleep_31 : decode cX6_hoursAsleep 31 = .ok (.iconst 1, 1) := by decide +kernel
theorem dX6_hoursAsleep_32 : decode cX6_hoursAsleep 32 = .ok (.iload 5, 2) := by decide +kernel
theorem dX6_hoursAsleep_34 : decode cX6_hoursAsleep 34 = .ok (.ishl, 1) := by decide +kernel
theorem dX6_hoursAsleep_35 : decode cX6_hoursAsleep 35 = .ok (.ior, 1) := by decide +kernel
theorem dX6_hoursAsleep_36 : decode cX6_hoursAsleep 36 = .ok (.istore_n 3, 1) := by decide +kernel
theorem dX6_hoursAsleep_37 : decode cX6_hoursAsleep 37 = .ok (.bipush 60, 2) := by decide +kernel
theorem dX6_hoursAsleep_39 : decode cX6_hoursAsleep 39 = .ok (.iload 4, 2) := by decide +kernel
theorem dX6_hoursAsleep_41 : decode cX6_hoursAsleep 41 = .ok (.aload_n 0, 1) := by decide +kernel
theorem dX6_hoursAsleep_42 : decode cX6_hoursAsleep 42 = .ok (.getfield 19, 3) := by decide +kernel
theorem dX6_hoursAsleep_45 : decode cX6_hoursAsleep 45 = .ok (.iload_n 1, 1) := by decide +kernel
theorem dX6_hoursAsleep_46 : decode cX6_hoursAsleep 46 = .ok (.aload_n 0, 1) := by decide +kernel
theorem dX6_hoursAsleep_47 : decode cX6_hoursAsleep 47 = .ok (.getfield 29, 3) := by decide +kernel
theorem dX6_hoursAsleep_50 : decode cX6_hoursAsleep 50 = .ok (.getfield 117, 3) := by decide +kernel
theorem dX6_hoursAsleep_53 : decode cX6_hoursAsleep 53 = .ok (.iload 5, 2) := by decide +kernel
theorem dX6_hoursAsleep_55 : decode cX6_hoursAsleep 55 = .ok (.iadd, 1) := by decide +kernel
theorem dX6_hoursAsleep_56 : decode cX6_hoursAsleep 56 = .ok (.invokevirtual 273, 3) := by decide +kernel
theorem dX6_hoursAsleep_59 : decode cX6_hoursAsleep 59 = .ok (.iadd, 1) := by decide +kernel
theorem dX6_hoursAsleep_60 : decode cX6_hoursAsleep 60 = .ok (.invokestatic 235, 3) := by decide +kernel
theorem dX6_hoursAsleep_63 : decode cX6_hoursAsleep 63 = .ok (.istore 4, 2) := by decide +kernel
theorem dX6_hoursAsleep_65 : decode cX6_hoursAsleep 65 = .ok (.iinc 5 1, 3) := by decide +kernel
theorem dX6_hoursAsleep_68 : decode cX6_hoursAsleep 68 = .ok (.goto (-52), 3) := by decide +kernel
theorem dX6_hoursAsleep_71 : decode cX6_hoursAsleep 71 = .ok (.iload_n 3, 1) := by decide +kernel
theorem dX6_hoursAsleep_72 : decode cX6_hoursAsleep 72 = .ok (.ireturn, 1) := by decide +kernel
theorem dX6_rateOfPost_0 : decode cX6_rateOfPost 0 = .ok (.aload_n 0, 1) := by decide +kernel
theorem dX6_rateOfPost_1 : decode cX6_rateOfPost 1 = .ok (.dup, 1) := by decide +kernel
theorem dX6_rateOfPost_2 : decode cX6_rateOfPost 2 = .ok (.getfield 263, 3) := by decide +kernel
theorem dX6_rateOfPost_5 : decode cX6_rateOfPost 5 = .ok (.lconst 1, 1) := by decide +kernel
theorem dX6_rateOfPost_6 : decode cX6_rateOfPost 6 = .ok (.ladd, 1) := by decide +kernel
theorem dX6_rateOfPost_7 : decode cX6_rateOfPost 7 = .ok (.putfield 263, 3) := by decide +kernel
theorem dX6_rateOfPost_10 : decode cX6_rateOfPost 10 = .ok (.aload_n 0, 1) := by decide +kernel
theorem dX6_rateOfPost_11 : decode cX6_rateOfPost 11 = .ok (.getfield 19, 3) := by decide +kernel
theorem dX6_rateOfPost_14 : decode cX6_rateOfPost 14 = .ok (.getfield 95, 3) := by decide +kernel
theorem dX6_rateOfPost_17 : decode cX6_rateOfPost 17 = .ok (.iload_n 1, 1) := by decide +kernel
theorem dX6_rateOfPost_18 : decode cX6_rateOfPost 18 = .ok (.iaload, 1) := by decide +kernel
theorem dX6_rateOfPost_19 : decode cX6_rateOfPost 19 = .ok (.ireturn, 1) := by decide +kernel
theorem dX6_rateOfGate_0 : decode cX6_rateOfGate 0 = .ok (.aload_n 0, 1) := by decide +kernel
theorem dX6_rateOfGate_1 : decode cX6_rateOfGate 1 = .ok (.dup, 1) := by decide +kernel
theorem dX6_rateOfGate_2 : decode cX6_rateOfGate 2 = .ok (.getfield 263, 3) := by decide +kernel
theorem dX6_rateOfGate_5 : decode cX6_rateOfGate 5 = .ok (.ldc2_w 276, 3) := by decide +kernel
theorem dX6_rateOfGate_8 : decode cX6_rateOfGate 8 = .ok (.ladd, 1) := by decide +kernel
theorem dX6_rateOfGate_9 : decode cX6_rateOfGate 9 = .ok (.putfield 263, 3) := by decide +kernel
theorem dX6_rateOfGate_12 : decode cX6_rateOfGate 12 = .ok (.aload_n 0, 1) := by decide +kernel
theorem dX6_rateOfGate_13 : decode cX6_rateOfGate 13 = .ok (.iload_n 1, 1) := by decide +kernel
theorem dX6_rateOfGate_14 : decode cX6_rateOfGate 14 = .ok (.invokevirtual 239, 3) := by decide +kernel
theorem dX6_rateOfGate_17 : decode cX6_rateOfGate 17 = .ok (.aload_n 0, 1) := by decide +kernel
theorem dX6_rateOfGate_18 : decode cX6_rateOfGate 18 = .ok (.getfield 29, 3) := by decide +kernel
theorem dX6_rateOfGate_21 : decode cX6_rateOfGate 21 = .ok (.getfield 102, 3) := by decide +kernel
theorem dX6_rateOfGate_24 : decode cX6_rateOfGate 24 = .ok (.iload_n 1, 1) := by decide +kernel
theorem dX6_rateOfGate_25 : decode cX6_rateOfGate 25 = .ok (.iaload, 1) := by decide +kernel
theorem dX6_rateOfGate_26 : decode cX6_rateOfGate 26 = .ok (.iadd, 1) := by decide +kernel
theorem dX6_rateOfGate_27 : decode cX6_rateOfGate 27 = .ok (.ireturn, 1) := by decide +kernel
theorem dX6_rateOfPump_0 : decode cX6_rateOfPump 0 = .ok (.aload_n 0, 1) := by decide +kernel
theorem dX6_rateOfPump_1 : decode cX6_rateOfPump 1 = .ok (.dup, 1) := by decide +kernel
theorem dX6_rateOfPump_2 : decode cX6_rateOfPump 2 = .ok (.getfield 263, 3) := by decide +kernel
theorem dX6_rateOfPump_5 : decode cX6_rateOfPump 5 = .ok (.ldc2_w 278, 3) := by decide +kernel
theorem dX6_rateOfPump_8 : decode cX6_rateOfPump 8 = .ok (.ladd, 1) := by decide +kernel
theorem dX6_rateOfPump_9 : decode cX6_rateOfPump 9 = .ok (.putfield 263, 3) := by decide +kernel
theorem dX6_rateOfPump_12 : decode cX6_rateOfPump 12 = .ok (.aload_n 0, 1) := by decide +kernel
theorem dX6_rateOfPump_13 : decode cX6_rateOfPump 13 = .ok (.getfield 29, 3) := by decide +kernel
theorem dX6_rateOfPump_16 : decode cX6_rateOfPump 16 = .ok (.getfield 99, 3) := by decide +kernel
theorem dX6_rateOfPump_19 : decode cX6_rateOfPump 19 = .ok (.iload_n 1, 1) := by decide +kernel
theorem dX6_rateOfPump_20 : decode cX6_rateOfPump 20 = .ok (.iaload, 1) := by decide +kernel
theorem dX6_rateOfPump_21 : decode cX6_rateOfPump 21 = .ok (.istore_n 2, 1) := by decide +kernel
theorem dX6_rateOfPump_22 : decode cX6_rateOfPump 22 = .ok (.aload_n 0, 1) := by decide +kernel
theorem dX6_rateOfPump_23 : decode cX6_rateOfPump 23 = .ok (.iload_n 1, 1) := by decide +kernel
theorem dX6_rateOfPump_24 : decode cX6_rateOfPump 24 = .ok (.invokevirtual 239, 3) := by decide +kernel
theorem dX6_rateOfPump_27 : decode cX6_rateOfPump 27 = .ok (.iload_n 2, 1) := by decide +kernel
theorem dX6_rateOfPump_28 : decode cX6_rateOfPump 28 = .ok (.bipush (-9), 2) := by decide +kernel
theorem dX6_rateOfPump_30 : decode cX6_rateOfPump 30 = .ok (.if_icmp .ne 7, 3) := by decide +kernel
theorem dX6_rateOfPump_33 : decode cX6_rateOfPump 33 = .ok (.iconst 0, 1) := by decide +kernel
theorem dX6_rateOfPump_34 : decode cX6_rateOfPump 34 = .ok (.goto 12, 3) := by decide +kernel
theorem dX6_rateOfPump_37 : decode cX6_rateOfPump 37 = .ok (.aload_n 0, 1) := by decide +kernel
theorem dX6_rateOfPump_38 : decode cX6_rateOfPump 38 = .ok (.getfield 29, 3) := by decide +kernel
theorem dX6_rateOfPump_41 : decode cX6_rateOfPump 41 = .ok (.getfield 111, 3) := by decide +kernel
theorem dX6_rateOfPump_44 : decode cX6_rateOfPump 44 = .ok (.iload_n 2, 1) := by decide +kernel
theorem dX6_rateOfPump_45 : decode cX6_rateOfPump 45 = .ok (.iaload, 1) := by decide +kernel
theorem dX6_rateOfPump_46 : decode cX6_rateOfPump 46 = .ok (.isub, 1) := by decide +kernel
theorem dX6_rateOfPump_47 : decode cX6_rateOfPump 47 = .ok (.ireturn, 1) := by decide +kernel
theorem dX6_rateOfLane_0 : decode cX6_rateOfLane 0 = .ok (.aload_n 0, 1) := by decide +kernel
theorem dX6_rateOfLane_1 : decode cX6_rateOfLane 1 = .ok (.dup, 1) := by decide +kernel
theorem dX6_rateOfLane_2 : decode cX6_rateOfLane 2 = .ok (.getfield 263, 3) := by decide +kernel
theorem dX6_rateOfLane_5 : decode cX6_rateOfLane 5 = .ok (.ldc2_w 280, 3) := by decide +kernel
theorem dX6_rateOfLane_8 : decode cX6_rateOfLane 8 = .ok (.ladd, 1) := by decide +kernel
theorem dX6_rateOfLane_9 : decode cX6_rateOfLane 9 = .ok (.putfield 263, 3) := by decide +kernel
theorem dX6_rateOfLane_12 : decode cX6_rateOfLane 12 = .ok (.iconst 2, 1) := by decide +kernel
theorem dX6_rateOfLane_13 : decode cX6_rateOfLane 13 = .ok (.aload_n 0, 1) := by decide +kernel
theorem dX6_rateOfLane_14 : decode cX6_rateOfLane 14 = .ok (.iload_n 1, 1) := by decide +kernel
theorem dX6_rateOfLane_15 : decode cX6_rateOfLane 15 = .ok (.invokevirtual 242, 3) := by decide +kernel
theorem dX6_rateOfLane_18 : decode cX6_rateOfLane 18 = .ok (.imul, 1) := by decide +kernel
theorem dX6_rateOfLane_19 : decode cX6_rateOfLane 19 = .ok (.ireturn, 1) := by decide +kernel
theorem dX6_rateOfYard_0 : decode cX6_rateOfYard 0 = .ok (.aload_n 0, 1) := by decide +kernel
theorem dX6_rateOfYard_1 : decode cX6_rateOfYard 1 = .ok (.dup, 1) := by decide +kernel
theorem dX6_rateOfYard_2 : decode cX6_rateOfYard 2 = .ok (.getfield 263, 3) := by decide +kernel
theorem dX6_rateOfYard_5 : decode cX6_rateOfYard 5 = .ok (.ldc2_w 282, 3) := by decide +kernel
theorem dX6_rateOfYard_8 : decode cX6_rateOfYard 8 = .ok (.ladd, 1) := by decide +kernel
theorem dX6_rateOfYard_9 : decode cX6_rateOfYard 9 = .ok (.putfield 263, 3) := by decide +kernel
theorem dX6_rateOfYard_12 : decode cX6_rateOfYard 12 = .ok (.aload_n 0, 1) := by decide +kernel
theorem dX6_rateOfYard_13 : decode cX6_rateOfYard 13 = .ok (.iload_n 1, 1) := by decide +kernel
theorem dX6_rateOfYard_14 : decode cX6_rateOfYard 14 = .ok (.invokevirtual 245, 3) := by decide +kernel
theorem dX6_rateOfYard_17 : decode cX6_rateOfYard 17 = .ok (.iload_n 1, 1) := by decide +kernel
theorem dX6_rateOfYard_18 : decode cX6_rateOfYard 18 = .ok (.iadd, 1) := by decide +kernel
theorem dX6_rateOfYard_19 : decode cX6_rateOfYard 19 = .ok (.ireturn, 1) := by decide +kernel
theorem dX6_rateOfTower_0 : decode cX6_rateOfTower 0 = .ok (.aload_n 0, 1) := by decide +kernel
theorem dX6_rateOfTower_1 : decode cX6_rateOfTower 1 = .ok (.dup, 1) := by decide +kernel
theorem dX6_rateOfTower_2 : decode cX6_rateOfTower 2 = .ok (.getfield 263, 3) := by decide +kernel
theorem dX6_rateOfTower_5 : decode cX6_rateOfTower 5 = .ok (.ldc2_w 284, 3) := by decide +kernel
theorem dX6_rateOfTower_8 : decode cX6_rateOfTower 8 = .ok (.ladd, 1) := by decide +kernel
theorem dX6_rateOfTower_9 : decode cX6_rateOfTower 9 = .ok (.putfield 263, 3) := by decide +kernel
theorem dX6_rateOfTower_12 : decode cX6_rateOfTower 12 = .ok (.aload_n 0, 1) := by decide +kernel
theorem dX6_rateOfTower_13 : decode cX6_rateOfTower 13 = .ok (.iload_n 1, 1) := by decide +kernel
theorem dX6_rateOfTower_14 : decode cX6_rateOfTower 14 = .ok (.invokevirtual 239, 3) := by decide +kernel
theorem dX6_rateOfTower_17 : decode cX6_rateOfTower 17 = .ok (.aload_n 0, 1) := by decide +kernel
theorem dX6_rateOfTower_18 : decode cX6_rateOfTower 18 = .ok (.getfield 19, 3) := by decide +kernel
theorem dX6_rateOfTower_21 : decode cX6_rateOfTower 21 = .ok (.iload_n 1, 1) := by decide +kernel
theorem dX6_rateOfTower_22 : decode cX6_rateOfTower 22 = .ok (.invokevirtual 91, 3) := by decide +kernel
theorem dX6_rateOfTower_25 : decode cX6_rateOfTower 25 = .ok (.invokestatic 141, 3) := by decide +kernel
theorem dX6_rateOfTower_28 : decode cX6_rateOfTower 28 = .ok (.iadd, 1) := by decide +kernel
theorem dX6_rateOfTower_29 : decode cX6_rateOfTower 29 = .ok (.ireturn, 1) := by decide +kernel
theorem dX7_init_0 : decode cX7_init 0 = .ok (.aload_n 0, 1) := by decide +kernel
theorem dX7_init_1 : decode cX7_init 1 = .ok (.invokespecial 1, 3) := by decide +kernel
theorem dX7_init_4 : decode cX7_init 4 = .ok (.aload_n 0, 1) := by decide +kernel
theorem dX7_init_5 : decode cX7_init 5 = .ok (.sipush 200, 3) := by decide +kernel
theorem dX7_init_8 : decode cX7_init 8 = .ok (.newarray .int, 2) := by decide +kernel
theorem dX7_init_10 : decode cX7_init 10 = .ok (.putfield 7, 3) := by decide +kernel
theorem dX7_init_13 : decode cX7_init 13 = .ok (.aload_n 0, 1) := by decide +kernel
theorem dX7_init_14 : decode cX7_init 14 = .ok (.bipush 8, 2) := by decide +kernel
theorem dX7_init_16 : decode cX7_init 16 = .ok (.newarray .int, 2) := by decide +kernel
theorem dX7_init_18 : decode cX7_init 18 = .ok (.putfield 13, 3) := by decide +kernel
theorem dX7_init_21 : decode cX7_init 21 = .ok (.aload_n 0, 1) := by decide +kernel
theorem dX7_init_22 : decode cX7_init 22 = .ok (.bipush 10, 2) := by decide +kernel
theorem dX7_init_24 : decode cX7_init 24 = .ok (.newarray .int, 2) := by decide +kernel
theorem dX7_init_26 : decode cX7_init 26 = .ok (.putfield 16, 3) := by decide +kernel
theorem dX7_init_29 : decode cX7_init 29 = .ok (.aload_n 0, 1) := by decide +kernel
theorem dX7_init_30 : decode cX7_init 30 = .ok (.bipush 10, 2) := by decide +kernel
theorem dX7_init_32 : decode cX7_init 32 = .ok (.newarray .int, 2) := by decide +kernel
theorem dX7_init_34 : decode cX7_init 34 = .ok (.putfield 19, 3) := by decide +kernel
theorem dX7_init_37 : decode cX7_init 37 = .ok (.aload_n 0, 1) := by decide +kernel
theorem dX7_init_38 : decode cX7_init 38 = .ok (.bipush 12, 2) := by decide +kernel
theorem dX7_init_40 : decode cX7_init 40 = .ok (.newarray .int, 2) := by decide +kernel
theorem dX7_init_42 : decode cX7_init 42 = .ok (.putfield 22, 3) := by decide +kernel
theorem dX7_init_45 : decode cX7_init 45 = .ok (.aload_n 0, 1) := by decide +kernel
theorem dX7_init_46 : decode cX7_init 46 = .ok (.bipush 48, 2) := by decide +kernel
theorem dX7_init_48 : decode cX7_init 48 = .ok (.newarray .int, 2) := by decide +kernel
theorem dX7_init_50 : decode cX7_init 50 = .ok (.putfield 25, 3) := by decide +kernel
theorem dX7_init_53 : decode cX7_init 53 = .ok (.aload_n 0, 1) := by decide +kernel
theorem dX7_init_54 : decode cX7_init 54 = .ok (.bipush 48, 2) := by decide +kernel
theorem dX7_init_56 : decode cX7_init 56 = .ok (.newarray .int, 2) := by decide +kernel
theorem dX7_init_58 : decode cX7_init 58 = .ok (.putfield 28, 3) := by decide +kernel
theorem dX7_init_61 : decode cX7_init 61 = .ok (.aload_n 0, 1) := by decide +kernel
theorem dX7_init_62 : decode cX7_init 62 = .ok (.bipush 96, 2) := by decide +kernel
theorem dX7_init_64 : decode cX7_init 64 = .ok (.newarray .int, 2) := by decide +kernel
theorem dX7_init_66 : decode cX7_init 66 = .ok (.putfield 31, 3) := by decide +kernel
theorem dX7_init_69 : decode cX7_init 69 = .ok (.aload_n 0, 1) := by decide +kernel
theorem dX7_init_70 : decode cX7_init 70 = .ok (.iconst 2, 1) := by decide +kernel
theorem dX7_init_71 : decode cX7_init 71 = .ok (.newarray .boolean, 2) := by decide +kernel
theorem dX7_init_73 : decode cX7_init 73 = .ok (.putfield 34, 3) := by decide +kernel
theorem dX7_init_76 : decode cX7_init 76 = .ok (.aload_n 0, 1) := by decide +kernel
theorem dX7_init_77 : decode cX7_init 77 = .ok (.sipush 480, 3) := by decide +kernel
theorem dX7_init_80 : decode cX7_init 80 = .ok (.newarray .int, 2) := by decide +kernel
theorem dX7_init_82 : decode cX7_init 82 = .ok (.putfield 38, 3) := by decide +kernel
theorem dX7_init_85 : decode cX7_init 85 = .ok (.aload_n 0, 1) := by decide +kernel
theorem dX7_init_86 : decode cX7_init 86 = .ok (.bipush 6, 2) := by decide +kernel
theorem dX7_init_88 : decode cX7_init 88 = .ok (.newarray .int, 2) := by decide +kernel
theorem dX7_init_90 : decode cX7_init 90 = .ok (.putfield 41, 3) := by decide +kernel
theorem dX7_init_93 : decode cX7_init 93 = .ok (.aload_n 0, 1) := by decide +kernel
theorem dX7_init_94 : decode cX7_init 94 = .ok (.bipush 6, 2) := by decide +kernel
theorem dX7_init_96 : decode cX7_init 96 = .ok (.newarray .int, 2) := by decide +kernel
theorem dX7_init_98 : decode cX7_init 98 = .ok (.putfield 44, 3) := by decide +kernel
theorem dX7_init_101 : decode cX7_init 101 = .ok (.aload_n 0, 1) := by decide +kernel
theorem dX7_init_102 : decode cX7_init 102 = .ok (.bipush 6, 2) := by decide +kernel
theorem dX7_init_104 : decode cX7_init 104 = .ok (.newarray .int, 2) := by decide +kernel
theorem dX7_init_106 : decode cX7_init 106 = .ok (.putfield 47, 3) := by decide +kernel
theorem dX7_init_109 : decode cX7_init 109 = .ok (.aload_n 0, 1) := by decide +kernel
theorem dX7_init_110 : decode cX7_init 110 = .ok (.iconst 5, 1) := by decide +kernel
theorem dX7_init_111 : decode cX7_init 111 = .ok (.newarray .int, 2) := by decide +kernel
theorem dX7_init_113 : decode cX7_init 113 = .ok (.putfield 50, 3) := by decide +kernel
theorem dX7_init_116 : decode cX7_init 116 = .ok (.aload_n 0, 1) := by decide +kernel
theorem dX7_init_117 : decode cX7_init 117 = .ok (.iconst 5, 1) := by decide +kernel
theorem dX7_init_118 : decode cX7_init 118 = .ok (.newarray .int, 2) := by decide +kernel
theorem dX7_init_120 : decode cX7_init 120 = .ok (.putfield 53, 3) := by decide +kernel
theorem dX7_init_123 : decode cX7_init 123 = .ok (.aload_n 0, 1) := by decide +kernel
theorem dX7_init_124 : decode cX7_init 124 = .ok (.getfield 13, 3) := by decide +kernel
theorem dX7_init_127 : decode cX7_init 127 = .ok (.iconst 2, 1) := by decide +kernel
theorem dX7_init_128 : decode cX7_init 128 = .ok (.iconst 2, 1) := by decide +kernel
theorem dX7_init_129 : decode cX7_init 129 = .ok (.iastore, 1) := by decide +kernel
theorem dX7_init_130 : decode cX7_init 130 = .ok (.aload_n 0, 1) := by decide +kernel
theorem dX7_init_131 : decode cX7_init 131 = .ok (.getfield 13, 3) := by decide +kernel
theorem dX7_init_134 : decode cX7_init 134 = .ok (.iconst 3, 1) := by decide +kernel
theorem dX7_init_135 : decode cX7_init 135 = .ok (.iconst 3, 1) := by decide +kernel
theorem dX7_init_136 : decode cX7_init 136 = .ok (.iastore, 1) := by decide +kernel
theorem dX7_init_137 : decode cX7_init 137 = .ok (.return_, 1) := by decide +kernel
theorem dX7_in_0 : decode cX7_in 0 = .ok (.iload_n 0, 1) := by decide +kernel
theorem dX7_in_1 : decode cX7_in 1 = .ok (.iload_n 1, 1) := by decide +kernel
theorem dX7_in_2 : decode cX7_in 2 = .ok (.if_icmp .lt 12, 3) := by decide +kernel
theorem dX7_in_5 : decode cX7_in 5 = .ok (.iload_n 0, 1) := by decide +kernel
theorem dX7_in_6 : decode cX7_in 6 = .ok (.iload_n 2, 1) := by decide +kernel
theorem dX7_in_7 : decode cX7_in 7 = .ok (.if_icmp .gt 7, 3) := by decide +kernel
theorem dX7_in_10 : decode cX7_in 10 = .ok (.iconst 1, 1) := by decide +kernel
theorem dX7_in_11 : decode cX7_in 11 = .ok (.goto 4, 3) := by decide +kernel
theorem dX7_in_14 : decode cX7_in 14 = .ok (.iconst 0, 1) := by decide +kernel
theorem dX7_in_15 : decode cX7_in 15 = .ok (.ireturn, 1) := by decide +kernel
theorem dX7_ones_0 : decode cX7_ones 0 = .ok (.iconst 0, 1) := by decide +kernel
theorem dX7_ones_1 : decode cX7_ones 1 = .ok (.istore_n 1, 1) := by decide +kernel
theorem dX7_ones_2 : decode cX7_ones 2 = .ok (.iconst 0, 1) := by decide +kernel
theorem dX7_ones_3 : decode cX7_ones 3 = .ok (.istore_n 2, 1) := by decide +kernel
theorem dX7_ones_4 : decode cX7_ones 4 = .ok (.iload_n 2, 1) := by decide +kernel
theorem dX7_ones_5 : decode cX7_ones 5 = .ok (.bipush 6, 2) := by decide +kernel
theorem dX7_ones_7 : decode cX7_ones 7 = .ok (.if_icmp .ge 17, 3) := by decide +kernel
theorem dX7_ones_10 : decode cX7_ones 10 = .ok (.iload_n 1, 1) := by decide +kernel
theorem dX7_ones_11 : decode cX7_ones 11 = .ok (.iload_n 0, 1) := by decide +kernel
theorem dX7_ones_12 : decode cX7_ones 12 = .ok (.iload_n 2, 1) := by decide +kernel
theorem dX7_ones_13 : decode cX7_ones 13 = .ok (.ishr, 1) := by decide +kernel
theorem dX7_ones_14 : decode cX7_ones 14 = .ok (.iconst 1, 1) := by decide +kernel
theorem dX7_ones_15 : decode cX7_ones 15 = .ok (.iand, 1) := by decide +kernel
theorem dX7_ones_16 : decode cX7_ones 16 = .ok (.iadd, 1) := by decide +kernel
theorem dX7_ones_17 : decode cX7_ones 17 = .ok (.istore_n 1, 1) := by decide +kernel
theorem dX7_ones_18 : decode cX7_ones 18 = .ok (.iinc 2 1, 3) := by decide +kernel
theorem dX7_ones_21 : decode cX7_ones 21 = .ok (.goto (-17), 3) := by decide +kernel
theorem dX7_ones_24 : decode cX7_ones 24 = .ok (.iload_n 1, 1) := by decide +kernel
theorem dX7_ones_25 : decode cX7_ones 25 = .ok (.ireturn, 1) := by decide +kernel
theorem dX7_type_0 : decode cX7_type 0 = .ok (.aload_n 0, 1) := by decide +kernel
theorem dX7_type_1 : decode cX7_type 1 = .ok (.iconst 0, 1) := by decide +kernel
theorem dX7_type_2 : decode cX7_type 2 = .ok (.putfield 56, 3) := by decide +kernel
theorem dX7_type_5 : decode cX7_type 5 = .ok (.iload_n 1, 1) := by decide +kernel
theorem dX7_type_6 : decode cX7_type 6 = .ok (.iconst 0, 1) := by decide +kernel
theorem dX7_type_7 : decode cX7_type 7 = .ok (.sipush 255, 3) := by decide +kernel
theorem dX7_type_10 : decode cX7_type 10 = .ok (.invokestatic 60, 3) := by decide +kernel
theorem dX7_type_13 : decode cX7_type 13 = .ok (.ifCond .ne 5, 3) := by decide +kernel
theorem dX7_type_16 : decode cX7_type 16 = .ok (.iconst (-1), 1) := by decide +kernel
theorem dX7_type_17 : decode cX7_type 17 = .ok (.ireturn, 1) := by decide +kernel
theorem dX7_type_18 : decode cX7_type 18 = .ok (.aload_n 0, 1) := by decide +kernel
theorem dX7_type_19 : decode cX7_type 19 = .ok (.getfield 64, 3) := by decide +kernel
theorem dX7_type_22 : decode cX7_type 22 = .ok (.sipush 200, 3) := by decide +kernel
theorem dX7_type_25 : decode cX7_type 25 = .ok (.if_icmp .ne 6, 3) := by decide +kernel
theorem dX7_type_28 : decode cX7_type 28 = .ok (.bipush (-3), 2) := by decide +kernel
theorem dX7_type_30 : decode cX7_type 30 = .ok (.ireturn, 1) := by decide +kernel
theorem dX7_type_31 : decode cX7_type 31 = .ok (.aload_n 0, 1) := by decide +kernel
theorem dX7_type_32 : decode cX7_type 32 = .ok (.getfield 7, 3) := by decide +kernel
theorem dX7_type_35 : decode cX7_type 35 = .ok (.aload_n 0, 1) := by decide +kernel
theorem dX7_type_36 : decode cX7_type 36 = .ok (.getfield 64, 3) := by decide +kernel
theorem dX7_type_39 : decode cX7_type 39 = .ok (.iload_n 1, 1) := by decide +kernel
theorem dX7_type_40 : decode cX7_type 40 = .ok (.iastore, 1) := by decide +kernel
theorem dX7_type_41 : decode cX7_type 41 = .ok (.aload_n 0, 1) := by decide +kernel
theorem dX7_type_42 : decode cX7_type 42 = .ok (.dup, 1) := by decide +kernel
theorem dX7_type_43 : decode cX7_type 43 = .ok (.getfield 64, 3) := by decide +kernel
theorem dX7_type_46 : decode cX7_type 46 = .ok (.iconst 1, 1) := by decide +kernel
theorem dX7_type_47 : decode cX7_type 47 = .ok (.iadd, 1) := by decide +kernel
theorem dX7_type_48 : decode cX7_type 48 = .ok (.putfield 64, 3) := by decide +kernel
theorem dX7_type_51 : decode cX7_type 51 = .ok (.aload_n 0, 1) := by decide +kernel
theorem dX7_type_52 : decode cX7_type 52 = .ok (.getfield 64, 3) := by decide +kernel
theorem dX7_type_55 : decode cX7_type 55 = .ok (.ireturn, 1) := by decide +kernel
theorem dX7_clear_0 : decode cX7_clear 0 = .ok (.aload_n 0, 1) := by decide +kernel
theorem dX7_clear_1 : decode cX7_clear 1 = .ok (.iconst 0, 1) := by decide +kernel
theorem dX7_clear_2 : decode cX7_clear 2 = .ok (.putfield 56, 3) := by decide +kernel
theorem dX7_clear_5 : decode cX7_clear 5 = .ok (.aload_n 0, 1) := by decide +kernel
theorem dX7_clear_6 : decode cX7_clear 6 = .ok (.getfield 64, 3) := by decide +kernel
theorem dX7_clear_9 : decode cX7_clear 9 = .ok (.istore_n 1, 1) := by decide +kernel
theorem dX7_clear_10 : decode cX7_clear 10 = .ok (.aload_n 0, 1) := by decide +kernel
theorem dX7_clear_11 : decode cX7_clear 11 = .ok (.iconst 0, 1) := by decide +kernel
theorem dX7_clear_12 : decode cX7_clear 12 = .ok (.putfield 64, 3) := by decide +kernel
theorem dX7_clear_15 : decode cX7_clear 15 = .ok (.iload_n 1, 1) := by decide +kernel
theorem dX7_clear_16 : decode cX7_clear 16 = .ok (.ireturn, 1) := by decide +kernel
theorem dX7_letterAt_0 : decode cX7_letterAt 0 = .ok (.iload_n 1, 1) := by decide +kernel
theorem dX7_letterAt_1 : decode cX7_letterAt 1 = .ok (.aload_n 0, 1) := by decide +kernel
theorem dX7_letterAt_2 : decode cX7_letterAt 2 = .ok (.getfield 64, 3) := by decide +kernel
theorem dX7_letterAt_5 : decode cX7_letterAt 5 = .ok (.if_icmp .ge 12, 3) := by decide +kernel
theorem dX7_letterAt_8 : decode cX7_letterAt 8 = .ok (.aload_n 0, 1) := by decide +kernel
theorem dX7_letterAt_9 : decode cX7_letterAt 9 = .ok (.getfield 7, 3) := by decide +kernel
theorem dX7_letterAt_12 : decode cX7_letterAt 12 = .ok (.iload_n 1, 1) := by decide +kernel
theorem dX7_letterAt_13 : decode cX7_letterAt 13 = .ok (.iaload, 1) := by decide +kernel
theorem dX7_letterAt_14 : decode cX7_letterAt 14 = .ok (.goto 4, 3) := by decide +kernel
theorem dX7_letterAt_17 : decode cX7_letterAt 17 = .ok (.iconst (-1), 1) := by decide +kernel
theorem dX7_letterAt_18 : decode cX7_letterAt 18 = .ok (.ireturn, 1) := by decide +kernel
theorem dX7_advances_0 : decode cX7_advances 0 = .ok (.aload_n 0, 1) := by decide +kernel
theorem dX7_advances_1 : decode cX7_advances 1 = .ok (.aload_n 0, 1) := by decide +kernel
theorem dX7_advances_2 : decode cX7_advances 2 = .ok (.getfield 67, 3) := by decide +kernel
theorem dX7_advances_5 : decode cX7_advances 5 = .ok (.invokevirtual 70, 3) := by decide +kernel
theorem dX7_advances_8 : decode cX7_advances 8 = .ok (.bipush 32, 2) := by decide +kernel
theorem dX7_advances_10 : decode cX7_advances 10 = .ok (.if_icmp .ne 16, 3) := by decide +kernel
theorem dX7_advances_13 : decode cX7_advances 13 = .ok (.aload_n 0, 1) := by decide +kernel
theorem dX7_advances_14 : decode cX7_advances 14 = .ok (.dup, 1) := by decide +kernel
theorem dX7_advances_15 : decode cX7_advances 15 = .ok (.getfield 67, 3) := by decide +kernel
theorem dX7_advances_18 : decode cX7_advances 18 = .ok (.iconst 1, 1) := by decide +kernel
theorem dX7_advances_19 : decode cX7_advances 19 = .ok (.iadd, 1) := by decide +kernel
theorem dX7_advances_20 : decode cX7_advances 20 = .ok (.putfield 67, 3) := by decide +kernel
theorem dX7_advances_23 : decode cX7_advances 23 = .ok (.goto (-23), 3) := by decide +kernel
theorem dX7_advances_26 : decode cX7_advances 26 = .ok (.aload_n 0, 1) := by decide +kernel
theorem dX7_advances_27 : decode cX7_advances 27 = .ok (.aload_n 0, 1) := by decide +kernel
theorem dX7_advances_28 : decode cX7_advances 28 = .ok (.getfield 67, 3) := by decide +kernel
theorem dX7_advances_31 : decode cX7_advances 31 = .ok (.putfield 74, 3) := by decide +kernel
theorem dX7_advances_34 : decode cX7_advances 34 = .ok (.aload_n 0, 1) := by decide +kernel
theorem dX7_advances_35 : decode cX7_advances 35 = .ok (.aload_n 0, 1) := by decide +kernel
theorem dX7_advances_36 : decode cX7_advances 36 = .ok (.getfield 67, 3) := by decide +kernel
theorem dX7_advances_39 : decode cX7_advances 39 = .ok (.invokevirtual 70, 3) := by decide +kernel
theorem dX7_advances_42 : decode cX7_advances 42 = .ok (.istore_n 1, 1) := by decide +kernel
theorem dX7_advances_43 : decode cX7_advances 43 = .ok (.iload_n 1, 1) := by decide +kernel
theorem dX7_advances_44 : decode cX7_advances 44 = .ok (.ifCond .ge 11, 3) := by decide +kernel
theorem dX7_advances_47 : decode cX7_advances 47 = .ok (.aload_n 0, 1) := by decide +kernel
theorem dX7_advances_48 : decode cX7_advances 48 = .ok (.iconst 0, 1) := by decide +kernel
theorem dX7_advances_49 : decode cX7_advances 49 = .ok (.putfield 77, 3) := by decide +kernel
theorem dX7_advances_52 : decode cX7_advances 52 = .ok (.goto 187, 3) := by decide +kernel
theorem dX7_advances_55 : decode cX7_advances 55 = .ok (.iload_n 1, 1) := by decide +kernel
theorem dX7_advances_56 : decode cX7_advances 56 = .ok (.bipush 48, 2) := by decide +kernel
theorem dX7_advances_58 : decode cX7_advances 58 = .ok (.bipush 57, 2) := by decide +kernel
theorem dX7_advances_60 : decode cX7_advances 60 = .ok (.invokestatic 60, 3) := by decide +kernel
theorem dX7_advances_63 : decode cX7_advances 63 = .ok (.ifCond .eq 118, 3) := by decide +kernel
theorem dX7_advances_66 : decode cX7_advances 66 = .ok (.aload_n 0, 1) := by decide +kernel
theorem dX7_advances_67 : decode cX7_advances 67 = .ok (.iconst 0, 1) := by decide +kernel
theorem dX7_advances_68 : decode cX7_advances 68 = .ok (.putfield 80, 3) := by decide +kernel
theorem dX7_advances_71 : decode cX7_advances 71 = .ok (.aload_n 0, 1) := by decide +kernel
theorem dX7_advances_72 : decode cX7_advances 72 = .ok (.aload_n 0, 1) := by decide +kernel
theorem dX7_advances_73 : decode cX7_advances 73 = .ok (.getfield 67, 3) := by decide +kernel
theorem dX7_advances_76 : decode cX7_advances 76 = .ok (.invokevirtual 70, 3) := by decide +kernel
theorem dX7_advances_79 : decode cX7_advances 79 = .ok (.bipush 48, 2) := by decide +kernel
theorem dX7_advances_81 : decode cX7_advances 81 = .ok (.bipush 57, 2) := by decide +kernel
theorem dX7_advances_83 : decode cX7_advances 83 = .ok (.invokestatic 60, 3) := by decide +kernel
theorem dX7_advances_86 : decode cX7_advances 86 = .ok (.ifCond .eq 55, 3) := by decide +kernel
theorem dX7_advances_89 : decode cX7_advances 89 = .ok (.aload_n 0, 1) := by decide +kernel
theorem dX7_advances_90 : decode cX7_advances 90 = .ok (.aload_n 0, 1) := by decide +kernel
theorem dX7_advances_91 : decode cX7_advances 91 = .ok (.getfield 80, 3) := by decide +kernel
theorem dX7_advances_94 : decode cX7_advances 94 = .ok (.bipush 60, 2) := by decide +kernel
theorem dX7_advances_96 : decode cX7_advances 96 = .ok (.if_icmp .le 10, 3) := by decide +kernel
theorem dX7_advances_99 : decode cX7_advances 99 = .ok (.aload_n 0, 1) := by decide +kernel
theorem dX7_advances_100 : decode cX7_advances 100 = .ok (.getfield 80, 3) := by decide +kernel
theorem dX7_advances_103 : decode cX7_advances 103 = .ok (.goto 22, 3) := by decide +kernel
theorem dX7_advances_106 : decode cX7_advances 106 = .ok (.bipush 10, 2) := by decide +kernel
theorem dX7_advances_108 : decode cX7_advances 108 = .ok (.aload_n 0, 1) := by decide +kernel
theorem dX7_advances_109 : decode cX7_advances 109 = .ok (.getfield 80, 3) := by decide +kernel
theorem dX7_advances_112 : decode cX7_advances 112 = .ok (.imul, 1) := by decide +kernel
theorem dX7_advances_113 : decode cX7_advances 113 = .ok (.aload_n 0, 1) := by decide +kernel
theorem dX7_advances_114 : decode cX7_advances 114 = .ok (.aload_n 0, 1) := by decide +kernel
theorem dX7_advances_115 : decode cX7_advances 115 = .ok (.getfield 67, 3) := by decide +kernel
theorem dX7_advances_118 : decode cX7_advances 118 = .ok (.invokevirtual 70, 3) := by decide +kernel
theorem dX7_advances_121 : decode cX7_advances 121 = .ok (.iadd, 1) := by decide +kernel
theorem dX7_advances_122 : decode cX7_advances 122 = .ok (.bipush 48, 2) := by decide +kernel
theorem dX7_advances_124 : decode cX7_advances 124 = .ok (.isub, 1) := by decide +kernel
theorem dX7_advances_125 : decode cX7_advances 125 = .ok (.putfield 80, 3) := by decide +kernel
theorem dX7_advances_128 : decode cX7_advances 128 = .ok (.aload_n 0, 1) := by decide +kernel
theorem dX7_advances_129 : decode cX7_advances 129 = .ok (.dup, 1) := by decide +kernel
theorem dX7_advances_130 : decode cX7_advances 130 = .ok (.getfield 67, 3) := by decide +kernel
theorem dX7_advances_133 : decode cX7_advances 133 = .ok (.iconst 1, 1) := by decide +kernel
theorem dX7_advances_134 : decode cX7_advances 134 = .ok (.iadd, 1) := by decide +kernel
theorem dX7_advances_135 : decode cX7_advances 135 = .ok (.putfield 67, 3) := by decide +kernel
theorem dX7_advances_138 : decode cX7_advances 138 = .ok (.goto (-67), 3) := by decide +kernel
theorem dX7_advances_141 : decode cX7_advances 141 = .ok (.aload_n 0, 1) := by decide +kernel
theorem dX7_advances_142 : decode cX7_advances 142 = .ok (.aload_n 0, 1) := by decide +kernel
theorem dX7_advances_143 : decode cX7_advances 143 = .ok (.getfield 80, 3) := by decide +kernel
theorem dX7_advances_146 : decode cX7_advances 146 = .ok (.bipush 60, 2) := by decide +kernel
theorem dX7_advances_148 : decode cX7_advances 148 = .ok (.if_icmp .gt 22, 3) := by decide +kernel
theorem dX7_advances_151 : decode cX7_advances 151 = .ok (.iload_n 1, 1) := by decide +kernel
theorem dX7_advances_152 : decode cX7_advances 152 = .ok (.bipush 48, 2) := by decide +kernel
theorem dX7_advances_154 : decode cX7_advances 154 = .ok (.if_icmp .ne 20, 3) := by decide +kernel
theorem dX7_advances_157 : decode cX7_advances 157 = .ok (.aload_n 0, 1) := by decide +kernel
theorem dX7_advances_158 : decode cX7_advances 158 = .ok (.getfield 67, 3) := by decide +kernel
theorem dX7_advances_161 : decode cX7_advances 161 = .ok (.aload_n 0, 1) := by decide +kernel
theorem dX7_advances_162 : decode cX7_advances 162 = .ok (.getfield 74, 3) := by decide +kernel
theorem dX7_advances_165 : decode cX7_advances 165 = .ok (.isub, 1) := by decide +kernel
theorem dX7_advances_166 : decode cX7_advances 166 = .ok (.iconst 1, 1) := by decide +kernel
theorem dX7_advances_167 : decode cX7_advances 167 = .ok (.if_icmp .le 7, 3) := by decide +kernel
theorem dX7_advances_170 : decode cX7_advances 170 = .ok (.iconst 4, 1) := by decide +kernel
theorem dX7_advances_171 : decode cX7_advances 171 = .ok (.goto 4, 3) := by decide +kernel
theorem dX7_advances_174 : decode cX7_advances 174 = .ok (.iconst 2, 1) := by decide +kernel
theorem dX7_advances_175 : decode cX7_advances 175 = .ok (.putfield 77, 3) := by decide +kernel
theorem dX7_advances_178 : decode cX7_advances 178 = .ok (.goto 61, 3) := by decide +kernel
theorem dX7_advances_181 : decode cX7_advances 181 = .ok (.aload_n 0, 1) := by decide +kernel
theorem dX7_advances_182 : decode cX7_advances 182 = .ok (.dup, 1) := by decide +kernel
theorem dX7_advances_183 : decode cX7_advances 183 = .ok (.getfield 67, 3) := by decide +kernel
theorem dX7_advances_186 : decode cX7_advances 186 = .ok (.iconst 1, 1) := by decide +kernel
theorem dX7_advances_187 : decode cX7_advances 187 = .ok (.iadd, 1) := by decide +kernel
theorem dX7_advances_188 : decode cX7_advances 188 = .ok (.putfield 67, 3) := by decide +kernel
theorem dX7_advances_191 : decode cX7_advances 191 = .ok (.aload_n 0, 1) := by decide +kernel
theorem dX7_advances_192 : decode cX7_advances 192 = .ok (.iload_n 1, 1) := by decide +kernel
theorem dX7_advances_193 : decode cX7_advances 193 = .ok (.putfield 80, 3) := by decide +kernel
theorem dX7_advances_196 : decode cX7_advances 196 = .ok (.aload_n 0, 1) := by decide +kernel
theorem dX7_advances_197 : decode cX7_advances 197 = .ok (.iload_n 1, 1) := by decide +kernel
theorem dX7_advances_198 : decode cX7_advances 198 = .ok (.bipush 59, 2) := by decide +kernel
theorem dX7_advances_200 : decode cX7_advances 200 = .ok (.if_icmp .ne 7, 3) := by decide +kernel
theorem dX7_advances_203 : decode cX7_advances 203 = .ok (.iconst 3, 1) := by decide +kernel
theorem dX7_advances_204 : decode cX7_advances 204 = .ok (.goto 32, 3) := by decide +kernel
theorem dX7_advances_207 : decode cX7_advances 207 = .ok (.iload_n 1, 1) := by decide +kernel
theorem dX7_advances_208 : decode cX7_advances 208 = .ok (.bipush 112, 2) := by decide +kernel
theorem dX7_advances_210 : decode cX7_advances 210 = .ok (.if_icmp .eq 21, 3) := by decide +kernel
theorem dX7_advances_213 : decode cX7_advances 213 = .ok (.iload_n 1, 1) := by decide +kernel
theorem dX7_advances_214 : decode cX7_advances 214 = .ok (.bipush 109, 2) := by decide +kernel
theorem dX7_advances_216 : decode cX7_advances 216 = .ok (.if_icmp .eq 15, 3) := by decide +kernel
theorem dX7_advances_219 : decode cX7_advances 219 = .ok (.iload_n 1, 1) := by decide +kernel
theorem dX7_advances_220 : decode cX7_advances 220 = .ok (.bipush 111, 2) := by decide +kernel
theorem dX7_advances_222 : decode cX7_advances 222 = .ok (.if_icmp .eq 9, 3) := by decide +kernel
theorem dX7_advances_225 : decode cX7_advances 225 = .ok (.iload_n 1, 1) := by decide +kernel
theorem dX7_advances_226 : decode cX7_advances 226 = .ok (.bipush 115, 2) := by decide +kernel
theorem dX7_advances_228 : decode cX7_advances 228 = .ok (.if_icmp .ne 7, 3) := by decide +kernel
theorem dX7_advances_231 : decode cX7_advances 231 = .ok (.iconst 1, 1) := by decide +kernel
theorem dX7_advances_232 : decode cX7_advances 232 = .ok (.goto 4, 3) := by decide +kernel
theorem dX7_advances_235 : decode cX7_advances 235 = .ok (.iconst 4, 1) := by decide +kernel
theorem dX7_advances_236 : decode cX7_advances 236 = .ok (.putfield 77, 3) := by decide +kernel
theorem dX7_advances_239 : decode cX7_advances 239 = .ok (.return_, 1) := by decide +kernel
theorem dX7_isWell_0 : decode cX7_isWell 0 = .ok (.aload_n 0, 1) := by decide +kernel
theorem dX7_isWell_1 : decode cX7_isWell 1 = .ok (.getfield 83, 3) := by decide +kernel
theorem dX7_isWell_4 : decode cX7_isWell 4 = .ok (.ifCond .ge 7, 3) := by decide +kernel
theorem dX7_isWell_7 : decode cX7_isWell 7 = .ok (.iconst 1, 1) := by decide +kernel
theorem dX7_isWell_8 : decode cX7_isWell 8 = .ok (.goto 4, 3) := by decide +kernel
theorem dX7_isWell_11 : decode cX7_isWell 11 = .ok (.iconst 0, 1) := by decide +kernel
theorem dX7_isWell_12 : decode cX7_isWell 12 = .ok (.ireturn, 1) := by decide +kernel
theorem dX7_takes_0 : decode cX7_takes 0 = .ok (.aload_n 0, 1) := by decide +kernel
theorem dX7_takes_1 : decode cX7_takes 1 = .ok (.invokevirtual 86, 3) := by decide +kernel
theorem dX7_takes_4 : decode cX7_takes 4 = .ok (.ifCond .ne 5, 3) := by decide +kernel
theorem dX7_takes_7 : decode cX7_takes 7 = .ok (.iconst 0, 1) := by decide +kernel
theorem dX7_takes_8 : decode cX7_takes 8 = .ok (.ireturn, 1) := by decide +kernel
theorem dX7_takes_9 : decode cX7_takes 9 = .ok (.iload_n 1, 1) := by decide +kernel
theorem dX7_takes_10 : decode cX7_takes 10 = .ok (.ifCond .ne 13, 3) := by decide +kernel
theorem dX7_takes_13 : decode cX7_takes 13 = .ok (.aload_n 0, 1) := by decide +kernel
theorem dX7_takes_14 : decode cX7_takes 14 = .ok (.aload_n 0, 1) := by decide +kernel
theorem dX7_takes_15 : decode cX7_takes 15 = .ok (.getfield 74, 3) := by decide +kernel
theorem dX7_takes_18 : decode cX7_takes 18 = .ok (.putfield 83, 3) := by decide +kernel
theorem dX7_takes_21 : decode cX7_takes 21 = .ok (.iconst 0, 1) := by decide +kernel
theorem dX7_takes_22 : decode cX7_takes 22 = .ok (.ireturn, 1) := by decide +kernel
theorem dX7_takes_23 : decode cX7_takes 23 = .ok (.aload_n 0, 1) := by decide +kernel
theorem dX7_takes_24 : decode cX7_takes 24 = .ok (.getfield 80, 3) := by decide +kernel
theorem dX7_takes_27 : decode cX7_takes 27 = .ok (.istore_n 2, 1) := by decide +kernel
theorem dX7_takes_28 : decode cX7_takes 28 = .ok (.aload_n 0, 1) := by decide +kernel
theorem dX7_takes_29 : decode cX7_takes 29 = .ok (.invokevirtual 90, 3) := by decide +kernel
theorem dX7_takes_32 : decode cX7_takes 32 = .ok (.iload_n 2, 1) := by decide +kernel
theorem dX7_takes_33 : decode cX7_takes 33 = .ok (.ireturn, 1) := by decide +kernel
theorem dX7_number_0 : decode cX7_number 0 = .ok (.aload_n 0, 1) := by decide +kernel
theorem dX7_number_1 : decode cX7_number 1 = .ok (.aload_n 0, 1) := by decide +kernel
theorem dX7_number_2 : decode cX7_number 2 = .ok (.getfield 77, 3) := by decide +kernel
theorem dX7_number_5 : decode cX7_number 5 = .ok (.iconst 2, 1) := by decide +kernel
theorem dX7_number_6 : decode cX7_number 6 = .ok (.if_icmp .ne 19, 3) := by decide +kernel
theorem dX7_number_9 : decode cX7_number 9 = .ok (.aload_n 0, 1) := by decide +kernel
theorem dX7_number_10 : decode cX7_number 10 = .ok (.getfield 80, 3) := by decide +kernel
theorem dX7_number_13 : decode cX7_number 13 = .ok (.iload_n 1, 1) := by decide +kernel
theorem dX7_number_14 : decode cX7_number 14 = .ok (.iload_n 2, 1) := by decide +kernel
theorem dX7_number_15 : decode cX7_number 15 = .ok (.invokestatic 60, 3) := by decide +kernel
theorem dX7_number_18 : decode cX7_number 18 = .ok (.ifCond .eq 7, 3) := by decide +kernel
theorem dX7_number_21 : decode cX7_number 21 = .ok (.iconst 1, 1) := by decide +kernel
theorem dX7_number_22 : decode cX7_number 22 = .ok (.goto 4, 3) := by decide +kernel
theorem dX7_number_25 : decode cX7_number 25 = .ok (.iconst 0, 1) := by decide +kernel
theorem dX7_number_26 : decode cX7_number 26 = .ok (.invokevirtual 93, 3) := by decide +kernel
theorem dX7_number_29 : decode cX7_number 29 = .ok (.ireturn, 1) := by decide +kernel
theorem dX7_mayBegin_0 : decode cX7_mayBegin 0 = .ok (.aload_n 0, 1) := by decide +kernel
theorem dX7_mayBegin_1 : decode cX7_mayBegin 1 = .ok (.getfield 80, 3) := by decide +kernel
theorem dX7_mayBegin_4 : decode cX7_mayBegin 4 = .ok (.bipush 112, 2) := by decide +kernel
theorem dX7_mayBegin_6 : decode cX7_mayBegin 6 = .ok (.if_icmp .ne 21, 3) := by decide +kernel
theorem dX7_mayBegin_9 : decode cX7_mayBegin 9 = .ok (.aload_n 0, 1) := by decide +kernel
theorem dX7_mayBegin_10 : decode cX7_mayBegin 10 = .ok (.getfield 13, 3) := by decide +kernel
theorem dX7_mayBegin_13 : decode cX7_mayBegin 13 = .ok (.iconst 4, 1) := by decide +kernel
theorem dX7_mayBegin_14 : decode cX7_mayBegin 14 = .ok (.iaload, 1) := by decide +kernel
theorem dX7_mayBegin_15 : decode cX7_mayBegin 15 = .ok (.iconst 5, 1) := by decide +kernel
theorem dX7_mayBegin_16 : decode cX7_mayBegin 16 = .ok (.if_icmp .ge 7, 3) := by decide +kernel
theorem dX7_mayBegin_19 : decode cX7_mayBegin 19 = .ok (.iconst 1, 1) := by decide +kernel
theorem dX7_mayBegin_20 : decode cX7_mayBegin 20 = .ok (.goto 75, 3) := by decide +kernel
theorem dX7_mayBegin_23 : decode cX7_mayBegin 23 = .ok (.iconst 0, 1) := by decide +kernel
theorem dX7_mayBegin_24 : decode cX7_mayBegin 24 = .ok (.goto 71, 3) := by decide +kernel
theorem dX7_mayBegin_27 : decode cX7_mayBegin 27 = .ok (.aload_n 0, 1) := by decide +kernel
theorem dX7_mayBegin_28 : decode cX7_mayBegin 28 = .ok (.getfield 80, 3) := by decide +kernel
theorem dX7_mayBegin_31 : decode cX7_mayBegin 31 = .ok (.bipush 109, 2) := by decide +kernel
theorem dX7_mayBegin_33 : decode cX7_mayBegin 33 = .ok (.if_icmp .ne 22, 3) := by decide +kernel
theorem dX7_mayBegin_36 : decode cX7_mayBegin 36 = .ok (.aload_n 0, 1) := by decide +kernel
theorem dX7_mayBegin_37 : decode cX7_mayBegin 37 = .ok (.getfield 13, 3) := by decide +kernel
theorem dX7_mayBegin_40 : decode cX7_mayBegin 40 = .ok (.iconst 5, 1) := by decide +kernel
theorem dX7_mayBegin_41 : decode cX7_mayBegin 41 = .ok (.iaload, 1) := by decide +kernel
theorem dX7_mayBegin_42 : decode cX7_mayBegin 42 = .ok (.bipush 6, 2) := by decide +kernel
theorem dX7_mayBegin_44 : decode cX7_mayBegin 44 = .ok (.if_icmp .ge 7, 3) := by decide +kernel
theorem dX7_mayBegin_47 : decode cX7_mayBegin 47 = .ok (.iconst 1, 1) := by decide +kernel
theorem dX7_mayBegin_48 : decode cX7_mayBegin 48 = .ok (.goto 47, 3) := by decide +kernel
theorem dX7_mayBegin_51 : decode cX7_mayBegin 51 = .ok (.iconst 0, 1) := by decide +kernel
theorem dX7_mayBegin_52 : decode cX7_mayBegin 52 = .ok (.goto 43, 3) := by decide +kernel
theorem dX7_mayBegin_55 : decode cX7_mayBegin 55 = .ok (.aload_n 0, 1) := by decide +kernel
theorem dX7_mayBegin_56 : decode cX7_mayBegin 56 = .ok (.getfield 80, 3) := by decide +kernel
theorem dX7_mayBegin_59 : decode cX7_mayBegin 59 = .ok (.bipush 111, 2) := by decide +kernel
theorem dX7_mayBegin_61 : decode cX7_mayBegin 61 = .ok (.if_icmp .ne 20, 3) := by decide +kernel
theorem dX7_mayBegin_64 : decode cX7_mayBegin 64 = .ok (.aload_n 0, 1) := by decide +kernel
theorem dX7_mayBegin_65 : decode cX7_mayBegin 65 = .ok (.getfield 97, 3) := by decide +kernel
theorem dX7_mayBegin_68 : decode cX7_mayBegin 68 = .ok (.iconst 1, 1) := by decide +kernel
theorem dX7_mayBegin_69 : decode cX7_mayBegin 69 = .ok (.iand, 1) := by decide +kernel
theorem dX7_mayBegin_70 : decode cX7_mayBegin 70 = .ok (.ifCond .ne 7, 3) := by decide +kernel
theorem dX7_mayBegin_73 : decode cX7_mayBegin 73 = .ok (.iconst 1, 1) := by decide +kernel
theorem dX7_mayBegin_74 : decode cX7_mayBegin 74 = .ok (.goto 21, 3) := by decide +kernel
theorem dX7_mayBegin_77 : decode cX7_mayBegin 77 = .ok (.iconst 0, 1) := by decide +kernel
theorem dX7_mayBegin_78 : decode cX7_mayBegin 78 = .ok (.goto 17, 3) := by decide +kernel
theorem dX7_mayBegin_81 : decode cX7_mayBegin 81 = .ok (.aload_n 0, 1) := by decide +kernel
theorem dX7_mayBegin_82 : decode cX7_mayBegin 82 = .ok (.getfield 97, 3) := by decide +kernel
theorem dX7_mayBegin_85 : decode cX7_mayBegin 85 = .ok (.iconst 2, 1) := by decide +kernel
theorem dX7_mayBegin_86 : decode cX7_mayBegin 86 = .ok (.iand, 1) := by decide +kernel
theorem dX7_mayBegin_87 : decode cX7_mayBegin 87 = .ok (.ifCond .ne 7, 3) := by decide +kernel
theorem dX7_mayBegin_90 : decode cX7_mayBegin 90 = .ok (.iconst 1, 1) := by decide +kernel
theorem dX7_mayBegin_91 : decode cX7_mayBegin 91 = .ok (.goto 4, 3) := by decide +kernel
theorem dX7_mayBegin_94 : decode cX7_mayBegin 94 = .ok (.iconst 0, 1) := by decide +kernel
theorem dX7_mayBegin_95 : decode cX7_mayBegin 95 = .ok (.ireturn, 1) := by decide +kernel
theorem dX7_readsItem_0 : decode cX7_readsItem 0 = .ok (.iload_n 1, 1) := by decide +kernel
theorem dX7_readsItem_1 : decode cX7_readsItem 1 = .ok (.bipush 112, 2) := by decide +kernel
theorem dX7_readsItem_3 : decode cX7_readsItem 3 = .ok (.if_icmp .ne 56, 3) := by decide +kernel
theorem dX7_readsItem_6 : decode cX7_readsItem 6 = .ok (.aload_n 0, 1) := by decide +kernel
theorem dX7_readsItem_7 : decode cX7_readsItem 7 = .ok (.getfield 16, 3) := by decide +kernel
theorem dX7_readsItem_10 : decode cX7_readsItem 10 = .ok (.iconst 5, 1) := by decide +kernel
theorem dX7_readsItem_11 : decode cX7_readsItem 11 = .ok (.aload_n 0, 1) := by decide +kernel
theorem dX7_readsItem_12 : decode cX7_readsItem 12 = .ok (.getfield 13, 3) := by decide +kernel
theorem dX7_readsItem_15 : decode cX7_readsItem 15 = .ok (.iconst 4, 1) := by decide +kernel
theorem dX7_readsItem_16 : decode cX7_readsItem 16 = .ok (.iaload, 1) := by decide +kernel
theorem dX7_readsItem_17 : decode cX7_readsItem 17 = .ok (.iadd, 1) := by decide +kernel
theorem dX7_readsItem_18 : decode cX7_readsItem 18 = .ok (.aload_n 0, 1) := by decide +kernel
theorem dX7_readsItem_19 : decode cX7_readsItem 19 = .ok (.iconst 0, 1) := by decide +kernel
theorem dX7_readsItem_20 : decode cX7_readsItem 20 = .ok (.bipush 31, 2) := by decide +kernel
theorem dX7_readsItem_22 : decode cX7_readsItem 22 = .ok (.invokevirtual 100, 3) := by decide +kernel
theorem dX7_readsItem_25 : decode cX7_readsItem 25 = .ok (.iastore, 1) := by decide +kernel
theorem dX7_readsItem_26 : decode cX7_readsItem 26 = .ok (.aload_n 0, 1) := by decide +kernel
theorem dX7_readsItem_27 : decode cX7_readsItem 27 = .ok (.getfield 19, 3) := by decide +kernel
theorem dX7_readsItem_30 : decode cX7_readsItem 30 = .ok (.iconst 5, 1) := by decide +kernel
theorem dX7_readsItem_31 : decode cX7_readsItem 31 = .ok (.aload_n 0, 1) := by decide +kernel
theorem dX7_readsItem_32 : decode cX7_readsItem 32 = .ok (.getfield 13, 3) := by decide +kernel
theorem dX7_readsItem_35 : decode cX7_readsItem 35 = .ok (.iconst 4, 1) := by decide +kernel
theorem dX7_readsItem_36 : decode cX7_readsItem 36 = .ok (.iaload, 1) := by decide +kernel
theorem dX7_readsItem_37 : decode cX7_readsItem 37 = .ok (.iadd, 1) := by decide +kernel
theorem dX7_readsItem_38 : decode cX7_readsItem 38 = .ok (.aload_n 0, 1) := by decide +kernel
theorem dX7_readsItem_39 : decode cX7_readsItem 39 = .ok (.iconst 0, 1) := by decide +kernel
theorem dX7_readsItem_40 : decode cX7_readsItem 40 = .ok (.bipush 9, 2) := by decide +kernel
theorem dX7_readsItem_42 : decode cX7_readsItem 42 = .ok (.invokevirtual 100, 3) := by decide +kernel
theorem dX7_readsItem_45 : decode cX7_readsItem 45 = .ok (.iastore, 1) := by decide +kernel
theorem dX7_readsItem_46 : decode cX7_readsItem 46 = .ok (.aload_n 0, 1) := by decide +kernel
theorem dX7_readsItem_47 : decode cX7_readsItem 47 = .ok (.getfield 13, 3) := by decide +kernel
theorem dX7_readsItem_50 : decode cX7_readsItem 50 = .ok (.iconst 4, 1) := by decide +kernel
theorem dX7_readsItem_51 : decode cX7_readsItem 51 = .ok (.dup2, 1) := by decide +kernel
theorem dX7_readsItem_52 : decode cX7_readsItem 52 = .ok (.iaload, 1) := by decide +kernel
theorem dX7_readsItem_53 : decode cX7_readsItem 53 = .ok (.iconst 1, 1) := by decide +kernel
theorem dX7_readsItem_54 : decode cX7_readsItem 54 = .ok (.iadd, 1) := by decide +kernel
theorem dX7_readsItem_55 : decode cX7_readsItem 55 = .ok (.iastore, 1) := by decide +kernel
theorem dX7_readsItem_56 : decode cX7_readsItem 56 = .ok (.goto 100, 3) := by decide +kernel
theorem dX7_readsItem_59 : decode cX7_readsItem 59 = .ok (.iload_n 1, 1) := by decide +kernel
theorem dX7_readsItem_60 : decode cX7_readsItem 60 = .ok (.bipush 109, 2) := by decide +kernel
theorem dX7_readsItem_62 : decode cX7_readsItem 62 = .ok (.if_icmp .ne 37, 3) := by decide +kernel
theorem dX7_readsItem_65 : decode cX7_readsItem 65 = .ok (.aload_n 0, 1) := by decide +kernel
theorem dX7_readsItem_66 : decode cX7_readsItem 66 = .ok (.getfield 22, 3) := by decide +kernel
theorem dX7_readsItem_69 : decode cX7_readsItem 69 = .ok (.bipush 6, 2) := by decide +kernel
theorem dX7_readsItem_71 : decode cX7_readsItem 71 = .ok (.aload_n 0, 1) := by decide +kernel
theorem dX7_readsItem_72 : decode cX7_readsItem 72 = .ok (.getfield 13, 3) := by decide +kernel
theorem dX7_readsItem_75 : decode cX7_readsItem 75 = .ok (.iconst 5, 1) := by decide +kernel
theorem dX7_readsItem_76 : decode cX7_readsItem 76 = .ok (.iaload, 1) := by decide +kernel
theorem dX7_readsItem_77 : decode cX7_readsItem 77 = .ok (.iadd, 1) := by decide +kernel
theorem dX7_readsItem_78 : decode cX7_readsItem 78 = .ok (.aload_n 0, 1) := by decide +kernel
theorem dX7_readsItem_79 : decode cX7_readsItem 79 = .ok (.iconst 0, 1) := by decide +kernel
theorem dX7_readsItem_80 : decode cX7_readsItem 80 = .ok (.bipush 60, 2) := by decide +kernel
theorem dX7_readsItem_82 : decode cX7_readsItem 82 = .ok (.invokevirtual 100, 3) := by decide +kernel
theorem dX7_readsItem_85 : decode cX7_readsItem 85 = .ok (.iastore, 1) := by decide +kernel
theorem dX7_readsItem_86 : decode cX7_readsItem 86 = .ok (.aload_n 0, 1) := by decide +kernel
theorem dX7_readsItem_87 : decode cX7_readsItem 87 = .ok (.getfield 13, 3) := by decide +kernel
theorem dX7_readsItem_90 : decode cX7_readsItem 90 = .ok (.iconst 5, 1) := by decide +kernel
theorem dX7_readsItem_91 : decode cX7_readsItem 91 = .ok (.dup2, 1) := by decide +kernel
theorem dX7_readsItem_92 : decode cX7_readsItem 92 = .ok (.iaload, 1) := by decide +kernel
theorem dX7_readsItem_93 : decode cX7_readsItem 93 = .ok (.iconst 1, 1) := by decide +kernel
theorem dX7_readsItem_94 : decode cX7_readsItem 94 = .ok (.iadd, 1) := by decide +kernel
theorem dX7_readsItem_95 : decode cX7_readsItem 95 = .ok (.iastore, 1) := by decide +kernel
theorem dX7_readsItem_96 : decode cX7_readsItem 96 = .ok (.goto 60, 3) := by decide +kernel
theorem dX7_readsItem_99 : decode cX7_readsItem 99 = .ok (.iload_n 1, 1) := by decide +kernel
theorem dX7_readsItem_100 : decode cX7_readsItem 100 = .ok (.bipush 111, 2) := by decide +kernel
theorem dX7_readsItem_102 : decode cX7_readsItem 102 = .ok (.if_icmp .ne 30, 3) := by decide +kernel
theorem dX7_readsItem_105 : decode cX7_readsItem 105 = .ok (.aload_n 0, 1) := by decide +kernel
theorem dX7_readsItem_106 : decode cX7_readsItem 106 = .ok (.getfield 13, 3) := by decide +kernel
theorem dX7_readsItem_109 : decode cX7_readsItem 109 = .ok (.bipush 6, 2) := by decide +kernel
theorem dX7_readsItem_111 : decode cX7_readsItem 111 = .ok (.aload_n 0, 1) := by decide +kernel
theorem dX7_readsItem_112 : decode cX7_readsItem 112 = .ok (.iconst 1, 1) := by decide +kernel
theorem dX7_readsItem_113 : decode cX7_readsItem 113 = .ok (.bipush 9, 2) := by decide +kernel
theorem dX7_readsItem_115 : decode cX7_readsItem 115 = .ok (.invokevirtual 100, 3) := by decide +kernel
theorem dX7_readsItem_118 : decode cX7_readsItem 118 = .ok (.iastore, 1) := by decide +kernel
theorem dX7_readsItem_119 : decode cX7_readsItem 119 = .ok (.aload_n 0, 1) := by decide +kernel
theorem dX7_readsItem_120 : decode cX7_readsItem 120 = .ok (.dup, 1) := by decide +kernel
theorem dX7_readsItem_121 : decode cX7_readsItem 121 = .ok (.getfield 97, 3) := by decide +kernel
theorem dX7_readsItem_124 : decode cX7_readsItem 124 = .ok (.iconst 1, 1) := by decide +kernel
theorem dX7_readsItem_125 : decode cX7_readsItem 125 = .ok (.ior, 1) := by decide +kernel
theorem dX7_readsItem_126 : decode cX7_readsItem 126 = .ok (.putfield 97, 3) := by decide +kernel
theorem dX7_readsItem_129 : decode cX7_readsItem 129 = .ok (.goto 27, 3) := by decide +kernel
theorem dX7_readsItem_132 : decode cX7_readsItem 132 = .ok (.aload_n 0, 1) := by decide +kernel
theorem dX7_readsItem_133 : decode cX7_readsItem 133 = .ok (.getfield 13, 3) := by decide +kernel
theorem dX7_readsItem_136 : decode cX7_readsItem 136 = .ok (.bipush 7, 2) := by decide +kernel
theorem dX7_readsItem_138 : decode cX7_readsItem 138 = .ok (.aload_n 0, 1) := by decide +kernel
theorem dX7_readsItem_139 : decode cX7_readsItem 139 = .ok (.iconst 1, 1) := by decide +kernel
theorem dX7_readsItem_140 : decode cX7_readsItem 140 = .ok (.bipush 9, 2) := by decide +kernel
theorem dX7_readsItem_142 : decode cX7_readsItem 142 = .ok (.invokevirtual 100, 3) := by decide +kernel
theorem dX7_readsItem_145 : decode cX7_readsItem 145 = .ok (.iastore, 1) := by decide +kernel
theorem dX7_readsItem_146 : decode cX7_readsItem 146 = .ok (.aload_n 0, 1) := by decide +kernel
theorem dX7_readsItem_147 : decode cX7_readsItem 147 = .ok (.dup, 1) := by decide +kernel
theorem dX7_readsItem_148 : decode cX7_readsItem 148 = .ok (.getfield 97, 3) := by decide +kernel
theorem dX7_readsItem_151 : decode cX7_readsItem 151 = .ok (.iconst 2, 1) := by decide +kernel
theorem dX7_readsItem_152 : decode cX7_readsItem 152 = .ok (.ior, 1) := by decide +kernel
theorem dX7_readsItem_153 : decode cX7_readsItem 153 = .ok (.putfield 97, 3) := by decide +kernel
theorem dX7_readsItem_156 : decode cX7_readsItem 156 = .ok (.return_, 1) := by decide +kernel
theorem dX7_depot_0 : decode cX7_depot 0 = .ok (.aload_n 0, 1) := by decide +kernel
theorem dX7_depot_1 : decode cX7_depot 1 = .ok (.iconst 0, 1) := by decide +kernel
theorem dX7_depot_2 : decode cX7_depot 2 = .ok (.putfield 56, 3) := by decide +kernel
theorem dX7_depot_5 : decode cX7_depot 5 = .ok (.aload_n 0, 1) := by decide +kernel
theorem dX7_depot_6 : decode cX7_depot 6 = .ok (.iconst (-1), 1) := by decide +kernel
theorem dX7_depot_7 : decode cX7_depot 7 = .ok (.putfield 83, 3) := by decide +kernel
theorem dX7_depot_10 : decode cX7_depot 10 = .ok (.aload_n 0, 1) := by decide +kernel
theorem dX7_depot_11 : decode cX7_depot 11 = .ok (.iconst 0, 1) := by decide +kernel
theorem dX7_depot_12 : decode cX7_depot 12 = .ok (.putfield 67, 3) := by decide +kernel
theorem dX7_depot_15 : decode cX7_depot 15 = .ok (.aload_n 0, 1) := by decide +kernel
theorem dX7_depot_16 : decode cX7_depot 16 = .ok (.iconst 0, 1) := by decide +kernel
theorem dX7_depot_17 : decode cX7_depot 17 = .ok (.putfield 97, 3) := by decide +kernel
theorem dX7_depot_20 : decode cX7_depot 20 = .ok (.aload_n 0, 1) := by decide +kernel
theorem dX7_depot_21 : decode cX7_depot 21 = .ok (.getfield 13, 3) := by decide +kernel
theorem dX7_depot_24 : decode cX7_depot 24 = .ok (.iconst 4, 1) := by decide +kernel
theorem dX7_depot_25 : decode cX7_depot 25 = .ok (.iconst 0, 1) := by decide +kernel
theorem dX7_depot_26 : decode cX7_depot 26 = .ok (.iastore, 1) := by decide +kernel
theorem dX7_depot_27 : decode cX7_depot 27 = .ok (.aload_n 0, 1) := by decide +kernel
theorem dX7_depot_28 : decode cX7_depot 28 = .ok (.getfield 13, 3) := by decide +kernel
theorem dX7_depot_31 : decode cX7_depot 31 = .ok (.iconst 5, 1) := by decide +kernel
theorem dX7_depot_32 : decode cX7_depot 32 = .ok (.iconst 0, 1) := by decide +kernel
theorem dX7_depot_33 : decode cX7_depot 33 = .ok (.iastore, 1) := by decide +kernel
theorem dX7_depot_34 : decode cX7_depot 34 = .ok (.aload_n 0, 1) := by decide +kernel
theorem dX7_depot_35 : decode cX7_depot 35 = .ok (.getfield 13, 3) := by decide +kernel
theorem dX7_depot_38 : decode cX7_depot 38 = .ok (.bipush 6, 2) := by decide +kernel
theorem dX7_depot_40 : decode cX7_depot 40 = .ok (.iconst 2, 1) := by decide +kernel
theorem dX7_depot_41 : decode cX7_depot 41 = .ok (.iastore, 1) := by decide +kernel
theorem dX7_depot_42 : decode cX7_depot 42 = .ok (.aload_n 0, 1) := by decide +kernel
theorem dX7_depot_43 : decode cX7_depot 43 = .ok (.getfield 13, 3) := by decide +kernel
theorem dX7_depot_46 : decode cX7_depot 46 = .ok (.bipush 7, 2) := by decide +kernel
theorem dX7_depot_48 : decode cX7_depot 48 = .ok (.iconst 3, 1) := by decide +kernel
theorem dX7_depot_49 : decode cX7_depot 49 = .ok (.iastore, 1) := by decide +kernel
theorem dX7_depot_50 : decode cX7_depot 50 = .ok (.iconst 0, 1) := by decide +kernel
theorem dX7_depot_51 : decode cX7_depot 51 = .ok (.istore_n 1, 1) := by decide +kernel
theorem dX7_depot_52 : decode cX7_depot 52 = .ok (.aload_n 0, 1) := by decide +kernel
theorem dX7_depot_53 : decode cX7_depot 53 = .ok (.invokevirtual 90, 3) := by decide +kernel
theorem dX7_depot_56 : decode cX7_depot 56 = .ok (.aload_n 0, 1) := by decide +kernel
theorem dX7_depot_57 : decode cX7_depot 57 = .ok (.invokevirtual 86, 3) := by decide +kernel
theorem dX7_depot_60 : decode cX7_depot 60 = .ok (.ifCond .eq 71, 3) := by decide +kernel
theorem dX7_depot_63 : decode cX7_depot 63 = .ok (.aload_n 0, 1) := by decide +kernel
theorem dX7_depot_64 : decode cX7_depot 64 = .ok (.getfield 77, 3) := by decide +kernel
theorem dX7_depot_67 : decode cX7_depot 67 = .ok (.ifCond .eq 64, 3) := by decide +kernel
theorem dX7_depot_70 : decode cX7_depot 70 = .ok (.aload_n 0, 1) := by decide +kernel
theorem dX7_depot_71 : decode cX7_depot 71 = .ok (.aload_n 0, 1) := by decide +kernel
theorem dX7_depot_72 : decode cX7_depot 72 = .ok (.getfield 77, 3) := by decide +kernel
theorem dX7_depot_75 : decode cX7_depot 75 = .ok (.iconst 1, 1) := by decide +kernel
theorem dX7_depot_76 : decode cX7_depot 76 = .ok (.if_icmp .ne 14, 3) := by decide +kernel
theorem dX7_depot_79 : decode cX7_depot 79 = .ok (.aload_n 0, 1) := by decide +kernel
theorem dX7_depot_80 : decode cX7_depot 80 = .ok (.invokevirtual 104, 3) := by decide +kernel
theorem dX7_depot_83 : decode cX7_depot 83 = .ok (.ifCond .eq 7, 3) := by decide +kernel
theorem dX7_depot_86 : decode cX7_depot 86 = .ok (.iconst 1, 1) := by decide +kernel
theorem dX7_depot_87 : decode cX7_depot 87 = .ok (.goto 4, 3) := by decide +kernel
theorem dX7_depot_90 : decode cX7_depot 90 = .ok (.iconst 0, 1) := by decide +kernel
theorem dX7_depot_91 : decode cX7_depot 91 = .ok (.invokevirtual 93, 3) := by decide +kernel
theorem dX7_depot_94 : decode cX7_depot 94 = .ok (.istore_n 2, 1) := by decide +kernel
theorem dX7_depot_95 : decode cX7_depot 95 = .ok (.aload_n 0, 1) := by decide +kernel
theorem dX7_depot_96 : decode cX7_depot 96 = .ok (.invokevirtual 86, 3) := by decide +kernel
theorem dX7_depot_99 : decode cX7_depot 99 = .ok (.ifCond .eq 8, 3) := by decide +kernel
theorem dX7_depot_102 : decode cX7_depot 102 = .ok (.aload_n 0, 1) := by decide +kernel
theorem dX7_depot_103 : decode cX7_depot 103 = .ok (.iload_n 2, 1) := by decide +kernel
theorem dX7_depot_104 : decode cX7_depot 104 = .ok (.invokevirtual 107, 3) := by decide +kernel
theorem dX7_depot_107 : decode cX7_depot 107 = .ok (.aload_n 0, 1) := by decide +kernel
theorem dX7_depot_108 : decode cX7_depot 108 = .ok (.aload_n 0, 1) := by decide +kernel
theorem dX7_depot_109 : decode cX7_depot 109 = .ok (.getfield 77, 3) := by decide +kernel
theorem dX7_depot_112 : decode cX7_depot 112 = .ok (.iconst 3, 1) := by decide +kernel
theorem dX7_depot_113 : decode cX7_depot 113 = .ok (.if_icmp .ne 7, 3) := by decide +kernel
theorem dX7_depot_116 : decode cX7_depot 116 = .ok (.iconst 1, 1) := by decide +kernel
theorem dX7_depot_117 : decode cX7_depot 117 = .ok (.goto 4, 3) := by decide +kernel
theorem dX7_depot_120 : decode cX7_depot 120 = .ok (.iconst 0, 1) := by decide +kernel
theorem dX7_depot_121 : decode cX7_depot 121 = .ok (.invokevirtual 93, 3) := by decide +kernel
theorem dX7_depot_124 : decode cX7_depot 124 = .ok (.pop, 1) := by decide +kernel
theorem dX7_depot_125 : decode cX7_depot 125 = .ok (.iinc 1 1, 3) := by decide +kernel
theorem dX7_depot_128 : decode cX7_depot 128 = .ok (.goto (-72), 3) := by decide +kernel
theorem dX7_depot_131 : decode cX7_depot 131 = .ok (.aload_n 0, 1) := by decide +kernel
theorem dX7_depot_132 : decode cX7_depot 132 = .ok (.invokevirtual 86, 3) := by decide +kernel
theorem dX7_depot_135 : decode cX7_depot 135 = .ok (.ifCond .ne 11, 3) := by decide +kernel
theorem dX7_depot_138 : decode cX7_depot 138 = .ok (.bipush (-10), 2) := by decide +kernel
theorem dX7_depot_140 : decode cX7_depot 140 = .ok (.aload_n 0, 1) := by decide +kernel
theorem dX7_depot_141 : decode cX7_depot 141 = .ok (.getfield 83, 3) := by decide +kernel
theorem dX7_depot_144 : decode cX7_depot 144 = .ok (.isub, 1) := by decide +kernel
theorem dX7_depot_145 : decode cX7_depot 145 = .ok (.ireturn, 1) := by decide +kernel
theorem dX7_depot_146 : decode cX7_depot 146 = .ok (.aload_n 0, 1) := by decide +kernel
theorem dX7_depot_147 : decode cX7_depot 147 = .ok (.invokevirtual 111, 3) := by decide +kernel
theorem dX7_depot_150 : decode cX7_depot 150 = .ok (.iload_n 1, 1) := by decide +kernel
theorem dX7_depot_151 : decode cX7_depot 151 = .ok (.ireturn, 1) := by decide +kernel
theorem dX7_settles_0 : decode cX7_settles 0 = .ok (.iconst 0, 1) := by decide +kernel
theorem dX7_settles_1 : decode cX7_settles 1 = .ok (.istore_n 1, 1) := by decide +kernel
theorem dX7_settles_2 : decode cX7_settles 2 = .ok (.iload_n 1, 1) := by decide +kernel
theorem dX7_settles_3 : decode cX7_settles 3 = .ok (.iconst 4, 1) := by decide +kernel
theorem dX7_settles_4 : decode cX7_settles 4 = .ok (.if_icmp .ge 23, 3) := by decide +kernel
theorem dX7_settles_7 : decode cX7_settles 7 = .ok (.aload_n 0, 1) := by decide +kernel
theorem dX7_settles_8 : decode cX7_settles 8 = .ok (.getfield 13, 3) := by decide +kernel
theorem dX7_settles_11 : decode cX7_settles 11 = .ok (.iload_n 1, 1) := by decide +kernel
theorem dX7_settles_12 : decode cX7_settles 12 = .ok (.aload_n 0, 1) := by decide +kernel
theorem dX7_settles_13 : decode cX7_settles 13 = .ok (.getfield 13, 3) := by decide +kernel
theorem dX7_settles_16 : decode cX7_settles 16 = .ok (.iconst 4, 1) := by decide +kernel
theorem dX7_settles_17 : decode cX7_settles 17 = .ok (.iload_n 1, 1) := by decide +kernel
theorem dX7_settles_18 : decode cX7_settles 18 = .ok (.iadd, 1) := by decide +kernel
theorem dX7_settles_19 : decode cX7_settles 19 = .ok (.iaload, 1) := by decide +kernel
theorem dX7_settles_20 : decode cX7_settles 20 = .ok (.iastore, 1) := by decide +kernel
theorem dX7_settles_21 : decode cX7_settles 21 = .ok (.iinc 1 1, 3) := by decide +kernel
theorem dX7_settles_24 : decode cX7_settles 24 = .ok (.goto (-22), 3) := by decide +kernel
theorem dX7_settles_27 : decode cX7_settles 27 = .ok (.iconst 0, 1) := by decide +kernel
theorem dX7_settles_28 : decode cX7_settles 28 = .ok (.istore_n 1, 1) := by decide +kernel
theorem dX7_settles_29 : decode cX7_settles 29 = .ok (.iload_n 1, 1) := by decide +kernel
theorem dX7_settles_30 : decode cX7_settles 30 = .ok (.aload_n 0, 1) := by decide +kernel
theorem dX7_settles_31 : decode cX7_settles 31 = .ok (.getfield 13, 3) := by decide +kernel
theorem dX7_settles_34 : decode cX7_settles 34 = .ok (.iconst 0, 1) := by decide +kernel
theorem dX7_settles_35 : decode cX7_settles 35 = .ok (.iaload, 1) := by decide +kernel
theorem dX7_settles_36 : decode cX7_settles 36 = .ok (.if_icmp .ge 54, 3) := by decide +kernel
theorem dX7_settles_39 : decode cX7_settles 39 = .ok (.aload_n 0, 1) := by decide +kernel
theorem dX7_settles_40 : decode cX7_settles 40 = .ok (.getfield 16, 3) := by decide +kernel
theorem dX7_settles_43 : decode cX7_settles 43 = .ok (.iload_n 1, 1) := by decide +kernel
theorem dX7_settles_44 : decode cX7_settles 44 = .ok (.aload_n 0, 1) := by decide +kernel
theorem dX7_settles_45 : decode cX7_settles 45 = .ok (.getfield 16, 3) := by decide +kernel
theorem dX7_settles_48 : decode cX7_settles 48 = .ok (.iconst 5, 1) := by decide +kernel
theorem dX7_settles_49 : decode cX7_settles 49 = .ok (.iload_n 1, 1) := by decide +kernel
theorem dX7_settles_50 : decode cX7_settles 50 = .ok (.iadd, 1) := by decide +kernel
theorem dX7_settles_51 : decode cX7_settles 51 = .ok (.iaload, 1) := by decide +kernel
theorem dX7_settles_52 : decode cX7_settles 52 = .ok (.iconst 1, 1) := by decide +kernel
theorem dX7_settles_53 : decode cX7_settles 53 = .ok (.aload_n 0, 1) := by decide +kernel
theorem dX7_settles_54 : decode cX7_settles 54 = .ok (.getfield 13, 3) := by decide +kernel
theorem dX7_settles_57 : decode cX7_settles 57 = .ok (.iconst 0, 1) := by decide +kernel
theorem dX7_settles_58 : decode cX7_settles 58 = .ok (.iaload, 1) := by decide +kernel
theorem dX7_settles_59 : decode cX7_settles 59 = .ok (.ishl, 1) := by decide +kernel
theorem dX7_settles_60 : decode cX7_settles 60 = .ok (.iconst 1, 1) := by decide +kernel
theorem dX7_settles_61 : decode cX7_settles 61 = .ok (.isub, 1) := by decide +kernel
theorem dX7_settles_62 : decode cX7_settles 62 = .ok (.iand, 1) := by decide +kernel
theorem dX7_settles_63 : decode cX7_settles 63 = .ok (.iconst 1, 1) := by decide +kernel
theorem dX7_settles_64 : decode cX7_settles 64 = .ok (.iload_n 1, 1) := by decide +kernel
theorem dX7_settles_65 : decode cX7_settles 65 = .ok (.ishl, 1) := by decide +kernel
theorem dX7_settles_66 : decode cX7_settles 66 = .ok (.iconst (-1), 1) := by decide +kernel
theorem dX7_settles_67 : decode cX7_settles 67 = .ok (.ixor, 1) := by decide +kernel
theorem dX7_settles_68 : decode cX7_settles 68 = .ok (.iand, 1) := by decide +kernel
theorem dX7_settles_69 : decode cX7_settles 69 = .ok (.iastore, 1) := by decide +kernel
theorem dX7_settles_70 : decode cX7_settles 70 = .ok (.aload_n 0, 1) := by decide +kernel
theorem dX7_settles_71 : decode cX7_settles 71 = .ok (.getfield 19, 3) := by decide +kernel
theorem dX7_settles_74 : decode cX7_settles 74 = .ok (.iload_n 1, 1) := by decide +kernel
theorem dX7_settles_75 : decode cX7_settles 75 = .ok (.aload_n 0, 1) := by decide +kernel
theorem dX7_settles_76 : decode cX7_settles 76 = .ok (.getfield 19, 3) := by decide +kernel
theorem dX7_settles_79 : decode cX7_settles 79 = .ok (.iconst 5, 1) := by decide +kernel
theorem dX7_settles_80 : decode cX7_settles 80 = .ok (.iload_n 1, 1) := by decide +kernel
theorem dX7_settles_81 : decode cX7_settles 81 = .ok (.iadd, 1) := by decide +kernel
theorem dX7_settles_82 : decode cX7_settles 82 = .ok (.iaload, 1) := by decide +kernel
theorem dX7_settles_83 : decode cX7_settles 83 = .ok (.iastore, 1) := by decide +kernel
theorem dX7_settles_84 : decode cX7_settles 84 = .ok (.iinc 1 1, 3) := by decide +kernel
theorem dX7_settles_87 : decode cX7_settles 87 = .ok (.goto (-58), 3) := by decide +kernel
end
section
theorem dX7_settles_90 : decode cX7_settles 90 = .ok (.iconst 0, 1) := by decide +kernel
theorem dX7_settles_91 : decode cX7_settles 91 = .ok (.istore_n 1, 1) := by decide +kernel
theorem dX7_settles_92 : decode cX7_settles 92 = .ok (.iload_n 1, 1) := by decide +kernel
theorem dX7_settles_93 : decode cX7_settles 93 = .ok (.bipush 48, 2) := by decide +kernel
theorem dX7_settles_95 : decode cX7_settles 95 = .ok (.if_icmp .ge 16, 3) := by decide +kernel
theorem dX7_settles_98 : decode cX7_settles 98 = .ok (.aload_n 0, 1) := by decide +kernel
theorem dX7_settles_99 : decode cX7_settles 99 = .ok (.getfield 25, 3) := by decide +kernel
theorem dX7_settles_102 : decode cX7_settles 102 = .ok (.iload_n 1, 1) := by decide +kernel
theorem dX7_settles_103 : decode cX7_settles 103 = .ok (.iconst 0, 1) := by decide +kernel
theorem dX7_settles_104 : decode cX7_settles 104 = .ok (.iastore, 1) := by decide +kernel
theorem dX7_settles_105 : decode cX7_settles 105 = .ok (.iinc 1 1, 3) := by decide +kernel
theorem dX7_settles_108 : decode cX7_settles 108 = .ok (.goto (-16), 3) := by decide +kernel
theorem dX7_settles_111 : decode cX7_settles 111 = .ok (.iconst 0, 1) := by decide +kernel
theorem dX7_settles_112 : decode cX7_settles 112 = .ok (.istore_n 1, 1) := by decide +kernel
theorem dX7_settles_113 : decode cX7_settles 113 = .ok (.iload_n 1, 1) := by decide +kernel
theorem dX7_settles_114 : decode cX7_settles 114 = .ok (.aload_n 0, 1) := by decide +kernel
theorem dX7_settles_115 : decode cX7_settles 115 = .ok (.getfield 13, 3) := by decide +kernel
theorem dX7_settles_118 : decode cX7_settles 118 = .ok (.iconst 1, 1) := by decide +kernel
theorem dX7_settles_119 : decode cX7_settles 119 = .ok (.iaload, 1) := by decide +kernel
theorem dX7_settles_120 : decode cX7_settles 120 = .ok (.if_icmp .ge 26, 3) := by decide +kernel
theorem dX7_settles_123 : decode cX7_settles 123 = .ok (.aload_n 0, 1) := by decide +kernel
theorem dX7_settles_124 : decode cX7_settles 124 = .ok (.getfield 25, 3) := by decide +kernel
theorem dX7_settles_127 : decode cX7_settles 127 = .ok (.iconst 1, 1) := by decide +kernel
theorem dX7_settles_128 : decode cX7_settles 128 = .ok (.iload_n 1, 1) := by decide +kernel
theorem dX7_settles_129 : decode cX7_settles 129 = .ok (.iadd, 1) := by decide +kernel
theorem dX7_settles_130 : decode cX7_settles 130 = .ok (.aload_n 0, 1) := by decide +kernel
theorem dX7_settles_131 : decode cX7_settles 131 = .ok (.getfield 22, 3) := by decide +kernel
theorem dX7_settles_134 : decode cX7_settles 134 = .ok (.bipush 6, 2) := by decide +kernel
theorem dX7_settles_136 : decode cX7_settles 136 = .ok (.iload_n 1, 1) := by decide +kernel
theorem dX7_settles_137 : decode cX7_settles 137 = .ok (.iadd, 1) := by decide +kernel
theorem dX7_settles_138 : decode cX7_settles 138 = .ok (.iaload, 1) := by decide +kernel
theorem dX7_settles_139 : decode cX7_settles 139 = .ok (.iastore, 1) := by decide +kernel
theorem dX7_settles_140 : decode cX7_settles 140 = .ok (.iinc 1 1, 3) := by decide +kernel
theorem dX7_settles_143 : decode cX7_settles 143 = .ok (.goto (-30), 3) := by decide +kernel
theorem dX7_settles_146 : decode cX7_settles 146 = .ok (.aload_n 0, 1) := by decide +kernel
theorem dX7_settles_147 : decode cX7_settles 147 = .ok (.iconst 0, 1) := by decide +kernel
theorem dX7_settles_148 : decode cX7_settles 148 = .ok (.putfield 64, 3) := by decide +kernel
theorem dX7_settles_151 : decode cX7_settles 151 = .ok (.aload_n 0, 1) := by decide +kernel
theorem dX7_settles_152 : decode cX7_settles 152 = .ok (.iconst 0, 1) := by decide +kernel
theorem dX7_settles_153 : decode cX7_settles 153 = .ok (.putfield 114, 3) := by decide +kernel
theorem dX7_settles_156 : decode cX7_settles 156 = .ok (.aload_n 0, 1) := by decide +kernel
theorem dX7_settles_157 : decode cX7_settles 157 = .ok (.iconst 0, 1) := by decide +kernel
theorem dX7_settles_158 : decode cX7_settles 158 = .ok (.putfield 117, 3) := by decide +kernel
theorem dX7_settles_161 : decode cX7_settles 161 = .ok (.aload_n 0, 1) := by decide +kernel
theorem dX7_settles_162 : decode cX7_settles 162 = .ok (.getfield 34, 3) := by decide +kernel
theorem dX7_settles_165 : decode cX7_settles 165 = .ok (.iconst 0, 1) := by decide +kernel
theorem dX7_settles_166 : decode cX7_settles 166 = .ok (.iconst 0, 1) := by decide +kernel
theorem dX7_settles_167 : decode cX7_settles 167 = .ok (.bastore, 1) := by decide +kernel
theorem dX7_settles_168 : decode cX7_settles 168 = .ok (.aload_n 0, 1) := by decide +kernel
theorem dX7_settles_169 : decode cX7_settles 169 = .ok (.getfield 34, 3) := by decide +kernel
theorem dX7_settles_172 : decode cX7_settles 172 = .ok (.iconst 1, 1) := by decide +kernel
theorem dX7_settles_173 : decode cX7_settles 173 = .ok (.iconst 0, 1) := by decide +kernel
theorem dX7_settles_174 : decode cX7_settles 174 = .ok (.bastore, 1) := by decide +kernel
theorem dX7_settles_175 : decode cX7_settles 175 = .ok (.return_, 1) := by decide +kernel
theorem dX7_isPost_0 : decode cX7_isPost 0 = .ok (.iload_n 1, 1) := by decide +kernel
theorem dX7_isPost_1 : decode cX7_isPost 1 = .ok (.iconst 0, 1) := by decide +kernel
theorem dX7_isPost_2 : decode cX7_isPost 2 = .ok (.aload_n 0, 1) := by decide +kernel
theorem dX7_isPost_3 : decode cX7_isPost 3 = .ok (.getfield 13, 3) := by decide +kernel
theorem dX7_isPost_6 : decode cX7_isPost 6 = .ok (.iconst 0, 1) := by decide +kernel
theorem dX7_isPost_7 : decode cX7_isPost 7 = .ok (.iaload, 1) := by decide +kernel
theorem dX7_isPost_8 : decode cX7_isPost 8 = .ok (.iconst 1, 1) := by decide +kernel
theorem dX7_isPost_9 : decode cX7_isPost 9 = .ok (.isub, 1) := by decide +kernel
theorem dX7_isPost_10 : decode cX7_isPost 10 = .ok (.invokestatic 60, 3) := by decide +kernel
theorem dX7_isPost_13 : decode cX7_isPost 13 = .ok (.ireturn, 1) := by decide +kernel
theorem dX7_isMan_0 : decode cX7_isMan 0 = .ok (.iload_n 1, 1) := by decide +kernel
theorem dX7_isMan_1 : decode cX7_isMan 1 = .ok (.iconst 0, 1) := by decide +kernel
theorem dX7_isMan_2 : decode cX7_isMan 2 = .ok (.aload_n 0, 1) := by decide +kernel
theorem dX7_isMan_3 : decode cX7_isMan 3 = .ok (.getfield 13, 3) := by decide +kernel
theorem dX7_isMan_6 : decode cX7_isMan 6 = .ok (.iconst 1, 1) := by decide +kernel
theorem dX7_isMan_7 : decode cX7_isMan 7 = .ok (.iaload, 1) := by decide +kernel
theorem dX7_isMan_8 : decode cX7_isMan 8 = .ok (.iconst 1, 1) := by decide +kernel
theorem dX7_isMan_9 : decode cX7_isMan 9 = .ok (.isub, 1) := by decide +kernel
theorem dX7_isMan_10 : decode cX7_isMan 10 = .ok (.invokestatic 60, 3) := by decide +kernel
theorem dX7_isMan_13 : decode cX7_isMan 13 = .ok (.ireturn, 1) := by decide +kernel
theorem dX7_manAt_0 : decode cX7_manAt 0 = .ok (.iconst 0, 1) := by decide +kernel
theorem dX7_manAt_1 : decode cX7_manAt 1 = .ok (.istore_n 3, 1) := by decide +kernel
theorem dX7_manAt_2 : decode cX7_manAt 2 = .ok (.iload_n 3, 1) := by decide +kernel
theorem dX7_manAt_3 : decode cX7_manAt 3 = .ok (.aload_n 0, 1) := by decide +kernel
theorem dX7_manAt_4 : decode cX7_manAt 4 = .ok (.getfield 13, 3) := by decide +kernel
theorem dX7_manAt_7 : decode cX7_manAt 7 = .ok (.iconst 1, 1) := by decide +kernel
theorem dX7_manAt_8 : decode cX7_manAt 8 = .ok (.iaload, 1) := by decide +kernel
theorem dX7_manAt_9 : decode cX7_manAt 9 = .ok (.if_icmp .ge 23, 3) := by decide +kernel
theorem dX7_manAt_12 : decode cX7_manAt 12 = .ok (.aload_n 1, 1) := by decide +kernel
theorem dX7_manAt_13 : decode cX7_manAt 13 = .ok (.bipush 7, 2) := by decide +kernel
theorem dX7_manAt_15 : decode cX7_manAt 15 = .ok (.iload_n 3, 1) := by decide +kernel
theorem dX7_manAt_16 : decode cX7_manAt 16 = .ok (.iadd, 1) := by decide +kernel
theorem dX7_manAt_17 : decode cX7_manAt 17 = .ok (.iaload, 1) := by decide +kernel
theorem dX7_manAt_18 : decode cX7_manAt 18 = .ok (.iload_n 2, 1) := by decide +kernel
theorem dX7_manAt_19 : decode cX7_manAt 19 = .ok (.iconst 1, 1) := by decide +kernel
theorem dX7_manAt_20 : decode cX7_manAt 20 = .ok (.iadd, 1) := by decide +kernel
theorem dX7_manAt_21 : decode cX7_manAt 21 = .ok (.if_icmp .ne 5, 3) := by decide +kernel
theorem dX7_manAt_24 : decode cX7_manAt 24 = .ok (.iload_n 3, 1) := by decide +kernel
theorem dX7_manAt_25 : decode cX7_manAt 25 = .ok (.ireturn, 1) := by decide +kernel
theorem dX7_manAt_26 : decode cX7_manAt 26 = .ok (.iinc 3 1, 3) := by decide +kernel
theorem dX7_manAt_29 : decode cX7_manAt 29 = .ok (.goto (-27), 3) := by decide +kernel
theorem dX7_manAt_32 : decode cX7_manAt 32 = .ok (.bipush (-9), 2) := by decide +kernel
theorem dX7_manAt_34 : decode cX7_manAt 34 = .ok (.ireturn, 1) := by decide +kernel
theorem dX7_isAsleep_0 : decode cX7_isAsleep 0 = .ok (.aload_n 0, 1) := by decide +kernel
theorem dX7_isAsleep_1 : decode cX7_isAsleep 1 = .ok (.bipush 7, 2) := by decide +kernel
theorem dX7_isAsleep_3 : decode cX7_isAsleep 3 = .ok (.iload_n 1, 1) := by decide +kernel
theorem dX7_isAsleep_4 : decode cX7_isAsleep 4 = .ok (.iadd, 1) := by decide +kernel
theorem dX7_isAsleep_5 : decode cX7_isAsleep 5 = .ok (.iaload, 1) := by decide +kernel
theorem dX7_isAsleep_6 : decode cX7_isAsleep 6 = .ok (.ifCond .le 17, 3) := by decide +kernel
theorem dX7_isAsleep_9 : decode cX7_isAsleep 9 = .ok (.aload_n 0, 1) := by decide +kernel
theorem dX7_isAsleep_10 : decode cX7_isAsleep 10 = .ok (.iconst 1, 1) := by decide +kernel
theorem dX7_isAsleep_11 : decode cX7_isAsleep 11 = .ok (.iload_n 1, 1) := by decide +kernel
theorem dX7_isAsleep_12 : decode cX7_isAsleep 12 = .ok (.iadd, 1) := by decide +kernel
theorem dX7_isAsleep_13 : decode cX7_isAsleep 13 = .ok (.iaload, 1) := by decide +kernel
theorem dX7_isAsleep_14 : decode cX7_isAsleep 14 = .ok (.bipush 40, 2) := by decide +kernel
theorem dX7_isAsleep_16 : decode cX7_isAsleep 16 = .ok (.if_icmp .lt 7, 3) := by decide +kernel
theorem dX7_isAsleep_19 : decode cX7_isAsleep 19 = .ok (.iconst 1, 1) := by decide +kernel
theorem dX7_isAsleep_20 : decode cX7_isAsleep 20 = .ok (.goto 4, 3) := by decide +kernel
theorem dX7_isAsleep_23 : decode cX7_isAsleep 23 = .ok (.iconst 0, 1) := by decide +kernel
theorem dX7_isAsleep_24 : decode cX7_isAsleep 24 = .ok (.ireturn, 1) := by decide +kernel
theorem dX7_post_0 : decode cX7_post 0 = .ok (.aload_n 0, 1) := by decide +kernel
theorem dX7_post_1 : decode cX7_post 1 = .ok (.iconst 0, 1) := by decide +kernel
theorem dX7_post_2 : decode cX7_post 2 = .ok (.putfield 56, 3) := by decide +kernel
theorem dX7_post_5 : decode cX7_post 5 = .ok (.aload_n 0, 1) := by decide +kernel
theorem dX7_post_6 : decode cX7_post 6 = .ok (.iload_n 1, 1) := by decide +kernel
theorem dX7_post_7 : decode cX7_post 7 = .ok (.invokevirtual 120, 3) := by decide +kernel
theorem dX7_post_10 : decode cX7_post 10 = .ok (.ifCond .eq 12, 3) := by decide +kernel
theorem dX7_post_13 : decode cX7_post 13 = .ok (.iload_n 2, 1) := by decide +kernel
theorem dX7_post_14 : decode cX7_post 14 = .ok (.iconst 0, 1) := by decide +kernel
theorem dX7_post_15 : decode cX7_post 15 = .ok (.iconst 3, 1) := by decide +kernel
theorem dX7_post_16 : decode cX7_post 16 = .ok (.invokestatic 60, 3) := by decide +kernel
theorem dX7_post_19 : decode cX7_post 19 = .ok (.ifCond .ne 5, 3) := by decide +kernel
theorem dX7_post_22 : decode cX7_post 22 = .ok (.iconst (-1), 1) := by decide +kernel
theorem dX7_post_23 : decode cX7_post 23 = .ok (.ireturn, 1) := by decide +kernel
theorem dX7_post_24 : decode cX7_post 24 = .ok (.iload_n 2, 1) := by decide +kernel
theorem dX7_post_25 : decode cX7_post 25 = .ok (.ifCond .ne 12, 3) := by decide +kernel
theorem dX7_post_28 : decode cX7_post 28 = .ok (.aload_n 0, 1) := by decide +kernel
theorem dX7_post_29 : decode cX7_post 29 = .ok (.getfield 16, 3) := by decide +kernel
theorem dX7_post_32 : decode cX7_post 32 = .ok (.iload_n 1, 1) := by decide +kernel
theorem dX7_post_33 : decode cX7_post 33 = .ok (.iaload, 1) := by decide +kernel
theorem dX7_post_34 : decode cX7_post 34 = .ok (.goto 43, 3) := by decide +kernel
theorem dX7_post_37 : decode cX7_post 37 = .ok (.iload_n 2, 1) := by decide +kernel
theorem dX7_post_38 : decode cX7_post 38 = .ok (.iconst 1, 1) := by decide +kernel
theorem dX7_post_39 : decode cX7_post 39 = .ok (.if_icmp .ne 12, 3) := by decide +kernel
theorem dX7_post_42 : decode cX7_post 42 = .ok (.aload_n 0, 1) := by decide +kernel
theorem dX7_post_43 : decode cX7_post 43 = .ok (.getfield 19, 3) := by decide +kernel
theorem dX7_post_46 : decode cX7_post 46 = .ok (.iload_n 1, 1) := by decide +kernel
theorem dX7_post_47 : decode cX7_post 47 = .ok (.iaload, 1) := by decide +kernel
theorem dX7_post_48 : decode cX7_post 48 = .ok (.goto 29, 3) := by decide +kernel
theorem dX7_post_51 : decode cX7_post 51 = .ok (.iload_n 2, 1) := by decide +kernel
theorem dX7_post_52 : decode cX7_post 52 = .ok (.iconst 2, 1) := by decide +kernel
theorem dX7_post_53 : decode cX7_post 53 = .ok (.if_icmp .ne 15, 3) := by decide +kernel
theorem dX7_post_56 : decode cX7_post 56 = .ok (.aload_n 0, 1) := by decide +kernel
theorem dX7_post_57 : decode cX7_post 57 = .ok (.aload_n 0, 1) := by decide +kernel
theorem dX7_post_58 : decode cX7_post 58 = .ok (.getfield 25, 3) := by decide +kernel
theorem dX7_post_61 : decode cX7_post 61 = .ok (.iload_n 1, 1) := by decide +kernel
theorem dX7_post_62 : decode cX7_post 62 = .ok (.invokevirtual 124, 3) := by decide +kernel
theorem dX7_post_65 : decode cX7_post 65 = .ok (.goto 12, 3) := by decide +kernel
theorem dX7_post_68 : decode cX7_post 68 = .ok (.aload_n 0, 1) := by decide +kernel
theorem dX7_post_69 : decode cX7_post 69 = .ok (.getfield 25, 3) := by decide +kernel
theorem dX7_post_72 : decode cX7_post 72 = .ok (.bipush 13, 2) := by decide +kernel
theorem dX7_post_74 : decode cX7_post 74 = .ok (.iload_n 1, 1) := by decide +kernel
theorem dX7_post_75 : decode cX7_post 75 = .ok (.iadd, 1) := by decide +kernel
theorem dX7_post_76 : decode cX7_post 76 = .ok (.iaload, 1) := by decide +kernel
theorem dX7_post_77 : decode cX7_post 77 = .ok (.ireturn, 1) := by decide +kernel
theorem dX7_man_0 : decode cX7_man 0 = .ok (.aload_n 0, 1) := by decide +kernel
theorem dX7_man_1 : decode cX7_man 1 = .ok (.iconst 0, 1) := by decide +kernel
theorem dX7_man_2 : decode cX7_man 2 = .ok (.putfield 56, 3) := by decide +kernel
theorem dX7_man_5 : decode cX7_man 5 = .ok (.aload_n 0, 1) := by decide +kernel
theorem dX7_man_6 : decode cX7_man 6 = .ok (.iload_n 1, 1) := by decide +kernel
theorem dX7_man_7 : decode cX7_man 7 = .ok (.invokevirtual 128, 3) := by decide +kernel
theorem dX7_man_10 : decode cX7_man 10 = .ok (.ifCond .eq 12, 3) := by decide +kernel
theorem dX7_man_13 : decode cX7_man 13 = .ok (.iload_n 2, 1) := by decide +kernel
theorem dX7_man_14 : decode cX7_man 14 = .ok (.iconst 0, 1) := by decide +kernel
theorem dX7_man_15 : decode cX7_man 15 = .ok (.iconst 2, 1) := by decide +kernel
theorem dX7_man_16 : decode cX7_man 16 = .ok (.invokestatic 60, 3) := by decide +kernel
theorem dX7_man_19 : decode cX7_man 19 = .ok (.ifCond .ne 5, 3) := by decide +kernel
theorem dX7_man_22 : decode cX7_man 22 = .ok (.iconst (-1), 1) := by decide +kernel
theorem dX7_man_23 : decode cX7_man 23 = .ok (.ireturn, 1) := by decide +kernel
theorem dX7_man_24 : decode cX7_man 24 = .ok (.iload_n 2, 1) := by decide +kernel
theorem dX7_man_25 : decode cX7_man 25 = .ok (.ifCond .ne 14, 3) := by decide +kernel
theorem dX7_man_28 : decode cX7_man 28 = .ok (.aload_n 0, 1) := by decide +kernel
theorem dX7_man_29 : decode cX7_man 29 = .ok (.getfield 25, 3) := by decide +kernel
theorem dX7_man_32 : decode cX7_man 32 = .ok (.iconst 1, 1) := by decide +kernel
theorem dX7_man_33 : decode cX7_man 33 = .ok (.iload_n 1, 1) := by decide +kernel
theorem dX7_man_34 : decode cX7_man 34 = .ok (.iadd, 1) := by decide +kernel
theorem dX7_man_35 : decode cX7_man 35 = .ok (.iaload, 1) := by decide +kernel
theorem dX7_man_36 : decode cX7_man 36 = .ok (.goto 55, 3) := by decide +kernel
theorem dX7_man_39 : decode cX7_man 39 = .ok (.iload_n 2, 1) := by decide +kernel
theorem dX7_man_40 : decode cX7_man 40 = .ok (.iconst 1, 1) := by decide +kernel
theorem dX7_man_41 : decode cX7_man 41 = .ok (.if_icmp .ne 34, 3) := by decide +kernel
theorem dX7_man_44 : decode cX7_man 44 = .ok (.aload_n 0, 1) := by decide +kernel
theorem dX7_man_45 : decode cX7_man 45 = .ok (.getfield 25, 3) := by decide +kernel
theorem dX7_man_48 : decode cX7_man 48 = .ok (.bipush 7, 2) := by decide +kernel
theorem dX7_man_50 : decode cX7_man 50 = .ok (.iload_n 1, 1) := by decide +kernel
theorem dX7_man_51 : decode cX7_man 51 = .ok (.iadd, 1) := by decide +kernel
theorem dX7_man_52 : decode cX7_man 52 = .ok (.iaload, 1) := by decide +kernel
theorem dX7_man_53 : decode cX7_man 53 = .ok (.ifCond .ne 8, 3) := by decide +kernel
theorem dX7_man_56 : decode cX7_man 56 = .ok (.bipush (-9), 2) := by decide +kernel
theorem dX7_man_58 : decode cX7_man 58 = .ok (.goto 33, 3) := by decide +kernel
theorem dX7_man_61 : decode cX7_man 61 = .ok (.aload_n 0, 1) := by decide +kernel
theorem dX7_man_62 : decode cX7_man 62 = .ok (.getfield 25, 3) := by decide +kernel
theorem dX7_man_65 : decode cX7_man 65 = .ok (.bipush 7, 2) := by decide +kernel
theorem dX7_man_67 : decode cX7_man 67 = .ok (.iload_n 1, 1) := by decide +kernel
theorem dX7_man_68 : decode cX7_man 68 = .ok (.iadd, 1) := by decide +kernel
theorem dX7_man_69 : decode cX7_man 69 = .ok (.iaload, 1) := by decide +kernel
theorem dX7_man_70 : decode cX7_man 70 = .ok (.iconst 1, 1) := by decide +kernel
theorem dX7_man_71 : decode cX7_man 71 = .ok (.isub, 1) := by decide +kernel
theorem dX7_man_72 : decode cX7_man 72 = .ok (.goto 19, 3) := by decide +kernel
theorem dX7_man_75 : decode cX7_man 75 = .ok (.aload_n 0, 1) := by decide +kernel
theorem dX7_man_76 : decode cX7_man 76 = .ok (.getfield 25, 3) := by decide +kernel
theorem dX7_man_79 : decode cX7_man 79 = .ok (.iload_n 1, 1) := by decide +kernel
theorem dX7_man_80 : decode cX7_man 80 = .ok (.invokestatic 131, 3) := by decide +kernel
theorem dX7_man_83 : decode cX7_man 83 = .ok (.ifCond .eq 7, 3) := by decide +kernel
theorem dX7_man_86 : decode cX7_man 86 = .ok (.iconst 1, 1) := by decide +kernel
theorem dX7_man_87 : decode cX7_man 87 = .ok (.goto 4, 3) := by decide +kernel
theorem dX7_man_90 : decode cX7_man 90 = .ok (.iconst 0, 1) := by decide +kernel
theorem dX7_man_91 : decode cX7_man 91 = .ok (.ireturn, 1) := by decide +kernel
theorem dX7_standing_0 : decode cX7_standing 0 = .ok (.iconst 0, 1) := by decide +kernel
theorem dX7_standing_1 : decode cX7_standing 1 = .ok (.istore_n 2, 1) := by decide +kernel
theorem dX7_standing_2 : decode cX7_standing 2 = .ok (.iconst 0, 1) := by decide +kernel
theorem dX7_standing_3 : decode cX7_standing 3 = .ok (.istore_n 3, 1) := by decide +kernel
theorem dX7_standing_4 : decode cX7_standing 4 = .ok (.iload_n 3, 1) := by decide +kernel
theorem dX7_standing_5 : decode cX7_standing 5 = .ok (.aload_n 0, 1) := by decide +kernel
theorem dX7_standing_6 : decode cX7_standing 6 = .ok (.getfield 13, 3) := by decide +kernel
theorem dX7_standing_9 : decode cX7_standing 9 = .ok (.iconst 1, 1) := by decide +kernel
theorem dX7_standing_10 : decode cX7_standing 10 = .ok (.iaload, 1) := by decide +kernel
theorem dX7_standing_11 : decode cX7_standing 11 = .ok (.if_icmp .ge 35, 3) := by decide +kernel
theorem dX7_standing_14 : decode cX7_standing 14 = .ok (.iload_n 2, 1) := by decide +kernel
theorem dX7_standing_15 : decode cX7_standing 15 = .ok (.aload_n 1, 1) := by decide +kernel
theorem dX7_standing_16 : decode cX7_standing 16 = .ok (.bipush 7, 2) := by decide +kernel
theorem dX7_standing_18 : decode cX7_standing 18 = .ok (.iload_n 3, 1) := by decide +kernel
theorem dX7_standing_19 : decode cX7_standing 19 = .ok (.iadd, 1) := by decide +kernel
theorem dX7_standing_20 : decode cX7_standing 20 = .ok (.iaload, 1) := by decide +kernel
theorem dX7_standing_21 : decode cX7_standing 21 = .ok (.ifCond .le 16, 3) := by decide +kernel
theorem dX7_standing_24 : decode cX7_standing 24 = .ok (.iconst 1, 1) := by decide +kernel
theorem dX7_standing_25 : decode cX7_standing 25 = .ok (.aload_n 1, 1) := by decide +kernel
theorem dX7_standing_26 : decode cX7_standing 26 = .ok (.bipush 7, 2) := by decide +kernel
theorem dX7_standing_28 : decode cX7_standing 28 = .ok (.iload_n 3, 1) := by decide +kernel
theorem dX7_standing_29 : decode cX7_standing 29 = .ok (.iadd, 1) := by decide +kernel
theorem dX7_standing_30 : decode cX7_standing 30 = .ok (.iaload, 1) := by decide +kernel
theorem dX7_standing_31 : decode cX7_standing 31 = .ok (.iconst 1, 1) := by decide +kernel
theorem dX7_standing_32 : decode cX7_standing 32 = .ok (.isub, 1) := by decide +kernel
theorem dX7_standing_33 : decode cX7_standing 33 = .ok (.ishl, 1) := by decide +kernel
theorem dX7_standing_34 : decode cX7_standing 34 = .ok (.goto 4, 3) := by decide +kernel
theorem dX7_standing_37 : decode cX7_standing 37 = .ok (.iconst 0, 1) := by decide +kernel
theorem dX7_standing_38 : decode cX7_standing 38 = .ok (.ior, 1) := by decide +kernel
theorem dX7_standing_39 : decode cX7_standing 39 = .ok (.istore_n 2, 1) := by decide +kernel
theorem dX7_standing_40 : decode cX7_standing 40 = .ok (.iinc 3 1, 3) := by decide +kernel
theorem dX7_standing_43 : decode cX7_standing 43 = .ok (.goto (-39), 3) := by decide +kernel
theorem dX7_standing_46 : decode cX7_standing 46 = .ok (.iload_n 2, 1) := by decide +kernel
theorem dX7_standing_47 : decode cX7_standing 47 = .ok (.ireturn, 1) := by decide +kernel
theorem dX7_asleep_0 : decode cX7_asleep 0 = .ok (.iconst 0, 1) := by decide +kernel
theorem dX7_asleep_1 : decode cX7_asleep 1 = .ok (.istore_n 2, 1) := by decide +kernel
theorem dX7_asleep_2 : decode cX7_asleep 2 = .ok (.iconst 0, 1) := by decide +kernel
theorem dX7_asleep_3 : decode cX7_asleep 3 = .ok (.istore_n 3, 1) := by decide +kernel
theorem dX7_asleep_4 : decode cX7_asleep 4 = .ok (.iload_n 3, 1) := by decide +kernel
theorem dX7_asleep_5 : decode cX7_asleep 5 = .ok (.aload_n 0, 1) := by decide +kernel
theorem dX7_asleep_6 : decode cX7_asleep 6 = .ok (.getfield 13, 3) := by decide +kernel
theorem dX7_asleep_9 : decode cX7_asleep 9 = .ok (.iconst 1, 1) := by decide +kernel
theorem dX7_asleep_10 : decode cX7_asleep 10 = .ok (.iaload, 1) := by decide +kernel
theorem dX7_asleep_11 : decode cX7_asleep 11 = .ok (.if_icmp .ge 34, 3) := by decide +kernel
theorem dX7_asleep_14 : decode cX7_asleep 14 = .ok (.iload_n 2, 1) := by decide +kernel
theorem dX7_asleep_15 : decode cX7_asleep 15 = .ok (.aload_n 1, 1) := by decide +kernel
theorem dX7_asleep_16 : decode cX7_asleep 16 = .ok (.iload_n 3, 1) := by decide +kernel
theorem dX7_asleep_17 : decode cX7_asleep 17 = .ok (.invokestatic 131, 3) := by decide +kernel
theorem dX7_asleep_20 : decode cX7_asleep 20 = .ok (.ifCond .eq 16, 3) := by decide +kernel
theorem dX7_asleep_23 : decode cX7_asleep 23 = .ok (.iconst 1, 1) := by decide +kernel
theorem dX7_asleep_24 : decode cX7_asleep 24 = .ok (.aload_n 1, 1) := by decide +kernel
theorem dX7_asleep_25 : decode cX7_asleep 25 = .ok (.bipush 7, 2) := by decide +kernel
theorem dX7_asleep_27 : decode cX7_asleep 27 = .ok (.iload_n 3, 1) := by decide +kernel
theorem dX7_asleep_28 : decode cX7_asleep 28 = .ok (.iadd, 1) := by decide +kernel
theorem dX7_asleep_29 : decode cX7_asleep 29 = .ok (.iaload, 1) := by decide +kernel
theorem dX7_asleep_30 : decode cX7_asleep 30 = .ok (.iconst 1, 1) := by decide +kernel
theorem dX7_asleep_31 : decode cX7_asleep 31 = .ok (.isub, 1) := by decide +kernel
theorem dX7_asleep_32 : decode cX7_asleep 32 = .ok (.ishl, 1) := by decide +kernel
theorem dX7_asleep_33 : decode cX7_asleep 33 = .ok (.goto 4, 3) := by decide +kernel
theorem dX7_asleep_36 : decode cX7_asleep 36 = .ok (.iconst 0, 1) := by decide +kernel
theorem dX7_asleep_37 : decode cX7_asleep 37 = .ok (.ior, 1) := by decide +kernel
theorem dX7_asleep_38 : decode cX7_asleep 38 = .ok (.istore_n 2, 1) := by decide +kernel
theorem dX7_asleep_39 : decode cX7_asleep 39 = .ok (.iinc 3 1, 3) := by decide +kernel
theorem dX7_asleep_42 : decode cX7_asleep 42 = .ok (.goto (-38), 3) := by decide +kernel
theorem dX7_asleep_45 : decode cX7_asleep 45 = .ok (.iload_n 2, 1) := by decide +kernel
theorem dX7_asleep_46 : decode cX7_asleep 46 = .ok (.ireturn, 1) := by decide +kernel
theorem dX7_watched_0 : decode cX7_watched 0 = .ok (.iload_n 1, 1) := by decide +kernel
theorem dX7_watched_1 : decode cX7_watched 1 = .ok (.istore_n 2, 1) := by decide +kernel
theorem dX7_watched_2 : decode cX7_watched 2 = .ok (.iconst 0, 1) := by decide +kernel
theorem dX7_watched_3 : decode cX7_watched 3 = .ok (.istore_n 3, 1) := by decide +kernel
theorem dX7_watched_4 : decode cX7_watched 4 = .ok (.iload_n 3, 1) := by decide +kernel
theorem dX7_watched_5 : decode cX7_watched 5 = .ok (.aload_n 0, 1) := by decide +kernel
theorem dX7_watched_6 : decode cX7_watched 6 = .ok (.getfield 13, 3) := by decide +kernel
theorem dX7_watched_9 : decode cX7_watched 9 = .ok (.iconst 0, 1) := by decide +kernel
theorem dX7_watched_10 : decode cX7_watched 10 = .ok (.iaload, 1) := by decide +kernel
theorem dX7_watched_11 : decode cX7_watched 11 = .ok (.if_icmp .ge 31, 3) := by decide +kernel
theorem dX7_watched_14 : decode cX7_watched 14 = .ok (.iload_n 2, 1) := by decide +kernel
theorem dX7_watched_15 : decode cX7_watched 15 = .ok (.iload_n 1, 1) := by decide +kernel
theorem dX7_watched_16 : decode cX7_watched 16 = .ok (.iload_n 3, 1) := by decide +kernel
theorem dX7_watched_17 : decode cX7_watched 17 = .ok (.ishr, 1) := by decide +kernel
theorem dX7_watched_18 : decode cX7_watched 18 = .ok (.iconst 1, 1) := by decide +kernel
theorem dX7_watched_19 : decode cX7_watched 19 = .ok (.iand, 1) := by decide +kernel
theorem dX7_watched_20 : decode cX7_watched 20 = .ok (.iconst 1, 1) := by decide +kernel
theorem dX7_watched_21 : decode cX7_watched 21 = .ok (.if_icmp .ne 12, 3) := by decide +kernel
theorem dX7_watched_24 : decode cX7_watched 24 = .ok (.aload_n 0, 1) := by decide +kernel
theorem dX7_watched_25 : decode cX7_watched 25 = .ok (.getfield 16, 3) := by decide +kernel
theorem dX7_watched_28 : decode cX7_watched 28 = .ok (.iload_n 3, 1) := by decide +kernel
theorem dX7_watched_29 : decode cX7_watched 29 = .ok (.iaload, 1) := by decide +kernel
theorem dX7_watched_30 : decode cX7_watched 30 = .ok (.goto 4, 3) := by decide +kernel
theorem dX7_watched_33 : decode cX7_watched 33 = .ok (.iconst 0, 1) := by decide +kernel
theorem dX7_watched_34 : decode cX7_watched 34 = .ok (.ior, 1) := by decide +kernel
theorem dX7_watched_35 : decode cX7_watched 35 = .ok (.istore_n 2, 1) := by decide +kernel
theorem dX7_watched_36 : decode cX7_watched 36 = .ok (.iinc 3 1, 3) := by decide +kernel
theorem dX7_watched_39 : decode cX7_watched 39 = .ok (.goto (-35), 3) := by decide +kernel
theorem dX7_watched_42 : decode cX7_watched 42 = .ok (.iload_n 2, 1) := by decide +kernel
theorem dX7_watched_43 : decode cX7_watched 43 = .ok (.ireturn, 1) := by decide +kernel
theorem dX7_watchedIn_0 : decode cX7_watchedIn 0 = .ok (.aload_n 0, 1) := by decide +kernel
theorem dX7_watchedIn_1 : decode cX7_watchedIn 1 = .ok (.aload_n 0, 1) := by decide +kernel
theorem dX7_watchedIn_2 : decode cX7_watchedIn 2 = .ok (.aload_n 1, 1) := by decide +kernel
theorem dX7_watchedIn_3 : decode cX7_watchedIn 3 = .ok (.invokevirtual 135, 3) := by decide +kernel
theorem dX7_watchedIn_6 : decode cX7_watchedIn 6 = .ok (.aload_n 0, 1) := by decide +kernel
theorem dX7_watchedIn_7 : decode cX7_watchedIn 7 = .ok (.aload_n 1, 1) := by decide +kernel
theorem dX7_watchedIn_8 : decode cX7_watchedIn 8 = .ok (.invokevirtual 139, 3) := by decide +kernel
theorem dX7_watchedIn_11 : decode cX7_watchedIn 11 = .ok (.iconst (-1), 1) := by decide +kernel
theorem dX7_watchedIn_12 : decode cX7_watchedIn 12 = .ok (.ixor, 1) := by decide +kernel
theorem dX7_watchedIn_13 : decode cX7_watchedIn 13 = .ok (.iand, 1) := by decide +kernel
theorem dX7_watchedIn_14 : decode cX7_watchedIn 14 = .ok (.invokevirtual 142, 3) := by decide +kernel
theorem dX7_watchedIn_17 : decode cX7_watchedIn 17 = .ok (.ireturn, 1) := by decide +kernel
theorem dX7_now_0 : decode cX7_now 0 = .ok (.aload_n 0, 1) := by decide +kernel
theorem dX7_now_1 : decode cX7_now 1 = .ok (.iconst 0, 1) := by decide +kernel
theorem dX7_now_2 : decode cX7_now 2 = .ok (.putfield 56, 3) := by decide +kernel
theorem dX7_now_5 : decode cX7_now 5 = .ok (.iload_n 1, 1) := by decide +kernel
theorem dX7_now_6 : decode cX7_now 6 = .ok (.iconst 0, 1) := by decide +kernel
theorem dX7_now_7 : decode cX7_now 7 = .ok (.iconst 4, 1) := by decide +kernel
theorem dX7_now_8 : decode cX7_now 8 = .ok (.invokestatic 60, 3) := by decide +kernel
theorem dX7_now_11 : decode cX7_now 11 = .ok (.ifCond .ne 5, 3) := by decide +kernel
theorem dX7_now_14 : decode cX7_now 14 = .ok (.iconst (-1), 1) := by decide +kernel
theorem dX7_now_15 : decode cX7_now 15 = .ok (.ireturn, 1) := by decide +kernel
theorem dX7_now_16 : decode cX7_now 16 = .ok (.iload_n 1, 1) := by decide +kernel
theorem dX7_now_17 : decode cX7_now 17 = .ok (.iconst 2, 1) := by decide +kernel
theorem dX7_now_18 : decode cX7_now 18 = .ok (.if_icmp .ge 25, 3) := by decide +kernel
theorem dX7_now_21 : decode cX7_now 21 = .ok (.iload_n 1, 1) := by decide +kernel
theorem dX7_now_22 : decode cX7_now 22 = .ok (.ifCond .ne 12, 3) := by decide +kernel
theorem dX7_now_25 : decode cX7_now 25 = .ok (.aload_n 0, 1) := by decide +kernel
theorem dX7_now_26 : decode cX7_now 26 = .ok (.getfield 25, 3) := by decide +kernel
theorem dX7_now_29 : decode cX7_now 29 = .ok (.iconst 0, 1) := by decide +kernel
theorem dX7_now_30 : decode cX7_now 30 = .ok (.iaload, 1) := by decide +kernel
theorem dX7_now_31 : decode cX7_now 31 = .ok (.goto 11, 3) := by decide +kernel
theorem dX7_now_34 : decode cX7_now 34 = .ok (.aload_n 0, 1) := by decide +kernel
theorem dX7_now_35 : decode cX7_now 35 = .ok (.aload_n 0, 1) := by decide +kernel
theorem dX7_now_36 : decode cX7_now 36 = .ok (.getfield 25, 3) := by decide +kernel
theorem dX7_now_39 : decode cX7_now 39 = .ok (.invokevirtual 135, 3) := by decide +kernel
theorem dX7_now_42 : decode cX7_now 42 = .ok (.ireturn, 1) := by decide +kernel
theorem dX7_now_43 : decode cX7_now 43 = .ok (.iload_n 1, 1) := by decide +kernel
theorem dX7_now_44 : decode cX7_now 44 = .ok (.iconst 2, 1) := by decide +kernel
theorem dX7_now_45 : decode cX7_now 45 = .ok (.if_icmp .ne 14, 3) := by decide +kernel
theorem dX7_now_48 : decode cX7_now 48 = .ok (.aload_n 0, 1) := by decide +kernel
theorem dX7_now_49 : decode cX7_now 49 = .ok (.aload_n 0, 1) := by decide +kernel
theorem dX7_now_50 : decode cX7_now 50 = .ok (.getfield 25, 3) := by decide +kernel
theorem dX7_now_53 : decode cX7_now 53 = .ok (.invokevirtual 139, 3) := by decide +kernel
theorem dX7_now_56 : decode cX7_now 56 = .ok (.goto 23, 3) := by decide +kernel
theorem dX7_now_59 : decode cX7_now 59 = .ok (.iload_n 1, 1) := by decide +kernel
theorem dX7_now_60 : decode cX7_now 60 = .ok (.iconst 3, 1) := by decide +kernel
theorem dX7_now_61 : decode cX7_now 61 = .ok (.if_icmp .ne 14, 3) := by decide +kernel
theorem dX7_now_64 : decode cX7_now 64 = .ok (.aload_n 0, 1) := by decide +kernel
theorem dX7_now_65 : decode cX7_now 65 = .ok (.aload_n 0, 1) := by decide +kernel
theorem dX7_now_66 : decode cX7_now 66 = .ok (.getfield 25, 3) := by decide +kernel
theorem dX7_now_69 : decode cX7_now 69 = .ok (.invokevirtual 145, 3) := by decide +kernel
theorem dX7_now_72 : decode cX7_now 72 = .ok (.goto 7, 3) := by decide +kernel
theorem dX7_now_75 : decode cX7_now 75 = .ok (.aload_n 0, 1) := by decide +kernel
theorem dX7_now_76 : decode cX7_now 76 = .ok (.getfield 117, 3) := by decide +kernel
theorem dX7_now_79 : decode cX7_now 79 = .ok (.ireturn, 1) := by decide +kernel
theorem dX7_notes_0 : decode cX7_notes 0 = .ok (.aload_n 0, 1) := by decide +kernel
theorem dX7_notes_1 : decode cX7_notes 1 = .ok (.getfield 117, 3) := by decide +kernel
theorem dX7_notes_4 : decode cX7_notes 4 = .ok (.bipush 10, 2) := by decide +kernel
theorem dX7_notes_6 : decode cX7_notes 6 = .ok (.if_icmp .ne 39, 3) := by decide +kernel
theorem dX7_notes_9 : decode cX7_notes 9 = .ok (.iconst 0, 1) := by decide +kernel
theorem dX7_notes_10 : decode cX7_notes 10 = .ok (.istore_n 1, 1) := by decide +kernel
theorem dX7_notes_11 : decode cX7_notes 11 = .ok (.iload_n 1, 1) := by decide +kernel
theorem dX7_notes_12 : decode cX7_notes 12 = .ok (.sipush 432, 3) := by decide +kernel
theorem dX7_notes_15 : decode cX7_notes 15 = .ok (.if_icmp .ge 24, 3) := by decide +kernel
theorem dX7_notes_18 : decode cX7_notes 18 = .ok (.aload_n 0, 1) := by decide +kernel
theorem dX7_notes_19 : decode cX7_notes 19 = .ok (.getfield 38, 3) := by decide +kernel
theorem dX7_notes_22 : decode cX7_notes 22 = .ok (.iload_n 1, 1) := by decide +kernel
theorem dX7_notes_23 : decode cX7_notes 23 = .ok (.aload_n 0, 1) := by decide +kernel
theorem dX7_notes_24 : decode cX7_notes 24 = .ok (.getfield 38, 3) := by decide +kernel
theorem dX7_notes_27 : decode cX7_notes 27 = .ok (.iload_n 1, 1) := by decide +kernel
theorem dX7_notes_28 : decode cX7_notes 28 = .ok (.bipush 48, 2) := by decide +kernel
theorem dX7_notes_30 : decode cX7_notes 30 = .ok (.iadd, 1) := by decide +kernel
theorem dX7_notes_31 : decode cX7_notes 31 = .ok (.iaload, 1) := by decide +kernel
theorem dX7_notes_32 : decode cX7_notes 32 = .ok (.iastore, 1) := by decide +kernel
theorem dX7_notes_33 : decode cX7_notes 33 = .ok (.iinc 1 1, 3) := by decide +kernel
theorem dX7_notes_36 : decode cX7_notes 36 = .ok (.goto (-25), 3) := by decide +kernel
theorem dX7_notes_39 : decode cX7_notes 39 = .ok (.aload_n 0, 1) := by decide +kernel
theorem dX7_notes_40 : decode cX7_notes 40 = .ok (.bipush 9, 2) := by decide +kernel
theorem dX7_notes_42 : decode cX7_notes 42 = .ok (.putfield 117, 3) := by decide +kernel
theorem dX7_notes_45 : decode cX7_notes 45 = .ok (.iconst 0, 1) := by decide +kernel
theorem dX7_notes_46 : decode cX7_notes 46 = .ok (.istore_n 1, 1) := by decide +kernel
theorem dX7_notes_47 : decode cX7_notes 47 = .ok (.iload_n 1, 1) := by decide +kernel
theorem dX7_notes_48 : decode cX7_notes 48 = .ok (.bipush 48, 2) := by decide +kernel
theorem dX7_notes_50 : decode cX7_notes 50 = .ok (.if_icmp .ge 29, 3) := by decide +kernel
theorem dX7_notes_53 : decode cX7_notes 53 = .ok (.aload_n 0, 1) := by decide +kernel
theorem dX7_notes_54 : decode cX7_notes 54 = .ok (.getfield 38, 3) := by decide +kernel
theorem dX7_notes_57 : decode cX7_notes 57 = .ok (.bipush 48, 2) := by decide +kernel
theorem dX7_notes_59 : decode cX7_notes 59 = .ok (.aload_n 0, 1) := by decide +kernel
theorem dX7_notes_60 : decode cX7_notes 60 = .ok (.getfield 117, 3) := by decide +kernel
theorem dX7_notes_63 : decode cX7_notes 63 = .ok (.imul, 1) := by decide +kernel
theorem dX7_notes_64 : decode cX7_notes 64 = .ok (.iload_n 1, 1) := by decide +kernel
theorem dX7_notes_65 : decode cX7_notes 65 = .ok (.iadd, 1) := by decide +kernel
theorem dX7_notes_66 : decode cX7_notes 66 = .ok (.aload_n 0, 1) := by decide +kernel
theorem dX7_notes_67 : decode cX7_notes 67 = .ok (.getfield 25, 3) := by decide +kernel
theorem dX7_notes_70 : decode cX7_notes 70 = .ok (.iload_n 1, 1) := by decide +kernel
theorem dX7_notes_71 : decode cX7_notes 71 = .ok (.iaload, 1) := by decide +kernel
theorem dX7_notes_72 : decode cX7_notes 72 = .ok (.iastore, 1) := by decide +kernel
theorem dX7_notes_73 : decode cX7_notes 73 = .ok (.iinc 1 1, 3) := by decide +kernel
theorem dX7_notes_76 : decode cX7_notes 76 = .ok (.goto (-29), 3) := by decide +kernel
theorem dX7_notes_79 : decode cX7_notes 79 = .ok (.aload_n 0, 1) := by decide +kernel
theorem dX7_notes_80 : decode cX7_notes 80 = .ok (.dup, 1) := by decide +kernel
theorem dX7_notes_81 : decode cX7_notes 81 = .ok (.getfield 117, 3) := by decide +kernel
theorem dX7_notes_84 : decode cX7_notes 84 = .ok (.iconst 1, 1) := by decide +kernel
theorem dX7_notes_85 : decode cX7_notes 85 = .ok (.iadd, 1) := by decide +kernel
theorem dX7_notes_86 : decode cX7_notes 86 = .ok (.putfield 117, 3) := by decide +kernel
theorem dX7_notes_89 : decode cX7_notes 89 = .ok (.return_, 1) := by decide +kernel
theorem dX7_sends_0 : decode cX7_sends 0 = .ok (.aload_n 0, 1) := by decide +kernel
theorem dX7_sends_1 : decode cX7_sends 1 = .ok (.iconst 0, 1) := by decide +kernel
theorem dX7_sends_2 : decode cX7_sends 2 = .ok (.putfield 56, 3) := by decide +kernel
theorem dX7_sends_5 : decode cX7_sends 5 = .ok (.aload_n 0, 1) := by decide +kernel
theorem dX7_sends_6 : decode cX7_sends 6 = .ok (.iload_n 1, 1) := by decide +kernel
theorem dX7_sends_7 : decode cX7_sends 7 = .ok (.invokevirtual 128, 3) := by decide +kernel
theorem dX7_sends_10 : decode cX7_sends 10 = .ok (.ifCond .eq 11, 3) := by decide +kernel
theorem dX7_sends_13 : decode cX7_sends 13 = .ok (.aload_n 0, 1) := by decide +kernel
theorem dX7_sends_14 : decode cX7_sends 14 = .ok (.iload_n 2, 1) := by decide +kernel
theorem dX7_sends_15 : decode cX7_sends 15 = .ok (.invokevirtual 120, 3) := by decide +kernel
theorem dX7_sends_18 : decode cX7_sends 18 = .ok (.ifCond .ne 5, 3) := by decide +kernel
theorem dX7_sends_21 : decode cX7_sends 21 = .ok (.iconst (-1), 1) := by decide +kernel
theorem dX7_sends_22 : decode cX7_sends 22 = .ok (.ireturn, 1) := by decide +kernel
theorem dX7_sends_23 : decode cX7_sends 23 = .ok (.aload_n 0, 1) := by decide +kernel
theorem dX7_sends_24 : decode cX7_sends 24 = .ok (.getfield 25, 3) := by decide +kernel
theorem dX7_sends_27 : decode cX7_sends 27 = .ok (.bipush 7, 2) := by decide +kernel
theorem dX7_sends_29 : decode cX7_sends 29 = .ok (.iload_n 1, 1) := by decide +kernel
theorem dX7_sends_30 : decode cX7_sends 30 = .ok (.iadd, 1) := by decide +kernel
theorem dX7_sends_31 : decode cX7_sends 31 = .ok (.iaload, 1) := by decide +kernel
theorem dX7_sends_32 : decode cX7_sends 32 = .ok (.ifCond .gt 17, 3) := by decide +kernel
theorem dX7_sends_35 : decode cX7_sends 35 = .ok (.aload_n 0, 1) := by decide +kernel
theorem dX7_sends_36 : decode cX7_sends 36 = .ok (.aload_n 0, 1) := by decide +kernel
theorem dX7_sends_37 : decode cX7_sends 37 = .ok (.getfield 25, 3) := by decide +kernel
theorem dX7_sends_40 : decode cX7_sends 40 = .ok (.iload_n 2, 1) := by decide +kernel
theorem dX7_sends_41 : decode cX7_sends 41 = .ok (.invokevirtual 124, 3) := by decide +kernel
theorem dX7_sends_44 : decode cX7_sends 44 = .ok (.bipush (-9), 2) := by decide +kernel
theorem dX7_sends_46 : decode cX7_sends 46 = .ok (.if_icmp .eq 6, 3) := by decide +kernel
theorem dX7_sends_49 : decode cX7_sends 49 = .ok (.bipush (-2), 2) := by decide +kernel
theorem dX7_sends_51 : decode cX7_sends 51 = .ok (.ireturn, 1) := by decide +kernel
theorem dX7_sends_52 : decode cX7_sends 52 = .ok (.aload_n 0, 1) := by decide +kernel
theorem dX7_sends_53 : decode cX7_sends 53 = .ok (.invokevirtual 148, 3) := by decide +kernel
theorem dX7_sends_56 : decode cX7_sends 56 = .ok (.aload_n 0, 1) := by decide +kernel
theorem dX7_sends_57 : decode cX7_sends 57 = .ok (.getfield 25, 3) := by decide +kernel
theorem dX7_sends_60 : decode cX7_sends 60 = .ok (.bipush 7, 2) := by decide +kernel
theorem dX7_sends_62 : decode cX7_sends 62 = .ok (.iload_n 1, 1) := by decide +kernel
theorem dX7_sends_63 : decode cX7_sends 63 = .ok (.iadd, 1) := by decide +kernel
theorem dX7_sends_64 : decode cX7_sends 64 = .ok (.iload_n 2, 1) := by decide +kernel
theorem dX7_sends_65 : decode cX7_sends 65 = .ok (.iconst 1, 1) := by decide +kernel
theorem dX7_sends_66 : decode cX7_sends 66 = .ok (.iadd, 1) := by decide +kernel
theorem dX7_sends_67 : decode cX7_sends 67 = .ok (.iastore, 1) := by decide +kernel
theorem dX7_sends_68 : decode cX7_sends 68 = .ok (.aload_n 0, 1) := by decide +kernel
theorem dX7_sends_69 : decode cX7_sends 69 = .ok (.getfield 25, 3) := by decide +kernel
theorem dX7_sends_72 : decode cX7_sends 72 = .ok (.bipush 13, 2) := by decide +kernel
theorem dX7_sends_74 : decode cX7_sends 74 = .ok (.iload_n 2, 1) := by decide +kernel
theorem dX7_sends_75 : decode cX7_sends 75 = .ok (.iadd, 1) := by decide +kernel
theorem dX7_sends_76 : decode cX7_sends 76 = .ok (.iconst 0, 1) := by decide +kernel
theorem dX7_sends_77 : decode cX7_sends 77 = .ok (.iastore, 1) := by decide +kernel
theorem dX7_sends_78 : decode cX7_sends 78 = .ok (.aload_n 0, 1) := by decide +kernel
theorem dX7_sends_79 : decode cX7_sends 79 = .ok (.aload_n 0, 1) := by decide +kernel
theorem dX7_sends_80 : decode cX7_sends 80 = .ok (.getfield 25, 3) := by decide +kernel
theorem dX7_sends_83 : decode cX7_sends 83 = .ok (.invokevirtual 135, 3) := by decide +kernel
theorem dX7_sends_86 : decode cX7_sends 86 = .ok (.invokestatic 151, 3) := by decide +kernel
theorem dX7_sends_89 : decode cX7_sends 89 = .ok (.ireturn, 1) := by decide +kernel
theorem dX7_calls_0 : decode cX7_calls 0 = .ok (.aload_n 0, 1) := by decide +kernel
theorem dX7_calls_1 : decode cX7_calls 1 = .ok (.iconst 0, 1) := by decide +kernel
theorem dX7_calls_2 : decode cX7_calls 2 = .ok (.putfield 56, 3) := by decide +kernel
theorem dX7_calls_5 : decode cX7_calls 5 = .ok (.aload_n 0, 1) := by decide +kernel
theorem dX7_calls_6 : decode cX7_calls 6 = .ok (.iload_n 1, 1) := by decide +kernel
theorem dX7_calls_7 : decode cX7_calls 7 = .ok (.invokevirtual 120, 3) := by decide +kernel
theorem dX7_calls_10 : decode cX7_calls 10 = .ok (.ifCond .ne 5, 3) := by decide +kernel
theorem dX7_calls_13 : decode cX7_calls 13 = .ok (.iconst (-1), 1) := by decide +kernel
theorem dX7_calls_14 : decode cX7_calls 14 = .ok (.ireturn, 1) := by decide +kernel
theorem dX7_calls_15 : decode cX7_calls 15 = .ok (.aload_n 0, 1) := by decide +kernel
theorem dX7_calls_16 : decode cX7_calls 16 = .ok (.aload_n 0, 1) := by decide +kernel
theorem dX7_calls_17 : decode cX7_calls 17 = .ok (.getfield 25, 3) := by decide +kernel
theorem dX7_calls_20 : decode cX7_calls 20 = .ok (.iload_n 1, 1) := by decide +kernel
theorem dX7_calls_21 : decode cX7_calls 21 = .ok (.invokevirtual 124, 3) := by decide +kernel
theorem dX7_calls_24 : decode cX7_calls 24 = .ok (.istore_n 2, 1) := by decide +kernel
theorem dX7_calls_25 : decode cX7_calls 25 = .ok (.iload_n 2, 1) := by decide +kernel
theorem dX7_calls_26 : decode cX7_calls 26 = .ok (.bipush (-9), 2) := by decide +kernel
theorem dX7_calls_28 : decode cX7_calls 28 = .ok (.if_icmp .ne 6, 3) := by decide +kernel
theorem dX7_calls_31 : decode cX7_calls 31 = .ok (.bipush (-2), 2) := by decide +kernel
theorem dX7_calls_33 : decode cX7_calls 33 = .ok (.ireturn, 1) := by decide +kernel
theorem dX7_calls_34 : decode cX7_calls 34 = .ok (.aload_n 0, 1) := by decide +kernel
theorem dX7_calls_35 : decode cX7_calls 35 = .ok (.invokevirtual 148, 3) := by decide +kernel
theorem dX7_calls_38 : decode cX7_calls 38 = .ok (.aload_n 0, 1) := by decide +kernel
theorem dX7_calls_39 : decode cX7_calls 39 = .ok (.getfield 25, 3) := by decide +kernel
theorem dX7_calls_42 : decode cX7_calls 42 = .ok (.bipush 7, 2) := by decide +kernel
theorem dX7_calls_44 : decode cX7_calls 44 = .ok (.iload_n 2, 1) := by decide +kernel
theorem dX7_calls_45 : decode cX7_calls 45 = .ok (.iadd, 1) := by decide +kernel
theorem dX7_calls_46 : decode cX7_calls 46 = .ok (.iconst 0, 1) := by decide +kernel
theorem dX7_calls_47 : decode cX7_calls 47 = .ok (.iastore, 1) := by decide +kernel
theorem dX7_calls_48 : decode cX7_calls 48 = .ok (.aload_n 0, 1) := by decide +kernel
theorem dX7_calls_49 : decode cX7_calls 49 = .ok (.getfield 25, 3) := by decide +kernel
theorem dX7_calls_52 : decode cX7_calls 52 = .ok (.bipush 13, 2) := by decide +kernel
theorem dX7_calls_54 : decode cX7_calls 54 = .ok (.iload_n 1, 1) := by decide +kernel
theorem dX7_calls_55 : decode cX7_calls 55 = .ok (.iadd, 1) := by decide +kernel
theorem dX7_calls_56 : decode cX7_calls 56 = .ok (.iconst 0, 1) := by decide +kernel
theorem dX7_calls_57 : decode cX7_calls 57 = .ok (.iastore, 1) := by decide +kernel
theorem dX7_calls_58 : decode cX7_calls 58 = .ok (.iload_n 2, 1) := by decide +kernel
theorem dX7_calls_59 : decode cX7_calls 59 = .ok (.ireturn, 1) := by decide +kernel
theorem dX7_goes_0 : decode cX7_goes 0 = .ok (.aload_n 1, 1) := by decide +kernel
theorem dX7_goes_1 : decode cX7_goes 1 = .ok (.iconst 0, 1) := by decide +kernel
theorem dX7_goes_2 : decode cX7_goes 2 = .ok (.iaload, 1) := by decide +kernel
theorem dX7_goes_3 : decode cX7_goes 3 = .ok (.bipush 12, 2) := by decide +kernel
theorem dX7_goes_5 : decode cX7_goes 5 = .ok (.irem, 1) := by decide +kernel
theorem dX7_goes_6 : decode cX7_goes 6 = .ok (.istore_n 2, 1) := by decide +kernel
theorem dX7_goes_7 : decode cX7_goes 7 = .ok (.iconst 0, 1) := by decide +kernel
theorem dX7_goes_8 : decode cX7_goes 8 = .ok (.istore_n 3, 1) := by decide +kernel
theorem dX7_goes_9 : decode cX7_goes 9 = .ok (.iload_n 3, 1) := by decide +kernel
theorem dX7_goes_10 : decode cX7_goes 10 = .ok (.aload_n 0, 1) := by decide +kernel
theorem dX7_goes_11 : decode cX7_goes 11 = .ok (.getfield 13, 3) := by decide +kernel
theorem dX7_goes_14 : decode cX7_goes 14 = .ok (.iconst 1, 1) := by decide +kernel
theorem dX7_goes_15 : decode cX7_goes 15 = .ok (.iaload, 1) := by decide +kernel
theorem dX7_goes_16 : decode cX7_goes 16 = .ok (.if_icmp .ge 126, 3) := by decide +kernel
theorem dX7_goes_19 : decode cX7_goes 19 = .ok (.aload_n 1, 1) := by decide +kernel
theorem dX7_goes_20 : decode cX7_goes 20 = .ok (.bipush 7, 2) := by decide +kernel
theorem dX7_goes_22 : decode cX7_goes 22 = .ok (.iload_n 3, 1) := by decide +kernel
theorem dX7_goes_23 : decode cX7_goes 23 = .ok (.iadd, 1) := by decide +kernel
theorem dX7_goes_24 : decode cX7_goes 24 = .ok (.iaload, 1) := by decide +kernel
theorem dX7_goes_25 : decode cX7_goes 25 = .ok (.iconst 1, 1) := by decide +kernel
theorem dX7_goes_26 : decode cX7_goes 26 = .ok (.isub, 1) := by decide +kernel
theorem dX7_goes_27 : decode cX7_goes 27 = .ok (.istore 4, 2) := by decide +kernel
theorem dX7_goes_29 : decode cX7_goes 29 = .ok (.aload_n 1, 1) := by decide +kernel
theorem dX7_goes_30 : decode cX7_goes 30 = .ok (.iconst 1, 1) := by decide +kernel
theorem dX7_goes_31 : decode cX7_goes 31 = .ok (.iload_n 3, 1) := by decide +kernel
theorem dX7_goes_32 : decode cX7_goes 32 = .ok (.iadd, 1) := by decide +kernel
theorem dX7_goes_33 : decode cX7_goes 33 = .ok (.iaload, 1) := by decide +kernel
theorem dX7_goes_34 : decode cX7_goes 34 = .ok (.aload_n 0, 1) := by decide +kernel
theorem dX7_goes_35 : decode cX7_goes 35 = .ok (.getfield 13, 3) := by decide +kernel
theorem dX7_goes_38 : decode cX7_goes 38 = .ok (.iconst 3, 1) := by decide +kernel
theorem dX7_goes_39 : decode cX7_goes 39 = .ok (.iaload, 1) := by decide +kernel
theorem dX7_goes_40 : decode cX7_goes 40 = .ok (.isub, 1) := by decide +kernel
theorem dX7_goes_41 : decode cX7_goes 41 = .ok (.istore 5, 2) := by decide +kernel
theorem dX7_goes_43 : decode cX7_goes 43 = .ok (.iload 4, 2) := by decide +kernel
theorem dX7_goes_45 : decode cX7_goes 45 = .ok (.ifCond .lt 63, 3) := by decide +kernel
theorem dX7_goes_48 : decode cX7_goes 48 = .ok (.aload_n 1, 1) := by decide +kernel
theorem dX7_goes_49 : decode cX7_goes 49 = .ok (.iconst 1, 1) := by decide +kernel
theorem dX7_goes_50 : decode cX7_goes 50 = .ok (.iload_n 3, 1) := by decide +kernel
theorem dX7_goes_51 : decode cX7_goes 51 = .ok (.iadd, 1) := by decide +kernel
theorem dX7_goes_52 : decode cX7_goes 52 = .ok (.iaload, 1) := by decide +kernel
theorem dX7_goes_53 : decode cX7_goes 53 = .ok (.iconst 4, 1) := by decide +kernel
theorem dX7_goes_54 : decode cX7_goes 54 = .ok (.iadd, 1) := by decide +kernel
theorem dX7_goes_55 : decode cX7_goes 55 = .ok (.iload_n 2, 1) := by decide +kernel
theorem dX7_goes_56 : decode cX7_goes 56 = .ok (.iconst 2, 1) := by decide +kernel
theorem dX7_goes_57 : decode cX7_goes 57 = .ok (.iconst 4, 1) := by decide +kernel
theorem dX7_goes_58 : decode cX7_goes 58 = .ok (.invokestatic 60, 3) := by decide +kernel
theorem dX7_goes_61 : decode cX7_goes 61 = .ok (.ifCond .eq 7, 3) := by decide +kernel
theorem dX7_goes_64 : decode cX7_goes 64 = .ok (.iconst 2, 1) := by decide +kernel
theorem dX7_goes_65 : decode cX7_goes 65 = .ok (.goto 4, 3) := by decide +kernel
theorem dX7_goes_68 : decode cX7_goes 68 = .ok (.iconst 0, 1) := by decide +kernel
theorem dX7_goes_69 : decode cX7_goes 69 = .ok (.iadd, 1) := by decide +kernel
theorem dX7_goes_70 : decode cX7_goes 70 = .ok (.aload_n 0, 1) := by decide +kernel
theorem dX7_goes_71 : decode cX7_goes 71 = .ok (.getfield 19, 3) := by decide +kernel
theorem dX7_goes_74 : decode cX7_goes 74 = .ok (.iload 4, 2) := by decide +kernel
theorem dX7_goes_76 : decode cX7_goes 76 = .ok (.iaload, 1) := by decide +kernel
theorem dX7_goes_77 : decode cX7_goes 77 = .ok (.iconst 3, 1) := by decide +kernel
theorem dX7_goes_78 : decode cX7_goes 78 = .ok (.idiv, 1) := by decide +kernel
theorem dX7_goes_79 : decode cX7_goes 79 = .ok (.iadd, 1) := by decide +kernel
theorem dX7_goes_80 : decode cX7_goes 80 = .ok (.istore 5, 2) := by decide +kernel
theorem dX7_goes_82 : decode cX7_goes 82 = .ok (.aload_n 1, 1) := by decide +kernel
theorem dX7_goes_83 : decode cX7_goes 83 = .ok (.bipush 13, 2) := by decide +kernel
theorem dX7_goes_85 : decode cX7_goes 85 = .ok (.iload 4, 2) := by decide +kernel
theorem dX7_goes_87 : decode cX7_goes 87 = .ok (.iadd, 1) := by decide +kernel
theorem dX7_goes_88 : decode cX7_goes 88 = .ok (.dup2, 1) := by decide +kernel
theorem dX7_goes_89 : decode cX7_goes 89 = .ok (.iaload, 1) := by decide +kernel
theorem dX7_goes_90 : decode cX7_goes 90 = .ok (.iconst 1, 1) := by decide +kernel
theorem dX7_goes_91 : decode cX7_goes 91 = .ok (.iadd, 1) := by decide +kernel
theorem dX7_goes_92 : decode cX7_goes 92 = .ok (.iastore, 1) := by decide +kernel
theorem dX7_goes_93 : decode cX7_goes 93 = .ok (.aload_n 1, 1) := by decide +kernel
theorem dX7_goes_94 : decode cX7_goes 94 = .ok (.bipush 18, 2) := by decide +kernel
theorem dX7_goes_96 : decode cX7_goes 96 = .ok (.iconst 5, 1) := by decide +kernel
theorem dX7_goes_97 : decode cX7_goes 97 = .ok (.iload_n 3, 1) := by decide +kernel
theorem dX7_goes_98 : decode cX7_goes 98 = .ok (.imul, 1) := by decide +kernel
theorem dX7_goes_99 : decode cX7_goes 99 = .ok (.iadd, 1) := by decide +kernel
theorem dX7_goes_100 : decode cX7_goes 100 = .ok (.iload 4, 2) := by decide +kernel
theorem dX7_goes_102 : decode cX7_goes 102 = .ok (.iadd, 1) := by decide +kernel
theorem dX7_goes_103 : decode cX7_goes 103 = .ok (.dup2, 1) := by decide +kernel
theorem dX7_goes_104 : decode cX7_goes 104 = .ok (.iaload, 1) := by decide +kernel
theorem dX7_goes_105 : decode cX7_goes 105 = .ok (.iconst 1, 1) := by decide +kernel
theorem dX7_goes_106 : decode cX7_goes 106 = .ok (.iadd, 1) := by decide +kernel
theorem dX7_goes_107 : decode cX7_goes 107 = .ok (.iastore, 1) := by decide +kernel
theorem dX7_goes_108 : decode cX7_goes 108 = .ok (.aload_n 1, 1) := by decide +kernel
theorem dX7_goes_109 : decode cX7_goes 109 = .ok (.iconst 1, 1) := by decide +kernel
theorem dX7_goes_110 : decode cX7_goes 110 = .ok (.iload_n 3, 1) := by decide +kernel
theorem dX7_goes_111 : decode cX7_goes 111 = .ok (.iadd, 1) := by decide +kernel
theorem dX7_goes_112 : decode cX7_goes 112 = .ok (.iload 5, 2) := by decide +kernel
theorem dX7_goes_114 : decode cX7_goes 114 = .ok (.ifCond .ge 7, 3) := by decide +kernel
theorem dX7_goes_117 : decode cX7_goes 117 = .ok (.iconst 0, 1) := by decide +kernel
theorem dX7_goes_118 : decode cX7_goes 118 = .ok (.goto 17, 3) := by decide +kernel
theorem dX7_goes_121 : decode cX7_goes 121 = .ok (.iload 5, 2) := by decide +kernel
theorem dX7_goes_123 : decode cX7_goes 123 = .ok (.bipush 60, 2) := by decide +kernel
theorem dX7_goes_125 : decode cX7_goes 125 = .ok (.if_icmp .le 8, 3) := by decide +kernel
theorem dX7_goes_128 : decode cX7_goes 128 = .ok (.bipush 60, 2) := by decide +kernel
theorem dX7_goes_130 : decode cX7_goes 130 = .ok (.goto 5, 3) := by decide +kernel
theorem dX7_goes_133 : decode cX7_goes 133 = .ok (.iload 5, 2) := by decide +kernel
theorem dX7_goes_135 : decode cX7_goes 135 = .ok (.iastore, 1) := by decide +kernel
theorem dX7_goes_136 : decode cX7_goes 136 = .ok (.iinc 3 1, 3) := by decide +kernel
theorem dX7_goes_139 : decode cX7_goes 139 = .ok (.goto (-130), 3) := by decide +kernel
theorem dX7_goes_142 : decode cX7_goes 142 = .ok (.aload_n 1, 1) := by decide +kernel
theorem dX7_goes_143 : decode cX7_goes 143 = .ok (.iconst 0, 1) := by decide +kernel
theorem dX7_goes_144 : decode cX7_goes 144 = .ok (.dup2, 1) := by decide +kernel
theorem dX7_goes_145 : decode cX7_goes 145 = .ok (.iaload, 1) := by decide +kernel
theorem dX7_goes_146 : decode cX7_goes 146 = .ok (.iconst 1, 1) := by decide +kernel
theorem dX7_goes_147 : decode cX7_goes 147 = .ok (.iadd, 1) := by decide +kernel
theorem dX7_goes_148 : decode cX7_goes 148 = .ok (.iastore, 1) := by decide +kernel
theorem dX7_goes_149 : decode cX7_goes 149 = .ok (.return_, 1) := by decide +kernel
theorem dX7_hour_0 : decode cX7_hour 0 = .ok (.aload_n 0, 1) := by decide +kernel
theorem dX7_hour_1 : decode cX7_hour 1 = .ok (.iconst 0, 1) := by decide +kernel
theorem dX7_hour_2 : decode cX7_hour 2 = .ok (.putfield 56, 3) := by decide +kernel
theorem dX7_hour_5 : decode cX7_hour 5 = .ok (.aload_n 0, 1) := by decide +kernel
theorem dX7_hour_6 : decode cX7_hour 6 = .ok (.getfield 25, 3) := by decide +kernel
theorem dX7_hour_9 : decode cX7_hour 9 = .ok (.iconst 0, 1) := by decide +kernel
theorem dX7_hour_10 : decode cX7_hour 10 = .ok (.iaload, 1) := by decide +kernel
theorem dX7_hour_11 : decode cX7_hour 11 = .ok (.sipush 200, 3) := by decide +kernel
theorem dX7_hour_14 : decode cX7_hour 14 = .ok (.if_icmp .ne 6, 3) := by decide +kernel
theorem dX7_hour_17 : decode cX7_hour 17 = .ok (.bipush (-2), 2) := by decide +kernel
theorem dX7_hour_19 : decode cX7_hour 19 = .ok (.ireturn, 1) := by decide +kernel
theorem dX7_hour_20 : decode cX7_hour 20 = .ok (.aload_n 0, 1) := by decide +kernel
theorem dX7_hour_21 : decode cX7_hour 21 = .ok (.invokevirtual 148, 3) := by decide +kernel
theorem dX7_hour_24 : decode cX7_hour 24 = .ok (.aload_n 0, 1) := by decide +kernel
theorem dX7_hour_25 : decode cX7_hour 25 = .ok (.aload_n 0, 1) := by decide +kernel
theorem dX7_hour_26 : decode cX7_hour 26 = .ok (.getfield 25, 3) := by decide +kernel
theorem dX7_hour_29 : decode cX7_hour 29 = .ok (.invokevirtual 154, 3) := by decide +kernel
theorem dX7_hour_32 : decode cX7_hour 32 = .ok (.aload_n 0, 1) := by decide +kernel
theorem dX7_hour_33 : decode cX7_hour 33 = .ok (.aload_n 0, 1) := by decide +kernel
theorem dX7_hour_34 : decode cX7_hour 34 = .ok (.getfield 25, 3) := by decide +kernel
theorem dX7_hour_37 : decode cX7_hour 37 = .ok (.invokevirtual 139, 3) := by decide +kernel
theorem dX7_hour_40 : decode cX7_hour 40 = .ok (.ireturn, 1) := by decide +kernel
theorem dX7_nextMan_0 : decode cX7_nextMan 0 = .ok (.bipush (-9), 2) := by decide +kernel
theorem dX7_nextMan_2 : decode cX7_nextMan 2 = .ok (.istore_n 3, 1) := by decide +kernel
theorem dX7_nextMan_3 : decode cX7_nextMan 3 = .ok (.iconst 0, 1) := by decide +kernel
theorem dX7_nextMan_4 : decode cX7_nextMan 4 = .ok (.istore 4, 2) := by decide +kernel
theorem dX7_nextMan_6 : decode cX7_nextMan 6 = .ok (.iload 4, 2) := by decide +kernel
theorem dX7_nextMan_8 : decode cX7_nextMan 8 = .ok (.aload_n 0, 1) := by decide +kernel
theorem dX7_nextMan_9 : decode cX7_nextMan 9 = .ok (.getfield 13, 3) := by decide +kernel
theorem dX7_nextMan_12 : decode cX7_nextMan 12 = .ok (.iconst 1, 1) := by decide +kernel
theorem dX7_nextMan_13 : decode cX7_nextMan 13 = .ok (.iaload, 1) := by decide +kernel
theorem dX7_nextMan_14 : decode cX7_nextMan 14 = .ok (.if_icmp .ge 67, 3) := by decide +kernel
theorem dX7_nextMan_17 : decode cX7_nextMan 17 = .ok (.aload_n 1, 1) := by decide +kernel
theorem dX7_nextMan_18 : decode cX7_nextMan 18 = .ok (.bipush 7, 2) := by decide +kernel
theorem dX7_nextMan_20 : decode cX7_nextMan 20 = .ok (.iload 4, 2) := by decide +kernel
theorem dX7_nextMan_22 : decode cX7_nextMan 22 = .ok (.iadd, 1) := by decide +kernel
theorem dX7_nextMan_23 : decode cX7_nextMan 23 = .ok (.iaload, 1) := by decide +kernel
theorem dX7_nextMan_24 : decode cX7_nextMan 24 = .ok (.ifCond .ne 16, 3) := by decide +kernel
theorem dX7_nextMan_27 : decode cX7_nextMan 27 = .ok (.iload_n 2, 1) := by decide +kernel
theorem dX7_nextMan_28 : decode cX7_nextMan 28 = .ok (.iload 4, 2) := by decide +kernel
theorem dX7_nextMan_30 : decode cX7_nextMan 30 = .ok (.ishr, 1) := by decide +kernel
theorem dX7_nextMan_31 : decode cX7_nextMan 31 = .ok (.iconst 1, 1) := by decide +kernel
theorem dX7_nextMan_32 : decode cX7_nextMan 32 = .ok (.iand, 1) := by decide +kernel
theorem dX7_nextMan_33 : decode cX7_nextMan 33 = .ok (.ifCond .ne 7, 3) := by decide +kernel
theorem dX7_nextMan_36 : decode cX7_nextMan 36 = .ok (.iconst 1, 1) := by decide +kernel
theorem dX7_nextMan_37 : decode cX7_nextMan 37 = .ok (.goto 4, 3) := by decide +kernel
theorem dX7_nextMan_40 : decode cX7_nextMan 40 = .ok (.iconst 0, 1) := by decide +kernel
theorem dX7_nextMan_41 : decode cX7_nextMan 41 = .ok (.istore 5, 2) := by decide +kernel
theorem dX7_nextMan_43 : decode cX7_nextMan 43 = .ok (.iload 5, 2) := by decide +kernel
theorem dX7_nextMan_45 : decode cX7_nextMan 45 = .ok (.ifCond .eq 28, 3) := by decide +kernel
theorem dX7_nextMan_48 : decode cX7_nextMan 48 = .ok (.iload_n 3, 1) := by decide +kernel
theorem dX7_nextMan_49 : decode cX7_nextMan 49 = .ok (.bipush (-9), 2) := by decide +kernel
theorem dX7_nextMan_51 : decode cX7_nextMan 51 = .ok (.if_icmp .eq 17, 3) := by decide +kernel
theorem dX7_nextMan_54 : decode cX7_nextMan 54 = .ok (.aload_n 1, 1) := by decide +kernel
theorem dX7_nextMan_55 : decode cX7_nextMan 55 = .ok (.iconst 1, 1) := by decide +kernel
theorem dX7_nextMan_56 : decode cX7_nextMan 56 = .ok (.iload 4, 2) := by decide +kernel
theorem dX7_nextMan_58 : decode cX7_nextMan 58 = .ok (.iadd, 1) := by decide +kernel
theorem dX7_nextMan_59 : decode cX7_nextMan 59 = .ok (.iaload, 1) := by decide +kernel
theorem dX7_nextMan_60 : decode cX7_nextMan 60 = .ok (.aload_n 1, 1) := by decide +kernel
theorem dX7_nextMan_61 : decode cX7_nextMan 61 = .ok (.iconst 1, 1) := by decide +kernel
theorem dX7_nextMan_62 : decode cX7_nextMan 62 = .ok (.iload_n 3, 1) := by decide +kernel
theorem dX7_nextMan_63 : decode cX7_nextMan 63 = .ok (.iadd, 1) := by decide +kernel
theorem dX7_nextMan_64 : decode cX7_nextMan 64 = .ok (.iaload, 1) := by decide +kernel
theorem dX7_nextMan_65 : decode cX7_nextMan 65 = .ok (.if_icmp .ge 8, 3) := by decide +kernel
theorem dX7_nextMan_68 : decode cX7_nextMan 68 = .ok (.iload 4, 2) := by decide +kernel
theorem dX7_nextMan_70 : decode cX7_nextMan 70 = .ok (.goto 4, 3) := by decide +kernel
theorem dX7_nextMan_73 : decode cX7_nextMan 73 = .ok (.iload_n 3, 1) := by decide +kernel
theorem dX7_nextMan_74 : decode cX7_nextMan 74 = .ok (.istore_n 3, 1) := by decide +kernel
theorem dX7_nextMan_75 : decode cX7_nextMan 75 = .ok (.iinc 4 1, 3) := by decide +kernel
theorem dX7_nextMan_78 : decode cX7_nextMan 78 = .ok (.goto (-72), 3) := by decide +kernel
theorem dX7_nextMan_81 : decode cX7_nextMan 81 = .ok (.iload_n 3, 1) := by decide +kernel
theorem dX7_nextMan_82 : decode cX7_nextMan 82 = .ok (.ireturn, 1) := by decide +kernel
theorem dX7_relieved_0 : decode cX7_relieved 0 = .ok (.iconst 0, 1) := by decide +kernel
theorem dX7_relieved_1 : decode cX7_relieved 1 = .ok (.istore 4, 2) := by decide +kernel
theorem dX7_relieved_3 : decode cX7_relieved 3 = .ok (.iconst 0, 1) := by decide +kernel
theorem dX7_relieved_4 : decode cX7_relieved 4 = .ok (.istore 5, 2) := by decide +kernel
theorem dX7_relieved_6 : decode cX7_relieved 6 = .ok (.iconst 0, 1) := by decide +kernel
theorem dX7_relieved_7 : decode cX7_relieved 7 = .ok (.istore 6, 2) := by decide +kernel
theorem dX7_relieved_9 : decode cX7_relieved 9 = .ok (.iload 6, 2) := by decide +kernel
theorem dX7_relieved_11 : decode cX7_relieved 11 = .ok (.aload_n 0, 1) := by decide +kernel
theorem dX7_relieved_12 : decode cX7_relieved 12 = .ok (.getfield 13, 3) := by decide +kernel
theorem dX7_relieved_15 : decode cX7_relieved 15 = .ok (.iconst 0, 1) := by decide +kernel
theorem dX7_relieved_16 : decode cX7_relieved 16 = .ok (.iaload, 1) := by decide +kernel
theorem dX7_relieved_17 : decode cX7_relieved 17 = .ok (.if_icmp .ge 126, 3) := by decide +kernel
theorem dX7_relieved_20 : decode cX7_relieved 20 = .ok (.iload_n 2, 1) := by decide +kernel
theorem dX7_relieved_21 : decode cX7_relieved 21 = .ok (.iload_n 3, 1) := by decide +kernel
theorem dX7_relieved_22 : decode cX7_relieved 22 = .ok (.iconst 1, 1) := by decide +kernel
theorem dX7_relieved_23 : decode cX7_relieved 23 = .ok (.if_icmp .ne 8, 3) := by decide +kernel
theorem dX7_relieved_26 : decode cX7_relieved 26 = .ok (.iload 6, 2) := by decide +kernel
theorem dX7_relieved_28 : decode cX7_relieved 28 = .ok (.goto 12, 3) := by decide +kernel
theorem dX7_relieved_31 : decode cX7_relieved 31 = .ok (.aload_n 0, 1) := by decide +kernel
theorem dX7_relieved_32 : decode cX7_relieved 32 = .ok (.getfield 13, 3) := by decide +kernel
theorem dX7_relieved_35 : decode cX7_relieved 35 = .ok (.iconst 0, 1) := by decide +kernel
theorem dX7_relieved_36 : decode cX7_relieved 36 = .ok (.iaload, 1) := by decide +kernel
theorem dX7_relieved_37 : decode cX7_relieved 37 = .ok (.iload 6, 2) := by decide +kernel
theorem dX7_relieved_39 : decode cX7_relieved 39 = .ok (.isub, 1) := by decide +kernel
theorem dX7_relieved_40 : decode cX7_relieved 40 = .ok (.iadd, 1) := by decide +kernel
theorem dX7_relieved_41 : decode cX7_relieved 41 = .ok (.aload_n 0, 1) := by decide +kernel
theorem dX7_relieved_42 : decode cX7_relieved 42 = .ok (.getfield 13, 3) := by decide +kernel
theorem dX7_relieved_45 : decode cX7_relieved 45 = .ok (.iconst 0, 1) := by decide +kernel
theorem dX7_relieved_46 : decode cX7_relieved 46 = .ok (.iaload, 1) := by decide +kernel
theorem dX7_relieved_47 : decode cX7_relieved 47 = .ok (.irem, 1) := by decide +kernel
theorem dX7_relieved_48 : decode cX7_relieved 48 = .ok (.istore 7, 2) := by decide +kernel
theorem dX7_relieved_50 : decode cX7_relieved 50 = .ok (.aload_n 0, 1) := by decide +kernel
theorem dX7_relieved_51 : decode cX7_relieved 51 = .ok (.aload_n 1, 1) := by decide +kernel
theorem dX7_relieved_52 : decode cX7_relieved 52 = .ok (.iload 7, 2) := by decide +kernel
theorem dX7_relieved_54 : decode cX7_relieved 54 = .ok (.invokevirtual 124, 3) := by decide +kernel
theorem dX7_relieved_57 : decode cX7_relieved 57 = .ok (.istore 8, 2) := by decide +kernel
theorem dX7_relieved_59 : decode cX7_relieved 59 = .ok (.aload_n 0, 1) := by decide +kernel
theorem dX7_relieved_60 : decode cX7_relieved 60 = .ok (.aload_n 1, 1) := by decide +kernel
theorem dX7_relieved_61 : decode cX7_relieved 61 = .ok (.iload 5, 2) := by decide +kernel
theorem dX7_relieved_63 : decode cX7_relieved 63 = .ok (.invokevirtual 158, 3) := by decide +kernel
theorem dX7_relieved_66 : decode cX7_relieved 66 = .ok (.istore 9, 2) := by decide +kernel
theorem dX7_relieved_68 : decode cX7_relieved 68 = .ok (.iload 8, 2) := by decide +kernel
theorem dX7_relieved_70 : decode cX7_relieved 70 = .ok (.bipush (-9), 2) := by decide +kernel
theorem dX7_relieved_72 : decode cX7_relieved 72 = .ok (.if_icmp .eq 65, 3) := by decide +kernel
theorem dX7_relieved_75 : decode cX7_relieved 75 = .ok (.aload_n 1, 1) := by decide +kernel
theorem dX7_relieved_76 : decode cX7_relieved 76 = .ok (.bipush 13, 2) := by decide +kernel
theorem dX7_relieved_78 : decode cX7_relieved 78 = .ok (.iload 7, 2) := by decide +kernel
theorem dX7_relieved_80 : decode cX7_relieved 80 = .ok (.iadd, 1) := by decide +kernel
theorem dX7_relieved_81 : decode cX7_relieved 81 = .ok (.iaload, 1) := by decide +kernel
theorem dX7_relieved_82 : decode cX7_relieved 82 = .ok (.aload_n 0, 1) := by decide +kernel
theorem dX7_relieved_83 : decode cX7_relieved 83 = .ok (.getfield 13, 3) := by decide +kernel
theorem dX7_relieved_86 : decode cX7_relieved 86 = .ok (.iconst 2, 1) := by decide +kernel
theorem dX7_relieved_87 : decode cX7_relieved 87 = .ok (.iaload, 1) := by decide +kernel
theorem dX7_relieved_88 : decode cX7_relieved 88 = .ok (.if_icmp .lt 49, 3) := by decide +kernel
theorem dX7_relieved_91 : decode cX7_relieved 91 = .ok (.iload 9, 2) := by decide +kernel
theorem dX7_relieved_93 : decode cX7_relieved 93 = .ok (.bipush (-9), 2) := by decide +kernel
theorem dX7_relieved_95 : decode cX7_relieved 95 = .ok (.if_icmp .eq 42, 3) := by decide +kernel
theorem dX7_relieved_98 : decode cX7_relieved 98 = .ok (.aload_n 1, 1) := by decide +kernel
theorem dX7_relieved_99 : decode cX7_relieved 99 = .ok (.bipush 7, 2) := by decide +kernel
theorem dX7_relieved_101 : decode cX7_relieved 101 = .ok (.iload 8, 2) := by decide +kernel
theorem dX7_relieved_103 : decode cX7_relieved 103 = .ok (.iadd, 1) := by decide +kernel
theorem dX7_relieved_104 : decode cX7_relieved 104 = .ok (.iconst 0, 1) := by decide +kernel
theorem dX7_relieved_105 : decode cX7_relieved 105 = .ok (.iastore, 1) := by decide +kernel
theorem dX7_relieved_106 : decode cX7_relieved 106 = .ok (.iload 5, 2) := by decide +kernel
theorem dX7_relieved_108 : decode cX7_relieved 108 = .ok (.iconst 1, 1) := by decide +kernel
theorem dX7_relieved_109 : decode cX7_relieved 109 = .ok (.iload 8, 2) := by decide +kernel
theorem dX7_relieved_111 : decode cX7_relieved 111 = .ok (.ishl, 1) := by decide +kernel
theorem dX7_relieved_112 : decode cX7_relieved 112 = .ok (.ior, 1) := by decide +kernel
theorem dX7_relieved_113 : decode cX7_relieved 113 = .ok (.istore 5, 2) := by decide +kernel
theorem dX7_relieved_115 : decode cX7_relieved 115 = .ok (.aload_n 1, 1) := by decide +kernel
theorem dX7_relieved_116 : decode cX7_relieved 116 = .ok (.bipush 7, 2) := by decide +kernel
theorem dX7_relieved_118 : decode cX7_relieved 118 = .ok (.iload 9, 2) := by decide +kernel
theorem dX7_relieved_120 : decode cX7_relieved 120 = .ok (.iadd, 1) := by decide +kernel
theorem dX7_relieved_121 : decode cX7_relieved 121 = .ok (.iload 7, 2) := by decide +kernel
theorem dX7_relieved_123 : decode cX7_relieved 123 = .ok (.iconst 1, 1) := by decide +kernel
theorem dX7_relieved_124 : decode cX7_relieved 124 = .ok (.iadd, 1) := by decide +kernel
theorem dX7_relieved_125 : decode cX7_relieved 125 = .ok (.iastore, 1) := by decide +kernel
theorem dX7_relieved_126 : decode cX7_relieved 126 = .ok (.aload_n 1, 1) := by decide +kernel
theorem dX7_relieved_127 : decode cX7_relieved 127 = .ok (.bipush 13, 2) := by decide +kernel
theorem dX7_relieved_129 : decode cX7_relieved 129 = .ok (.iload 7, 2) := by decide +kernel
theorem dX7_relieved_131 : decode cX7_relieved 131 = .ok (.iadd, 1) := by decide +kernel
theorem dX7_relieved_132 : decode cX7_relieved 132 = .ok (.iconst 0, 1) := by decide +kernel
theorem dX7_relieved_133 : decode cX7_relieved 133 = .ok (.iastore, 1) := by decide +kernel
theorem dX7_relieved_134 : decode cX7_relieved 134 = .ok (.iinc 4 1, 3) := by decide +kernel
theorem dX7_relieved_137 : decode cX7_relieved 137 = .ok (.iinc 6 1, 3) := by decide +kernel
theorem dX7_relieved_140 : decode cX7_relieved 140 = .ok (.goto (-131), 3) := by decide +kernel
theorem dX7_relieved_143 : decode cX7_relieved 143 = .ok (.iload 4, 2) := by decide +kernel
theorem dX7_relieved_145 : decode cX7_relieved 145 = .ok (.ireturn, 1) := by decide +kernel
theorem dX7_relieves_0 : decode cX7_relieves 0 = .ok (.aload_n 0, 1) := by decide +kernel
theorem dX7_relieves_1 : decode cX7_relieves 1 = .ok (.iconst 0, 1) := by decide +kernel
theorem dX7_relieves_2 : decode cX7_relieves 2 = .ok (.putfield 56, 3) := by decide +kernel
theorem dX7_relieves_5 : decode cX7_relieves 5 = .ok (.aload_n 0, 1) := by decide +kernel
theorem dX7_relieves_6 : decode cX7_relieves 6 = .ok (.iload_n 1, 1) := by decide +kernel
theorem dX7_relieves_7 : decode cX7_relieves 7 = .ok (.invokevirtual 120, 3) := by decide +kernel
theorem dX7_relieves_10 : decode cX7_relieves 10 = .ok (.ifCond .eq 12, 3) := by decide +kernel
theorem dX7_relieves_13 : decode cX7_relieves 13 = .ok (.iload_n 2, 1) := by decide +kernel
theorem dX7_relieves_14 : decode cX7_relieves 14 = .ok (.iconst 0, 1) := by decide +kernel
theorem dX7_relieves_15 : decode cX7_relieves 15 = .ok (.iconst 1, 1) := by decide +kernel
theorem dX7_relieves_16 : decode cX7_relieves 16 = .ok (.invokestatic 60, 3) := by decide +kernel
theorem dX7_relieves_19 : decode cX7_relieves 19 = .ok (.ifCond .ne 5, 3) := by decide +kernel
theorem dX7_relieves_22 : decode cX7_relieves 22 = .ok (.iconst (-1), 1) := by decide +kernel
theorem dX7_relieves_23 : decode cX7_relieves 23 = .ok (.ireturn, 1) := by decide +kernel
theorem dX7_relieves_24 : decode cX7_relieves 24 = .ok (.aload_n 0, 1) := by decide +kernel
theorem dX7_relieves_25 : decode cX7_relieves 25 = .ok (.invokevirtual 148, 3) := by decide +kernel
theorem dX7_relieves_28 : decode cX7_relieves 28 = .ok (.aload_n 0, 1) := by decide +kernel
theorem dX7_relieves_29 : decode cX7_relieves 29 = .ok (.aload_n 0, 1) := by decide +kernel
theorem dX7_relieves_30 : decode cX7_relieves 30 = .ok (.getfield 25, 3) := by decide +kernel
theorem dX7_relieves_33 : decode cX7_relieves 33 = .ok (.iload_n 1, 1) := by decide +kernel
theorem dX7_relieves_34 : decode cX7_relieves 34 = .ok (.iload_n 2, 1) := by decide +kernel
theorem dX7_relieves_35 : decode cX7_relieves 35 = .ok (.invokevirtual 161, 3) := by decide +kernel
theorem dX7_relieves_38 : decode cX7_relieves 38 = .ok (.ireturn, 1) := by decide +kernel
theorem dX7_undo_0 : decode cX7_undo 0 = .ok (.aload_n 0, 1) := by decide +kernel
theorem dX7_undo_1 : decode cX7_undo 1 = .ok (.iconst 0, 1) := by decide +kernel
theorem dX7_undo_2 : decode cX7_undo 2 = .ok (.putfield 56, 3) := by decide +kernel
theorem dX7_undo_5 : decode cX7_undo 5 = .ok (.aload_n 0, 1) := by decide +kernel
theorem dX7_undo_6 : decode cX7_undo 6 = .ok (.getfield 117, 3) := by decide +kernel
theorem dX7_undo_9 : decode cX7_undo 9 = .ok (.ifCond .ne 6, 3) := by decide +kernel
theorem dX7_undo_12 : decode cX7_undo 12 = .ok (.bipush (-2), 2) := by decide +kernel
theorem dX7_undo_14 : decode cX7_undo 14 = .ok (.ireturn, 1) := by decide +kernel
theorem dX7_undo_15 : decode cX7_undo 15 = .ok (.aload_n 0, 1) := by decide +kernel
theorem dX7_undo_16 : decode cX7_undo 16 = .ok (.dup, 1) := by decide +kernel
theorem dX7_undo_17 : decode cX7_undo 17 = .ok (.getfield 117, 3) := by decide +kernel
theorem dX7_undo_20 : decode cX7_undo 20 = .ok (.iconst 1, 1) := by decide +kernel
theorem dX7_undo_21 : decode cX7_undo 21 = .ok (.isub, 1) := by decide +kernel
theorem dX7_undo_22 : decode cX7_undo 22 = .ok (.putfield 117, 3) := by decide +kernel
theorem dX7_undo_25 : decode cX7_undo 25 = .ok (.iconst 0, 1) := by decide +kernel
theorem dX7_undo_26 : decode cX7_undo 26 = .ok (.istore_n 1, 1) := by decide +kernel
theorem dX7_undo_27 : decode cX7_undo 27 = .ok (.iload_n 1, 1) := by decide +kernel
theorem dX7_undo_28 : decode cX7_undo 28 = .ok (.bipush 48, 2) := by decide +kernel
theorem dX7_undo_30 : decode cX7_undo 30 = .ok (.if_icmp .ge 29, 3) := by decide +kernel
theorem dX7_undo_33 : decode cX7_undo 33 = .ok (.aload_n 0, 1) := by decide +kernel
theorem dX7_undo_34 : decode cX7_undo 34 = .ok (.getfield 25, 3) := by decide +kernel
theorem dX7_undo_37 : decode cX7_undo 37 = .ok (.iload_n 1, 1) := by decide +kernel
theorem dX7_undo_38 : decode cX7_undo 38 = .ok (.aload_n 0, 1) := by decide +kernel
theorem dX7_undo_39 : decode cX7_undo 39 = .ok (.getfield 38, 3) := by decide +kernel
theorem dX7_undo_42 : decode cX7_undo 42 = .ok (.bipush 48, 2) := by decide +kernel
theorem dX7_undo_44 : decode cX7_undo 44 = .ok (.aload_n 0, 1) := by decide +kernel
theorem dX7_undo_45 : decode cX7_undo 45 = .ok (.getfield 117, 3) := by decide +kernel
theorem dX7_undo_48 : decode cX7_undo 48 = .ok (.imul, 1) := by decide +kernel
theorem dX7_undo_49 : decode cX7_undo 49 = .ok (.iload_n 1, 1) := by decide +kernel
theorem dX7_undo_50 : decode cX7_undo 50 = .ok (.iadd, 1) := by decide +kernel
theorem dX7_undo_51 : decode cX7_undo 51 = .ok (.iaload, 1) := by decide +kernel
theorem dX7_undo_52 : decode cX7_undo 52 = .ok (.iastore, 1) := by decide +kernel
theorem dX7_undo_53 : decode cX7_undo 53 = .ok (.iinc 1 1, 3) := by decide +kernel
theorem dX7_undo_56 : decode cX7_undo 56 = .ok (.goto (-29), 3) := by decide +kernel
theorem dX7_undo_59 : decode cX7_undo 59 = .ok (.aload_n 0, 1) := by decide +kernel
theorem dX7_undo_60 : decode cX7_undo 60 = .ok (.getfield 117, 3) := by decide +kernel
theorem dX7_undo_63 : decode cX7_undo 63 = .ok (.ireturn, 1) := by decide +kernel
theorem dX7_asNow_0 : decode cX7_asNow 0 = .ok (.iconst 0, 1) := by decide +kernel
theorem dX7_asNow_1 : decode cX7_asNow 1 = .ok (.istore_n 1, 1) := by decide +kernel
theorem dX7_asNow_2 : decode cX7_asNow 2 = .ok (.iload_n 1, 1) := by decide +kernel
theorem dX7_asNow_3 : decode cX7_asNow 3 = .ok (.bipush 48, 2) := by decide +kernel
theorem dX7_asNow_5 : decode cX7_asNow 5 = .ok (.if_icmp .ge 21, 3) := by decide +kernel
theorem dX7_asNow_8 : decode cX7_asNow 8 = .ok (.aload_n 0, 1) := by decide +kernel
theorem dX7_asNow_9 : decode cX7_asNow 9 = .ok (.getfield 28, 3) := by decide +kernel
theorem dX7_asNow_12 : decode cX7_asNow 12 = .ok (.iload_n 1, 1) := by decide +kernel
theorem dX7_asNow_13 : decode cX7_asNow 13 = .ok (.aload_n 0, 1) := by decide +kernel
theorem dX7_asNow_14 : decode cX7_asNow 14 = .ok (.getfield 25, 3) := by decide +kernel
theorem dX7_asNow_17 : decode cX7_asNow 17 = .ok (.iload_n 1, 1) := by decide +kernel
theorem dX7_asNow_18 : decode cX7_asNow 18 = .ok (.iaload, 1) := by decide +kernel
theorem dX7_asNow_19 : decode cX7_asNow 19 = .ok (.iastore, 1) := by decide +kernel
theorem dX7_asNow_20 : decode cX7_asNow 20 = .ok (.iinc 1 1, 3) := by decide +kernel
theorem dX7_asNow_23 : decode cX7_asNow 23 = .ok (.goto (-21), 3) := by decide +kernel
theorem dX7_asNow_26 : decode cX7_asNow 26 = .ok (.return_, 1) := by decide +kernel
theorem dX7_goesBy_0 : decode cX7_goesBy 0 = .ok (.aload_n 0, 1) := by decide +kernel
theorem dX7_goesBy_1 : decode cX7_goesBy 1 = .ok (.aload_n 0, 1) := by decide +kernel
theorem dX7_goesBy_2 : decode cX7_goesBy 2 = .ok (.getfield 28, 3) := by decide +kernel
theorem dX7_goesBy_5 : decode cX7_goesBy 5 = .ok (.invokevirtual 154, 3) := by decide +kernel
theorem dX7_goesBy_8 : decode cX7_goesBy 8 = .ok (.iload_n 1, 1) := by decide +kernel
theorem dX7_goesBy_9 : decode cX7_goesBy 9 = .ok (.iconst 1, 1) := by decide +kernel
theorem dX7_goesBy_10 : decode cX7_goesBy 10 = .ok (.if_icmp .ne 14, 3) := by decide +kernel
theorem dX7_goesBy_13 : decode cX7_goesBy 13 = .ok (.aload_n 0, 1) := by decide +kernel
theorem dX7_goesBy_14 : decode cX7_goesBy 14 = .ok (.aload_n 0, 1) := by decide +kernel
theorem dX7_goesBy_15 : decode cX7_goesBy 15 = .ok (.getfield 28, 3) := by decide +kernel
theorem dX7_goesBy_18 : decode cX7_goesBy 18 = .ok (.iconst 0, 1) := by decide +kernel
theorem dX7_goesBy_19 : decode cX7_goesBy 19 = .ok (.iconst 1, 1) := by decide +kernel
theorem dX7_goesBy_20 : decode cX7_goesBy 20 = .ok (.invokevirtual 161, 3) := by decide +kernel
theorem dX7_goesBy_23 : decode cX7_goesBy 23 = .ok (.pop, 1) := by decide +kernel
theorem dX7_goesBy_24 : decode cX7_goesBy 24 = .ok (.return_, 1) := by decide +kernel
theorem dX7_inHours_0 : decode cX7_inHours 0 = .ok (.aload_n 0, 1) := by decide +kernel
theorem dX7_inHours_1 : decode cX7_inHours 1 = .ok (.iconst 0, 1) := by decide +kernel
theorem dX7_inHours_2 : decode cX7_inHours 2 = .ok (.putfield 56, 3) := by decide +kernel
theorem dX7_inHours_5 : decode cX7_inHours 5 = .ok (.iload_n 1, 1) := by decide +kernel
theorem dX7_inHours_6 : decode cX7_inHours 6 = .ok (.iconst 0, 1) := by decide +kernel
theorem dX7_inHours_7 : decode cX7_inHours 7 = .ok (.bipush 60, 2) := by decide +kernel
theorem dX7_inHours_9 : decode cX7_inHours 9 = .ok (.invokestatic 60, 3) := by decide +kernel
theorem dX7_inHours_12 : decode cX7_inHours 12 = .ok (.ifCond .eq 21, 3) := by decide +kernel
theorem dX7_inHours_15 : decode cX7_inHours 15 = .ok (.iload_n 2, 1) := by decide +kernel
theorem dX7_inHours_16 : decode cX7_inHours 16 = .ok (.iconst 0, 1) := by decide +kernel
theorem dX7_inHours_17 : decode cX7_inHours 17 = .ok (.iconst 1, 1) := by decide +kernel
theorem dX7_inHours_18 : decode cX7_inHours 18 = .ok (.invokestatic 60, 3) := by decide +kernel
theorem dX7_inHours_21 : decode cX7_inHours 21 = .ok (.ifCond .eq 12, 3) := by decide +kernel
theorem dX7_inHours_24 : decode cX7_inHours 24 = .ok (.iload_n 3, 1) := by decide +kernel
theorem dX7_inHours_25 : decode cX7_inHours 25 = .ok (.iconst 0, 1) := by decide +kernel
theorem dX7_inHours_26 : decode cX7_inHours 26 = .ok (.iconst 2, 1) := by decide +kernel
theorem dX7_inHours_27 : decode cX7_inHours 27 = .ok (.invokestatic 60, 3) := by decide +kernel
theorem dX7_inHours_30 : decode cX7_inHours 30 = .ok (.ifCond .ne 5, 3) := by decide +kernel
theorem dX7_inHours_33 : decode cX7_inHours 33 = .ok (.iconst (-1), 1) := by decide +kernel
theorem dX7_inHours_34 : decode cX7_inHours 34 = .ok (.ireturn, 1) := by decide +kernel
theorem dX7_inHours_35 : decode cX7_inHours 35 = .ok (.aload_n 0, 1) := by decide +kernel
theorem dX7_inHours_36 : decode cX7_inHours 36 = .ok (.invokevirtual 165, 3) := by decide +kernel
theorem dX7_inHours_39 : decode cX7_inHours 39 = .ok (.aload_n 0, 1) := by decide +kernel
theorem dX7_inHours_40 : decode cX7_inHours 40 = .ok (.aload_n 0, 1) := by decide +kernel
theorem dX7_inHours_41 : decode cX7_inHours 41 = .ok (.getfield 28, 3) := by decide +kernel
theorem dX7_inHours_44 : decode cX7_inHours 44 = .ok (.invokevirtual 139, 3) := by decide +kernel
theorem dX7_inHours_47 : decode cX7_inHours 47 = .ok (.invokestatic 151, 3) := by decide +kernel
theorem dX7_inHours_50 : decode cX7_inHours 50 = .ok (.istore 4, 2) := by decide +kernel
theorem dX7_inHours_52 : decode cX7_inHours 52 = .ok (.iconst 0, 1) := by decide +kernel
theorem dX7_inHours_53 : decode cX7_inHours 53 = .ok (.istore 5, 2) := by decide +kernel
theorem dX7_inHours_55 : decode cX7_inHours 55 = .ok (.iload 5, 2) := by decide +kernel
theorem dX7_inHours_57 : decode cX7_inHours 57 = .ok (.iload_n 1, 1) := by decide +kernel
theorem dX7_inHours_58 : decode cX7_inHours 58 = .ok (.if_icmp .ge 48, 3) := by decide +kernel
theorem dX7_inHours_61 : decode cX7_inHours 61 = .ok (.aload_n 0, 1) := by decide +kernel
theorem dX7_inHours_62 : decode cX7_inHours 62 = .ok (.iload_n 2, 1) := by decide +kernel
theorem dX7_inHours_63 : decode cX7_inHours 63 = .ok (.invokevirtual 168, 3) := by decide +kernel
theorem dX7_inHours_66 : decode cX7_inHours 66 = .ok (.aload_n 0, 1) := by decide +kernel
theorem dX7_inHours_67 : decode cX7_inHours 67 = .ok (.aload_n 0, 1) := by decide +kernel
theorem dX7_inHours_68 : decode cX7_inHours 68 = .ok (.getfield 28, 3) := by decide +kernel
theorem dX7_inHours_71 : decode cX7_inHours 71 = .ok (.invokevirtual 139, 3) := by decide +kernel
theorem dX7_inHours_74 : decode cX7_inHours 74 = .ok (.invokestatic 151, 3) := by decide +kernel
theorem dX7_inHours_77 : decode cX7_inHours 77 = .ok (.iload 4, 2) := by decide +kernel
theorem dX7_inHours_79 : decode cX7_inHours 79 = .ok (.if_icmp .le 17, 3) := by decide +kernel
theorem dX7_inHours_82 : decode cX7_inHours 82 = .ok (.aload_n 0, 1) := by decide +kernel
theorem dX7_inHours_83 : decode cX7_inHours 83 = .ok (.aload_n 0, 1) := by decide +kernel
theorem dX7_inHours_84 : decode cX7_inHours 84 = .ok (.getfield 28, 3) := by decide +kernel
theorem dX7_inHours_87 : decode cX7_inHours 87 = .ok (.invokevirtual 139, 3) := by decide +kernel
theorem dX7_inHours_90 : decode cX7_inHours 90 = .ok (.invokestatic 151, 3) := by decide +kernel
theorem dX7_inHours_93 : decode cX7_inHours 93 = .ok (.goto 5, 3) := by decide +kernel
theorem dX7_inHours_96 : decode cX7_inHours 96 = .ok (.iload 4, 2) := by decide +kernel
theorem dX7_inHours_98 : decode cX7_inHours 98 = .ok (.istore 4, 2) := by decide +kernel
theorem dX7_inHours_100 : decode cX7_inHours 100 = .ok (.iinc 5 1, 3) := by decide +kernel
theorem dX7_inHours_103 : decode cX7_inHours 103 = .ok (.goto (-48), 3) := by decide +kernel
theorem dX7_inHours_106 : decode cX7_inHours 106 = .ok (.iconst 0, 1) := by decide +kernel
theorem dX7_inHours_107 : decode cX7_inHours 107 = .ok (.istore 5, 2) := by decide +kernel
theorem dX7_inHours_109 : decode cX7_inHours 109 = .ok (.iconst 0, 1) := by decide +kernel
theorem dX7_inHours_110 : decode cX7_inHours 110 = .ok (.istore 6, 2) := by decide +kernel
theorem dX7_inHours_112 : decode cX7_inHours 112 = .ok (.iload 6, 2) := by decide +kernel
theorem dX7_inHours_114 : decode cX7_inHours 114 = .ok (.aload_n 0, 1) := by decide +kernel
theorem dX7_inHours_115 : decode cX7_inHours 115 = .ok (.getfield 13, 3) := by decide +kernel
theorem dX7_inHours_118 : decode cX7_inHours 118 = .ok (.iconst 1, 1) := by decide +kernel
theorem dX7_inHours_119 : decode cX7_inHours 119 = .ok (.iaload, 1) := by decide +kernel
theorem dX7_inHours_120 : decode cX7_inHours 120 = .ok (.if_icmp .ge 39, 3) := by decide +kernel
theorem dX7_inHours_123 : decode cX7_inHours 123 = .ok (.aload_n 0, 1) := by decide +kernel
theorem dX7_inHours_124 : decode cX7_inHours 124 = .ok (.getfield 28, 3) := by decide +kernel
theorem dX7_inHours_127 : decode cX7_inHours 127 = .ok (.iconst 1, 1) := by decide +kernel
theorem dX7_inHours_128 : decode cX7_inHours 128 = .ok (.iload 6, 2) := by decide +kernel
theorem dX7_inHours_130 : decode cX7_inHours 130 = .ok (.iadd, 1) := by decide +kernel
theorem dX7_inHours_131 : decode cX7_inHours 131 = .ok (.iaload, 1) := by decide +kernel
theorem dX7_inHours_132 : decode cX7_inHours 132 = .ok (.iload 5, 2) := by decide +kernel
theorem dX7_inHours_134 : decode cX7_inHours 134 = .ok (.if_icmp .le 15, 3) := by decide +kernel
theorem dX7_inHours_137 : decode cX7_inHours 137 = .ok (.aload_n 0, 1) := by decide +kernel
theorem dX7_inHours_138 : decode cX7_inHours 138 = .ok (.getfield 28, 3) := by decide +kernel
theorem dX7_inHours_141 : decode cX7_inHours 141 = .ok (.iconst 1, 1) := by decide +kernel
theorem dX7_inHours_142 : decode cX7_inHours 142 = .ok (.iload 6, 2) := by decide +kernel
theorem dX7_inHours_144 : decode cX7_inHours 144 = .ok (.iadd, 1) := by decide +kernel
theorem dX7_inHours_145 : decode cX7_inHours 145 = .ok (.iaload, 1) := by decide +kernel
theorem dX7_inHours_146 : decode cX7_inHours 146 = .ok (.goto 5, 3) := by decide +kernel
theorem dX7_inHours_149 : decode cX7_inHours 149 = .ok (.iload 5, 2) := by decide +kernel
theorem dX7_inHours_151 : decode cX7_inHours 151 = .ok (.istore 5, 2) := by decide +kernel
theorem dX7_inHours_153 : decode cX7_inHours 153 = .ok (.iinc 6 1, 3) := by decide +kernel
theorem dX7_inHours_156 : decode cX7_inHours 156 = .ok (.goto (-44), 3) := by decide +kernel
theorem dX7_inHours_159 : decode cX7_inHours 159 = .ok (.iload_n 3, 1) := by decide +kernel
theorem dX7_inHours_160 : decode cX7_inHours 160 = .ok (.ifCond .ne 14, 3) := by decide +kernel
theorem dX7_inHours_163 : decode cX7_inHours 163 = .ok (.aload_n 0, 1) := by decide +kernel
theorem dX7_inHours_164 : decode cX7_inHours 164 = .ok (.aload_n 0, 1) := by decide +kernel
theorem dX7_inHours_165 : decode cX7_inHours 165 = .ok (.getfield 28, 3) := by decide +kernel
theorem dX7_inHours_168 : decode cX7_inHours 168 = .ok (.invokevirtual 139, 3) := by decide +kernel
theorem dX7_inHours_171 : decode cX7_inHours 171 = .ok (.goto 15, 3) := by decide +kernel
theorem dX7_inHours_174 : decode cX7_inHours 174 = .ok (.iload_n 3, 1) := by decide +kernel
theorem dX7_inHours_175 : decode cX7_inHours 175 = .ok (.iconst 1, 1) := by decide +kernel
theorem dX7_inHours_176 : decode cX7_inHours 176 = .ok (.if_icmp .ne 8, 3) := by decide +kernel
theorem dX7_inHours_179 : decode cX7_inHours 179 = .ok (.iload 4, 2) := by decide +kernel
theorem dX7_inHours_181 : decode cX7_inHours 181 = .ok (.goto 5, 3) := by decide +kernel
theorem dX7_inHours_184 : decode cX7_inHours 184 = .ok (.iload 5, 2) := by decide +kernel
theorem dX7_inHours_186 : decode cX7_inHours 186 = .ok (.ireturn, 1) := by decide +kernel
theorem dX7_debtStanding_0 : decode cX7_debtStanding 0 = .ok (.iconst 0, 1) := by decide +kernel
theorem dX7_debtStanding_1 : decode cX7_debtStanding 1 = .ok (.istore_n 2, 1) := by decide +kernel
theorem dX7_debtStanding_2 : decode cX7_debtStanding 2 = .ok (.iconst 0, 1) := by decide +kernel
theorem dX7_debtStanding_3 : decode cX7_debtStanding 3 = .ok (.istore_n 3, 1) := by decide +kernel
theorem dX7_debtStanding_4 : decode cX7_debtStanding 4 = .ok (.iload_n 3, 1) := by decide +kernel
theorem dX7_debtStanding_5 : decode cX7_debtStanding 5 = .ok (.aload_n 0, 1) := by decide +kernel
theorem dX7_debtStanding_6 : decode cX7_debtStanding 6 = .ok (.getfield 13, 3) := by decide +kernel
theorem dX7_debtStanding_9 : decode cX7_debtStanding 9 = .ok (.iconst 1, 1) := by decide +kernel
theorem dX7_debtStanding_10 : decode cX7_debtStanding 10 = .ok (.iaload, 1) := by decide +kernel
theorem dX7_debtStanding_11 : decode cX7_debtStanding 11 = .ok (.if_icmp .ge 30, 3) := by decide +kernel
theorem dX7_debtStanding_14 : decode cX7_debtStanding 14 = .ok (.iload_n 2, 1) := by decide +kernel
theorem dX7_debtStanding_15 : decode cX7_debtStanding 15 = .ok (.aload_n 1, 1) := by decide +kernel
theorem dX7_debtStanding_16 : decode cX7_debtStanding 16 = .ok (.bipush 7, 2) := by decide +kernel
theorem dX7_debtStanding_18 : decode cX7_debtStanding 18 = .ok (.iload_n 3, 1) := by decide +kernel
theorem dX7_debtStanding_19 : decode cX7_debtStanding 19 = .ok (.iadd, 1) := by decide +kernel
theorem dX7_debtStanding_20 : decode cX7_debtStanding 20 = .ok (.iaload, 1) := by decide +kernel
theorem dX7_debtStanding_21 : decode cX7_debtStanding 21 = .ok (.ifCond .le 11, 3) := by decide +kernel
theorem dX7_debtStanding_24 : decode cX7_debtStanding 24 = .ok (.aload_n 1, 1) := by decide +kernel
theorem dX7_debtStanding_25 : decode cX7_debtStanding 25 = .ok (.iconst 1, 1) := by decide +kernel
theorem dX7_debtStanding_26 : decode cX7_debtStanding 26 = .ok (.iload_n 3, 1) := by decide +kernel
theorem dX7_debtStanding_27 : decode cX7_debtStanding 27 = .ok (.iadd, 1) := by decide +kernel
theorem dX7_debtStanding_28 : decode cX7_debtStanding 28 = .ok (.iaload, 1) := by decide +kernel
theorem dX7_debtStanding_29 : decode cX7_debtStanding 29 = .ok (.goto 4, 3) := by decide +kernel
theorem dX7_debtStanding_32 : decode cX7_debtStanding 32 = .ok (.iconst 0, 1) := by decide +kernel
theorem dX7_debtStanding_33 : decode cX7_debtStanding 33 = .ok (.iadd, 1) := by decide +kernel
theorem dX7_debtStanding_34 : decode cX7_debtStanding 34 = .ok (.istore_n 2, 1) := by decide +kernel
theorem dX7_debtStanding_35 : decode cX7_debtStanding 35 = .ok (.iinc 3 1, 3) := by decide +kernel
theorem dX7_debtStanding_38 : decode cX7_debtStanding 38 = .ok (.goto (-34), 3) := by decide +kernel
theorem dX7_debtStanding_41 : decode cX7_debtStanding 41 = .ok (.iload_n 2, 1) := by decide +kernel
theorem dX7_debtStanding_42 : decode cX7_debtStanding 42 = .ok (.ireturn, 1) := by decide +kernel
theorem dX7_round_0 : decode cX7_round 0 = .ok (.aload_n 0, 1) := by decide +kernel
theorem dX7_round_1 : decode cX7_round 1 = .ok (.iconst 0, 1) := by decide +kernel
theorem dX7_round_2 : decode cX7_round 2 = .ok (.putfield 56, 3) := by decide +kernel
theorem dX7_round_5 : decode cX7_round 5 = .ok (.iload_n 1, 1) := by decide +kernel
theorem dX7_round_6 : decode cX7_round 6 = .ok (.iconst 0, 1) := by decide +kernel
theorem dX7_round_7 : decode cX7_round 7 = .ok (.iconst 1, 1) := by decide +kernel
theorem dX7_round_8 : decode cX7_round 8 = .ok (.invokestatic 60, 3) := by decide +kernel
theorem dX7_round_11 : decode cX7_round 11 = .ok (.ifCond .ne 5, 3) := by decide +kernel
theorem dX7_round_14 : decode cX7_round 14 = .ok (.iconst (-1), 1) := by decide +kernel
theorem dX7_round_15 : decode cX7_round 15 = .ok (.ireturn, 1) := by decide +kernel
theorem dX7_round_16 : decode cX7_round 16 = .ok (.bipush (-9), 2) := by decide +kernel
theorem dX7_round_18 : decode cX7_round 18 = .ok (.istore_n 2, 1) := by decide +kernel
theorem dX7_round_19 : decode cX7_round 19 = .ok (.ldc 171, 2) := by decide +kernel
theorem dX7_round_21 : decode cX7_round 21 = .ok (.istore_n 3, 1) := by decide +kernel
theorem dX7_round_22 : decode cX7_round 22 = .ok (.iconst 0, 1) := by decide +kernel
theorem dX7_round_23 : decode cX7_round 23 = .ok (.istore 4, 2) := by decide +kernel
theorem dX7_round_25 : decode cX7_round 25 = .ok (.iload 4, 2) := by decide +kernel
theorem dX7_round_27 : decode cX7_round 27 = .ok (.iconst 2, 1) := by decide +kernel
theorem dX7_round_28 : decode cX7_round 28 = .ok (.aload_n 0, 1) := by decide +kernel
theorem dX7_round_29 : decode cX7_round 29 = .ok (.getfield 13, 3) := by decide +kernel
theorem dX7_round_32 : decode cX7_round 32 = .ok (.iconst 0, 1) := by decide +kernel
theorem dX7_round_33 : decode cX7_round 33 = .ok (.iaload, 1) := by decide +kernel
theorem dX7_round_34 : decode cX7_round 34 = .ok (.imul, 1) := by decide +kernel
theorem dX7_round_35 : decode cX7_round 35 = .ok (.if_icmp .ge 100, 3) := by decide +kernel
theorem dX7_round_38 : decode cX7_round 38 = .ok (.iload 4, 2) := by decide +kernel
theorem dX7_round_40 : decode cX7_round 40 = .ok (.aload_n 0, 1) := by decide +kernel
theorem dX7_round_41 : decode cX7_round 41 = .ok (.getfield 13, 3) := by decide +kernel
theorem dX7_round_44 : decode cX7_round 44 = .ok (.iconst 0, 1) := by decide +kernel
theorem dX7_round_45 : decode cX7_round 45 = .ok (.iaload, 1) := by decide +kernel
theorem dX7_round_46 : decode cX7_round 46 = .ok (.if_icmp .ge 7, 3) := by decide +kernel
theorem dX7_round_49 : decode cX7_round 49 = .ok (.iconst 1, 1) := by decide +kernel
theorem dX7_round_50 : decode cX7_round 50 = .ok (.goto 4, 3) := by decide +kernel
theorem dX7_round_53 : decode cX7_round 53 = .ok (.iconst 0, 1) := by decide +kernel
theorem dX7_round_54 : decode cX7_round 54 = .ok (.istore 5, 2) := by decide +kernel
theorem dX7_round_56 : decode cX7_round 56 = .ok (.aload_n 0, 1) := by decide +kernel
theorem dX7_round_57 : decode cX7_round 57 = .ok (.invokevirtual 165, 3) := by decide +kernel
theorem dX7_round_60 : decode cX7_round 60 = .ok (.aload_n 0, 1) := by decide +kernel
theorem dX7_round_61 : decode cX7_round 61 = .ok (.aload_n 0, 1) := by decide +kernel
theorem dX7_round_62 : decode cX7_round 62 = .ok (.getfield 28, 3) := by decide +kernel
theorem dX7_round_65 : decode cX7_round 65 = .ok (.iload 4, 2) := by decide +kernel
theorem dX7_round_67 : decode cX7_round 67 = .ok (.aload_n 0, 1) := by decide +kernel
theorem dX7_round_68 : decode cX7_round 68 = .ok (.getfield 13, 3) := by decide +kernel
theorem dX7_round_71 : decode cX7_round 71 = .ok (.iconst 0, 1) := by decide +kernel
theorem dX7_round_72 : decode cX7_round 72 = .ok (.iaload, 1) := by decide +kernel
theorem dX7_round_73 : decode cX7_round 73 = .ok (.irem, 1) := by decide +kernel
theorem dX7_round_74 : decode cX7_round 74 = .ok (.iload 5, 2) := by decide +kernel
theorem dX7_round_76 : decode cX7_round 76 = .ok (.invokevirtual 161, 3) := by decide +kernel
theorem dX7_round_79 : decode cX7_round 79 = .ok (.pop, 1) := by decide +kernel
theorem dX7_round_80 : decode cX7_round 80 = .ok (.aload_n 0, 1) := by decide +kernel
theorem dX7_round_81 : decode cX7_round 81 = .ok (.aload_n 0, 1) := by decide +kernel
theorem dX7_round_82 : decode cX7_round 82 = .ok (.getfield 28, 3) := by decide +kernel
theorem dX7_round_85 : decode cX7_round 85 = .ok (.invokevirtual 172, 3) := by decide +kernel
theorem dX7_round_88 : decode cX7_round 88 = .ok (.istore 6, 2) := by decide +kernel
theorem dX7_round_90 : decode cX7_round 90 = .ok (.iload 6, 2) := by decide +kernel
theorem dX7_round_92 : decode cX7_round 92 = .ok (.iload_n 3, 1) := by decide +kernel
theorem dX7_round_93 : decode cX7_round 93 = .ok (.if_icmp .ge 21, 3) := by decide +kernel
theorem dX7_round_96 : decode cX7_round 96 = .ok (.bipush 10, 2) := by decide +kernel
theorem dX7_round_98 : decode cX7_round 98 = .ok (.iload 5, 2) := by decide +kernel
theorem dX7_round_100 : decode cX7_round 100 = .ok (.imul, 1) := by decide +kernel
theorem dX7_round_101 : decode cX7_round 101 = .ok (.iload 4, 2) := by decide +kernel
theorem dX7_round_103 : decode cX7_round 103 = .ok (.aload_n 0, 1) := by decide +kernel
theorem dX7_round_104 : decode cX7_round 104 = .ok (.getfield 13, 3) := by decide +kernel
theorem dX7_round_107 : decode cX7_round 107 = .ok (.iconst 0, 1) := by decide +kernel
theorem dX7_round_108 : decode cX7_round 108 = .ok (.iaload, 1) := by decide +kernel
theorem dX7_round_109 : decode cX7_round 109 = .ok (.irem, 1) := by decide +kernel
theorem dX7_round_110 : decode cX7_round 110 = .ok (.iadd, 1) := by decide +kernel
theorem dX7_round_111 : decode cX7_round 111 = .ok (.goto 4, 3) := by decide +kernel
theorem dX7_round_114 : decode cX7_round 114 = .ok (.iload_n 2, 1) := by decide +kernel
theorem dX7_round_115 : decode cX7_round 115 = .ok (.istore_n 2, 1) := by decide +kernel
theorem dX7_round_116 : decode cX7_round 116 = .ok (.iload 6, 2) := by decide +kernel
theorem dX7_round_118 : decode cX7_round 118 = .ok (.iload_n 3, 1) := by decide +kernel
theorem dX7_round_119 : decode cX7_round 119 = .ok (.if_icmp .ge 8, 3) := by decide +kernel
theorem dX7_round_122 : decode cX7_round 122 = .ok (.iload 6, 2) := by decide +kernel
theorem dX7_round_124 : decode cX7_round 124 = .ok (.goto 4, 3) := by decide +kernel
theorem dX7_round_127 : decode cX7_round 127 = .ok (.iload_n 3, 1) := by decide +kernel
theorem dX7_round_128 : decode cX7_round 128 = .ok (.istore_n 3, 1) := by decide +kernel
theorem dX7_round_129 : decode cX7_round 129 = .ok (.iinc 4 1, 3) := by decide +kernel
theorem dX7_round_132 : decode cX7_round 132 = .ok (.goto (-107), 3) := by decide +kernel
theorem dX7_round_135 : decode cX7_round 135 = .ok (.iload_n 2, 1) := by decide +kernel
theorem dX7_round_136 : decode cX7_round 136 = .ok (.bipush (-9), 2) := by decide +kernel
theorem dX7_round_138 : decode cX7_round 138 = .ok (.if_icmp .eq 7, 3) := by decide +kernel
theorem dX7_round_141 : decode cX7_round 141 = .ok (.iload_n 1, 1) := by decide +kernel
theorem dX7_round_142 : decode cX7_round 142 = .ok (.ifCond .ne 7, 3) := by decide +kernel
theorem dX7_round_145 : decode cX7_round 145 = .ok (.iload_n 2, 1) := by decide +kernel
theorem dX7_round_146 : decode cX7_round 146 = .ok (.goto 4, 3) := by decide +kernel
theorem dX7_round_149 : decode cX7_round 149 = .ok (.iload_n 3, 1) := by decide +kernel
theorem dX7_round_150 : decode cX7_round 150 = .ok (.ireturn, 1) := by decide +kernel
theorem dX7_greatest_0 : decode cX7_greatest 0 = .ok (.aload_n 0, 1) := by decide +kernel
theorem dX7_greatest_1 : decode cX7_greatest 1 = .ok (.invokevirtual 165, 3) := by decide +kernel
theorem dX7_greatest_4 : decode cX7_greatest 4 = .ok (.iconst 0, 1) := by decide +kernel
theorem dX7_greatest_5 : decode cX7_greatest 5 = .ok (.istore_n 1, 1) := by decide +kernel
theorem dX7_greatest_6 : decode cX7_greatest 6 = .ok (.iload_n 1, 1) := by decide +kernel
theorem dX7_greatest_7 : decode cX7_greatest 7 = .ok (.aload_n 0, 1) := by decide +kernel
theorem dX7_greatest_8 : decode cX7_greatest 8 = .ok (.getfield 13, 3) := by decide +kernel
theorem dX7_greatest_11 : decode cX7_greatest 11 = .ok (.iconst 1, 1) := by decide +kernel
theorem dX7_greatest_12 : decode cX7_greatest 12 = .ok (.iaload, 1) := by decide +kernel
theorem dX7_greatest_13 : decode cX7_greatest 13 = .ok (.if_icmp .ge 19, 3) := by decide +kernel
theorem dX7_greatest_16 : decode cX7_greatest 16 = .ok (.aload_n 0, 1) := by decide +kernel
theorem dX7_greatest_17 : decode cX7_greatest 17 = .ok (.getfield 28, 3) := by decide +kernel
theorem dX7_greatest_20 : decode cX7_greatest 20 = .ok (.bipush 7, 2) := by decide +kernel
theorem dX7_greatest_22 : decode cX7_greatest 22 = .ok (.iload_n 1, 1) := by decide +kernel
theorem dX7_greatest_23 : decode cX7_greatest 23 = .ok (.iadd, 1) := by decide +kernel
theorem dX7_greatest_24 : decode cX7_greatest 24 = .ok (.iconst 0, 1) := by decide +kernel
theorem dX7_greatest_25 : decode cX7_greatest 25 = .ok (.iastore, 1) := by decide +kernel
theorem dX7_greatest_26 : decode cX7_greatest 26 = .ok (.iinc 1 1, 3) := by decide +kernel
theorem dX7_greatest_29 : decode cX7_greatest 29 = .ok (.goto (-23), 3) := by decide +kernel
theorem dX7_greatest_32 : decode cX7_greatest 32 = .ok (.iconst 0, 1) := by decide +kernel
theorem dX7_greatest_33 : decode cX7_greatest 33 = .ok (.istore_n 1, 1) := by decide +kernel
theorem dX7_greatest_34 : decode cX7_greatest 34 = .ok (.iload_n 1, 1) := by decide +kernel
theorem dX7_greatest_35 : decode cX7_greatest 35 = .ok (.aload_n 0, 1) := by decide +kernel
theorem dX7_greatest_36 : decode cX7_greatest 36 = .ok (.getfield 13, 3) := by decide +kernel
theorem dX7_greatest_39 : decode cX7_greatest 39 = .ok (.iconst 0, 1) := by decide +kernel
theorem dX7_greatest_40 : decode cX7_greatest 40 = .ok (.iaload, 1) := by decide +kernel
theorem dX7_greatest_41 : decode cX7_greatest 41 = .ok (.if_icmp .ge 26, 3) := by decide +kernel
theorem dX7_greatest_44 : decode cX7_greatest 44 = .ok (.aload_n 0, 1) := by decide +kernel
theorem dX7_greatest_45 : decode cX7_greatest 45 = .ok (.getfield 28, 3) := by decide +kernel
theorem dX7_greatest_48 : decode cX7_greatest 48 = .ok (.bipush 7, 2) := by decide +kernel
theorem dX7_greatest_50 : decode cX7_greatest 50 = .ok (.aload_n 0, 1) := by decide +kernel
theorem dX7_greatest_51 : decode cX7_greatest 51 = .ok (.getfield 50, 3) := by decide +kernel
theorem dX7_greatest_54 : decode cX7_greatest 54 = .ok (.iload_n 1, 1) := by decide +kernel
theorem dX7_greatest_55 : decode cX7_greatest 55 = .ok (.iaload, 1) := by decide +kernel
theorem dX7_greatest_56 : decode cX7_greatest 56 = .ok (.iadd, 1) := by decide +kernel
theorem dX7_greatest_57 : decode cX7_greatest 57 = .ok (.iload_n 1, 1) := by decide +kernel
theorem dX7_greatest_58 : decode cX7_greatest 58 = .ok (.iconst 1, 1) := by decide +kernel
theorem dX7_greatest_59 : decode cX7_greatest 59 = .ok (.iadd, 1) := by decide +kernel
theorem dX7_greatest_60 : decode cX7_greatest 60 = .ok (.iastore, 1) := by decide +kernel
theorem dX7_greatest_61 : decode cX7_greatest 61 = .ok (.iinc 1 1, 3) := by decide +kernel
theorem dX7_greatest_64 : decode cX7_greatest 64 = .ok (.goto (-30), 3) := by decide +kernel
theorem dX7_greatest_67 : decode cX7_greatest 67 = .ok (.iconst 0, 1) := by decide +kernel
theorem dX7_greatest_68 : decode cX7_greatest 68 = .ok (.istore_n 1, 1) := by decide +kernel
theorem dX7_greatest_69 : decode cX7_greatest 69 = .ok (.iload_n 1, 1) := by decide +kernel
theorem dX7_greatest_70 : decode cX7_greatest 70 = .ok (.aload_n 0, 1) := by decide +kernel
theorem dX7_greatest_71 : decode cX7_greatest 71 = .ok (.getfield 13, 3) := by decide +kernel
theorem dX7_greatest_74 : decode cX7_greatest 74 = .ok (.iconst 2, 1) := by decide +kernel
theorem dX7_greatest_75 : decode cX7_greatest 75 = .ok (.iaload, 1) := by decide +kernel
theorem dX7_greatest_76 : decode cX7_greatest 76 = .ok (.if_icmp .ge 17, 3) := by decide +kernel
theorem dX7_greatest_79 : decode cX7_greatest 79 = .ok (.aload_n 0, 1) := by decide +kernel
theorem dX7_greatest_80 : decode cX7_greatest 80 = .ok (.aload_n 0, 1) := by decide +kernel
theorem dX7_greatest_81 : decode cX7_greatest 81 = .ok (.getfield 28, 3) := by decide +kernel
theorem dX7_greatest_84 : decode cX7_greatest 84 = .ok (.invokevirtual 154, 3) := by decide +kernel
theorem dX7_greatest_87 : decode cX7_greatest 87 = .ok (.iinc 1 1, 3) := by decide +kernel
theorem dX7_greatest_90 : decode cX7_greatest 90 = .ok (.goto (-21), 3) := by decide +kernel
theorem dX7_greatest_93 : decode cX7_greatest 93 = .ok (.iconst 0, 1) := by decide +kernel
theorem dX7_greatest_94 : decode cX7_greatest 94 = .ok (.istore_n 1, 1) := by decide +kernel
theorem dX7_greatest_95 : decode cX7_greatest 95 = .ok (.iconst 0, 1) := by decide +kernel
theorem dX7_greatest_96 : decode cX7_greatest 96 = .ok (.istore_n 2, 1) := by decide +kernel
theorem dX7_greatest_97 : decode cX7_greatest 97 = .ok (.iload_n 2, 1) := by decide +kernel
theorem dX7_greatest_98 : decode cX7_greatest 98 = .ok (.aload_n 0, 1) := by decide +kernel
theorem dX7_greatest_99 : decode cX7_greatest 99 = .ok (.getfield 13, 3) := by decide +kernel
theorem dX7_greatest_102 : decode cX7_greatest 102 = .ok (.iconst 0, 1) := by decide +kernel
theorem dX7_greatest_103 : decode cX7_greatest 103 = .ok (.iaload, 1) := by decide +kernel
theorem dX7_greatest_104 : decode cX7_greatest 104 = .ok (.if_icmp .ge 44, 3) := by decide +kernel
theorem dX7_greatest_107 : decode cX7_greatest 107 = .ok (.aload_n 0, 1) := by decide +kernel
theorem dX7_greatest_108 : decode cX7_greatest 108 = .ok (.getfield 28, 3) := by decide +kernel
theorem dX7_greatest_111 : decode cX7_greatest 111 = .ok (.iconst 1, 1) := by decide +kernel
theorem dX7_greatest_112 : decode cX7_greatest 112 = .ok (.aload_n 0, 1) := by decide +kernel
theorem dX7_greatest_113 : decode cX7_greatest 113 = .ok (.getfield 50, 3) := by decide +kernel
theorem dX7_greatest_116 : decode cX7_greatest 116 = .ok (.iload_n 2, 1) := by decide +kernel
theorem dX7_greatest_117 : decode cX7_greatest 117 = .ok (.iaload, 1) := by decide +kernel
theorem dX7_greatest_118 : decode cX7_greatest 118 = .ok (.iadd, 1) := by decide +kernel
theorem dX7_greatest_119 : decode cX7_greatest 119 = .ok (.iaload, 1) := by decide +kernel
theorem dX7_greatest_120 : decode cX7_greatest 120 = .ok (.iload_n 1, 1) := by decide +kernel
theorem dX7_greatest_121 : decode cX7_greatest 121 = .ok (.if_icmp .le 19, 3) := by decide +kernel
theorem dX7_greatest_124 : decode cX7_greatest 124 = .ok (.aload_n 0, 1) := by decide +kernel
theorem dX7_greatest_125 : decode cX7_greatest 125 = .ok (.getfield 28, 3) := by decide +kernel
theorem dX7_greatest_128 : decode cX7_greatest 128 = .ok (.iconst 1, 1) := by decide +kernel
theorem dX7_greatest_129 : decode cX7_greatest 129 = .ok (.aload_n 0, 1) := by decide +kernel
theorem dX7_greatest_130 : decode cX7_greatest 130 = .ok (.getfield 50, 3) := by decide +kernel
theorem dX7_greatest_133 : decode cX7_greatest 133 = .ok (.iload_n 2, 1) := by decide +kernel
theorem dX7_greatest_134 : decode cX7_greatest 134 = .ok (.iaload, 1) := by decide +kernel
theorem dX7_greatest_135 : decode cX7_greatest 135 = .ok (.iadd, 1) := by decide +kernel
theorem dX7_greatest_136 : decode cX7_greatest 136 = .ok (.iaload, 1) := by decide +kernel
theorem dX7_greatest_137 : decode cX7_greatest 137 = .ok (.goto 4, 3) := by decide +kernel
theorem dX7_greatest_140 : decode cX7_greatest 140 = .ok (.iload_n 1, 1) := by decide +kernel
theorem dX7_greatest_141 : decode cX7_greatest 141 = .ok (.istore_n 1, 1) := by decide +kernel
theorem dX7_greatest_142 : decode cX7_greatest 142 = .ok (.iinc 2 1, 3) := by decide +kernel
theorem dX7_greatest_145 : decode cX7_greatest 145 = .ok (.goto (-48), 3) := by decide +kernel
theorem dX7_greatest_148 : decode cX7_greatest 148 = .ok (.iload_n 1, 1) := by decide +kernel
theorem dX7_greatest_149 : decode cX7_greatest 149 = .ok (.ireturn, 1) := by decide +kernel
theorem dX7_isRow_0 : decode cX7_isRow 0 = .ok (.iload_n 1, 1) := by decide +kernel
theorem dX7_isRow_1 : decode cX7_isRow 1 = .ok (.istore_n 2, 1) := by decide +kernel
theorem dX7_isRow_2 : decode cX7_isRow 2 = .ok (.iconst 0, 1) := by decide +kernel
theorem dX7_isRow_3 : decode cX7_isRow 3 = .ok (.istore_n 3, 1) := by decide +kernel
theorem dX7_isRow_4 : decode cX7_isRow 4 = .ok (.iconst 1, 1) := by decide +kernel
theorem dX7_isRow_5 : decode cX7_isRow 5 = .ok (.istore 4, 2) := by decide +kernel
theorem dX7_isRow_7 : decode cX7_isRow 7 = .ok (.aload_n 0, 1) := by decide +kernel
theorem dX7_isRow_8 : decode cX7_isRow 8 = .ok (.getfield 13, 3) := by decide +kernel
theorem dX7_isRow_11 : decode cX7_isRow 11 = .ok (.iconst 0, 1) := by decide +kernel
theorem dX7_isRow_12 : decode cX7_isRow 12 = .ok (.iaload, 1) := by decide +kernel
theorem dX7_isRow_13 : decode cX7_isRow 13 = .ok (.iconst 1, 1) := by decide +kernel
theorem dX7_isRow_14 : decode cX7_isRow 14 = .ok (.isub, 1) := by decide +kernel
theorem dX7_isRow_15 : decode cX7_isRow 15 = .ok (.istore 5, 2) := by decide +kernel
theorem dX7_isRow_17 : decode cX7_isRow 17 = .ok (.iload 5, 2) := by decide +kernel
theorem dX7_isRow_19 : decode cX7_isRow 19 = .ok (.ifCond .lt 71, 3) := by decide +kernel
theorem dX7_isRow_22 : decode cX7_isRow 22 = .ok (.aload_n 0, 1) := by decide +kernel
theorem dX7_isRow_23 : decode cX7_isRow 23 = .ok (.getfield 50, 3) := by decide +kernel
theorem dX7_isRow_26 : decode cX7_isRow 26 = .ok (.iload 5, 2) := by decide +kernel
theorem dX7_isRow_28 : decode cX7_isRow 28 = .ok (.iload_n 2, 1) := by decide +kernel
theorem dX7_isRow_29 : decode cX7_isRow 29 = .ok (.aload_n 0, 1) := by decide +kernel
theorem dX7_isRow_30 : decode cX7_isRow 30 = .ok (.getfield 13, 3) := by decide +kernel
theorem dX7_isRow_33 : decode cX7_isRow 33 = .ok (.iconst 1, 1) := by decide +kernel
theorem dX7_isRow_34 : decode cX7_isRow 34 = .ok (.iaload, 1) := by decide +kernel
theorem dX7_isRow_35 : decode cX7_isRow 35 = .ok (.irem, 1) := by decide +kernel
theorem dX7_isRow_36 : decode cX7_isRow 36 = .ok (.iastore, 1) := by decide +kernel
theorem dX7_isRow_37 : decode cX7_isRow 37 = .ok (.iload_n 2, 1) := by decide +kernel
theorem dX7_isRow_38 : decode cX7_isRow 38 = .ok (.aload_n 0, 1) := by decide +kernel
theorem dX7_isRow_39 : decode cX7_isRow 39 = .ok (.getfield 13, 3) := by decide +kernel
theorem dX7_isRow_42 : decode cX7_isRow 42 = .ok (.iconst 1, 1) := by decide +kernel
theorem dX7_isRow_43 : decode cX7_isRow 43 = .ok (.iaload, 1) := by decide +kernel
theorem dX7_isRow_44 : decode cX7_isRow 44 = .ok (.idiv, 1) := by decide +kernel
theorem dX7_isRow_45 : decode cX7_isRow 45 = .ok (.istore_n 2, 1) := by decide +kernel
theorem dX7_isRow_46 : decode cX7_isRow 46 = .ok (.iload 4, 2) := by decide +kernel
theorem dX7_isRow_48 : decode cX7_isRow 48 = .ok (.ifCond .eq 21, 3) := by decide +kernel
theorem dX7_isRow_51 : decode cX7_isRow 51 = .ok (.iload_n 3, 1) := by decide +kernel
theorem dX7_isRow_52 : decode cX7_isRow 52 = .ok (.aload_n 0, 1) := by decide +kernel
theorem dX7_isRow_53 : decode cX7_isRow 53 = .ok (.getfield 50, 3) := by decide +kernel
theorem dX7_isRow_56 : decode cX7_isRow 56 = .ok (.iload 5, 2) := by decide +kernel
theorem dX7_isRow_58 : decode cX7_isRow 58 = .ok (.iaload, 1) := by decide +kernel
theorem dX7_isRow_59 : decode cX7_isRow 59 = .ok (.ishr, 1) := by decide +kernel
theorem dX7_isRow_60 : decode cX7_isRow 60 = .ok (.iconst 1, 1) := by decide +kernel
theorem dX7_isRow_61 : decode cX7_isRow 61 = .ok (.iand, 1) := by decide +kernel
theorem dX7_isRow_62 : decode cX7_isRow 62 = .ok (.ifCond .ne 7, 3) := by decide +kernel
theorem dX7_isRow_65 : decode cX7_isRow 65 = .ok (.iconst 1, 1) := by decide +kernel
theorem dX7_isRow_66 : decode cX7_isRow 66 = .ok (.goto 4, 3) := by decide +kernel
theorem dX7_isRow_69 : decode cX7_isRow 69 = .ok (.iconst 0, 1) := by decide +kernel
theorem dX7_isRow_70 : decode cX7_isRow 70 = .ok (.istore 4, 2) := by decide +kernel
theorem dX7_isRow_72 : decode cX7_isRow 72 = .ok (.iload_n 3, 1) := by decide +kernel
theorem dX7_isRow_73 : decode cX7_isRow 73 = .ok (.iconst 1, 1) := by decide +kernel
theorem dX7_isRow_74 : decode cX7_isRow 74 = .ok (.aload_n 0, 1) := by decide +kernel
theorem dX7_isRow_75 : decode cX7_isRow 75 = .ok (.getfield 50, 3) := by decide +kernel
theorem dX7_isRow_78 : decode cX7_isRow 78 = .ok (.iload 5, 2) := by decide +kernel
theorem dX7_isRow_80 : decode cX7_isRow 80 = .ok (.iaload, 1) := by decide +kernel
theorem dX7_isRow_81 : decode cX7_isRow 81 = .ok (.ishl, 1) := by decide +kernel
theorem dX7_isRow_82 : decode cX7_isRow 82 = .ok (.ior, 1) := by decide +kernel
theorem dX7_isRow_83 : decode cX7_isRow 83 = .ok (.istore_n 3, 1) := by decide +kernel
theorem dX7_isRow_84 : decode cX7_isRow 84 = .ok (.iinc 5 (-1), 3) := by decide +kernel
theorem dX7_isRow_87 : decode cX7_isRow 87 = .ok (.goto (-70), 3) := by decide +kernel
theorem dX7_isRow_90 : decode cX7_isRow 90 = .ok (.iload 4, 2) := by decide +kernel
theorem dX7_isRow_92 : decode cX7_isRow 92 = .ok (.ireturn, 1) := by decide +kernel
theorem dX7_rota_0 : decode cX7_rota 0 = .ok (.aload_n 0, 1) := by decide +kernel
theorem dX7_rota_1 : decode cX7_rota 1 = .ok (.iconst 0, 1) := by decide +kernel
theorem dX7_rota_2 : decode cX7_rota 2 = .ok (.putfield 56, 3) := by decide +kernel
theorem dX7_rota_5 : decode cX7_rota 5 = .ok (.iload_n 1, 1) := by decide +kernel
theorem dX7_rota_6 : decode cX7_rota 6 = .ok (.iconst (-1), 1) := by decide +kernel
theorem dX7_rota_7 : decode cX7_rota 7 = .ok (.if_icmp .eq 13, 3) := by decide +kernel
theorem dX7_rota_10 : decode cX7_rota 10 = .ok (.aload_n 0, 1) := by decide +kernel
theorem dX7_rota_11 : decode cX7_rota 11 = .ok (.iload_n 1, 1) := by decide +kernel
theorem dX7_rota_12 : decode cX7_rota 12 = .ok (.invokevirtual 120, 3) := by decide +kernel
theorem dX7_rota_15 : decode cX7_rota 15 = .ok (.ifCond .ne 5, 3) := by decide +kernel
theorem dX7_rota_18 : decode cX7_rota 18 = .ok (.iconst (-1), 1) := by decide +kernel
theorem dX7_rota_19 : decode cX7_rota 19 = .ok (.ireturn, 1) := by decide +kernel
theorem dX7_rota_20 : decode cX7_rota 20 = .ok (.aload_n 0, 1) := by decide +kernel
theorem dX7_rota_21 : decode cX7_rota 21 = .ok (.getfield 13, 3) := by decide +kernel
theorem dX7_rota_24 : decode cX7_rota 24 = .ok (.iconst 0, 1) := by decide +kernel
theorem dX7_rota_25 : decode cX7_rota 25 = .ok (.iaload, 1) := by decide +kernel
theorem dX7_rota_26 : decode cX7_rota 26 = .ok (.ifCond .eq 18, 3) := by decide +kernel
theorem dX7_rota_29 : decode cX7_rota 29 = .ok (.aload_n 0, 1) := by decide +kernel
theorem dX7_rota_30 : decode cX7_rota 30 = .ok (.getfield 13, 3) := by decide +kernel
theorem dX7_rota_33 : decode cX7_rota 33 = .ok (.iconst 1, 1) := by decide +kernel
theorem dX7_rota_34 : decode cX7_rota 34 = .ok (.iaload, 1) := by decide +kernel
theorem dX7_rota_35 : decode cX7_rota 35 = .ok (.aload_n 0, 1) := by decide +kernel
theorem dX7_rota_36 : decode cX7_rota 36 = .ok (.getfield 13, 3) := by decide +kernel
theorem dX7_rota_39 : decode cX7_rota 39 = .ok (.iconst 0, 1) := by decide +kernel
theorem dX7_rota_40 : decode cX7_rota 40 = .ok (.iaload, 1) := by decide +kernel
theorem dX7_rota_41 : decode cX7_rota 41 = .ok (.if_icmp .ge 6, 3) := by decide +kernel
theorem dX7_rota_44 : decode cX7_rota 44 = .ok (.bipush (-9), 2) := by decide +kernel
theorem dX7_rota_46 : decode cX7_rota 46 = .ok (.ireturn, 1) := by decide +kernel
theorem dX7_rota_47 : decode cX7_rota 47 = .ok (.iconst 1, 1) := by decide +kernel
theorem dX7_rota_48 : decode cX7_rota 48 = .ok (.istore_n 2, 1) := by decide +kernel
theorem dX7_rota_49 : decode cX7_rota 49 = .ok (.ldc 171, 2) := by decide +kernel
theorem dX7_rota_51 : decode cX7_rota 51 = .ok (.istore_n 3, 1) := by decide +kernel
theorem dX7_rota_52 : decode cX7_rota 52 = .ok (.iconst 0, 1) := by decide +kernel
theorem dX7_rota_53 : decode cX7_rota 53 = .ok (.istore 4, 2) := by decide +kernel
theorem dX7_rota_55 : decode cX7_rota 55 = .ok (.iload 4, 2) := by decide +kernel
theorem dX7_rota_57 : decode cX7_rota 57 = .ok (.aload_n 0, 1) := by decide +kernel
theorem dX7_rota_58 : decode cX7_rota 58 = .ok (.getfield 13, 3) := by decide +kernel
theorem dX7_rota_61 : decode cX7_rota 61 = .ok (.iconst 0, 1) := by decide +kernel
theorem dX7_rota_62 : decode cX7_rota 62 = .ok (.iaload, 1) := by decide +kernel
theorem dX7_rota_63 : decode cX7_rota 63 = .ok (.if_icmp .ge 18, 3) := by decide +kernel
theorem dX7_rota_66 : decode cX7_rota 66 = .ok (.iload_n 2, 1) := by decide +kernel
theorem dX7_rota_67 : decode cX7_rota 67 = .ok (.aload_n 0, 1) := by decide +kernel
theorem dX7_rota_68 : decode cX7_rota 68 = .ok (.getfield 13, 3) := by decide +kernel
theorem dX7_rota_71 : decode cX7_rota 71 = .ok (.iconst 1, 1) := by decide +kernel
theorem dX7_rota_72 : decode cX7_rota 72 = .ok (.iaload, 1) := by decide +kernel
theorem dX7_rota_73 : decode cX7_rota 73 = .ok (.imul, 1) := by decide +kernel
theorem dX7_rota_74 : decode cX7_rota 74 = .ok (.istore_n 2, 1) := by decide +kernel
theorem dX7_rota_75 : decode cX7_rota 75 = .ok (.iinc 4 1, 3) := by decide +kernel
theorem dX7_rota_78 : decode cX7_rota 78 = .ok (.goto (-23), 3) := by decide +kernel
theorem dX7_rota_81 : decode cX7_rota 81 = .ok (.iconst 0, 1) := by decide +kernel
theorem dX7_rota_82 : decode cX7_rota 82 = .ok (.istore 4, 2) := by decide +kernel
theorem dX7_rota_84 : decode cX7_rota 84 = .ok (.iload 4, 2) := by decide +kernel
theorem dX7_rota_86 : decode cX7_rota 86 = .ok (.iload_n 2, 1) := by decide +kernel
theorem dX7_rota_87 : decode cX7_rota 87 = .ok (.if_icmp .ge 67, 3) := by decide +kernel
theorem dX7_rota_90 : decode cX7_rota 90 = .ok (.aload_n 0, 1) := by decide +kernel
theorem dX7_rota_91 : decode cX7_rota 91 = .ok (.iload 4, 2) := by decide +kernel
theorem dX7_rota_93 : decode cX7_rota 93 = .ok (.invokevirtual 175, 3) := by decide +kernel
theorem dX7_rota_96 : decode cX7_rota 96 = .ok (.ifCond .eq 52, 3) := by decide +kernel
theorem dX7_rota_99 : decode cX7_rota 99 = .ok (.aload_n 0, 1) := by decide +kernel
theorem dX7_rota_100 : decode cX7_rota 100 = .ok (.invokevirtual 178, 3) := by decide +kernel
theorem dX7_rota_103 : decode cX7_rota 103 = .ok (.istore 5, 2) := by decide +kernel
theorem dX7_rota_105 : decode cX7_rota 105 = .ok (.iload 5, 2) := by decide +kernel
theorem dX7_rota_107 : decode cX7_rota 107 = .ok (.iload_n 3, 1) := by decide +kernel
theorem dX7_rota_108 : decode cX7_rota 108 = .ok (.if_icmp .ge 40, 3) := by decide +kernel
theorem dX7_rota_111 : decode cX7_rota 111 = .ok (.iload 5, 2) := by decide +kernel
theorem dX7_rota_113 : decode cX7_rota 113 = .ok (.istore_n 3, 1) := by decide +kernel
theorem dX7_rota_114 : decode cX7_rota 114 = .ok (.iconst 0, 1) := by decide +kernel
theorem dX7_rota_115 : decode cX7_rota 115 = .ok (.istore 6, 2) := by decide +kernel
theorem dX7_rota_117 : decode cX7_rota 117 = .ok (.iload 6, 2) := by decide +kernel
theorem dX7_rota_119 : decode cX7_rota 119 = .ok (.aload_n 0, 1) := by decide +kernel
theorem dX7_rota_120 : decode cX7_rota 120 = .ok (.getfield 13, 3) := by decide +kernel
theorem dX7_rota_123 : decode cX7_rota 123 = .ok (.iconst 0, 1) := by decide +kernel
theorem dX7_rota_124 : decode cX7_rota 124 = .ok (.iaload, 1) := by decide +kernel
theorem dX7_rota_125 : decode cX7_rota 125 = .ok (.if_icmp .ge 23, 3) := by decide +kernel
theorem dX7_rota_128 : decode cX7_rota 128 = .ok (.aload_n 0, 1) := by decide +kernel
theorem dX7_rota_129 : decode cX7_rota 129 = .ok (.getfield 53, 3) := by decide +kernel
theorem dX7_rota_132 : decode cX7_rota 132 = .ok (.iload 6, 2) := by decide +kernel
theorem dX7_rota_134 : decode cX7_rota 134 = .ok (.aload_n 0, 1) := by decide +kernel
theorem dX7_rota_135 : decode cX7_rota 135 = .ok (.getfield 50, 3) := by decide +kernel
theorem dX7_rota_138 : decode cX7_rota 138 = .ok (.iload 6, 2) := by decide +kernel
theorem dX7_rota_140 : decode cX7_rota 140 = .ok (.iaload, 1) := by decide +kernel
theorem dX7_rota_141 : decode cX7_rota 141 = .ok (.iastore, 1) := by decide +kernel
theorem dX7_rota_142 : decode cX7_rota 142 = .ok (.iinc 6 1, 3) := by decide +kernel
theorem dX7_rota_145 : decode cX7_rota 145 = .ok (.goto (-28), 3) := by decide +kernel
theorem dX7_rota_148 : decode cX7_rota 148 = .ok (.iinc 4 1, 3) := by decide +kernel
theorem dX7_rota_151 : decode cX7_rota 151 = .ok (.goto (-67), 3) := by decide +kernel
theorem dX7_rota_154 : decode cX7_rota 154 = .ok (.iload_n 1, 1) := by decide +kernel
theorem dX7_rota_155 : decode cX7_rota 155 = .ok (.iconst (-1), 1) := by decide +kernel
theorem dX7_rota_156 : decode cX7_rota 156 = .ok (.if_icmp .ne 7, 3) := by decide +kernel
theorem dX7_rota_159 : decode cX7_rota 159 = .ok (.iload_n 3, 1) := by decide +kernel
theorem dX7_rota_160 : decode cX7_rota 160 = .ok (.goto 9, 3) := by decide +kernel
theorem dX7_rota_163 : decode cX7_rota 163 = .ok (.aload_n 0, 1) := by decide +kernel
theorem dX7_rota_164 : decode cX7_rota 164 = .ok (.getfield 53, 3) := by decide +kernel
theorem dX7_rota_167 : decode cX7_rota 167 = .ok (.iload_n 1, 1) := by decide +kernel
theorem dX7_rota_168 : decode cX7_rota 168 = .ok (.iaload, 1) := by decide +kernel
theorem dX7_rota_169 : decode cX7_rota 169 = .ok (.ireturn, 1) := by decide +kernel
theorem dX7_seenBy_0 : decode cX7_seenBy 0 = .ok (.iconst 0, 1) := by decide +kernel
theorem dX7_seenBy_1 : decode cX7_seenBy 1 = .ok (.istore_n 2, 1) := by decide +kernel
theorem dX7_seenBy_2 : decode cX7_seenBy 2 = .ok (.iconst 0, 1) := by decide +kernel
theorem dX7_seenBy_3 : decode cX7_seenBy 3 = .ok (.istore_n 3, 1) := by decide +kernel
theorem dX7_seenBy_4 : decode cX7_seenBy 4 = .ok (.iload_n 3, 1) := by decide +kernel
theorem dX7_seenBy_5 : decode cX7_seenBy 5 = .ok (.aload_n 0, 1) := by decide +kernel
theorem dX7_seenBy_6 : decode cX7_seenBy 6 = .ok (.getfield 13, 3) := by decide +kernel
theorem dX7_seenBy_9 : decode cX7_seenBy 9 = .ok (.iconst 0, 1) := by decide +kernel
theorem dX7_seenBy_10 : decode cX7_seenBy 10 = .ok (.iaload, 1) := by decide +kernel
theorem dX7_seenBy_11 : decode cX7_seenBy 11 = .ok (.if_icmp .ge 31, 3) := by decide +kernel
theorem dX7_seenBy_14 : decode cX7_seenBy 14 = .ok (.iload_n 2, 1) := by decide +kernel
theorem dX7_seenBy_15 : decode cX7_seenBy 15 = .ok (.iload_n 1, 1) := by decide +kernel
theorem dX7_seenBy_16 : decode cX7_seenBy 16 = .ok (.iload_n 3, 1) := by decide +kernel
theorem dX7_seenBy_17 : decode cX7_seenBy 17 = .ok (.ishr, 1) := by decide +kernel
theorem dX7_seenBy_18 : decode cX7_seenBy 18 = .ok (.iconst 1, 1) := by decide +kernel
theorem dX7_seenBy_19 : decode cX7_seenBy 19 = .ok (.iand, 1) := by decide +kernel
theorem dX7_seenBy_20 : decode cX7_seenBy 20 = .ok (.iconst 1, 1) := by decide +kernel
theorem dX7_seenBy_21 : decode cX7_seenBy 21 = .ok (.if_icmp .ne 12, 3) := by decide +kernel
theorem dX7_seenBy_24 : decode cX7_seenBy 24 = .ok (.aload_n 0, 1) := by decide +kernel
theorem dX7_seenBy_25 : decode cX7_seenBy 25 = .ok (.getfield 16, 3) := by decide +kernel
theorem dX7_seenBy_28 : decode cX7_seenBy 28 = .ok (.iload_n 3, 1) := by decide +kernel
theorem dX7_seenBy_29 : decode cX7_seenBy 29 = .ok (.iaload, 1) := by decide +kernel
theorem dX7_seenBy_30 : decode cX7_seenBy 30 = .ok (.goto 4, 3) := by decide +kernel
theorem dX7_seenBy_33 : decode cX7_seenBy 33 = .ok (.iconst 0, 1) := by decide +kernel
theorem dX7_seenBy_34 : decode cX7_seenBy 34 = .ok (.ior, 1) := by decide +kernel
theorem dX7_seenBy_35 : decode cX7_seenBy 35 = .ok (.istore_n 2, 1) := by decide +kernel
theorem dX7_seenBy_36 : decode cX7_seenBy 36 = .ok (.iinc 3 1, 3) := by decide +kernel
theorem dX7_seenBy_39 : decode cX7_seenBy 39 = .ok (.goto (-35), 3) := by decide +kernel
theorem dX7_seenBy_42 : decode cX7_seenBy 42 = .ok (.iload_n 2, 1) := by decide +kernel
theorem dX7_seenBy_43 : decode cX7_seenBy 43 = .ok (.ireturn, 1) := by decide +kernel
theorem dX7_leave_0 : decode cX7_leave 0 = .ok (.aload_n 0, 1) := by decide +kernel
theorem dX7_leave_1 : decode cX7_leave 1 = .ok (.iconst 0, 1) := by decide +kernel
theorem dX7_leave_2 : decode cX7_leave 2 = .ok (.putfield 56, 3) := by decide +kernel
theorem dX7_leave_5 : decode cX7_leave 5 = .ok (.iconst 1, 1) := by decide +kernel
theorem dX7_leave_6 : decode cX7_leave 6 = .ok (.aload_n 0, 1) := by decide +kernel
theorem dX7_leave_7 : decode cX7_leave 7 = .ok (.getfield 13, 3) := by decide +kernel
theorem dX7_leave_10 : decode cX7_leave 10 = .ok (.iconst 0, 1) := by decide +kernel
theorem dX7_leave_11 : decode cX7_leave 11 = .ok (.iaload, 1) := by decide +kernel
theorem dX7_leave_12 : decode cX7_leave 12 = .ok (.ishl, 1) := by decide +kernel
theorem dX7_leave_13 : decode cX7_leave 13 = .ok (.iconst 1, 1) := by decide +kernel
theorem dX7_leave_14 : decode cX7_leave 14 = .ok (.isub, 1) := by decide +kernel
theorem dX7_leave_15 : decode cX7_leave 15 = .ok (.istore_n 1, 1) := by decide +kernel
theorem dX7_leave_16 : decode cX7_leave 16 = .ok (.iconst 0, 1) := by decide +kernel
theorem dX7_leave_17 : decode cX7_leave 17 = .ok (.istore_n 2, 1) := by decide +kernel
theorem dX7_leave_18 : decode cX7_leave 18 = .ok (.iconst 1, 1) := by decide +kernel
theorem dX7_leave_19 : decode cX7_leave 19 = .ok (.istore_n 3, 1) := by decide +kernel
theorem dX7_leave_20 : decode cX7_leave 20 = .ok (.iload_n 3, 1) := by decide +kernel
theorem dX7_leave_21 : decode cX7_leave 21 = .ok (.iload_n 1, 1) := by decide +kernel
theorem dX7_leave_22 : decode cX7_leave 22 = .ok (.if_icmp .gt 42, 3) := by decide +kernel
theorem dX7_leave_25 : decode cX7_leave 25 = .ok (.iload_n 3, 1) := by decide +kernel
theorem dX7_leave_26 : decode cX7_leave 26 = .ok (.aload_n 0, 1) := by decide +kernel
theorem dX7_leave_27 : decode cX7_leave 27 = .ok (.iload_n 1, 1) := by decide +kernel
theorem dX7_leave_28 : decode cX7_leave 28 = .ok (.iload_n 3, 1) := by decide +kernel
theorem dX7_leave_29 : decode cX7_leave 29 = .ok (.iconst (-1), 1) := by decide +kernel
theorem dX7_leave_30 : decode cX7_leave 30 = .ok (.ixor, 1) := by decide +kernel
theorem dX7_leave_31 : decode cX7_leave 31 = .ok (.iand, 1) := by decide +kernel
theorem dX7_leave_32 : decode cX7_leave 32 = .ok (.invokevirtual 182, 3) := by decide +kernel
theorem dX7_leave_35 : decode cX7_leave 35 = .ok (.iconst (-1), 1) := by decide +kernel
theorem dX7_leave_36 : decode cX7_leave 36 = .ok (.ixor, 1) := by decide +kernel
theorem dX7_leave_37 : decode cX7_leave 37 = .ok (.iand, 1) := by decide +kernel
theorem dX7_leave_38 : decode cX7_leave 38 = .ok (.ifCond .ne 18, 3) := by decide +kernel
theorem dX7_leave_41 : decode cX7_leave 41 = .ok (.iload_n 3, 1) := by decide +kernel
theorem dX7_leave_42 : decode cX7_leave 42 = .ok (.invokestatic 151, 3) := by decide +kernel
theorem dX7_leave_45 : decode cX7_leave 45 = .ok (.iload_n 2, 1) := by decide +kernel
theorem dX7_leave_46 : decode cX7_leave 46 = .ok (.invokestatic 151, 3) := by decide +kernel
theorem dX7_leave_49 : decode cX7_leave 49 = .ok (.if_icmp .le 7, 3) := by decide +kernel
theorem dX7_leave_52 : decode cX7_leave 52 = .ok (.iload_n 3, 1) := by decide +kernel
theorem dX7_leave_53 : decode cX7_leave 53 = .ok (.goto 4, 3) := by decide +kernel
theorem dX7_leave_56 : decode cX7_leave 56 = .ok (.iload_n 2, 1) := by decide +kernel
theorem dX7_leave_57 : decode cX7_leave 57 = .ok (.istore_n 2, 1) := by decide +kernel
theorem dX7_leave_58 : decode cX7_leave 58 = .ok (.iinc 3 1, 3) := by decide +kernel
theorem dX7_leave_61 : decode cX7_leave 61 = .ok (.goto (-41), 3) := by decide +kernel
theorem dX7_leave_64 : decode cX7_leave 64 = .ok (.iload_n 2, 1) := by decide +kernel
theorem dX7_leave_65 : decode cX7_leave 65 = .ok (.ireturn, 1) := by decide +kernel
theorem dX7_two_0 : decode cX7_two 0 = .ok (.aload_n 0, 1) := by decide +kernel
theorem dX7_two_1 : decode cX7_two 1 = .ok (.iconst 0, 1) := by decide +kernel
theorem dX7_two_2 : decode cX7_two 2 = .ok (.putfield 56, 3) := by decide +kernel
theorem dX7_two_5 : decode cX7_two 5 = .ok (.bipush (-9), 2) := by decide +kernel
theorem dX7_two_7 : decode cX7_two 7 = .ok (.istore_n 1, 1) := by decide +kernel
theorem dX7_two_8 : decode cX7_two 8 = .ok (.iconst (-1), 1) := by decide +kernel
theorem dX7_two_9 : decode cX7_two 9 = .ok (.istore_n 2, 1) := by decide +kernel
theorem dX7_two_10 : decode cX7_two 10 = .ok (.iconst 0, 1) := by decide +kernel
theorem dX7_two_11 : decode cX7_two 11 = .ok (.istore_n 3, 1) := by decide +kernel
theorem dX7_two_12 : decode cX7_two 12 = .ok (.iload_n 3, 1) := by decide +kernel
theorem dX7_two_13 : decode cX7_two 13 = .ok (.aload_n 0, 1) := by decide +kernel
theorem dX7_two_14 : decode cX7_two 14 = .ok (.getfield 13, 3) := by decide +kernel
theorem dX7_two_17 : decode cX7_two 17 = .ok (.iconst 0, 1) := by decide +kernel
theorem dX7_two_18 : decode cX7_two 18 = .ok (.iaload, 1) := by decide +kernel
theorem dX7_two_19 : decode cX7_two 19 = .ok (.if_icmp .ge 68, 3) := by decide +kernel
theorem dX7_two_22 : decode cX7_two 22 = .ok (.aload_n 0, 1) := by decide +kernel
theorem dX7_two_23 : decode cX7_two 23 = .ok (.getfield 16, 3) := by decide +kernel
theorem dX7_two_26 : decode cX7_two 26 = .ok (.iload_n 3, 1) := by decide +kernel
theorem dX7_two_27 : decode cX7_two 27 = .ok (.iaload, 1) := by decide +kernel
theorem dX7_two_28 : decode cX7_two 28 = .ok (.aload_n 0, 1) := by decide +kernel
theorem dX7_two_29 : decode cX7_two 29 = .ok (.iconst 1, 1) := by decide +kernel
theorem dX7_two_30 : decode cX7_two 30 = .ok (.aload_n 0, 1) := by decide +kernel
theorem dX7_two_31 : decode cX7_two 31 = .ok (.getfield 13, 3) := by decide +kernel
theorem dX7_two_34 : decode cX7_two 34 = .ok (.iconst 0, 1) := by decide +kernel
theorem dX7_two_35 : decode cX7_two 35 = .ok (.iaload, 1) := by decide +kernel
theorem dX7_two_36 : decode cX7_two 36 = .ok (.ishl, 1) := by decide +kernel
theorem dX7_two_37 : decode cX7_two 37 = .ok (.iconst 1, 1) := by decide +kernel
theorem dX7_two_38 : decode cX7_two 38 = .ok (.isub, 1) := by decide +kernel
theorem dX7_two_39 : decode cX7_two 39 = .ok (.iconst 1, 1) := by decide +kernel
theorem dX7_two_40 : decode cX7_two 40 = .ok (.iload_n 3, 1) := by decide +kernel
theorem dX7_two_41 : decode cX7_two 41 = .ok (.ishl, 1) := by decide +kernel
theorem dX7_two_42 : decode cX7_two 42 = .ok (.iconst (-1), 1) := by decide +kernel
theorem dX7_two_43 : decode cX7_two 43 = .ok (.ixor, 1) := by decide +kernel
theorem dX7_two_44 : decode cX7_two 44 = .ok (.iand, 1) := by decide +kernel
theorem dX7_two_45 : decode cX7_two 45 = .ok (.invokevirtual 182, 3) := by decide +kernel
theorem dX7_two_48 : decode cX7_two 48 = .ok (.iconst (-1), 1) := by decide +kernel
theorem dX7_two_49 : decode cX7_two 49 = .ok (.ixor, 1) := by decide +kernel
theorem dX7_two_50 : decode cX7_two 50 = .ok (.iand, 1) := by decide +kernel
theorem dX7_two_51 : decode cX7_two 51 = .ok (.invokestatic 151, 3) := by decide +kernel
theorem dX7_two_54 : decode cX7_two 54 = .ok (.istore 4, 2) := by decide +kernel
theorem dX7_two_56 : decode cX7_two 56 = .ok (.iload 4, 2) := by decide +kernel
theorem dX7_two_58 : decode cX7_two 58 = .ok (.iload_n 2, 1) := by decide +kernel
theorem dX7_two_59 : decode cX7_two 59 = .ok (.if_icmp .le 7, 3) := by decide +kernel
theorem dX7_two_62 : decode cX7_two 62 = .ok (.iload_n 3, 1) := by decide +kernel
theorem dX7_two_63 : decode cX7_two 63 = .ok (.goto 4, 3) := by decide +kernel
theorem dX7_two_66 : decode cX7_two 66 = .ok (.iload_n 1, 1) := by decide +kernel
theorem dX7_two_67 : decode cX7_two 67 = .ok (.istore_n 1, 1) := by decide +kernel
theorem dX7_two_68 : decode cX7_two 68 = .ok (.iload 4, 2) := by decide +kernel
theorem dX7_two_70 : decode cX7_two 70 = .ok (.iload_n 2, 1) := by decide +kernel
theorem dX7_two_71 : decode cX7_two 71 = .ok (.if_icmp .le 8, 3) := by decide +kernel
theorem dX7_two_74 : decode cX7_two 74 = .ok (.iload 4, 2) := by decide +kernel
theorem dX7_two_76 : decode cX7_two 76 = .ok (.goto 4, 3) := by decide +kernel
theorem dX7_two_79 : decode cX7_two 79 = .ok (.iload_n 2, 1) := by decide +kernel
theorem dX7_two_80 : decode cX7_two 80 = .ok (.istore_n 2, 1) := by decide +kernel
theorem dX7_two_81 : decode cX7_two 81 = .ok (.iinc 3 1, 3) := by decide +kernel
theorem dX7_two_84 : decode cX7_two 84 = .ok (.goto (-72), 3) := by decide +kernel
theorem dX7_two_87 : decode cX7_two 87 = .ok (.iload_n 1, 1) := by decide +kernel
theorem dX7_two_88 : decode cX7_two 88 = .ok (.ireturn, 1) := by decide +kernel
theorem dX7_unseen_0 : decode cX7_unseen 0 = .ok (.aload_n 0, 1) := by decide +kernel
theorem dX7_unseen_1 : decode cX7_unseen 1 = .ok (.iconst 0, 1) := by decide +kernel
theorem dX7_unseen_2 : decode cX7_unseen 2 = .ok (.putfield 56, 3) := by decide +kernel
theorem dX7_unseen_5 : decode cX7_unseen 5 = .ok (.aload_n 0, 1) := by decide +kernel
theorem dX7_unseen_6 : decode cX7_unseen 6 = .ok (.iload_n 1, 1) := by decide +kernel
theorem dX7_unseen_7 : decode cX7_unseen 7 = .ok (.invokevirtual 120, 3) := by decide +kernel
theorem dX7_unseen_10 : decode cX7_unseen 10 = .ok (.ifCond .eq 13, 3) := by decide +kernel
theorem dX7_unseen_13 : decode cX7_unseen 13 = .ok (.iload_n 2, 1) := by decide +kernel
theorem dX7_unseen_14 : decode cX7_unseen 14 = .ok (.iconst 1, 1) := by decide +kernel
theorem dX7_unseen_15 : decode cX7_unseen 15 = .ok (.bipush 12, 2) := by decide +kernel
theorem dX7_unseen_17 : decode cX7_unseen 17 = .ok (.invokestatic 60, 3) := by decide +kernel
theorem dX7_unseen_20 : decode cX7_unseen 20 = .ok (.ifCond .ne 5, 3) := by decide +kernel
theorem dX7_unseen_23 : decode cX7_unseen 23 = .ok (.iconst (-1), 1) := by decide +kernel
theorem dX7_unseen_24 : decode cX7_unseen 24 = .ok (.ireturn, 1) := by decide +kernel
theorem dX7_unseen_25 : decode cX7_unseen 25 = .ok (.aload_n 0, 1) := by decide +kernel
theorem dX7_unseen_26 : decode cX7_unseen 26 = .ok (.invokevirtual 165, 3) := by decide +kernel
theorem dX7_unseen_29 : decode cX7_unseen 29 = .ok (.iconst 1, 1) := by decide +kernel
theorem dX7_unseen_30 : decode cX7_unseen 30 = .ok (.istore_n 3, 1) := by decide +kernel
theorem dX7_unseen_31 : decode cX7_unseen 31 = .ok (.iconst 0, 1) := by decide +kernel
theorem dX7_unseen_32 : decode cX7_unseen 32 = .ok (.istore 4, 2) := by decide +kernel
theorem dX7_unseen_34 : decode cX7_unseen 34 = .ok (.iload 4, 2) := by decide +kernel
theorem dX7_unseen_36 : decode cX7_unseen 36 = .ok (.iload_n 2, 1) := by decide +kernel
theorem dX7_unseen_37 : decode cX7_unseen 37 = .ok (.if_icmp .ge 39, 3) := by decide +kernel
theorem dX7_unseen_40 : decode cX7_unseen 40 = .ok (.aload_n 0, 1) := by decide +kernel
theorem dX7_unseen_41 : decode cX7_unseen 41 = .ok (.iconst 0, 1) := by decide +kernel
theorem dX7_unseen_42 : decode cX7_unseen 42 = .ok (.invokevirtual 168, 3) := by decide +kernel
theorem dX7_unseen_45 : decode cX7_unseen 45 = .ok (.iload_n 3, 1) := by decide +kernel
theorem dX7_unseen_46 : decode cX7_unseen 46 = .ok (.ifCond .eq 22, 3) := by decide +kernel
theorem dX7_unseen_49 : decode cX7_unseen 49 = .ok (.aload_n 0, 1) := by decide +kernel
theorem dX7_unseen_50 : decode cX7_unseen 50 = .ok (.aload_n 0, 1) := by decide +kernel
theorem dX7_unseen_51 : decode cX7_unseen 51 = .ok (.getfield 28, 3) := by decide +kernel
theorem dX7_unseen_54 : decode cX7_unseen 54 = .ok (.invokevirtual 145, 3) := by decide +kernel
theorem dX7_unseen_57 : decode cX7_unseen 57 = .ok (.iload_n 1, 1) := by decide +kernel
theorem dX7_unseen_58 : decode cX7_unseen 58 = .ok (.ishr, 1) := by decide +kernel
theorem dX7_unseen_59 : decode cX7_unseen 59 = .ok (.iconst 1, 1) := by decide +kernel
theorem dX7_unseen_60 : decode cX7_unseen 60 = .ok (.iand, 1) := by decide +kernel
theorem dX7_unseen_61 : decode cX7_unseen 61 = .ok (.ifCond .ne 7, 3) := by decide +kernel
theorem dX7_unseen_64 : decode cX7_unseen 64 = .ok (.iconst 1, 1) := by decide +kernel
theorem dX7_unseen_65 : decode cX7_unseen 65 = .ok (.goto 4, 3) := by decide +kernel
theorem dX7_unseen_68 : decode cX7_unseen 68 = .ok (.iconst 0, 1) := by decide +kernel
theorem dX7_unseen_69 : decode cX7_unseen 69 = .ok (.istore_n 3, 1) := by decide +kernel
theorem dX7_unseen_70 : decode cX7_unseen 70 = .ok (.iinc 4 1, 3) := by decide +kernel
theorem dX7_unseen_73 : decode cX7_unseen 73 = .ok (.goto (-39), 3) := by decide +kernel
theorem dX7_unseen_76 : decode cX7_unseen 76 = .ok (.iload_n 3, 1) := by decide +kernel
theorem dX7_unseen_77 : decode cX7_unseen 77 = .ok (.ifCond .eq 7, 3) := by decide +kernel
theorem dX7_unseen_80 : decode cX7_unseen 80 = .ok (.iconst 1, 1) := by decide +kernel
theorem dX7_unseen_81 : decode cX7_unseen 81 = .ok (.goto 4, 3) := by decide +kernel
theorem dX7_unseen_84 : decode cX7_unseen 84 = .ok (.iconst 0, 1) := by decide +kernel
theorem dX7_unseen_85 : decode cX7_unseen 85 = .ok (.ireturn, 1) := by decide +kernel
theorem dX7_gcd_0 : decode cX7_gcd 0 = .ok (.iload_n 0, 1) := by decide +kernel
theorem dX7_gcd_1 : decode cX7_gcd 1 = .ok (.istore_n 2, 1) := by decide +kernel
theorem dX7_gcd_2 : decode cX7_gcd 2 = .ok (.iload_n 1, 1) := by decide +kernel
theorem dX7_gcd_3 : decode cX7_gcd 3 = .ok (.istore_n 3, 1) := by decide +kernel
theorem dX7_gcd_4 : decode cX7_gcd 4 = .ok (.iload_n 3, 1) := by decide +kernel
theorem dX7_gcd_5 : decode cX7_gcd 5 = .ok (.ifCond .eq 16, 3) := by decide +kernel
theorem dX7_gcd_8 : decode cX7_gcd 8 = .ok (.iload_n 2, 1) := by decide +kernel
theorem dX7_gcd_9 : decode cX7_gcd 9 = .ok (.iload_n 3, 1) := by decide +kernel
theorem dX7_gcd_10 : decode cX7_gcd 10 = .ok (.irem, 1) := by decide +kernel
theorem dX7_gcd_11 : decode cX7_gcd 11 = .ok (.istore 4, 2) := by decide +kernel
theorem dX7_gcd_13 : decode cX7_gcd 13 = .ok (.iload_n 3, 1) := by decide +kernel
theorem dX7_gcd_14 : decode cX7_gcd 14 = .ok (.istore_n 2, 1) := by decide +kernel
theorem dX7_gcd_15 : decode cX7_gcd 15 = .ok (.iload 4, 2) := by decide +kernel
theorem dX7_gcd_17 : decode cX7_gcd 17 = .ok (.istore_n 3, 1) := by decide +kernel
theorem dX7_gcd_18 : decode cX7_gcd 18 = .ok (.goto (-14), 3) := by decide +kernel
theorem dX7_gcd_21 : decode cX7_gcd 21 = .ok (.iload_n 2, 1) := by decide +kernel
theorem dX7_gcd_22 : decode cX7_gcd 22 = .ok (.ireturn, 1) := by decide +kernel
theorem dX7_part_0 : decode cX7_part 0 = .ok (.iload_n 0, 1) := by decide +kernel
theorem dX7_part_1 : decode cX7_part 1 = .ok (.iload_n 1, 1) := by decide +kernel
theorem dX7_part_2 : decode cX7_part 2 = .ok (.invokestatic 185, 3) := by decide +kernel
theorem dX7_part_5 : decode cX7_part 5 = .ok (.istore_n 3, 1) := by decide +kernel
theorem dX7_part_6 : decode cX7_part 6 = .ok (.iload_n 2, 1) := by decide +kernel
theorem dX7_part_7 : decode cX7_part 7 = .ok (.ifCond .ne 9, 3) := by decide +kernel
theorem dX7_part_10 : decode cX7_part 10 = .ok (.iload_n 0, 1) := by decide +kernel
theorem dX7_part_11 : decode cX7_part 11 = .ok (.iload_n 3, 1) := by decide +kernel
theorem dX7_part_12 : decode cX7_part 12 = .ok (.idiv, 1) := by decide +kernel
theorem dX7_part_13 : decode cX7_part 13 = .ok (.goto 6, 3) := by decide +kernel
theorem dX7_part_16 : decode cX7_part 16 = .ok (.iload_n 1, 1) := by decide +kernel
theorem dX7_part_17 : decode cX7_part 17 = .ok (.iload_n 3, 1) := by decide +kernel
theorem dX7_part_18 : decode cX7_part 18 = .ok (.idiv, 1) := by decide +kernel
theorem dX7_part_19 : decode cX7_part 19 = .ok (.ireturn, 1) := by decide +kernel
theorem dX7_odds_0 : decode cX7_odds 0 = .ok (.aload_n 0, 1) := by decide +kernel
theorem dX7_odds_1 : decode cX7_odds 1 = .ok (.iconst 0, 1) := by decide +kernel
theorem dX7_odds_2 : decode cX7_odds 2 = .ok (.putfield 56, 3) := by decide +kernel
theorem dX7_odds_5 : decode cX7_odds 5 = .ok (.iload_n 1, 1) := by decide +kernel
theorem dX7_odds_6 : decode cX7_odds 6 = .ok (.iconst 0, 1) := by decide +kernel
theorem dX7_odds_7 : decode cX7_odds 7 = .ok (.bipush 10, 2) := by decide +kernel
theorem dX7_odds_9 : decode cX7_odds 9 = .ok (.invokestatic 60, 3) := by decide +kernel
theorem dX7_odds_12 : decode cX7_odds 12 = .ok (.ifCond .eq 12, 3) := by decide +kernel
theorem dX7_odds_15 : decode cX7_odds 15 = .ok (.iload_n 2, 1) := by decide +kernel
theorem dX7_odds_16 : decode cX7_odds 16 = .ok (.iconst 0, 1) := by decide +kernel
theorem dX7_odds_17 : decode cX7_odds 17 = .ok (.iconst 1, 1) := by decide +kernel
theorem dX7_odds_18 : decode cX7_odds 18 = .ok (.invokestatic 60, 3) := by decide +kernel
theorem dX7_odds_21 : decode cX7_odds 21 = .ok (.ifCond .ne 5, 3) := by decide +kernel
theorem dX7_odds_24 : decode cX7_odds 24 = .ok (.iconst (-1), 1) := by decide +kernel
theorem dX7_odds_25 : decode cX7_odds 25 = .ok (.ireturn, 1) := by decide +kernel
theorem dX7_odds_26 : decode cX7_odds 26 = .ok (.aload_n 0, 1) := by decide +kernel
theorem dX7_odds_27 : decode cX7_odds 27 = .ok (.aload_n 0, 1) := by decide +kernel
theorem dX7_odds_28 : decode cX7_odds 28 = .ok (.getfield 25, 3) := by decide +kernel
theorem dX7_odds_31 : decode cX7_odds 31 = .ok (.invokevirtual 139, 3) := by decide +kernel
theorem dX7_odds_34 : decode cX7_odds 34 = .ok (.istore_n 3, 1) := by decide +kernel
theorem dX7_odds_35 : decode cX7_odds 35 = .ok (.iconst 0, 1) := by decide +kernel
theorem dX7_odds_36 : decode cX7_odds 36 = .ok (.istore 4, 2) := by decide +kernel
theorem dX7_odds_38 : decode cX7_odds 38 = .ok (.iconst 1, 1) := by decide +kernel
theorem dX7_odds_39 : decode cX7_odds 39 = .ok (.istore 5, 2) := by decide +kernel
theorem dX7_odds_41 : decode cX7_odds 41 = .ok (.iconst 0, 1) := by decide +kernel
theorem dX7_odds_42 : decode cX7_odds 42 = .ok (.istore 6, 2) := by decide +kernel
theorem dX7_odds_44 : decode cX7_odds 44 = .ok (.iload 6, 2) := by decide +kernel
theorem dX7_odds_46 : decode cX7_odds 46 = .ok (.iload_n 3, 1) := by decide +kernel
theorem dX7_odds_47 : decode cX7_odds 47 = .ok (.invokestatic 151, 3) := by decide +kernel
theorem dX7_odds_50 : decode cX7_odds 50 = .ok (.if_icmp .ge 16, 3) := by decide +kernel
theorem dX7_odds_53 : decode cX7_odds 53 = .ok (.iload 5, 2) := by decide +kernel
theorem dX7_odds_55 : decode cX7_odds 55 = .ok (.bipush 10, 2) := by decide +kernel
theorem dX7_odds_57 : decode cX7_odds 57 = .ok (.imul, 1) := by decide +kernel
theorem dX7_odds_58 : decode cX7_odds 58 = .ok (.istore 5, 2) := by decide +kernel
theorem dX7_odds_60 : decode cX7_odds 60 = .ok (.iinc 6 1, 3) := by decide +kernel
theorem dX7_odds_63 : decode cX7_odds 63 = .ok (.goto (-19), 3) := by decide +kernel
theorem dX7_odds_66 : decode cX7_odds 66 = .ok (.iconst 0, 1) := by decide +kernel
theorem dX7_odds_67 : decode cX7_odds 67 = .ok (.istore 6, 2) := by decide +kernel
theorem dX7_odds_69 : decode cX7_odds 69 = .ok (.iload 6, 2) := by decide +kernel
theorem dX7_odds_71 : decode cX7_odds 71 = .ok (.bipush 32, 2) := by decide +kernel
theorem dX7_odds_73 : decode cX7_odds 73 = .ok (.if_icmp .ge 112, 3) := by decide +kernel
theorem dX7_odds_76 : decode cX7_odds 76 = .ok (.iload 6, 2) := by decide +kernel
theorem dX7_odds_78 : decode cX7_odds 78 = .ok (.iload_n 3, 1) := by decide +kernel
theorem dX7_odds_79 : decode cX7_odds 79 = .ok (.iconst (-1), 1) := by decide +kernel
theorem dX7_odds_80 : decode cX7_odds 80 = .ok (.ixor, 1) := by decide +kernel
theorem dX7_odds_81 : decode cX7_odds 81 = .ok (.iand, 1) := by decide +kernel
theorem dX7_odds_82 : decode cX7_odds 82 = .ok (.ifCond .ne 97, 3) := by decide +kernel
theorem dX7_odds_85 : decode cX7_odds 85 = .ok (.aload_n 0, 1) := by decide +kernel
theorem dX7_odds_86 : decode cX7_odds 86 = .ok (.aload_n 0, 1) := by decide +kernel
theorem dX7_odds_87 : decode cX7_odds 87 = .ok (.aload_n 0, 1) := by decide +kernel
theorem dX7_odds_88 : decode cX7_odds 88 = .ok (.getfield 25, 3) := by decide +kernel
theorem dX7_odds_91 : decode cX7_odds 91 = .ok (.invokevirtual 135, 3) := by decide +kernel
theorem dX7_odds_94 : decode cX7_odds 94 = .ok (.iload_n 3, 1) := by decide +kernel
theorem dX7_odds_95 : decode cX7_odds 95 = .ok (.iconst (-1), 1) := by decide +kernel
theorem dX7_odds_96 : decode cX7_odds 96 = .ok (.ixor, 1) := by decide +kernel
theorem dX7_odds_97 : decode cX7_odds 97 = .ok (.iand, 1) := by decide +kernel
theorem dX7_odds_98 : decode cX7_odds 98 = .ok (.iload 6, 2) := by decide +kernel
theorem dX7_odds_100 : decode cX7_odds 100 = .ok (.ior, 1) := by decide +kernel
theorem dX7_odds_101 : decode cX7_odds 101 = .ok (.invokevirtual 142, 3) := by decide +kernel
theorem dX7_odds_104 : decode cX7_odds 104 = .ok (.iconst 1, 1) := by decide +kernel
theorem dX7_odds_105 : decode cX7_odds 105 = .ok (.aload_n 0, 1) := by decide +kernel
theorem dX7_odds_106 : decode cX7_odds 106 = .ok (.getfield 13, 3) := by decide +kernel
theorem dX7_odds_109 : decode cX7_odds 109 = .ok (.iconst 0, 1) := by decide +kernel
theorem dX7_odds_110 : decode cX7_odds 110 = .ok (.iaload, 1) := by decide +kernel
end
section
theorem dX7_odds_111 : decode cX7_odds 111 = .ok (.ishl, 1) := by decide +kernel
theorem dX7_odds_112 : decode cX7_odds 112 = .ok (.iconst 1, 1) := by decide +kernel
theorem dX7_odds_113 : decode cX7_odds 113 = .ok (.isub, 1) := by decide +kernel
theorem dX7_odds_114 : decode cX7_odds 114 = .ok (.if_icmp .ne 65, 3) := by decide +kernel
theorem dX7_odds_117 : decode cX7_odds 117 = .ok (.iconst 1, 1) := by decide +kernel
theorem dX7_odds_118 : decode cX7_odds 118 = .ok (.istore 7, 2) := by decide +kernel
theorem dX7_odds_120 : decode cX7_odds 120 = .ok (.iconst 0, 1) := by decide +kernel
theorem dX7_odds_121 : decode cX7_odds 121 = .ok (.istore 8, 2) := by decide +kernel
theorem dX7_odds_123 : decode cX7_odds 123 = .ok (.iload 8, 2) := by decide +kernel
theorem dX7_odds_125 : decode cX7_odds 125 = .ok (.iconst 5, 1) := by decide +kernel
theorem dX7_odds_126 : decode cX7_odds 126 = .ok (.if_icmp .ge 46, 3) := by decide +kernel
theorem dX7_odds_129 : decode cX7_odds 129 = .ok (.iload 7, 2) := by decide +kernel
theorem dX7_odds_131 : decode cX7_odds 131 = .ok (.iload_n 3, 1) := by decide +kernel
theorem dX7_odds_132 : decode cX7_odds 132 = .ok (.iload 8, 2) := by decide +kernel
theorem dX7_odds_134 : decode cX7_odds 134 = .ok (.ishr, 1) := by decide +kernel
theorem dX7_odds_135 : decode cX7_odds 135 = .ok (.iconst 1, 1) := by decide +kernel
theorem dX7_odds_136 : decode cX7_odds 136 = .ok (.iand, 1) := by decide +kernel
theorem dX7_odds_137 : decode cX7_odds 137 = .ok (.ifCond .ne 7, 3) := by decide +kernel
theorem dX7_odds_140 : decode cX7_odds 140 = .ok (.iconst 1, 1) := by decide +kernel
theorem dX7_odds_141 : decode cX7_odds 141 = .ok (.goto 22, 3) := by decide +kernel
theorem dX7_odds_144 : decode cX7_odds 144 = .ok (.iload 6, 2) := by decide +kernel
theorem dX7_odds_146 : decode cX7_odds 146 = .ok (.iload 8, 2) := by decide +kernel
theorem dX7_odds_148 : decode cX7_odds 148 = .ok (.ishr, 1) := by decide +kernel
theorem dX7_odds_149 : decode cX7_odds 149 = .ok (.iconst 1, 1) := by decide +kernel
theorem dX7_odds_150 : decode cX7_odds 150 = .ok (.iand, 1) := by decide +kernel
theorem dX7_odds_151 : decode cX7_odds 151 = .ok (.iconst 1, 1) := by decide +kernel
theorem dX7_odds_152 : decode cX7_odds 152 = .ok (.if_icmp .ne 7, 3) := by decide +kernel
theorem dX7_odds_155 : decode cX7_odds 155 = .ok (.iload_n 1, 1) := by decide +kernel
theorem dX7_odds_156 : decode cX7_odds 156 = .ok (.goto 7, 3) := by decide +kernel
theorem dX7_odds_159 : decode cX7_odds 159 = .ok (.bipush 10, 2) := by decide +kernel
theorem dX7_odds_161 : decode cX7_odds 161 = .ok (.iload_n 1, 1) := by decide +kernel
theorem dX7_odds_162 : decode cX7_odds 162 = .ok (.isub, 1) := by decide +kernel
theorem dX7_odds_163 : decode cX7_odds 163 = .ok (.imul, 1) := by decide +kernel
theorem dX7_odds_164 : decode cX7_odds 164 = .ok (.istore 7, 2) := by decide +kernel
theorem dX7_odds_166 : decode cX7_odds 166 = .ok (.iinc 8 1, 3) := by decide +kernel
theorem dX7_odds_169 : decode cX7_odds 169 = .ok (.goto (-46), 3) := by decide +kernel
theorem dX7_odds_172 : decode cX7_odds 172 = .ok (.iload 4, 2) := by decide +kernel
theorem dX7_odds_174 : decode cX7_odds 174 = .ok (.iload 7, 2) := by decide +kernel
theorem dX7_odds_176 : decode cX7_odds 176 = .ok (.iadd, 1) := by decide +kernel
theorem dX7_odds_177 : decode cX7_odds 177 = .ok (.istore 4, 2) := by decide +kernel
theorem dX7_odds_179 : decode cX7_odds 179 = .ok (.iinc 6 1, 3) := by decide +kernel
theorem dX7_odds_182 : decode cX7_odds 182 = .ok (.goto (-113), 3) := by decide +kernel
theorem dX7_odds_185 : decode cX7_odds 185 = .ok (.iload 4, 2) := by decide +kernel
theorem dX7_odds_187 : decode cX7_odds 187 = .ok (.iload 5, 2) := by decide +kernel
theorem dX7_odds_189 : decode cX7_odds 189 = .ok (.iload_n 2, 1) := by decide +kernel
theorem dX7_odds_190 : decode cX7_odds 190 = .ok (.invokestatic 188, 3) := by decide +kernel
theorem dX7_odds_193 : decode cX7_odds 193 = .ok (.ireturn, 1) := by decide +kernel
theorem dX7_lowest_0 : decode cX7_lowest 0 = .ok (.iconst 0, 1) := by decide +kernel
theorem dX7_lowest_1 : decode cX7_lowest 1 = .ok (.istore_n 1, 1) := by decide +kernel
theorem dX7_lowest_2 : decode cX7_lowest 2 = .ok (.iload_n 0, 1) := by decide +kernel
theorem dX7_lowest_3 : decode cX7_lowest 3 = .ok (.iload_n 1, 1) := by decide +kernel
theorem dX7_lowest_4 : decode cX7_lowest 4 = .ok (.ishr, 1) := by decide +kernel
theorem dX7_lowest_5 : decode cX7_lowest 5 = .ok (.iconst 1, 1) := by decide +kernel
theorem dX7_lowest_6 : decode cX7_lowest 6 = .ok (.iand, 1) := by decide +kernel
theorem dX7_lowest_7 : decode cX7_lowest 7 = .ok (.ifCond .ne 9, 3) := by decide +kernel
theorem dX7_lowest_10 : decode cX7_lowest 10 = .ok (.iinc 1 1, 3) := by decide +kernel
theorem dX7_lowest_13 : decode cX7_lowest 13 = .ok (.goto (-11), 3) := by decide +kernel
theorem dX7_lowest_16 : decode cX7_lowest 16 = .ok (.iload_n 1, 1) := by decide +kernel
theorem dX7_lowest_17 : decode cX7_lowest 17 = .ok (.ireturn, 1) := by decide +kernel
theorem dX7_creep_0 : decode cX7_creep 0 = .ok (.aload_n 0, 1) := by decide +kernel
theorem dX7_creep_1 : decode cX7_creep 1 = .ok (.iconst 0, 1) := by decide +kernel
theorem dX7_creep_2 : decode cX7_creep 2 = .ok (.putfield 56, 3) := by decide +kernel
theorem dX7_creep_5 : decode cX7_creep 5 = .ok (.iload_n 1, 1) := by decide +kernel
theorem dX7_creep_6 : decode cX7_creep 6 = .ok (.iconst 1, 1) := by decide +kernel
theorem dX7_creep_7 : decode cX7_creep 7 = .ok (.bipush 24, 2) := by decide +kernel
theorem dX7_creep_9 : decode cX7_creep 9 = .ok (.invokestatic 60, 3) := by decide +kernel
theorem dX7_creep_12 : decode cX7_creep 12 = .ok (.ifCond .eq 12, 3) := by decide +kernel
theorem dX7_creep_15 : decode cX7_creep 15 = .ok (.iload_n 2, 1) := by decide +kernel
theorem dX7_creep_16 : decode cX7_creep 16 = .ok (.iconst 0, 1) := by decide +kernel
theorem dX7_creep_17 : decode cX7_creep 17 = .ok (.iconst 1, 1) := by decide +kernel
theorem dX7_creep_18 : decode cX7_creep 18 = .ok (.invokestatic 60, 3) := by decide +kernel
theorem dX7_creep_21 : decode cX7_creep 21 = .ok (.ifCond .ne 5, 3) := by decide +kernel
theorem dX7_creep_24 : decode cX7_creep 24 = .ok (.iconst (-1), 1) := by decide +kernel
theorem dX7_creep_25 : decode cX7_creep 25 = .ok (.ireturn, 1) := by decide +kernel
theorem dX7_creep_26 : decode cX7_creep 26 = .ok (.aload_n 0, 1) := by decide +kernel
theorem dX7_creep_27 : decode cX7_creep 27 = .ok (.invokevirtual 165, 3) := by decide +kernel
theorem dX7_creep_30 : decode cX7_creep 30 = .ok (.iconst 0, 1) := by decide +kernel
theorem dX7_creep_31 : decode cX7_creep 31 = .ok (.istore_n 3, 1) := by decide +kernel
theorem dX7_creep_32 : decode cX7_creep 32 = .ok (.iload_n 3, 1) := by decide +kernel
theorem dX7_creep_33 : decode cX7_creep 33 = .ok (.iload_n 1, 1) := by decide +kernel
theorem dX7_creep_34 : decode cX7_creep 34 = .ok (.if_icmp .gt 45, 3) := by decide +kernel
theorem dX7_creep_37 : decode cX7_creep 37 = .ok (.aload_n 0, 1) := by decide +kernel
theorem dX7_creep_38 : decode cX7_creep 38 = .ok (.aload_n 0, 1) := by decide +kernel
theorem dX7_creep_39 : decode cX7_creep 39 = .ok (.getfield 28, 3) := by decide +kernel
theorem dX7_creep_42 : decode cX7_creep 42 = .ok (.invokevirtual 139, 3) := by decide +kernel
theorem dX7_creep_45 : decode cX7_creep 45 = .ok (.ifCond .eq 23, 3) := by decide +kernel
theorem dX7_creep_48 : decode cX7_creep 48 = .ok (.iload_n 2, 1) := by decide +kernel
theorem dX7_creep_49 : decode cX7_creep 49 = .ok (.ifCond .ne 7, 3) := by decide +kernel
theorem dX7_creep_52 : decode cX7_creep 52 = .ok (.iload_n 3, 1) := by decide +kernel
theorem dX7_creep_53 : decode cX7_creep 53 = .ok (.goto 14, 3) := by decide +kernel
theorem dX7_creep_56 : decode cX7_creep 56 = .ok (.aload_n 0, 1) := by decide +kernel
theorem dX7_creep_57 : decode cX7_creep 57 = .ok (.aload_n 0, 1) := by decide +kernel
theorem dX7_creep_58 : decode cX7_creep 58 = .ok (.getfield 28, 3) := by decide +kernel
theorem dX7_creep_61 : decode cX7_creep 61 = .ok (.invokevirtual 139, 3) := by decide +kernel
theorem dX7_creep_64 : decode cX7_creep 64 = .ok (.invokestatic 192, 3) := by decide +kernel
theorem dX7_creep_67 : decode cX7_creep 67 = .ok (.ireturn, 1) := by decide +kernel
theorem dX7_creep_68 : decode cX7_creep 68 = .ok (.aload_n 0, 1) := by decide +kernel
theorem dX7_creep_69 : decode cX7_creep 69 = .ok (.iconst 1, 1) := by decide +kernel
theorem dX7_creep_70 : decode cX7_creep 70 = .ok (.invokevirtual 168, 3) := by decide +kernel
theorem dX7_creep_73 : decode cX7_creep 73 = .ok (.iinc 3 1, 3) := by decide +kernel
theorem dX7_creep_76 : decode cX7_creep 76 = .ok (.goto (-44), 3) := by decide +kernel
theorem dX7_creep_79 : decode cX7_creep 79 = .ok (.bipush (-9), 2) := by decide +kernel
theorem dX7_creep_81 : decode cX7_creep 81 = .ok (.ireturn, 1) := by decide +kernel
theorem dX7_found_0 : decode cX7_found 0 = .ok (.aload_n 0, 1) := by decide +kernel
theorem dX7_found_1 : decode cX7_found 1 = .ok (.iconst 0, 1) := by decide +kernel
theorem dX7_found_2 : decode cX7_found 2 = .ok (.putfield 56, 3) := by decide +kernel
theorem dX7_found_5 : decode cX7_found 5 = .ok (.aload_n 0, 1) := by decide +kernel
theorem dX7_found_6 : decode cX7_found 6 = .ok (.iload_n 1, 1) := by decide +kernel
theorem dX7_found_7 : decode cX7_found 7 = .ok (.invokevirtual 128, 3) := by decide +kernel
theorem dX7_found_10 : decode cX7_found 10 = .ok (.ifCond .eq 22, 3) := by decide +kernel
theorem dX7_found_13 : decode cX7_found 13 = .ok (.iload_n 2, 1) := by decide +kernel
theorem dX7_found_14 : decode cX7_found 14 = .ok (.iconst 0, 1) := by decide +kernel
theorem dX7_found_15 : decode cX7_found 15 = .ok (.bipush 24, 2) := by decide +kernel
theorem dX7_found_17 : decode cX7_found 17 = .ok (.invokestatic 60, 3) := by decide +kernel
theorem dX7_found_20 : decode cX7_found 20 = .ok (.ifCond .eq 12, 3) := by decide +kernel
theorem dX7_found_23 : decode cX7_found 23 = .ok (.iload_n 3, 1) := by decide +kernel
theorem dX7_found_24 : decode cX7_found 24 = .ok (.iconst 0, 1) := by decide +kernel
theorem dX7_found_25 : decode cX7_found 25 = .ok (.iconst 1, 1) := by decide +kernel
theorem dX7_found_26 : decode cX7_found 26 = .ok (.invokestatic 60, 3) := by decide +kernel
theorem dX7_found_29 : decode cX7_found 29 = .ok (.ifCond .ne 5, 3) := by decide +kernel
theorem dX7_found_32 : decode cX7_found 32 = .ok (.iconst (-1), 1) := by decide +kernel
theorem dX7_found_33 : decode cX7_found 33 = .ok (.ireturn, 1) := by decide +kernel
theorem dX7_found_34 : decode cX7_found 34 = .ok (.aload_n 0, 1) := by decide +kernel
theorem dX7_found_35 : decode cX7_found 35 = .ok (.getfield 114, 3) := by decide +kernel
theorem dX7_found_38 : decode cX7_found 38 = .ok (.bipush 6, 2) := by decide +kernel
theorem dX7_found_40 : decode cX7_found 40 = .ok (.if_icmp .ne 6, 3) := by decide +kernel
theorem dX7_found_43 : decode cX7_found 43 = .ok (.bipush (-3), 2) := by decide +kernel
theorem dX7_found_45 : decode cX7_found 45 = .ok (.ireturn, 1) := by decide +kernel
theorem dX7_found_46 : decode cX7_found 46 = .ok (.aload_n 0, 1) := by decide +kernel
theorem dX7_found_47 : decode cX7_found 47 = .ok (.getfield 41, 3) := by decide +kernel
theorem dX7_found_50 : decode cX7_found 50 = .ok (.aload_n 0, 1) := by decide +kernel
theorem dX7_found_51 : decode cX7_found 51 = .ok (.getfield 114, 3) := by decide +kernel
theorem dX7_found_54 : decode cX7_found 54 = .ok (.iload_n 1, 1) := by decide +kernel
theorem dX7_found_55 : decode cX7_found 55 = .ok (.iastore, 1) := by decide +kernel
theorem dX7_found_56 : decode cX7_found 56 = .ok (.aload_n 0, 1) := by decide +kernel
theorem dX7_found_57 : decode cX7_found 57 = .ok (.getfield 44, 3) := by decide +kernel
theorem dX7_found_60 : decode cX7_found 60 = .ok (.aload_n 0, 1) := by decide +kernel
theorem dX7_found_61 : decode cX7_found 61 = .ok (.getfield 114, 3) := by decide +kernel
theorem dX7_found_64 : decode cX7_found 64 = .ok (.iload_n 2, 1) := by decide +kernel
theorem dX7_found_65 : decode cX7_found 65 = .ok (.iastore, 1) := by decide +kernel
theorem dX7_found_66 : decode cX7_found 66 = .ok (.aload_n 0, 1) := by decide +kernel
theorem dX7_found_67 : decode cX7_found 67 = .ok (.getfield 47, 3) := by decide +kernel
theorem dX7_found_70 : decode cX7_found 70 = .ok (.aload_n 0, 1) := by decide +kernel
theorem dX7_found_71 : decode cX7_found 71 = .ok (.getfield 114, 3) := by decide +kernel
theorem dX7_found_74 : decode cX7_found 74 = .ok (.iload_n 3, 1) := by decide +kernel
theorem dX7_found_75 : decode cX7_found 75 = .ok (.iastore, 1) := by decide +kernel
theorem dX7_found_76 : decode cX7_found 76 = .ok (.aload_n 0, 1) := by decide +kernel
theorem dX7_found_77 : decode cX7_found 77 = .ok (.dup, 1) := by decide +kernel
theorem dX7_found_78 : decode cX7_found 78 = .ok (.getfield 114, 3) := by decide +kernel
theorem dX7_found_81 : decode cX7_found 81 = .ok (.iconst 1, 1) := by decide +kernel
theorem dX7_found_82 : decode cX7_found 82 = .ok (.iadd, 1) := by decide +kernel
theorem dX7_found_83 : decode cX7_found 83 = .ok (.putfield 114, 3) := by decide +kernel
theorem dX7_found_86 : decode cX7_found 86 = .ok (.aload_n 0, 1) := by decide +kernel
theorem dX7_found_87 : decode cX7_found 87 = .ok (.getfield 114, 3) := by decide +kernel
theorem dX7_found_90 : decode cX7_found 90 = .ok (.ireturn, 1) := by decide +kernel
theorem dX7_forget_0 : decode cX7_forget 0 = .ok (.aload_n 0, 1) := by decide +kernel
theorem dX7_forget_1 : decode cX7_forget 1 = .ok (.iconst 0, 1) := by decide +kernel
theorem dX7_forget_2 : decode cX7_forget 2 = .ok (.putfield 56, 3) := by decide +kernel
theorem dX7_forget_5 : decode cX7_forget 5 = .ok (.aload_n 0, 1) := by decide +kernel
theorem dX7_forget_6 : decode cX7_forget 6 = .ok (.getfield 114, 3) := by decide +kernel
theorem dX7_forget_9 : decode cX7_forget 9 = .ok (.istore_n 1, 1) := by decide +kernel
theorem dX7_forget_10 : decode cX7_forget 10 = .ok (.aload_n 0, 1) := by decide +kernel
theorem dX7_forget_11 : decode cX7_forget 11 = .ok (.iconst 0, 1) := by decide +kernel
theorem dX7_forget_12 : decode cX7_forget 12 = .ok (.putfield 114, 3) := by decide +kernel
theorem dX7_forget_15 : decode cX7_forget 15 = .ok (.iload_n 1, 1) := by decide +kernel
theorem dX7_forget_16 : decode cX7_forget 16 = .ok (.ireturn, 1) := by decide +kernel
theorem dX7_isFit_0 : decode cX7_isFit 0 = .ok (.iconst 1, 1) := by decide +kernel
theorem dX7_isFit_1 : decode cX7_isFit 1 = .ok (.istore_n 3, 1) := by decide +kernel
theorem dX7_isFit_2 : decode cX7_isFit 2 = .ok (.iconst 0, 1) := by decide +kernel
theorem dX7_isFit_3 : decode cX7_isFit 3 = .ok (.istore 4, 2) := by decide +kernel
theorem dX7_isFit_5 : decode cX7_isFit 5 = .ok (.iload 4, 2) := by decide +kernel
theorem dX7_isFit_7 : decode cX7_isFit 7 = .ok (.aload_n 0, 1) := by decide +kernel
theorem dX7_isFit_8 : decode cX7_isFit 8 = .ok (.getfield 114, 3) := by decide +kernel
theorem dX7_isFit_11 : decode cX7_isFit 11 = .ok (.if_icmp .ge 95, 3) := by decide +kernel
theorem dX7_isFit_14 : decode cX7_isFit 14 = .ok (.aload_n 0, 1) := by decide +kernel
theorem dX7_isFit_15 : decode cX7_isFit 15 = .ok (.getfield 41, 3) := by decide +kernel
theorem dX7_isFit_18 : decode cX7_isFit 18 = .ok (.iload 4, 2) := by decide +kernel
theorem dX7_isFit_20 : decode cX7_isFit 20 = .ok (.iaload, 1) := by decide +kernel
theorem dX7_isFit_21 : decode cX7_isFit 21 = .ok (.iload_n 1, 1) := by decide +kernel
theorem dX7_isFit_22 : decode cX7_isFit 22 = .ok (.if_icmp .ne 78, 3) := by decide +kernel
theorem dX7_isFit_25 : decode cX7_isFit 25 = .ok (.aload_n 0, 1) := by decide +kernel
theorem dX7_isFit_26 : decode cX7_isFit 26 = .ok (.invokevirtual 165, 3) := by decide +kernel
theorem dX7_isFit_29 : decode cX7_isFit 29 = .ok (.aload_n 0, 1) := by decide +kernel
theorem dX7_isFit_30 : decode cX7_isFit 30 = .ok (.getfield 28, 3) := by decide +kernel
theorem dX7_isFit_33 : decode cX7_isFit 33 = .ok (.iconst 1, 1) := by decide +kernel
theorem dX7_isFit_34 : decode cX7_isFit 34 = .ok (.iload_n 1, 1) := by decide +kernel
theorem dX7_isFit_35 : decode cX7_isFit 35 = .ok (.iadd, 1) := by decide +kernel
theorem dX7_isFit_36 : decode cX7_isFit 36 = .ok (.iload_n 2, 1) := by decide +kernel
theorem dX7_isFit_37 : decode cX7_isFit 37 = .ok (.iastore, 1) := by decide +kernel
theorem dX7_isFit_38 : decode cX7_isFit 38 = .ok (.iconst 0, 1) := by decide +kernel
theorem dX7_isFit_39 : decode cX7_isFit 39 = .ok (.istore 5, 2) := by decide +kernel
theorem dX7_isFit_41 : decode cX7_isFit 41 = .ok (.iload 5, 2) := by decide +kernel
theorem dX7_isFit_43 : decode cX7_isFit 43 = .ok (.aload_n 0, 1) := by decide +kernel
theorem dX7_isFit_44 : decode cX7_isFit 44 = .ok (.getfield 44, 3) := by decide +kernel
theorem dX7_isFit_47 : decode cX7_isFit 47 = .ok (.iload 4, 2) := by decide +kernel
theorem dX7_isFit_49 : decode cX7_isFit 49 = .ok (.iaload, 1) := by decide +kernel
theorem dX7_isFit_50 : decode cX7_isFit 50 = .ok (.if_icmp .ge 14, 3) := by decide +kernel
theorem dX7_isFit_53 : decode cX7_isFit 53 = .ok (.aload_n 0, 1) := by decide +kernel
theorem dX7_isFit_54 : decode cX7_isFit 54 = .ok (.iconst 0, 1) := by decide +kernel
theorem dX7_isFit_55 : decode cX7_isFit 55 = .ok (.invokevirtual 168, 3) := by decide +kernel
theorem dX7_isFit_58 : decode cX7_isFit 58 = .ok (.iinc 5 1, 3) := by decide +kernel
theorem dX7_isFit_61 : decode cX7_isFit 61 = .ok (.goto (-20), 3) := by decide +kernel
theorem dX7_isFit_64 : decode cX7_isFit 64 = .ok (.iload_n 3, 1) := by decide +kernel
theorem dX7_isFit_65 : decode cX7_isFit 65 = .ok (.ifCond .eq 33, 3) := by decide +kernel
theorem dX7_isFit_68 : decode cX7_isFit 68 = .ok (.aload_n 0, 1) := by decide +kernel
theorem dX7_isFit_69 : decode cX7_isFit 69 = .ok (.getfield 28, 3) := by decide +kernel
theorem dX7_isFit_72 : decode cX7_isFit 72 = .ok (.iload_n 1, 1) := by decide +kernel
theorem dX7_isFit_73 : decode cX7_isFit 73 = .ok (.invokestatic 131, 3) := by decide +kernel
theorem dX7_isFit_76 : decode cX7_isFit 76 = .ok (.ifCond .eq 7, 3) := by decide +kernel
theorem dX7_isFit_79 : decode cX7_isFit 79 = .ok (.iconst 1, 1) := by decide +kernel
theorem dX7_isFit_80 : decode cX7_isFit 80 = .ok (.goto 4, 3) := by decide +kernel
theorem dX7_isFit_83 : decode cX7_isFit 83 = .ok (.iconst 0, 1) := by decide +kernel
theorem dX7_isFit_84 : decode cX7_isFit 84 = .ok (.aload_n 0, 1) := by decide +kernel
theorem dX7_isFit_85 : decode cX7_isFit 85 = .ok (.getfield 47, 3) := by decide +kernel
theorem dX7_isFit_88 : decode cX7_isFit 88 = .ok (.iload 4, 2) := by decide +kernel
theorem dX7_isFit_90 : decode cX7_isFit 90 = .ok (.iaload, 1) := by decide +kernel
theorem dX7_isFit_91 : decode cX7_isFit 91 = .ok (.if_icmp .ne 7, 3) := by decide +kernel
theorem dX7_isFit_94 : decode cX7_isFit 94 = .ok (.iconst 1, 1) := by decide +kernel
theorem dX7_isFit_95 : decode cX7_isFit 95 = .ok (.goto 4, 3) := by decide +kernel
theorem dX7_isFit_98 : decode cX7_isFit 98 = .ok (.iconst 0, 1) := by decide +kernel
theorem dX7_isFit_99 : decode cX7_isFit 99 = .ok (.istore_n 3, 1) := by decide +kernel
theorem dX7_isFit_100 : decode cX7_isFit 100 = .ok (.iinc 4 1, 3) := by decide +kernel
theorem dX7_isFit_103 : decode cX7_isFit 103 = .ok (.goto (-98), 3) := by decide +kernel
theorem dX7_isFit_106 : decode cX7_isFit 106 = .ok (.iload_n 3, 1) := by decide +kernel
theorem dX7_isFit_107 : decode cX7_isFit 107 = .ok (.ireturn, 1) := by decide +kernel
theorem dX7_fits_0 : decode cX7_fits 0 = .ok (.aload_n 0, 1) := by decide +kernel
theorem dX7_fits_1 : decode cX7_fits 1 = .ok (.iconst 0, 1) := by decide +kernel
theorem dX7_fits_2 : decode cX7_fits 2 = .ok (.putfield 56, 3) := by decide +kernel
theorem dX7_fits_5 : decode cX7_fits 5 = .ok (.aload_n 0, 1) := by decide +kernel
theorem dX7_fits_6 : decode cX7_fits 6 = .ok (.iload_n 1, 1) := by decide +kernel
theorem dX7_fits_7 : decode cX7_fits 7 = .ok (.invokevirtual 128, 3) := by decide +kernel
theorem dX7_fits_10 : decode cX7_fits 10 = .ok (.ifCond .eq 12, 3) := by decide +kernel
theorem dX7_fits_13 : decode cX7_fits 13 = .ok (.iload_n 2, 1) := by decide +kernel
theorem dX7_fits_14 : decode cX7_fits 14 = .ok (.iconst 0, 1) := by decide +kernel
theorem dX7_fits_15 : decode cX7_fits 15 = .ok (.iconst 1, 1) := by decide +kernel
theorem dX7_fits_16 : decode cX7_fits 16 = .ok (.invokestatic 60, 3) := by decide +kernel
theorem dX7_fits_19 : decode cX7_fits 19 = .ok (.ifCond .ne 5, 3) := by decide +kernel
theorem dX7_fits_22 : decode cX7_fits 22 = .ok (.iconst (-1), 1) := by decide +kernel
theorem dX7_fits_23 : decode cX7_fits 23 = .ok (.ireturn, 1) := by decide +kernel
theorem dX7_fits_24 : decode cX7_fits 24 = .ok (.iconst 0, 1) := by decide +kernel
theorem dX7_fits_25 : decode cX7_fits 25 = .ok (.istore_n 3, 1) := by decide +kernel
theorem dX7_fits_26 : decode cX7_fits 26 = .ok (.bipush (-9), 2) := by decide +kernel
theorem dX7_fits_28 : decode cX7_fits 28 = .ok (.istore 4, 2) := by decide +kernel
theorem dX7_fits_30 : decode cX7_fits 30 = .ok (.iconst 0, 1) := by decide +kernel
theorem dX7_fits_31 : decode cX7_fits 31 = .ok (.istore 5, 2) := by decide +kernel
theorem dX7_fits_33 : decode cX7_fits 33 = .ok (.iload 5, 2) := by decide +kernel
theorem dX7_fits_35 : decode cX7_fits 35 = .ok (.bipush 60, 2) := by decide +kernel
theorem dX7_fits_37 : decode cX7_fits 37 = .ok (.if_icmp .gt 35, 3) := by decide +kernel
theorem dX7_fits_40 : decode cX7_fits 40 = .ok (.aload_n 0, 1) := by decide +kernel
theorem dX7_fits_41 : decode cX7_fits 41 = .ok (.iload_n 1, 1) := by decide +kernel
theorem dX7_fits_42 : decode cX7_fits 42 = .ok (.iload 5, 2) := by decide +kernel
theorem dX7_fits_44 : decode cX7_fits 44 = .ok (.invokevirtual 195, 3) := by decide +kernel
theorem dX7_fits_47 : decode cX7_fits 47 = .ok (.ifCond .eq 19, 3) := by decide +kernel
theorem dX7_fits_50 : decode cX7_fits 50 = .ok (.iload_n 3, 1) := by decide +kernel
theorem dX7_fits_51 : decode cX7_fits 51 = .ok (.ifCond .ne 8, 3) := by decide +kernel
theorem dX7_fits_54 : decode cX7_fits 54 = .ok (.iload 5, 2) := by decide +kernel
theorem dX7_fits_56 : decode cX7_fits 56 = .ok (.goto 5, 3) := by decide +kernel
theorem dX7_fits_59 : decode cX7_fits 59 = .ok (.iload 4, 2) := by decide +kernel
theorem dX7_fits_61 : decode cX7_fits 61 = .ok (.istore 4, 2) := by decide +kernel
theorem dX7_fits_63 : decode cX7_fits 63 = .ok (.iinc 3 1, 3) := by decide +kernel
theorem dX7_fits_66 : decode cX7_fits 66 = .ok (.iinc 5 1, 3) := by decide +kernel
theorem dX7_fits_69 : decode cX7_fits 69 = .ok (.goto (-36), 3) := by decide +kernel
theorem dX7_fits_72 : decode cX7_fits 72 = .ok (.iload_n 2, 1) := by decide +kernel
theorem dX7_fits_73 : decode cX7_fits 73 = .ok (.ifCond .ne 7, 3) := by decide +kernel
theorem dX7_fits_76 : decode cX7_fits 76 = .ok (.iload_n 3, 1) := by decide +kernel
theorem dX7_fits_77 : decode cX7_fits 77 = .ok (.goto 5, 3) := by decide +kernel
theorem dX7_fits_80 : decode cX7_fits 80 = .ok (.iload 4, 2) := by decide +kernel
theorem dX7_fits_82 : decode cX7_fits 82 = .ok (.ireturn, 1) := by decide +kernel
theorem dX7_had_0 : decode cX7_had 0 = .ok (.aload_n 0, 1) := by decide +kernel
theorem dX7_had_1 : decode cX7_had 1 = .ok (.iconst 0, 1) := by decide +kernel
theorem dX7_had_2 : decode cX7_had 2 = .ok (.putfield 56, 3) := by decide +kernel
theorem dX7_had_5 : decode cX7_had 5 = .ok (.aload_n 0, 1) := by decide +kernel
theorem dX7_had_6 : decode cX7_had 6 = .ok (.iload_n 1, 1) := by decide +kernel
theorem dX7_had_7 : decode cX7_had 7 = .ok (.invokevirtual 128, 3) := by decide +kernel
theorem dX7_had_10 : decode cX7_had 10 = .ok (.ifCond .eq 27, 3) := by decide +kernel
theorem dX7_had_13 : decode cX7_had 13 = .ok (.aload_n 0, 1) := by decide +kernel
theorem dX7_had_14 : decode cX7_had 14 = .ok (.iload_n 2, 1) := by decide +kernel
theorem dX7_had_15 : decode cX7_had 15 = .ok (.invokevirtual 120, 3) := by decide +kernel
theorem dX7_had_18 : decode cX7_had 18 = .ok (.ifCond .eq 19, 3) := by decide +kernel
theorem dX7_had_21 : decode cX7_had 21 = .ok (.aload_n 0, 1) := by decide +kernel
theorem dX7_had_22 : decode cX7_had 22 = .ok (.getfield 25, 3) := by decide +kernel
theorem dX7_had_25 : decode cX7_had 25 = .ok (.bipush 18, 2) := by decide +kernel
theorem dX7_had_27 : decode cX7_had 27 = .ok (.iconst 5, 1) := by decide +kernel
theorem dX7_had_28 : decode cX7_had 28 = .ok (.iload_n 1, 1) := by decide +kernel
theorem dX7_had_29 : decode cX7_had 29 = .ok (.imul, 1) := by decide +kernel
theorem dX7_had_30 : decode cX7_had 30 = .ok (.iadd, 1) := by decide +kernel
theorem dX7_had_31 : decode cX7_had 31 = .ok (.iload_n 2, 1) := by decide +kernel
theorem dX7_had_32 : decode cX7_had 32 = .ok (.iadd, 1) := by decide +kernel
theorem dX7_had_33 : decode cX7_had 33 = .ok (.iaload, 1) := by decide +kernel
theorem dX7_had_34 : decode cX7_had 34 = .ok (.goto 4, 3) := by decide +kernel
theorem dX7_had_37 : decode cX7_had 37 = .ok (.iconst (-1), 1) := by decide +kernel
theorem dX7_had_38 : decode cX7_had 38 = .ok (.ireturn, 1) := by decide +kernel
theorem dX7_fair_0 : decode cX7_fair 0 = .ok (.aload_n 0, 1) := by decide +kernel
theorem dX7_fair_1 : decode cX7_fair 1 = .ok (.iconst 0, 1) := by decide +kernel
theorem dX7_fair_2 : decode cX7_fair 2 = .ok (.putfield 56, 3) := by decide +kernel
theorem dX7_fair_5 : decode cX7_fair 5 = .ok (.iconst 0, 1) := by decide +kernel
theorem dX7_fair_6 : decode cX7_fair 6 = .ok (.istore_n 1, 1) := by decide +kernel
theorem dX7_fair_7 : decode cX7_fair 7 = .ok (.aload_n 0, 1) := by decide +kernel
theorem dX7_fair_8 : decode cX7_fair 8 = .ok (.getfield 13, 3) := by decide +kernel
theorem dX7_fair_11 : decode cX7_fair 11 = .ok (.iconst 1, 1) := by decide +kernel
theorem dX7_fair_12 : decode cX7_fair 12 = .ok (.iaload, 1) := by decide +kernel
theorem dX7_fair_13 : decode cX7_fair 13 = .ok (.ifCond .ne 7, 3) := by decide +kernel
theorem dX7_fair_16 : decode cX7_fair 16 = .ok (.iconst 0, 1) := by decide +kernel
theorem dX7_fair_17 : decode cX7_fair 17 = .ok (.goto 5, 3) := by decide +kernel
theorem dX7_fair_20 : decode cX7_fair 20 = .ok (.ldc 171, 2) := by decide +kernel
theorem dX7_fair_22 : decode cX7_fair 22 = .ok (.istore_n 2, 1) := by decide +kernel
theorem dX7_fair_23 : decode cX7_fair 23 = .ok (.iconst 0, 1) := by decide +kernel
theorem dX7_fair_24 : decode cX7_fair 24 = .ok (.istore_n 3, 1) := by decide +kernel
theorem dX7_fair_25 : decode cX7_fair 25 = .ok (.iload_n 3, 1) := by decide +kernel
theorem dX7_fair_26 : decode cX7_fair 26 = .ok (.aload_n 0, 1) := by decide +kernel
theorem dX7_fair_27 : decode cX7_fair 27 = .ok (.getfield 13, 3) := by decide +kernel
theorem dX7_fair_30 : decode cX7_fair 30 = .ok (.iconst 1, 1) := by decide +kernel
theorem dX7_fair_31 : decode cX7_fair 31 = .ok (.iaload, 1) := by decide +kernel
theorem dX7_fair_32 : decode cX7_fair 32 = .ok (.if_icmp .ge 85, 3) := by decide +kernel
theorem dX7_fair_35 : decode cX7_fair 35 = .ok (.iconst 0, 1) := by decide +kernel
theorem dX7_fair_36 : decode cX7_fair 36 = .ok (.istore 4, 2) := by decide +kernel
theorem dX7_fair_38 : decode cX7_fair 38 = .ok (.iconst 0, 1) := by decide +kernel
theorem dX7_fair_39 : decode cX7_fair 39 = .ok (.istore 5, 2) := by decide +kernel
theorem dX7_fair_41 : decode cX7_fair 41 = .ok (.iload 5, 2) := by decide +kernel
theorem dX7_fair_43 : decode cX7_fair 43 = .ok (.aload_n 0, 1) := by decide +kernel
theorem dX7_fair_44 : decode cX7_fair 44 = .ok (.getfield 13, 3) := by decide +kernel
theorem dX7_fair_47 : decode cX7_fair 47 = .ok (.iconst 0, 1) := by decide +kernel
theorem dX7_fair_48 : decode cX7_fair 48 = .ok (.iaload, 1) := by decide +kernel
theorem dX7_fair_49 : decode cX7_fair 49 = .ok (.if_icmp .ge 36, 3) := by decide +kernel
theorem dX7_fair_52 : decode cX7_fair 52 = .ok (.iload 4, 2) := by decide +kernel
theorem dX7_fair_54 : decode cX7_fair 54 = .ok (.aload_n 0, 1) := by decide +kernel
theorem dX7_fair_55 : decode cX7_fair 55 = .ok (.getfield 19, 3) := by decide +kernel
theorem dX7_fair_58 : decode cX7_fair 58 = .ok (.iload 5, 2) := by decide +kernel
theorem dX7_fair_60 : decode cX7_fair 60 = .ok (.iaload, 1) := by decide +kernel
theorem dX7_fair_61 : decode cX7_fair 61 = .ok (.aload_n 0, 1) := by decide +kernel
theorem dX7_fair_62 : decode cX7_fair 62 = .ok (.getfield 25, 3) := by decide +kernel
theorem dX7_fair_65 : decode cX7_fair 65 = .ok (.bipush 18, 2) := by decide +kernel
theorem dX7_fair_67 : decode cX7_fair 67 = .ok (.iconst 5, 1) := by decide +kernel
theorem dX7_fair_68 : decode cX7_fair 68 = .ok (.iload_n 3, 1) := by decide +kernel
theorem dX7_fair_69 : decode cX7_fair 69 = .ok (.imul, 1) := by decide +kernel
theorem dX7_fair_70 : decode cX7_fair 70 = .ok (.iadd, 1) := by decide +kernel
theorem dX7_fair_71 : decode cX7_fair 71 = .ok (.iload 5, 2) := by decide +kernel
theorem dX7_fair_73 : decode cX7_fair 73 = .ok (.iadd, 1) := by decide +kernel
theorem dX7_fair_74 : decode cX7_fair 74 = .ok (.iaload, 1) := by decide +kernel
theorem dX7_fair_75 : decode cX7_fair 75 = .ok (.imul, 1) := by decide +kernel
theorem dX7_fair_76 : decode cX7_fair 76 = .ok (.iadd, 1) := by decide +kernel
theorem dX7_fair_77 : decode cX7_fair 77 = .ok (.istore 4, 2) := by decide +kernel
theorem dX7_fair_79 : decode cX7_fair 79 = .ok (.iinc 5 1, 3) := by decide +kernel
theorem dX7_fair_82 : decode cX7_fair 82 = .ok (.goto (-41), 3) := by decide +kernel
theorem dX7_fair_85 : decode cX7_fair 85 = .ok (.iload 4, 2) := by decide +kernel
theorem dX7_fair_87 : decode cX7_fair 87 = .ok (.iload_n 1, 1) := by decide +kernel
theorem dX7_fair_88 : decode cX7_fair 88 = .ok (.if_icmp .le 8, 3) := by decide +kernel
theorem dX7_fair_91 : decode cX7_fair 91 = .ok (.iload 4, 2) := by decide +kernel
theorem dX7_fair_93 : decode cX7_fair 93 = .ok (.goto 4, 3) := by decide +kernel
theorem dX7_fair_96 : decode cX7_fair 96 = .ok (.iload_n 1, 1) := by decide +kernel
theorem dX7_fair_97 : decode cX7_fair 97 = .ok (.istore_n 1, 1) := by decide +kernel
theorem dX7_fair_98 : decode cX7_fair 98 = .ok (.iload 4, 2) := by decide +kernel
theorem dX7_fair_100 : decode cX7_fair 100 = .ok (.iload_n 2, 1) := by decide +kernel
theorem dX7_fair_101 : decode cX7_fair 101 = .ok (.if_icmp .ge 8, 3) := by decide +kernel
theorem dX7_fair_104 : decode cX7_fair 104 = .ok (.iload 4, 2) := by decide +kernel
theorem dX7_fair_106 : decode cX7_fair 106 = .ok (.goto 4, 3) := by decide +kernel
theorem dX7_fair_109 : decode cX7_fair 109 = .ok (.iload_n 2, 1) := by decide +kernel
theorem dX7_fair_110 : decode cX7_fair 110 = .ok (.istore_n 2, 1) := by decide +kernel
theorem dX7_fair_111 : decode cX7_fair 111 = .ok (.iinc 3 1, 3) := by decide +kernel
theorem dX7_fair_114 : decode cX7_fair 114 = .ok (.goto (-89), 3) := by decide +kernel
theorem dX7_fair_117 : decode cX7_fair 117 = .ok (.iload_n 1, 1) := by decide +kernel
theorem dX7_fair_118 : decode cX7_fair 118 = .ok (.iload_n 2, 1) := by decide +kernel
theorem dX7_fair_119 : decode cX7_fair 119 = .ok (.isub, 1) := by decide +kernel
theorem dX7_fair_120 : decode cX7_fair 120 = .ok (.ireturn, 1) := by decide +kernel
theorem dX7_cow_0 : decode cX7_cow 0 = .ok (.aload_n 0, 1) := by decide +kernel
theorem dX7_cow_1 : decode cX7_cow 1 = .ok (.iconst 0, 1) := by decide +kernel
theorem dX7_cow_2 : decode cX7_cow 2 = .ok (.putfield 56, 3) := by decide +kernel
theorem dX7_cow_5 : decode cX7_cow 5 = .ok (.iload_n 1, 1) := by decide +kernel
theorem dX7_cow_6 : decode cX7_cow 6 = .ok (.iconst 0, 1) := by decide +kernel
theorem dX7_cow_7 : decode cX7_cow 7 = .ok (.bipush 9, 2) := by decide +kernel
theorem dX7_cow_9 : decode cX7_cow 9 = .ok (.invokestatic 60, 3) := by decide +kernel
theorem dX7_cow_12 : decode cX7_cow 12 = .ok (.ifCond .eq 22, 3) := by decide +kernel
theorem dX7_cow_15 : decode cX7_cow 15 = .ok (.iload_n 2, 1) := by decide +kernel
theorem dX7_cow_16 : decode cX7_cow 16 = .ok (.iconst 0, 1) := by decide +kernel
theorem dX7_cow_17 : decode cX7_cow 17 = .ok (.bipush 9, 2) := by decide +kernel
theorem dX7_cow_19 : decode cX7_cow 19 = .ok (.invokestatic 60, 3) := by decide +kernel
theorem dX7_cow_22 : decode cX7_cow 22 = .ok (.ifCond .eq 12, 3) := by decide +kernel
theorem dX7_cow_25 : decode cX7_cow 25 = .ok (.iload_n 3, 1) := by decide +kernel
theorem dX7_cow_26 : decode cX7_cow 26 = .ok (.iconst 0, 1) := by decide +kernel
theorem dX7_cow_27 : decode cX7_cow 27 = .ok (.iconst 1, 1) := by decide +kernel
theorem dX7_cow_28 : decode cX7_cow 28 = .ok (.invokestatic 60, 3) := by decide +kernel
theorem dX7_cow_31 : decode cX7_cow 31 = .ok (.ifCond .ne 5, 3) := by decide +kernel
theorem dX7_cow_34 : decode cX7_cow 34 = .ok (.iconst (-1), 1) := by decide +kernel
theorem dX7_cow_35 : decode cX7_cow 35 = .ok (.ireturn, 1) := by decide +kernel
theorem dX7_cow_36 : decode cX7_cow 36 = .ok (.iload_n 1, 1) := by decide +kernel
theorem dX7_cow_37 : decode cX7_cow 37 = .ok (.iload_n 2, 1) := by decide +kernel
theorem dX7_cow_38 : decode cX7_cow 38 = .ok (.imul, 1) := by decide +kernel
theorem dX7_cow_39 : decode cX7_cow 39 = .ok (.iload_n 1, 1) := by decide +kernel
theorem dX7_cow_40 : decode cX7_cow 40 = .ok (.iload_n 2, 1) := by decide +kernel
theorem dX7_cow_41 : decode cX7_cow 41 = .ok (.imul, 1) := by decide +kernel
theorem dX7_cow_42 : decode cX7_cow 42 = .ok (.bipush 10, 2) := by decide +kernel
theorem dX7_cow_44 : decode cX7_cow 44 = .ok (.bipush 10, 2) := by decide +kernel
theorem dX7_cow_46 : decode cX7_cow 46 = .ok (.iload_n 1, 1) := by decide +kernel
theorem dX7_cow_47 : decode cX7_cow 47 = .ok (.isub, 1) := by decide +kernel
theorem dX7_cow_48 : decode cX7_cow 48 = .ok (.imul, 1) := by decide +kernel
theorem dX7_cow_49 : decode cX7_cow 49 = .ok (.iadd, 1) := by decide +kernel
theorem dX7_cow_50 : decode cX7_cow 50 = .ok (.iload_n 3, 1) := by decide +kernel
theorem dX7_cow_51 : decode cX7_cow 51 = .ok (.invokestatic 188, 3) := by decide +kernel
theorem dX7_cow_54 : decode cX7_cow 54 = .ok (.ireturn, 1) := by decide +kernel
theorem dX7_rate_0 : decode cX7_rate 0 = .ok (.aload_n 0, 1) := by decide +kernel
theorem dX7_rate_1 : decode cX7_rate 1 = .ok (.iconst 0, 1) := by decide +kernel
theorem dX7_rate_2 : decode cX7_rate 2 = .ok (.putfield 56, 3) := by decide +kernel
theorem dX7_rate_5 : decode cX7_rate 5 = .ok (.iload_n 1, 1) := by decide +kernel
theorem dX7_rate_6 : decode cX7_rate 6 = .ok (.iconst 0, 1) := by decide +kernel
theorem dX7_rate_7 : decode cX7_rate 7 = .ok (.iconst 5, 1) := by decide +kernel
theorem dX7_rate_8 : decode cX7_rate 8 = .ok (.invokestatic 60, 3) := by decide +kernel
theorem dX7_rate_11 : decode cX7_rate 11 = .ok (.ifCond .eq 11, 3) := by decide +kernel
theorem dX7_rate_14 : decode cX7_rate 14 = .ok (.aload_n 0, 1) := by decide +kernel
theorem dX7_rate_15 : decode cX7_rate 15 = .ok (.iload_n 2, 1) := by decide +kernel
theorem dX7_rate_16 : decode cX7_rate 16 = .ok (.invokevirtual 120, 3) := by decide +kernel
theorem dX7_rate_19 : decode cX7_rate 19 = .ok (.ifCond .ne 6, 3) := by decide +kernel
theorem dX7_rate_22 : decode cX7_rate 22 = .ok (.ldc 199, 2) := by decide +kernel
theorem dX7_rate_24 : decode cX7_rate 24 = .ok (.ireturn, 1) := by decide +kernel
theorem dX7_rate_25 : decode cX7_rate 25 = .ok (.aload_n 0, 1) := by decide +kernel
theorem dX7_rate_26 : decode cX7_rate 26 = .ok (.aload_n 0, 1) := by decide +kernel
theorem dX7_rate_27 : decode cX7_rate 27 = .ok (.getfield 25, 3) := by decide +kernel
theorem dX7_rate_30 : decode cX7_rate 30 = .ok (.iload_n 2, 1) := by decide +kernel
theorem dX7_rate_31 : decode cX7_rate 31 = .ok (.invokevirtual 124, 3) := by decide +kernel
theorem dX7_rate_34 : decode cX7_rate 34 = .ok (.istore_n 3, 1) := by decide +kernel
theorem dX7_rate_35 : decode cX7_rate 35 = .ok (.aload_n 0, 1) := by decide +kernel
theorem dX7_rate_36 : decode cX7_rate 36 = .ok (.getfield 19, 3) := by decide +kernel
theorem dX7_rate_39 : decode cX7_rate 39 = .ok (.iload_n 2, 1) := by decide +kernel
theorem dX7_rate_40 : decode cX7_rate 40 = .ok (.iaload, 1) := by decide +kernel
theorem dX7_rate_41 : decode cX7_rate 41 = .ok (.aload_n 0, 1) := by decide +kernel
theorem dX7_rate_42 : decode cX7_rate 42 = .ok (.getfield 25, 3) := by decide +kernel
theorem dX7_rate_45 : decode cX7_rate 45 = .ok (.bipush 13, 2) := by decide +kernel
theorem dX7_rate_47 : decode cX7_rate 47 = .ok (.iload_n 2, 1) := by decide +kernel
theorem dX7_rate_48 : decode cX7_rate 48 = .ok (.iadd, 1) := by decide +kernel
theorem dX7_rate_49 : decode cX7_rate 49 = .ok (.iaload, 1) := by decide +kernel
theorem dX7_rate_50 : decode cX7_rate 50 = .ok (.iadd, 1) := by decide +kernel
theorem dX7_rate_51 : decode cX7_rate 51 = .ok (.istore 4, 2) := by decide +kernel
theorem dX7_rate_53 : decode cX7_rate 53 = .ok (.aload_n 0, 1) := by decide +kernel
theorem dX7_rate_54 : decode cX7_rate 54 = .ok (.getfield 19, 3) := by decide +kernel
theorem dX7_rate_57 : decode cX7_rate 57 = .ok (.iload_n 2, 1) := by decide +kernel
theorem dX7_rate_58 : decode cX7_rate 58 = .ok (.iaload, 1) := by decide +kernel
theorem dX7_rate_59 : decode cX7_rate 59 = .ok (.iload_n 3, 1) := by decide +kernel
theorem dX7_rate_60 : decode cX7_rate 60 = .ok (.bipush (-9), 2) := by decide +kernel
theorem dX7_rate_62 : decode cX7_rate 62 = .ok (.if_icmp .ne 7, 3) := by decide +kernel
theorem dX7_rate_65 : decode cX7_rate 65 = .ok (.iconst 0, 1) := by decide +kernel
theorem dX7_rate_66 : decode cX7_rate 66 = .ok (.goto 11, 3) := by decide +kernel
theorem dX7_rate_69 : decode cX7_rate 69 = .ok (.aload_n 0, 1) := by decide +kernel
theorem dX7_rate_70 : decode cX7_rate 70 = .ok (.getfield 25, 3) := by decide +kernel
theorem dX7_rate_73 : decode cX7_rate 73 = .ok (.iconst 1, 1) := by decide +kernel
theorem dX7_rate_74 : decode cX7_rate 74 = .ok (.iload_n 3, 1) := by decide +kernel
theorem dX7_rate_75 : decode cX7_rate 75 = .ok (.iadd, 1) := by decide +kernel
theorem dX7_rate_76 : decode cX7_rate 76 = .ok (.iaload, 1) := by decide +kernel
theorem dX7_rate_77 : decode cX7_rate 77 = .ok (.isub, 1) := by decide +kernel
theorem dX7_rate_78 : decode cX7_rate 78 = .ok (.istore 5, 2) := by decide +kernel
theorem dX7_rate_80 : decode cX7_rate 80 = .ok (.aload_n 0, 1) := by decide +kernel
theorem dX7_rate_81 : decode cX7_rate 81 = .ok (.dup, 1) := by decide +kernel
theorem dX7_rate_82 : decode cX7_rate 82 = .ok (.getfield 200, 3) := by decide +kernel
theorem dX7_rate_85 : decode cX7_rate 85 = .ok (.iload_n 1, 1) := by decide +kernel
theorem dX7_rate_86 : decode cX7_rate 86 = .ok (.ifCond .ne 7, 3) := by decide +kernel
theorem dX7_rate_89 : decode cX7_rate 89 = .ok (.lconst 1, 1) := by decide +kernel
theorem dX7_rate_90 : decode cX7_rate 90 = .ok (.goto 50, 3) := by decide +kernel
theorem dX7_rate_93 : decode cX7_rate 93 = .ok (.iload_n 1, 1) := by decide +kernel
theorem dX7_rate_94 : decode cX7_rate 94 = .ok (.iconst 1, 1) := by decide +kernel
theorem dX7_rate_95 : decode cX7_rate 95 = .ok (.if_icmp .ne 9, 3) := by decide +kernel
theorem dX7_rate_98 : decode cX7_rate 98 = .ok (.ldc2_w 204, 3) := by decide +kernel
theorem dX7_rate_101 : decode cX7_rate 101 = .ok (.goto 39, 3) := by decide +kernel
theorem dX7_rate_104 : decode cX7_rate 104 = .ok (.iload_n 1, 1) := by decide +kernel
theorem dX7_rate_105 : decode cX7_rate 105 = .ok (.iconst 2, 1) := by decide +kernel
theorem dX7_rate_106 : decode cX7_rate 106 = .ok (.if_icmp .ne 9, 3) := by decide +kernel
theorem dX7_rate_109 : decode cX7_rate 109 = .ok (.ldc2_w 206, 3) := by decide +kernel
theorem dX7_rate_112 : decode cX7_rate 112 = .ok (.goto 28, 3) := by decide +kernel
theorem dX7_rate_115 : decode cX7_rate 115 = .ok (.iload_n 1, 1) := by decide +kernel
theorem dX7_rate_116 : decode cX7_rate 116 = .ok (.iconst 3, 1) := by decide +kernel
theorem dX7_rate_117 : decode cX7_rate 117 = .ok (.if_icmp .ne 9, 3) := by decide +kernel
theorem dX7_rate_120 : decode cX7_rate 120 = .ok (.ldc2_w 208, 3) := by decide +kernel
theorem dX7_rate_123 : decode cX7_rate 123 = .ok (.goto 17, 3) := by decide +kernel
theorem dX7_rate_126 : decode cX7_rate 126 = .ok (.iload_n 1, 1) := by decide +kernel
theorem dX7_rate_127 : decode cX7_rate 127 = .ok (.iconst 4, 1) := by decide +kernel
theorem dX7_rate_128 : decode cX7_rate 128 = .ok (.if_icmp .ne 9, 3) := by decide +kernel
theorem dX7_rate_131 : decode cX7_rate 131 = .ok (.ldc2_w 210, 3) := by decide +kernel
theorem dX7_rate_134 : decode cX7_rate 134 = .ok (.goto 6, 3) := by decide +kernel
theorem dX7_rate_137 : decode cX7_rate 137 = .ok (.ldc2_w 212, 3) := by decide +kernel
theorem dX7_rate_140 : decode cX7_rate 140 = .ok (.ladd, 1) := by decide +kernel
theorem dX7_rate_141 : decode cX7_rate 141 = .ok (.putfield 200, 3) := by decide +kernel
theorem dX7_rate_144 : decode cX7_rate 144 = .ok (.iload_n 1, 1) := by decide +kernel
theorem dX7_rate_145 : decode cX7_rate 145 = .ok (.ifCond .ne 12, 3) := by decide +kernel
theorem dX7_rate_148 : decode cX7_rate 148 = .ok (.aload_n 0, 1) := by decide +kernel
theorem dX7_rate_149 : decode cX7_rate 149 = .ok (.getfield 19, 3) := by decide +kernel
theorem dX7_rate_152 : decode cX7_rate 152 = .ok (.iload_n 2, 1) := by decide +kernel
theorem dX7_rate_153 : decode cX7_rate 153 = .ok (.iaload, 1) := by decide +kernel
theorem dX7_rate_154 : decode cX7_rate 154 = .ok (.goto 63, 3) := by decide +kernel
theorem dX7_rate_157 : decode cX7_rate 157 = .ok (.iload_n 1, 1) := by decide +kernel
theorem dX7_rate_158 : decode cX7_rate 158 = .ok (.iconst 1, 1) := by decide +kernel
theorem dX7_rate_159 : decode cX7_rate 159 = .ok (.if_icmp .ne 8, 3) := by decide +kernel
theorem dX7_rate_162 : decode cX7_rate 162 = .ok (.iload 4, 2) := by decide +kernel
theorem dX7_rate_164 : decode cX7_rate 164 = .ok (.goto 53, 3) := by decide +kernel
theorem dX7_rate_167 : decode cX7_rate 167 = .ok (.iload_n 1, 1) := by decide +kernel
theorem dX7_rate_168 : decode cX7_rate 168 = .ok (.iconst 2, 1) := by decide +kernel
theorem dX7_rate_169 : decode cX7_rate 169 = .ok (.if_icmp .ne 8, 3) := by decide +kernel
theorem dX7_rate_172 : decode cX7_rate 172 = .ok (.iload 5, 2) := by decide +kernel
theorem dX7_rate_174 : decode cX7_rate 174 = .ok (.goto 43, 3) := by decide +kernel
theorem dX7_rate_177 : decode cX7_rate 177 = .ok (.iload_n 1, 1) := by decide +kernel
theorem dX7_rate_178 : decode cX7_rate 178 = .ok (.iconst 3, 1) := by decide +kernel
theorem dX7_rate_179 : decode cX7_rate 179 = .ok (.if_icmp .ne 10, 3) := by decide +kernel
theorem dX7_rate_182 : decode cX7_rate 182 = .ok (.iconst 2, 1) := by decide +kernel
theorem dX7_rate_183 : decode cX7_rate 183 = .ok (.iload 4, 2) := by decide +kernel
theorem dX7_rate_185 : decode cX7_rate 185 = .ok (.imul, 1) := by decide +kernel
theorem dX7_rate_186 : decode cX7_rate 186 = .ok (.goto 31, 3) := by decide +kernel
theorem dX7_rate_189 : decode cX7_rate 189 = .ok (.iload_n 1, 1) := by decide +kernel
theorem dX7_rate_190 : decode cX7_rate 190 = .ok (.iconst 4, 1) := by decide +kernel
theorem dX7_rate_191 : decode cX7_rate 191 = .ok (.if_icmp .ne 10, 3) := by decide +kernel
theorem dX7_rate_194 : decode cX7_rate 194 = .ok (.iload 5, 2) := by decide +kernel
theorem dX7_rate_196 : decode cX7_rate 196 = .ok (.iload_n 2, 1) := by decide +kernel
theorem dX7_rate_197 : decode cX7_rate 197 = .ok (.iadd, 1) := by decide +kernel
theorem dX7_rate_198 : decode cX7_rate 198 = .ok (.goto 19, 3) := by decide +kernel
theorem dX7_rate_201 : decode cX7_rate 201 = .ok (.aload_n 0, 1) := by decide +kernel
theorem dX7_rate_202 : decode cX7_rate 202 = .ok (.getfield 19, 3) := by decide +kernel
theorem dX7_rate_205 : decode cX7_rate 205 = .ok (.iload_n 2, 1) := by decide +kernel
theorem dX7_rate_206 : decode cX7_rate 206 = .ok (.iaload, 1) := by decide +kernel
theorem dX7_rate_207 : decode cX7_rate 207 = .ok (.aload_n 0, 1) := by decide +kernel
theorem dX7_rate_208 : decode cX7_rate 208 = .ok (.getfield 16, 3) := by decide +kernel
theorem dX7_rate_211 : decode cX7_rate 211 = .ok (.iload_n 2, 1) := by decide +kernel
theorem dX7_rate_212 : decode cX7_rate 212 = .ok (.iaload, 1) := by decide +kernel
theorem dX7_rate_213 : decode cX7_rate 213 = .ok (.invokestatic 151, 3) := by decide +kernel
theorem dX7_rate_216 : decode cX7_rate 216 = .ok (.iadd, 1) := by decide +kernel
theorem dX7_rate_217 : decode cX7_rate 217 = .ok (.ireturn, 1) := by decide +kernel
theorem dX7_keep_0 : decode cX7_keep 0 = .ok (.aload_n 0, 1) := by decide +kernel
theorem dX7_keep_1 : decode cX7_keep 1 = .ok (.iconst 0, 1) := by decide +kernel
theorem dX7_keep_2 : decode cX7_keep 2 = .ok (.putfield 56, 3) := by decide +kernel
theorem dX7_keep_5 : decode cX7_keep 5 = .ok (.iload_n 1, 1) := by decide +kernel
theorem dX7_keep_6 : decode cX7_keep 6 = .ok (.iconst 0, 1) := by decide +kernel
theorem dX7_keep_7 : decode cX7_keep 7 = .ok (.iconst 1, 1) := by decide +kernel
theorem dX7_keep_8 : decode cX7_keep 8 = .ok (.invokestatic 60, 3) := by decide +kernel
theorem dX7_keep_11 : decode cX7_keep 11 = .ok (.ifCond .ne 5, 3) := by decide +kernel
theorem dX7_keep_14 : decode cX7_keep 14 = .ok (.iconst (-1), 1) := by decide +kernel
theorem dX7_keep_15 : decode cX7_keep 15 = .ok (.ireturn, 1) := by decide +kernel
theorem dX7_keep_16 : decode cX7_keep 16 = .ok (.iconst 0, 1) := by decide +kernel
theorem dX7_keep_17 : decode cX7_keep 17 = .ok (.istore_n 2, 1) := by decide +kernel
theorem dX7_keep_18 : decode cX7_keep 18 = .ok (.iload_n 2, 1) := by decide +kernel
theorem dX7_keep_19 : decode cX7_keep 19 = .ok (.bipush 48, 2) := by decide +kernel
theorem dX7_keep_21 : decode cX7_keep 21 = .ok (.if_icmp .ge 26, 3) := by decide +kernel
theorem dX7_keep_24 : decode cX7_keep 24 = .ok (.aload_n 0, 1) := by decide +kernel
theorem dX7_keep_25 : decode cX7_keep 25 = .ok (.getfield 31, 3) := by decide +kernel
theorem dX7_keep_28 : decode cX7_keep 28 = .ok (.bipush 48, 2) := by decide +kernel
theorem dX7_keep_30 : decode cX7_keep 30 = .ok (.iload_n 1, 1) := by decide +kernel
theorem dX7_keep_31 : decode cX7_keep 31 = .ok (.imul, 1) := by decide +kernel
theorem dX7_keep_32 : decode cX7_keep 32 = .ok (.iload_n 2, 1) := by decide +kernel
theorem dX7_keep_33 : decode cX7_keep 33 = .ok (.iadd, 1) := by decide +kernel
theorem dX7_keep_34 : decode cX7_keep 34 = .ok (.aload_n 0, 1) := by decide +kernel
theorem dX7_keep_35 : decode cX7_keep 35 = .ok (.getfield 25, 3) := by decide +kernel
theorem dX7_keep_38 : decode cX7_keep 38 = .ok (.iload_n 2, 1) := by decide +kernel
theorem dX7_keep_39 : decode cX7_keep 39 = .ok (.iaload, 1) := by decide +kernel
theorem dX7_keep_40 : decode cX7_keep 40 = .ok (.iastore, 1) := by decide +kernel
theorem dX7_keep_41 : decode cX7_keep 41 = .ok (.iinc 2 1, 3) := by decide +kernel
theorem dX7_keep_44 : decode cX7_keep 44 = .ok (.goto (-26), 3) := by decide +kernel
theorem dX7_keep_47 : decode cX7_keep 47 = .ok (.aload_n 0, 1) := by decide +kernel
theorem dX7_keep_48 : decode cX7_keep 48 = .ok (.getfield 34, 3) := by decide +kernel
theorem dX7_keep_51 : decode cX7_keep 51 = .ok (.iload_n 1, 1) := by decide +kernel
theorem dX7_keep_52 : decode cX7_keep 52 = .ok (.iconst 1, 1) := by decide +kernel
theorem dX7_keep_53 : decode cX7_keep 53 = .ok (.bastore, 1) := by decide +kernel
theorem dX7_keep_54 : decode cX7_keep 54 = .ok (.aload_n 0, 1) := by decide +kernel
theorem dX7_keep_55 : decode cX7_keep 55 = .ok (.getfield 25, 3) := by decide +kernel
theorem dX7_keep_58 : decode cX7_keep 58 = .ok (.iconst 0, 1) := by decide +kernel
theorem dX7_keep_59 : decode cX7_keep 59 = .ok (.iaload, 1) := by decide +kernel
theorem dX7_keep_60 : decode cX7_keep 60 = .ok (.ireturn, 1) := by decide +kernel
theorem dX7_back_0 : decode cX7_back 0 = .ok (.aload_n 0, 1) := by decide +kernel
theorem dX7_back_1 : decode cX7_back 1 = .ok (.iconst 0, 1) := by decide +kernel
theorem dX7_back_2 : decode cX7_back 2 = .ok (.putfield 56, 3) := by decide +kernel
theorem dX7_back_5 : decode cX7_back 5 = .ok (.iload_n 1, 1) := by decide +kernel
theorem dX7_back_6 : decode cX7_back 6 = .ok (.iconst 0, 1) := by decide +kernel
theorem dX7_back_7 : decode cX7_back 7 = .ok (.iconst 1, 1) := by decide +kernel
theorem dX7_back_8 : decode cX7_back 8 = .ok (.invokestatic 60, 3) := by decide +kernel
theorem dX7_back_11 : decode cX7_back 11 = .ok (.ifCond .ne 5, 3) := by decide +kernel
theorem dX7_back_14 : decode cX7_back 14 = .ok (.iconst (-1), 1) := by decide +kernel
theorem dX7_back_15 : decode cX7_back 15 = .ok (.ireturn, 1) := by decide +kernel
theorem dX7_back_16 : decode cX7_back 16 = .ok (.aload_n 0, 1) := by decide +kernel
theorem dX7_back_17 : decode cX7_back 17 = .ok (.getfield 34, 3) := by decide +kernel
theorem dX7_back_20 : decode cX7_back 20 = .ok (.iload_n 1, 1) := by decide +kernel
theorem dX7_back_21 : decode cX7_back 21 = .ok (.baload, 1) := by decide +kernel
theorem dX7_back_22 : decode cX7_back 22 = .ok (.ifCond .ne 6, 3) := by decide +kernel
theorem dX7_back_25 : decode cX7_back 25 = .ok (.bipush (-2), 2) := by decide +kernel
theorem dX7_back_27 : decode cX7_back 27 = .ok (.ireturn, 1) := by decide +kernel
theorem dX7_back_28 : decode cX7_back 28 = .ok (.iconst 0, 1) := by decide +kernel
theorem dX7_back_29 : decode cX7_back 29 = .ok (.istore_n 2, 1) := by decide +kernel
theorem dX7_back_30 : decode cX7_back 30 = .ok (.iload_n 2, 1) := by decide +kernel
theorem dX7_back_31 : decode cX7_back 31 = .ok (.bipush 48, 2) := by decide +kernel
theorem dX7_back_33 : decode cX7_back 33 = .ok (.if_icmp .ge 26, 3) := by decide +kernel
theorem dX7_back_36 : decode cX7_back 36 = .ok (.aload_n 0, 1) := by decide +kernel
theorem dX7_back_37 : decode cX7_back 37 = .ok (.getfield 25, 3) := by decide +kernel
theorem dX7_back_40 : decode cX7_back 40 = .ok (.iload_n 2, 1) := by decide +kernel
theorem dX7_back_41 : decode cX7_back 41 = .ok (.aload_n 0, 1) := by decide +kernel
theorem dX7_back_42 : decode cX7_back 42 = .ok (.getfield 31, 3) := by decide +kernel
theorem dX7_back_45 : decode cX7_back 45 = .ok (.bipush 48, 2) := by decide +kernel
theorem dX7_back_47 : decode cX7_back 47 = .ok (.iload_n 1, 1) := by decide +kernel
theorem dX7_back_48 : decode cX7_back 48 = .ok (.imul, 1) := by decide +kernel
theorem dX7_back_49 : decode cX7_back 49 = .ok (.iload_n 2, 1) := by decide +kernel
theorem dX7_back_50 : decode cX7_back 50 = .ok (.iadd, 1) := by decide +kernel
theorem dX7_back_51 : decode cX7_back 51 = .ok (.iaload, 1) := by decide +kernel
theorem dX7_back_52 : decode cX7_back 52 = .ok (.iastore, 1) := by decide +kernel
theorem dX7_back_53 : decode cX7_back 53 = .ok (.iinc 2 1, 3) := by decide +kernel
theorem dX7_back_56 : decode cX7_back 56 = .ok (.goto (-26), 3) := by decide +kernel
theorem dX7_back_59 : decode cX7_back 59 = .ok (.aload_n 0, 1) := by decide +kernel
theorem dX7_back_60 : decode cX7_back 60 = .ok (.iconst 0, 1) := by decide +kernel
theorem dX7_back_61 : decode cX7_back 61 = .ok (.putfield 117, 3) := by decide +kernel
theorem dX7_back_64 : decode cX7_back 64 = .ok (.aload_n 0, 1) := by decide +kernel
theorem dX7_back_65 : decode cX7_back 65 = .ok (.getfield 25, 3) := by decide +kernel
theorem dX7_back_68 : decode cX7_back 68 = .ok (.iconst 0, 1) := by decide +kernel
theorem dX7_back_69 : decode cX7_back 69 = .ok (.iaload, 1) := by decide +kernel
theorem dX7_back_70 : decode cX7_back 70 = .ok (.ireturn, 1) := by decide +kernel
theorem dX7_count_0 : decode cX7_count 0 = .ok (.aload_n 0, 1) := by decide +kernel
theorem dX7_count_1 : decode cX7_count 1 = .ok (.iconst 0, 1) := by decide +kernel
theorem dX7_count_2 : decode cX7_count 2 = .ok (.putfield 56, 3) := by decide +kernel
theorem dX7_count_5 : decode cX7_count 5 = .ok (.iload_n 1, 1) := by decide +kernel
theorem dX7_count_6 : decode cX7_count 6 = .ok (.iconst 0, 1) := by decide +kernel
theorem dX7_count_7 : decode cX7_count 7 = .ok (.iconst 3, 1) := by decide +kernel
theorem dX7_count_8 : decode cX7_count 8 = .ok (.invokestatic 60, 3) := by decide +kernel
theorem dX7_count_11 : decode cX7_count 11 = .ok (.ifCond .eq 12, 3) := by decide +kernel
theorem dX7_count_14 : decode cX7_count 14 = .ok (.aload_n 0, 1) := by decide +kernel
theorem dX7_count_15 : decode cX7_count 15 = .ok (.getfield 13, 3) := by decide +kernel
theorem dX7_count_18 : decode cX7_count 18 = .ok (.iload_n 1, 1) := by decide +kernel
theorem dX7_count_19 : decode cX7_count 19 = .ok (.iaload, 1) := by decide +kernel
theorem dX7_count_20 : decode cX7_count 20 = .ok (.goto 28, 3) := by decide +kernel
theorem dX7_count_23 : decode cX7_count 23 = .ok (.iload_n 1, 1) := by decide +kernel
theorem dX7_count_24 : decode cX7_count 24 = .ok (.iconst 4, 1) := by decide +kernel
theorem dX7_count_25 : decode cX7_count 25 = .ok (.if_icmp .ne 10, 3) := by decide +kernel
theorem dX7_count_28 : decode cX7_count 28 = .ok (.aload_n 0, 1) := by decide +kernel
theorem dX7_count_29 : decode cX7_count 29 = .ok (.getfield 114, 3) := by decide +kernel
theorem dX7_count_32 : decode cX7_count 32 = .ok (.goto 16, 3) := by decide +kernel
theorem dX7_count_35 : decode cX7_count 35 = .ok (.iload_n 1, 1) := by decide +kernel
theorem dX7_count_36 : decode cX7_count 36 = .ok (.iconst 5, 1) := by decide +kernel
theorem dX7_count_37 : decode cX7_count 37 = .ok (.if_icmp .ne 10, 3) := by decide +kernel
theorem dX7_count_40 : decode cX7_count 40 = .ok (.aload_n 0, 1) := by decide +kernel
theorem dX7_count_41 : decode cX7_count 41 = .ok (.getfield 64, 3) := by decide +kernel
theorem dX7_count_44 : decode cX7_count 44 = .ok (.goto 4, 3) := by decide +kernel
theorem dX7_count_47 : decode cX7_count 47 = .ok (.iconst (-1), 1) := by decide +kernel
theorem dX7_count_48 : decode cX7_count 48 = .ok (.ireturn, 1) := by decide +kernel
theorem dX7_trace_0 : decode cX7_trace 0 = .ok (.aload_n 0, 1) := by decide +kernel
theorem dX7_trace_1 : decode cX7_trace 1 = .ok (.iconst 0, 1) := by decide +kernel
theorem dX7_trace_2 : decode cX7_trace 2 = .ok (.putfield 56, 3) := by decide +kernel
theorem dX7_trace_5 : decode cX7_trace 5 = .ok (.aload_n 0, 1) := by decide +kernel
theorem dX7_trace_6 : decode cX7_trace 6 = .ok (.getfield 200, 3) := by decide +kernel
theorem dX7_trace_9 : decode cX7_trace 9 = .ok (.lreturn, 1) := by decide +kernel
theorem dJ6_numberOfTrailingZeros_0f7a4_0 : decode cJ6_numberOfTrailingZeros_0f7a4 0 = .ok (.iload_n 0, 1) := by decide +kernel
theorem dJ6_numberOfTrailingZeros_0f7a4_1 : decode cJ6_numberOfTrailingZeros_0f7a4 1 = .ok (.iconst (-1), 1) := by decide +kernel
theorem dJ6_numberOfTrailingZeros_0f7a4_2 : decode cJ6_numberOfTrailingZeros_0f7a4 2 = .ok (.ixor, 1) := by decide +kernel
theorem dJ6_numberOfTrailingZeros_0f7a4_3 : decode cJ6_numberOfTrailingZeros_0f7a4 3 = .ok (.iload_n 0, 1) := by decide +kernel
theorem dJ6_numberOfTrailingZeros_0f7a4_4 : decode cJ6_numberOfTrailingZeros_0f7a4 4 = .ok (.iconst 1, 1) := by decide +kernel
theorem dJ6_numberOfTrailingZeros_0f7a4_5 : decode cJ6_numberOfTrailingZeros_0f7a4 5 = .ok (.isub, 1) := by decide +kernel
theorem dJ6_numberOfTrailingZeros_0f7a4_6 : decode cJ6_numberOfTrailingZeros_0f7a4 6 = .ok (.iand, 1) := by decide +kernel
theorem dJ6_numberOfTrailingZeros_0f7a4_7 : decode cJ6_numberOfTrailingZeros_0f7a4 7 = .ok (.istore_n 0, 1) := by decide +kernel
theorem dJ6_numberOfTrailingZeros_0f7a4_8 : decode cJ6_numberOfTrailingZeros_0f7a4 8 = .ok (.iload_n 0, 1) := by decide +kernel
theorem dJ6_numberOfTrailingZeros_0f7a4_9 : decode cJ6_numberOfTrailingZeros_0f7a4 9 = .ok (.ifCond .gt 8, 3) := by decide +kernel
theorem dJ6_numberOfTrailingZeros_0f7a4_12 : decode cJ6_numberOfTrailingZeros_0f7a4 12 = .ok (.iload_n 0, 1) := by decide +kernel
theorem dJ6_numberOfTrailingZeros_0f7a4_13 : decode cJ6_numberOfTrailingZeros_0f7a4 13 = .ok (.bipush 32, 2) := by decide +kernel
theorem dJ6_numberOfTrailingZeros_0f7a4_15 : decode cJ6_numberOfTrailingZeros_0f7a4 15 = .ok (.iand, 1) := by decide +kernel
theorem dJ6_numberOfTrailingZeros_0f7a4_16 : decode cJ6_numberOfTrailingZeros_0f7a4 16 = .ok (.ireturn, 1) := by decide +kernel
theorem dJ6_numberOfTrailingZeros_0f7a4_17 : decode cJ6_numberOfTrailingZeros_0f7a4 17 = .ok (.iconst 1, 1) := by decide +kernel
theorem dJ6_numberOfTrailingZeros_0f7a4_18 : decode cJ6_numberOfTrailingZeros_0f7a4 18 = .ok (.istore_n 1, 1) := by decide +kernel
theorem dJ6_numberOfTrailingZeros_0f7a4_19 : decode cJ6_numberOfTrailingZeros_0f7a4 19 = .ok (.iload_n 0, 1) := by decide +kernel
theorem dJ6_numberOfTrailingZeros_0f7a4_20 : decode cJ6_numberOfTrailingZeros_0f7a4 20 = .ok (.ldc_w 264, 3) := by decide +kernel
theorem dJ6_numberOfTrailingZeros_0f7a4_23 : decode cJ6_numberOfTrailingZeros_0f7a4 23 = .ok (.if_icmp .le 11, 3) := by decide +kernel
theorem dJ6_numberOfTrailingZeros_0f7a4_26 : decode cJ6_numberOfTrailingZeros_0f7a4 26 = .ok (.iinc 1 16, 3) := by decide +kernel
theorem dJ6_numberOfTrailingZeros_0f7a4_29 : decode cJ6_numberOfTrailingZeros_0f7a4 29 = .ok (.iload_n 0, 1) := by decide +kernel
theorem dJ6_numberOfTrailingZeros_0f7a4_30 : decode cJ6_numberOfTrailingZeros_0f7a4 30 = .ok (.bipush 16, 2) := by decide +kernel
theorem dJ6_numberOfTrailingZeros_0f7a4_32 : decode cJ6_numberOfTrailingZeros_0f7a4 32 = .ok (.iushr, 1) := by decide +kernel
theorem dJ6_numberOfTrailingZeros_0f7a4_33 : decode cJ6_numberOfTrailingZeros_0f7a4 33 = .ok (.istore_n 0, 1) := by decide +kernel
theorem dJ6_numberOfTrailingZeros_0f7a4_34 : decode cJ6_numberOfTrailingZeros_0f7a4 34 = .ok (.iload_n 0, 1) := by decide +kernel
theorem dJ6_numberOfTrailingZeros_0f7a4_35 : decode cJ6_numberOfTrailingZeros_0f7a4 35 = .ok (.sipush 256, 3) := by decide +kernel
theorem dJ6_numberOfTrailingZeros_0f7a4_38 : decode cJ6_numberOfTrailingZeros_0f7a4 38 = .ok (.if_icmp .le 11, 3) := by decide +kernel
theorem dJ6_numberOfTrailingZeros_0f7a4_41 : decode cJ6_numberOfTrailingZeros_0f7a4 41 = .ok (.iinc 1 8, 3) := by decide +kernel
theorem dJ6_numberOfTrailingZeros_0f7a4_44 : decode cJ6_numberOfTrailingZeros_0f7a4 44 = .ok (.iload_n 0, 1) := by decide +kernel
theorem dJ6_numberOfTrailingZeros_0f7a4_45 : decode cJ6_numberOfTrailingZeros_0f7a4 45 = .ok (.bipush 8, 2) := by decide +kernel
theorem dJ6_numberOfTrailingZeros_0f7a4_47 : decode cJ6_numberOfTrailingZeros_0f7a4 47 = .ok (.iushr, 1) := by decide +kernel
theorem dJ6_numberOfTrailingZeros_0f7a4_48 : decode cJ6_numberOfTrailingZeros_0f7a4 48 = .ok (.istore_n 0, 1) := by decide +kernel
theorem dJ6_numberOfTrailingZeros_0f7a4_49 : decode cJ6_numberOfTrailingZeros_0f7a4 49 = .ok (.iload_n 0, 1) := by decide +kernel
theorem dJ6_numberOfTrailingZeros_0f7a4_50 : decode cJ6_numberOfTrailingZeros_0f7a4 50 = .ok (.bipush 16, 2) := by decide +kernel
theorem dJ6_numberOfTrailingZeros_0f7a4_52 : decode cJ6_numberOfTrailingZeros_0f7a4 52 = .ok (.if_icmp .le 10, 3) := by decide +kernel
theorem dJ6_numberOfTrailingZeros_0f7a4_55 : decode cJ6_numberOfTrailingZeros_0f7a4 55 = .ok (.iinc 1 4, 3) := by decide +kernel
theorem dJ6_numberOfTrailingZeros_0f7a4_58 : decode cJ6_numberOfTrailingZeros_0f7a4 58 = .ok (.iload_n 0, 1) := by decide +kernel
theorem dJ6_numberOfTrailingZeros_0f7a4_59 : decode cJ6_numberOfTrailingZeros_0f7a4 59 = .ok (.iconst 4, 1) := by decide +kernel
theorem dJ6_numberOfTrailingZeros_0f7a4_60 : decode cJ6_numberOfTrailingZeros_0f7a4 60 = .ok (.iushr, 1) := by decide +kernel
theorem dJ6_numberOfTrailingZeros_0f7a4_61 : decode cJ6_numberOfTrailingZeros_0f7a4 61 = .ok (.istore_n 0, 1) := by decide +kernel
theorem dJ6_numberOfTrailingZeros_0f7a4_62 : decode cJ6_numberOfTrailingZeros_0f7a4 62 = .ok (.iload_n 0, 1) := by decide +kernel
theorem dJ6_numberOfTrailingZeros_0f7a4_63 : decode cJ6_numberOfTrailingZeros_0f7a4 63 = .ok (.iconst 4, 1) := by decide +kernel
theorem dJ6_numberOfTrailingZeros_0f7a4_64 : decode cJ6_numberOfTrailingZeros_0f7a4 64 = .ok (.if_icmp .le 10, 3) := by decide +kernel
theorem dJ6_numberOfTrailingZeros_0f7a4_67 : decode cJ6_numberOfTrailingZeros_0f7a4 67 = .ok (.iinc 1 2, 3) := by decide +kernel
theorem dJ6_numberOfTrailingZeros_0f7a4_70 : decode cJ6_numberOfTrailingZeros_0f7a4 70 = .ok (.iload_n 0, 1) := by decide +kernel
theorem dJ6_numberOfTrailingZeros_0f7a4_71 : decode cJ6_numberOfTrailingZeros_0f7a4 71 = .ok (.iconst 2, 1) := by decide +kernel
theorem dJ6_numberOfTrailingZeros_0f7a4_72 : decode cJ6_numberOfTrailingZeros_0f7a4 72 = .ok (.iushr, 1) := by decide +kernel
theorem dJ6_numberOfTrailingZeros_0f7a4_73 : decode cJ6_numberOfTrailingZeros_0f7a4 73 = .ok (.istore_n 0, 1) := by decide +kernel
theorem dJ6_numberOfTrailingZeros_0f7a4_74 : decode cJ6_numberOfTrailingZeros_0f7a4 74 = .ok (.iload_n 1, 1) := by decide +kernel
theorem dJ6_numberOfTrailingZeros_0f7a4_75 : decode cJ6_numberOfTrailingZeros_0f7a4 75 = .ok (.iload_n 0, 1) := by decide +kernel
theorem dJ6_numberOfTrailingZeros_0f7a4_76 : decode cJ6_numberOfTrailingZeros_0f7a4 76 = .ok (.iconst 1, 1) := by decide +kernel
theorem dJ6_numberOfTrailingZeros_0f7a4_77 : decode cJ6_numberOfTrailingZeros_0f7a4 77 = .ok (.iushr, 1) := by decide +kernel
theorem dJ6_numberOfTrailingZeros_0f7a4_78 : decode cJ6_numberOfTrailingZeros_0f7a4 78 = .ok (.iadd, 1) := by decide +kernel
theorem dJ6_numberOfTrailingZeros_0f7a4_79 : decode cJ6_numberOfTrailingZeros_0f7a4 79 = .ok (.ireturn, 1) := by decide +kernel
theorem dJ6_bitCount_0f7a4_0 : decode cJ6_bitCount_0f7a4 0 = .ok (.iload_n 0, 1) := by decide +kernel
theorem dJ6_bitCount_0f7a4_1 : decode cJ6_bitCount_0f7a4 1 = .ok (.iload_n 0, 1) := by decide +kernel
theorem dJ6_bitCount_0f7a4_2 : decode cJ6_bitCount_0f7a4 2 = .ok (.iconst 1, 1) := by decide +kernel
theorem dJ6_bitCount_0f7a4_3 : decode cJ6_bitCount_0f7a4 3 = .ok (.iushr, 1) := by decide +kernel
theorem dJ6_bitCount_0f7a4_4 : decode cJ6_bitCount_0f7a4 4 = .ok (.ldc_w 265, 3) := by decide +kernel
theorem dJ6_bitCount_0f7a4_7 : decode cJ6_bitCount_0f7a4 7 = .ok (.iand, 1) := by decide +kernel
theorem dJ6_bitCount_0f7a4_8 : decode cJ6_bitCount_0f7a4 8 = .ok (.isub, 1) := by decide +kernel
theorem dJ6_bitCount_0f7a4_9 : decode cJ6_bitCount_0f7a4 9 = .ok (.istore_n 0, 1) := by decide +kernel
theorem dJ6_bitCount_0f7a4_10 : decode cJ6_bitCount_0f7a4 10 = .ok (.iload_n 0, 1) := by decide +kernel
theorem dJ6_bitCount_0f7a4_11 : decode cJ6_bitCount_0f7a4 11 = .ok (.ldc_w 266, 3) := by decide +kernel
theorem dJ6_bitCount_0f7a4_14 : decode cJ6_bitCount_0f7a4 14 = .ok (.iand, 1) := by decide +kernel
theorem dJ6_bitCount_0f7a4_15 : decode cJ6_bitCount_0f7a4 15 = .ok (.iload_n 0, 1) := by decide +kernel
theorem dJ6_bitCount_0f7a4_16 : decode cJ6_bitCount_0f7a4 16 = .ok (.iconst 2, 1) := by decide +kernel
theorem dJ6_bitCount_0f7a4_17 : decode cJ6_bitCount_0f7a4 17 = .ok (.iushr, 1) := by decide +kernel
theorem dJ6_bitCount_0f7a4_18 : decode cJ6_bitCount_0f7a4 18 = .ok (.ldc_w 266, 3) := by decide +kernel
theorem dJ6_bitCount_0f7a4_21 : decode cJ6_bitCount_0f7a4 21 = .ok (.iand, 1) := by decide +kernel
theorem dJ6_bitCount_0f7a4_22 : decode cJ6_bitCount_0f7a4 22 = .ok (.iadd, 1) := by decide +kernel
theorem dJ6_bitCount_0f7a4_23 : decode cJ6_bitCount_0f7a4 23 = .ok (.istore_n 0, 1) := by decide +kernel
theorem dJ6_bitCount_0f7a4_24 : decode cJ6_bitCount_0f7a4 24 = .ok (.iload_n 0, 1) := by decide +kernel
theorem dJ6_bitCount_0f7a4_25 : decode cJ6_bitCount_0f7a4 25 = .ok (.iload_n 0, 1) := by decide +kernel
theorem dJ6_bitCount_0f7a4_26 : decode cJ6_bitCount_0f7a4 26 = .ok (.iconst 4, 1) := by decide +kernel
theorem dJ6_bitCount_0f7a4_27 : decode cJ6_bitCount_0f7a4 27 = .ok (.iushr, 1) := by decide +kernel
theorem dJ6_bitCount_0f7a4_28 : decode cJ6_bitCount_0f7a4 28 = .ok (.iadd, 1) := by decide +kernel
theorem dJ6_bitCount_0f7a4_29 : decode cJ6_bitCount_0f7a4 29 = .ok (.ldc_w 267, 3) := by decide +kernel
theorem dJ6_bitCount_0f7a4_32 : decode cJ6_bitCount_0f7a4 32 = .ok (.iand, 1) := by decide +kernel
theorem dJ6_bitCount_0f7a4_33 : decode cJ6_bitCount_0f7a4 33 = .ok (.istore_n 0, 1) := by decide +kernel
theorem dJ6_bitCount_0f7a4_34 : decode cJ6_bitCount_0f7a4 34 = .ok (.iload_n 0, 1) := by decide +kernel
theorem dJ6_bitCount_0f7a4_35 : decode cJ6_bitCount_0f7a4 35 = .ok (.iload_n 0, 1) := by decide +kernel
theorem dJ6_bitCount_0f7a4_36 : decode cJ6_bitCount_0f7a4 36 = .ok (.bipush 8, 2) := by decide +kernel
theorem dJ6_bitCount_0f7a4_38 : decode cJ6_bitCount_0f7a4 38 = .ok (.iushr, 1) := by decide +kernel
theorem dJ6_bitCount_0f7a4_39 : decode cJ6_bitCount_0f7a4 39 = .ok (.iadd, 1) := by decide +kernel
theorem dJ6_bitCount_0f7a4_40 : decode cJ6_bitCount_0f7a4 40 = .ok (.istore_n 0, 1) := by decide +kernel
theorem dJ6_bitCount_0f7a4_41 : decode cJ6_bitCount_0f7a4 41 = .ok (.iload_n 0, 1) := by decide +kernel
theorem dJ6_bitCount_0f7a4_42 : decode cJ6_bitCount_0f7a4 42 = .ok (.iload_n 0, 1) := by decide +kernel
theorem dJ6_bitCount_0f7a4_43 : decode cJ6_bitCount_0f7a4 43 = .ok (.bipush 16, 2) := by decide +kernel
theorem dJ6_bitCount_0f7a4_45 : decode cJ6_bitCount_0f7a4 45 = .ok (.iushr, 1) := by decide +kernel
theorem dJ6_bitCount_0f7a4_46 : decode cJ6_bitCount_0f7a4 46 = .ok (.iadd, 1) := by decide +kernel
theorem dJ6_bitCount_0f7a4_47 : decode cJ6_bitCount_0f7a4 47 = .ok (.istore_n 0, 1) := by decide +kernel
theorem dJ6_bitCount_0f7a4_48 : decode cJ6_bitCount_0f7a4 48 = .ok (.iload_n 0, 1) := by decide +kernel
theorem dJ6_bitCount_0f7a4_49 : decode cJ6_bitCount_0f7a4 49 = .ok (.bipush 63, 2) := by decide +kernel
theorem dJ6_bitCount_0f7a4_51 : decode cJ6_bitCount_0f7a4 51 = .ok (.iand, 1) := by decide +kernel
theorem dJ6_bitCount_0f7a4_52 : decode cJ6_bitCount_0f7a4 52 = .ok (.ireturn, 1) := by decide +kernel
theorem dJ9_max_7cf53_0 : decode cJ9_max_7cf53 0 = .ok (.iload_n 0, 1) := by decide +kernel
theorem dJ9_max_7cf53_1 : decode cJ9_max_7cf53 1 = .ok (.iload_n 1, 1) := by decide +kernel
theorem dJ9_max_7cf53_2 : decode cJ9_max_7cf53 2 = .ok (.if_icmp .lt 7, 3) := by decide +kernel
theorem dJ9_max_7cf53_5 : decode cJ9_max_7cf53 5 = .ok (.iload_n 0, 1) := by decide +kernel
theorem dJ9_max_7cf53_6 : decode cJ9_max_7cf53 6 = .ok (.goto 4, 3) := by decide +kernel
theorem dJ9_max_7cf53_9 : decode cJ9_max_7cf53 9 = .ok (.iload_n 1, 1) := by decide +kernel
theorem dJ9_max_7cf53_10 : decode cJ9_max_7cf53 10 = .ok (.ireturn, 1) := by decide +kernel
theorem dJ9_min_7cf53_0 : decode cJ9_min_7cf53 0 = .ok (.iload_n 0, 1) := by decide +kernel
theorem dJ9_min_7cf53_1 : decode cJ9_min_7cf53 1 = .ok (.iload_n 1, 1) := by decide +kernel
theorem dJ9_min_7cf53_2 : decode cJ9_min_7cf53 2 = .ok (.if_icmp .gt 7, 3) := by decide +kernel
theorem dJ9_min_7cf53_5 : decode cJ9_min_7cf53 5 = .ok (.iload_n 0, 1) := by decide +kernel
theorem dJ9_min_7cf53_6 : decode cJ9_min_7cf53 6 = .ok (.goto 4, 3) := by decide +kernel
theorem dJ9_min_7cf53_9 : decode cJ9_min_7cf53 9 = .ok (.iload_n 1, 1) := by decide +kernel
theorem dJ9_min_7cf53_10 : decode cJ9_min_7cf53 10 = .ok (.ireturn, 1) := by decide +kernel
theorem dJ7_fill_53178_0 : decode cJ7_fill_53178 0 = .ok (.iconst 0, 1) := by decide +kernel
theorem dJ7_fill_53178_1 : decode cJ7_fill_53178 1 = .ok (.istore_n 2, 1) := by decide +kernel
theorem dJ7_fill_53178_2 : decode cJ7_fill_53178 2 = .ok (.aload_n 0, 1) := by decide +kernel
theorem dJ7_fill_53178_3 : decode cJ7_fill_53178 3 = .ok (.arraylength, 1) := by decide +kernel
theorem dJ7_fill_53178_4 : decode cJ7_fill_53178 4 = .ok (.istore_n 3, 1) := by decide +kernel
theorem dJ7_fill_53178_5 : decode cJ7_fill_53178 5 = .ok (.iload_n 2, 1) := by decide +kernel
theorem dJ7_fill_53178_6 : decode cJ7_fill_53178 6 = .ok (.iload_n 3, 1) := by decide +kernel
theorem dJ7_fill_53178_7 : decode cJ7_fill_53178 7 = .ok (.if_icmp .ge 13, 3) := by decide +kernel
theorem dJ7_fill_53178_10 : decode cJ7_fill_53178 10 = .ok (.aload_n 0, 1) := by decide +kernel
theorem dJ7_fill_53178_11 : decode cJ7_fill_53178 11 = .ok (.iload_n 2, 1) := by decide +kernel
theorem dJ7_fill_53178_12 : decode cJ7_fill_53178 12 = .ok (.iload_n 1, 1) := by decide +kernel
theorem dJ7_fill_53178_13 : decode cJ7_fill_53178 13 = .ok (.iastore, 1) := by decide +kernel
theorem dJ7_fill_53178_14 : decode cJ7_fill_53178 14 = .ok (.iinc 2 1, 3) := by decide +kernel
theorem dJ7_fill_53178_17 : decode cJ7_fill_53178 17 = .ok (.goto (-12), 3) := by decide +kernel
theorem dJ7_fill_53178_20 : decode cJ7_fill_53178 20 = .ok (.return_, 1) := by decide +kernel
theorem dL_law_0 : decode cL_law 0 = .ok (.new 7, 3) := by decide +kernel
theorem dL_law_3 : decode cL_law 3 = .ok (.dup, 1) := by decide +kernel
theorem dL_law_4 : decode cL_law 4 = .ok (.invokespecial 9, 3) := by decide +kernel
theorem dL_law_7 : decode cL_law 7 = .ok (.astore_n 1, 1) := by decide +kernel
theorem dL_law_8 : decode cL_law 8 = .ok (.new 10, 3) := by decide +kernel
theorem dL_law_11 : decode cL_law 11 = .ok (.dup, 1) := by decide +kernel
theorem dL_law_12 : decode cL_law 12 = .ok (.invokespecial 12, 3) := by decide +kernel
theorem dL_law_15 : decode cL_law 15 = .ok (.astore_n 2, 1) := by decide +kernel
theorem dL_law_16 : decode cL_law 16 = .ok (.iconst 0, 1) := by decide +kernel
theorem dL_law_17 : decode cL_law 17 = .ok (.istore_n 3, 1) := by decide +kernel
theorem dL_law_18 : decode cL_law 18 = .ok (.iload_n 3, 1) := by decide +kernel
theorem dL_law_19 : decode cL_law 19 = .ok (.aload_n 0, 1) := by decide +kernel
theorem dL_law_20 : decode cL_law 20 = .ok (.arraylength, 1) := by decide +kernel
theorem dL_law_21 : decode cL_law 21 = .ok (.iconst 4, 1) := by decide +kernel
theorem dL_law_22 : decode cL_law 22 = .ok (.isub, 1) := by decide +kernel
theorem dL_law_23 : decode cL_law 23 = .ok (.if_icmp .gt 912, 3) := by decide +kernel
theorem dL_law_26 : decode cL_law 26 = .ok (.aload_n 0, 1) := by decide +kernel
theorem dL_law_27 : decode cL_law 27 = .ok (.iload_n 3, 1) := by decide +kernel
theorem dL_law_28 : decode cL_law 28 = .ok (.iaload, 1) := by decide +kernel
theorem dL_law_29 : decode cL_law 29 = .ok (.bipush 31, 2) := by decide +kernel
theorem dL_law_31 : decode cL_law 31 = .ok (.iand, 1) := by decide +kernel
theorem dL_law_32 : decode cL_law 32 = .ok (.tableswitch 897 0 29 #[136, 159, 172, 185, 218, 251, 274, 307, 330, 343, 376, 389, 432, 455, 478, 491, 504, 537, 570, 603, 646, 659, 692, 725, 738, 781, 814, 837, 860, 883], 136) := by decide +kernel
theorem dL_law_168 : decode cL_law 168 = .ok (.aload_n 1, 1) := by decide +kernel
theorem dL_law_169 : decode cL_law 169 = .ok (.aload_n 0, 1) := by decide +kernel
theorem dL_law_170 : decode cL_law 170 = .ok (.iload_n 3, 1) := by decide +kernel
theorem dL_law_171 : decode cL_law 171 = .ok (.iconst 1, 1) := by decide +kernel
theorem dL_law_172 : decode cL_law 172 = .ok (.iadd, 1) := by decide +kernel
theorem dL_law_173 : decode cL_law 173 = .ok (.iaload, 1) := by decide +kernel
theorem dL_law_174 : decode cL_law 174 = .ok (.invokevirtual 13, 3) := by decide +kernel
theorem dL_law_177 : decode cL_law 177 = .ok (.aload_n 2, 1) := by decide +kernel
theorem dL_law_178 : decode cL_law 178 = .ok (.aload_n 0, 1) := by decide +kernel
theorem dL_law_179 : decode cL_law 179 = .ok (.iload_n 3, 1) := by decide +kernel
theorem dL_law_180 : decode cL_law 180 = .ok (.iconst 1, 1) := by decide +kernel
theorem dL_law_181 : decode cL_law 181 = .ok (.iadd, 1) := by decide +kernel
theorem dL_law_182 : decode cL_law 182 = .ok (.iaload, 1) := by decide +kernel
theorem dL_law_183 : decode cL_law 183 = .ok (.invokevirtual 17, 3) := by decide +kernel
theorem dL_law_186 : decode cL_law 186 = .ok (.if_icmp .eq 743, 3) := by decide +kernel
theorem dL_law_189 : decode cL_law 189 = .ok (.iconst 0, 1) := by decide +kernel
theorem dL_law_190 : decode cL_law 190 = .ok (.ireturn, 1) := by decide +kernel
theorem dL_law_191 : decode cL_law 191 = .ok (.aload_n 1, 1) := by decide +kernel
theorem dL_law_192 : decode cL_law 192 = .ok (.invokevirtual 18, 3) := by decide +kernel
theorem dL_law_195 : decode cL_law 195 = .ok (.aload_n 2, 1) := by decide +kernel
theorem dL_law_196 : decode cL_law 196 = .ok (.invokevirtual 22, 3) := by decide +kernel
theorem dL_law_199 : decode cL_law 199 = .ok (.if_icmp .eq 730, 3) := by decide +kernel
theorem dL_law_202 : decode cL_law 202 = .ok (.iconst 0, 1) := by decide +kernel
theorem dL_law_203 : decode cL_law 203 = .ok (.ireturn, 1) := by decide +kernel
theorem dL_law_204 : decode cL_law 204 = .ok (.aload_n 1, 1) := by decide +kernel
theorem dL_law_205 : decode cL_law 205 = .ok (.invokevirtual 23, 3) := by decide +kernel
theorem dL_law_208 : decode cL_law 208 = .ok (.aload_n 2, 1) := by decide +kernel
theorem dL_law_209 : decode cL_law 209 = .ok (.invokevirtual 26, 3) := by decide +kernel
theorem dL_law_212 : decode cL_law 212 = .ok (.if_icmp .eq 717, 3) := by decide +kernel
theorem dL_law_215 : decode cL_law 215 = .ok (.iconst 0, 1) := by decide +kernel
theorem dL_law_216 : decode cL_law 216 = .ok (.ireturn, 1) := by decide +kernel
theorem dL_law_217 : decode cL_law 217 = .ok (.aload_n 1, 1) := by decide +kernel
theorem dL_law_218 : decode cL_law 218 = .ok (.aload_n 0, 1) := by decide +kernel
theorem dL_law_219 : decode cL_law 219 = .ok (.iload_n 3, 1) := by decide +kernel
theorem dL_law_220 : decode cL_law 220 = .ok (.iconst 1, 1) := by decide +kernel
theorem dL_law_221 : decode cL_law 221 = .ok (.iadd, 1) := by decide +kernel
theorem dL_law_222 : decode cL_law 222 = .ok (.iaload, 1) := by decide +kernel
theorem dL_law_223 : decode cL_law 223 = .ok (.aload_n 0, 1) := by decide +kernel
theorem dL_law_224 : decode cL_law 224 = .ok (.iload_n 3, 1) := by decide +kernel
theorem dL_law_225 : decode cL_law 225 = .ok (.iconst 2, 1) := by decide +kernel
theorem dL_law_226 : decode cL_law 226 = .ok (.iadd, 1) := by decide +kernel
theorem dL_law_227 : decode cL_law 227 = .ok (.iaload, 1) := by decide +kernel
theorem dL_law_228 : decode cL_law 228 = .ok (.invokevirtual 27, 3) := by decide +kernel
theorem dL_law_231 : decode cL_law 231 = .ok (.aload_n 2, 1) := by decide +kernel
theorem dL_law_232 : decode cL_law 232 = .ok (.aload_n 0, 1) := by decide +kernel
theorem dL_law_233 : decode cL_law 233 = .ok (.iload_n 3, 1) := by decide +kernel
theorem dL_law_234 : decode cL_law 234 = .ok (.iconst 1, 1) := by decide +kernel
theorem dL_law_235 : decode cL_law 235 = .ok (.iadd, 1) := by decide +kernel
theorem dL_law_236 : decode cL_law 236 = .ok (.iaload, 1) := by decide +kernel
theorem dL_law_237 : decode cL_law 237 = .ok (.aload_n 0, 1) := by decide +kernel
theorem dL_law_238 : decode cL_law 238 = .ok (.iload_n 3, 1) := by decide +kernel
theorem dL_law_239 : decode cL_law 239 = .ok (.iconst 2, 1) := by decide +kernel
theorem dL_law_240 : decode cL_law 240 = .ok (.iadd, 1) := by decide +kernel
theorem dL_law_241 : decode cL_law 241 = .ok (.iaload, 1) := by decide +kernel
theorem dL_law_242 : decode cL_law 242 = .ok (.invokevirtual 31, 3) := by decide +kernel
theorem dL_law_245 : decode cL_law 245 = .ok (.if_icmp .eq 684, 3) := by decide +kernel
theorem dL_law_248 : decode cL_law 248 = .ok (.iconst 0, 1) := by decide +kernel
theorem dL_law_249 : decode cL_law 249 = .ok (.ireturn, 1) := by decide +kernel
theorem dL_law_250 : decode cL_law 250 = .ok (.aload_n 1, 1) := by decide +kernel
theorem dL_law_251 : decode cL_law 251 = .ok (.aload_n 0, 1) := by decide +kernel
theorem dL_law_252 : decode cL_law 252 = .ok (.iload_n 3, 1) := by decide +kernel
theorem dL_law_253 : decode cL_law 253 = .ok (.iconst 1, 1) := by decide +kernel
theorem dL_law_254 : decode cL_law 254 = .ok (.iadd, 1) := by decide +kernel
theorem dL_law_255 : decode cL_law 255 = .ok (.iaload, 1) := by decide +kernel
theorem dL_law_256 : decode cL_law 256 = .ok (.aload_n 0, 1) := by decide +kernel
theorem dL_law_257 : decode cL_law 257 = .ok (.iload_n 3, 1) := by decide +kernel
theorem dL_law_258 : decode cL_law 258 = .ok (.iconst 2, 1) := by decide +kernel
theorem dL_law_259 : decode cL_law 259 = .ok (.iadd, 1) := by decide +kernel
theorem dL_law_260 : decode cL_law 260 = .ok (.iaload, 1) := by decide +kernel
theorem dL_law_261 : decode cL_law 261 = .ok (.invokevirtual 32, 3) := by decide +kernel
theorem dL_law_264 : decode cL_law 264 = .ok (.aload_n 2, 1) := by decide +kernel
theorem dL_law_265 : decode cL_law 265 = .ok (.aload_n 0, 1) := by decide +kernel
theorem dL_law_266 : decode cL_law 266 = .ok (.iload_n 3, 1) := by decide +kernel
theorem dL_law_267 : decode cL_law 267 = .ok (.iconst 1, 1) := by decide +kernel
theorem dL_law_268 : decode cL_law 268 = .ok (.iadd, 1) := by decide +kernel
theorem dL_law_269 : decode cL_law 269 = .ok (.iaload, 1) := by decide +kernel
theorem dL_law_270 : decode cL_law 270 = .ok (.aload_n 0, 1) := by decide +kernel
theorem dL_law_271 : decode cL_law 271 = .ok (.iload_n 3, 1) := by decide +kernel
theorem dL_law_272 : decode cL_law 272 = .ok (.iconst 2, 1) := by decide +kernel
theorem dL_law_273 : decode cL_law 273 = .ok (.iadd, 1) := by decide +kernel
theorem dL_law_274 : decode cL_law 274 = .ok (.iaload, 1) := by decide +kernel
theorem dL_law_275 : decode cL_law 275 = .ok (.invokevirtual 35, 3) := by decide +kernel
theorem dL_law_278 : decode cL_law 278 = .ok (.if_icmp .eq 651, 3) := by decide +kernel
theorem dL_law_281 : decode cL_law 281 = .ok (.iconst 0, 1) := by decide +kernel
theorem dL_law_282 : decode cL_law 282 = .ok (.ireturn, 1) := by decide +kernel
theorem dL_law_283 : decode cL_law 283 = .ok (.aload_n 1, 1) := by decide +kernel
theorem dL_law_284 : decode cL_law 284 = .ok (.aload_n 0, 1) := by decide +kernel
theorem dL_law_285 : decode cL_law 285 = .ok (.iload_n 3, 1) := by decide +kernel
theorem dL_law_286 : decode cL_law 286 = .ok (.iconst 1, 1) := by decide +kernel
theorem dL_law_287 : decode cL_law 287 = .ok (.iadd, 1) := by decide +kernel
theorem dL_law_288 : decode cL_law 288 = .ok (.iaload, 1) := by decide +kernel
theorem dL_law_289 : decode cL_law 289 = .ok (.invokevirtual 36, 3) := by decide +kernel
theorem dL_law_292 : decode cL_law 292 = .ok (.aload_n 2, 1) := by decide +kernel
theorem dL_law_293 : decode cL_law 293 = .ok (.aload_n 0, 1) := by decide +kernel
theorem dL_law_294 : decode cL_law 294 = .ok (.iload_n 3, 1) := by decide +kernel
theorem dL_law_295 : decode cL_law 295 = .ok (.iconst 1, 1) := by decide +kernel
theorem dL_law_296 : decode cL_law 296 = .ok (.iadd, 1) := by decide +kernel
theorem dL_law_297 : decode cL_law 297 = .ok (.iaload, 1) := by decide +kernel
theorem dL_law_298 : decode cL_law 298 = .ok (.invokevirtual 39, 3) := by decide +kernel
theorem dL_law_301 : decode cL_law 301 = .ok (.if_icmp .eq 628, 3) := by decide +kernel
theorem dL_law_304 : decode cL_law 304 = .ok (.iconst 0, 1) := by decide +kernel
theorem dL_law_305 : decode cL_law 305 = .ok (.ireturn, 1) := by decide +kernel
theorem dL_law_306 : decode cL_law 306 = .ok (.aload_n 1, 1) := by decide +kernel
theorem dL_law_307 : decode cL_law 307 = .ok (.aload_n 0, 1) := by decide +kernel
theorem dL_law_308 : decode cL_law 308 = .ok (.iload_n 3, 1) := by decide +kernel
theorem dL_law_309 : decode cL_law 309 = .ok (.iconst 1, 1) := by decide +kernel
theorem dL_law_310 : decode cL_law 310 = .ok (.iadd, 1) := by decide +kernel
theorem dL_law_311 : decode cL_law 311 = .ok (.iaload, 1) := by decide +kernel
theorem dL_law_312 : decode cL_law 312 = .ok (.aload_n 0, 1) := by decide +kernel
theorem dL_law_313 : decode cL_law 313 = .ok (.iload_n 3, 1) := by decide +kernel
theorem dL_law_314 : decode cL_law 314 = .ok (.iconst 2, 1) := by decide +kernel
theorem dL_law_315 : decode cL_law 315 = .ok (.iadd, 1) := by decide +kernel
theorem dL_law_316 : decode cL_law 316 = .ok (.iaload, 1) := by decide +kernel
theorem dL_law_317 : decode cL_law 317 = .ok (.invokevirtual 40, 3) := by decide +kernel
theorem dL_law_320 : decode cL_law 320 = .ok (.aload_n 2, 1) := by decide +kernel
theorem dL_law_321 : decode cL_law 321 = .ok (.aload_n 0, 1) := by decide +kernel
theorem dL_law_322 : decode cL_law 322 = .ok (.iload_n 3, 1) := by decide +kernel
theorem dL_law_323 : decode cL_law 323 = .ok (.iconst 1, 1) := by decide +kernel
theorem dL_law_324 : decode cL_law 324 = .ok (.iadd, 1) := by decide +kernel
theorem dL_law_325 : decode cL_law 325 = .ok (.iaload, 1) := by decide +kernel
theorem dL_law_326 : decode cL_law 326 = .ok (.aload_n 0, 1) := by decide +kernel
theorem dL_law_327 : decode cL_law 327 = .ok (.iload_n 3, 1) := by decide +kernel
theorem dL_law_328 : decode cL_law 328 = .ok (.iconst 2, 1) := by decide +kernel
theorem dL_law_329 : decode cL_law 329 = .ok (.iadd, 1) := by decide +kernel
theorem dL_law_330 : decode cL_law 330 = .ok (.iaload, 1) := by decide +kernel
theorem dL_law_331 : decode cL_law 331 = .ok (.invokevirtual 43, 3) := by decide +kernel
theorem dL_law_334 : decode cL_law 334 = .ok (.if_icmp .eq 595, 3) := by decide +kernel
theorem dL_law_337 : decode cL_law 337 = .ok (.iconst 0, 1) := by decide +kernel
theorem dL_law_338 : decode cL_law 338 = .ok (.ireturn, 1) := by decide +kernel
theorem dL_law_339 : decode cL_law 339 = .ok (.aload_n 1, 1) := by decide +kernel
theorem dL_law_340 : decode cL_law 340 = .ok (.aload_n 0, 1) := by decide +kernel
theorem dL_law_341 : decode cL_law 341 = .ok (.iload_n 3, 1) := by decide +kernel
theorem dL_law_342 : decode cL_law 342 = .ok (.iconst 1, 1) := by decide +kernel
theorem dL_law_343 : decode cL_law 343 = .ok (.iadd, 1) := by decide +kernel
theorem dL_law_344 : decode cL_law 344 = .ok (.iaload, 1) := by decide +kernel
theorem dL_law_345 : decode cL_law 345 = .ok (.invokevirtual 44, 3) := by decide +kernel
theorem dL_law_348 : decode cL_law 348 = .ok (.aload_n 2, 1) := by decide +kernel
theorem dL_law_349 : decode cL_law 349 = .ok (.aload_n 0, 1) := by decide +kernel
theorem dL_law_350 : decode cL_law 350 = .ok (.iload_n 3, 1) := by decide +kernel
theorem dL_law_351 : decode cL_law 351 = .ok (.iconst 1, 1) := by decide +kernel
theorem dL_law_352 : decode cL_law 352 = .ok (.iadd, 1) := by decide +kernel
theorem dL_law_353 : decode cL_law 353 = .ok (.iaload, 1) := by decide +kernel
theorem dL_law_354 : decode cL_law 354 = .ok (.invokevirtual 47, 3) := by decide +kernel
theorem dL_law_357 : decode cL_law 357 = .ok (.if_icmp .eq 572, 3) := by decide +kernel
theorem dL_law_360 : decode cL_law 360 = .ok (.iconst 0, 1) := by decide +kernel
theorem dL_law_361 : decode cL_law 361 = .ok (.ireturn, 1) := by decide +kernel
theorem dL_law_362 : decode cL_law 362 = .ok (.aload_n 1, 1) := by decide +kernel
theorem dL_law_363 : decode cL_law 363 = .ok (.invokevirtual 48, 3) := by decide +kernel
theorem dL_law_366 : decode cL_law 366 = .ok (.aload_n 2, 1) := by decide +kernel
theorem dL_law_367 : decode cL_law 367 = .ok (.invokevirtual 51, 3) := by decide +kernel
theorem dL_law_370 : decode cL_law 370 = .ok (.if_icmp .eq 559, 3) := by decide +kernel
theorem dL_law_373 : decode cL_law 373 = .ok (.iconst 0, 1) := by decide +kernel
theorem dL_law_374 : decode cL_law 374 = .ok (.ireturn, 1) := by decide +kernel
theorem dL_law_375 : decode cL_law 375 = .ok (.aload_n 1, 1) := by decide +kernel
theorem dL_law_376 : decode cL_law 376 = .ok (.aload_n 0, 1) := by decide +kernel
theorem dL_law_377 : decode cL_law 377 = .ok (.iload_n 3, 1) := by decide +kernel
theorem dL_law_378 : decode cL_law 378 = .ok (.iconst 1, 1) := by decide +kernel
theorem dL_law_379 : decode cL_law 379 = .ok (.iadd, 1) := by decide +kernel
theorem dL_law_380 : decode cL_law 380 = .ok (.iaload, 1) := by decide +kernel
theorem dL_law_381 : decode cL_law 381 = .ok (.aload_n 0, 1) := by decide +kernel
theorem dL_law_382 : decode cL_law 382 = .ok (.iload_n 3, 1) := by decide +kernel
theorem dL_law_383 : decode cL_law 383 = .ok (.iconst 2, 1) := by decide +kernel
theorem dL_law_384 : decode cL_law 384 = .ok (.iadd, 1) := by decide +kernel
theorem dL_law_385 : decode cL_law 385 = .ok (.iaload, 1) := by decide +kernel
theorem dL_law_386 : decode cL_law 386 = .ok (.invokevirtual 52, 3) := by decide +kernel
theorem dL_law_389 : decode cL_law 389 = .ok (.aload_n 2, 1) := by decide +kernel
theorem dL_law_390 : decode cL_law 390 = .ok (.aload_n 0, 1) := by decide +kernel
theorem dL_law_391 : decode cL_law 391 = .ok (.iload_n 3, 1) := by decide +kernel
theorem dL_law_392 : decode cL_law 392 = .ok (.iconst 1, 1) := by decide +kernel
theorem dL_law_393 : decode cL_law 393 = .ok (.iadd, 1) := by decide +kernel
theorem dL_law_394 : decode cL_law 394 = .ok (.iaload, 1) := by decide +kernel
theorem dL_law_395 : decode cL_law 395 = .ok (.aload_n 0, 1) := by decide +kernel
theorem dL_law_396 : decode cL_law 396 = .ok (.iload_n 3, 1) := by decide +kernel
theorem dL_law_397 : decode cL_law 397 = .ok (.iconst 2, 1) := by decide +kernel
theorem dL_law_398 : decode cL_law 398 = .ok (.iadd, 1) := by decide +kernel
theorem dL_law_399 : decode cL_law 399 = .ok (.iaload, 1) := by decide +kernel
theorem dL_law_400 : decode cL_law 400 = .ok (.invokevirtual 55, 3) := by decide +kernel
theorem dL_law_403 : decode cL_law 403 = .ok (.if_icmp .eq 526, 3) := by decide +kernel
theorem dL_law_406 : decode cL_law 406 = .ok (.iconst 0, 1) := by decide +kernel
theorem dL_law_407 : decode cL_law 407 = .ok (.ireturn, 1) := by decide +kernel
theorem dL_law_408 : decode cL_law 408 = .ok (.aload_n 1, 1) := by decide +kernel
theorem dL_law_409 : decode cL_law 409 = .ok (.invokevirtual 56, 3) := by decide +kernel
theorem dL_law_412 : decode cL_law 412 = .ok (.aload_n 2, 1) := by decide +kernel
theorem dL_law_413 : decode cL_law 413 = .ok (.invokevirtual 59, 3) := by decide +kernel
theorem dL_law_416 : decode cL_law 416 = .ok (.if_icmp .eq 513, 3) := by decide +kernel
theorem dL_law_419 : decode cL_law 419 = .ok (.iconst 0, 1) := by decide +kernel
theorem dL_law_420 : decode cL_law 420 = .ok (.ireturn, 1) := by decide +kernel
theorem dL_law_421 : decode cL_law 421 = .ok (.aload_n 1, 1) := by decide +kernel
theorem dL_law_422 : decode cL_law 422 = .ok (.aload_n 0, 1) := by decide +kernel
theorem dL_law_423 : decode cL_law 423 = .ok (.iload_n 3, 1) := by decide +kernel
theorem dL_law_424 : decode cL_law 424 = .ok (.iconst 1, 1) := by decide +kernel
theorem dL_law_425 : decode cL_law 425 = .ok (.iadd, 1) := by decide +kernel
theorem dL_law_426 : decode cL_law 426 = .ok (.iaload, 1) := by decide +kernel
theorem dL_law_427 : decode cL_law 427 = .ok (.aload_n 0, 1) := by decide +kernel
theorem dL_law_428 : decode cL_law 428 = .ok (.iload_n 3, 1) := by decide +kernel
theorem dL_law_429 : decode cL_law 429 = .ok (.iconst 2, 1) := by decide +kernel
theorem dL_law_430 : decode cL_law 430 = .ok (.iadd, 1) := by decide +kernel
theorem dL_law_431 : decode cL_law 431 = .ok (.iaload, 1) := by decide +kernel
theorem dL_law_432 : decode cL_law 432 = .ok (.aload_n 0, 1) := by decide +kernel
theorem dL_law_433 : decode cL_law 433 = .ok (.iload_n 3, 1) := by decide +kernel
theorem dL_law_434 : decode cL_law 434 = .ok (.iconst 3, 1) := by decide +kernel
theorem dL_law_435 : decode cL_law 435 = .ok (.iadd, 1) := by decide +kernel
theorem dL_law_436 : decode cL_law 436 = .ok (.iaload, 1) := by decide +kernel
theorem dL_law_437 : decode cL_law 437 = .ok (.invokevirtual 60, 3) := by decide +kernel
theorem dL_law_440 : decode cL_law 440 = .ok (.aload_n 2, 1) := by decide +kernel
theorem dL_law_441 : decode cL_law 441 = .ok (.aload_n 0, 1) := by decide +kernel
theorem dL_law_442 : decode cL_law 442 = .ok (.iload_n 3, 1) := by decide +kernel
theorem dL_law_443 : decode cL_law 443 = .ok (.iconst 1, 1) := by decide +kernel
theorem dL_law_444 : decode cL_law 444 = .ok (.iadd, 1) := by decide +kernel
theorem dL_law_445 : decode cL_law 445 = .ok (.iaload, 1) := by decide +kernel
theorem dL_law_446 : decode cL_law 446 = .ok (.aload_n 0, 1) := by decide +kernel
theorem dL_law_447 : decode cL_law 447 = .ok (.iload_n 3, 1) := by decide +kernel
theorem dL_law_448 : decode cL_law 448 = .ok (.iconst 2, 1) := by decide +kernel
theorem dL_law_449 : decode cL_law 449 = .ok (.iadd, 1) := by decide +kernel
theorem dL_law_450 : decode cL_law 450 = .ok (.iaload, 1) := by decide +kernel
theorem dL_law_451 : decode cL_law 451 = .ok (.aload_n 0, 1) := by decide +kernel
theorem dL_law_452 : decode cL_law 452 = .ok (.iload_n 3, 1) := by decide +kernel
theorem dL_law_453 : decode cL_law 453 = .ok (.iconst 3, 1) := by decide +kernel
theorem dL_law_454 : decode cL_law 454 = .ok (.iadd, 1) := by decide +kernel
theorem dL_law_455 : decode cL_law 455 = .ok (.iaload, 1) := by decide +kernel
theorem dL_law_456 : decode cL_law 456 = .ok (.invokevirtual 64, 3) := by decide +kernel
theorem dL_law_459 : decode cL_law 459 = .ok (.if_icmp .eq 470, 3) := by decide +kernel
theorem dL_law_462 : decode cL_law 462 = .ok (.iconst 0, 1) := by decide +kernel
theorem dL_law_463 : decode cL_law 463 = .ok (.ireturn, 1) := by decide +kernel
theorem dL_law_464 : decode cL_law 464 = .ok (.aload_n 1, 1) := by decide +kernel
theorem dL_law_465 : decode cL_law 465 = .ok (.aload_n 0, 1) := by decide +kernel
theorem dL_law_466 : decode cL_law 466 = .ok (.iload_n 3, 1) := by decide +kernel
theorem dL_law_467 : decode cL_law 467 = .ok (.iconst 1, 1) := by decide +kernel
theorem dL_law_468 : decode cL_law 468 = .ok (.iadd, 1) := by decide +kernel
theorem dL_law_469 : decode cL_law 469 = .ok (.iaload, 1) := by decide +kernel
theorem dL_law_470 : decode cL_law 470 = .ok (.invokevirtual 65, 3) := by decide +kernel
theorem dL_law_473 : decode cL_law 473 = .ok (.aload_n 2, 1) := by decide +kernel
theorem dL_law_474 : decode cL_law 474 = .ok (.aload_n 0, 1) := by decide +kernel
theorem dL_law_475 : decode cL_law 475 = .ok (.iload_n 3, 1) := by decide +kernel
theorem dL_law_476 : decode cL_law 476 = .ok (.iconst 1, 1) := by decide +kernel
theorem dL_law_477 : decode cL_law 477 = .ok (.iadd, 1) := by decide +kernel
theorem dL_law_478 : decode cL_law 478 = .ok (.iaload, 1) := by decide +kernel
theorem dL_law_479 : decode cL_law 479 = .ok (.invokevirtual 68, 3) := by decide +kernel
theorem dL_law_482 : decode cL_law 482 = .ok (.if_icmp .eq 447, 3) := by decide +kernel
theorem dL_law_485 : decode cL_law 485 = .ok (.iconst 0, 1) := by decide +kernel
theorem dL_law_486 : decode cL_law 486 = .ok (.ireturn, 1) := by decide +kernel
theorem dL_law_487 : decode cL_law 487 = .ok (.aload_n 1, 1) := by decide +kernel
theorem dL_law_488 : decode cL_law 488 = .ok (.aload_n 0, 1) := by decide +kernel
theorem dL_law_489 : decode cL_law 489 = .ok (.iload_n 3, 1) := by decide +kernel
theorem dL_law_490 : decode cL_law 490 = .ok (.iconst 1, 1) := by decide +kernel
theorem dL_law_491 : decode cL_law 491 = .ok (.iadd, 1) := by decide +kernel
theorem dL_law_492 : decode cL_law 492 = .ok (.iaload, 1) := by decide +kernel
theorem dL_law_493 : decode cL_law 493 = .ok (.invokevirtual 69, 3) := by decide +kernel
theorem dL_law_496 : decode cL_law 496 = .ok (.aload_n 2, 1) := by decide +kernel
theorem dL_law_497 : decode cL_law 497 = .ok (.aload_n 0, 1) := by decide +kernel
theorem dL_law_498 : decode cL_law 498 = .ok (.iload_n 3, 1) := by decide +kernel
theorem dL_law_499 : decode cL_law 499 = .ok (.iconst 1, 1) := by decide +kernel
theorem dL_law_500 : decode cL_law 500 = .ok (.iadd, 1) := by decide +kernel
theorem dL_law_501 : decode cL_law 501 = .ok (.iaload, 1) := by decide +kernel
theorem dL_law_502 : decode cL_law 502 = .ok (.invokevirtual 72, 3) := by decide +kernel
theorem dL_law_505 : decode cL_law 505 = .ok (.if_icmp .eq 424, 3) := by decide +kernel
theorem dL_law_508 : decode cL_law 508 = .ok (.iconst 0, 1) := by decide +kernel
theorem dL_law_509 : decode cL_law 509 = .ok (.ireturn, 1) := by decide +kernel
theorem dL_law_510 : decode cL_law 510 = .ok (.aload_n 1, 1) := by decide +kernel
theorem dL_law_511 : decode cL_law 511 = .ok (.invokevirtual 73, 3) := by decide +kernel
theorem dL_law_514 : decode cL_law 514 = .ok (.aload_n 2, 1) := by decide +kernel
theorem dL_law_515 : decode cL_law 515 = .ok (.invokevirtual 76, 3) := by decide +kernel
theorem dL_law_518 : decode cL_law 518 = .ok (.if_icmp .eq 411, 3) := by decide +kernel
theorem dL_law_521 : decode cL_law 521 = .ok (.iconst 0, 1) := by decide +kernel
theorem dL_law_522 : decode cL_law 522 = .ok (.ireturn, 1) := by decide +kernel
theorem dL_law_523 : decode cL_law 523 = .ok (.aload_n 1, 1) := by decide +kernel
theorem dL_law_524 : decode cL_law 524 = .ok (.invokevirtual 77, 3) := by decide +kernel
theorem dL_law_527 : decode cL_law 527 = .ok (.aload_n 2, 1) := by decide +kernel
theorem dL_law_528 : decode cL_law 528 = .ok (.invokevirtual 80, 3) := by decide +kernel
theorem dL_law_531 : decode cL_law 531 = .ok (.if_icmp .eq 398, 3) := by decide +kernel
theorem dL_law_534 : decode cL_law 534 = .ok (.iconst 0, 1) := by decide +kernel
theorem dL_law_535 : decode cL_law 535 = .ok (.ireturn, 1) := by decide +kernel
theorem dL_law_536 : decode cL_law 536 = .ok (.aload_n 1, 1) := by decide +kernel
theorem dL_law_537 : decode cL_law 537 = .ok (.aload_n 0, 1) := by decide +kernel
theorem dL_law_538 : decode cL_law 538 = .ok (.iload_n 3, 1) := by decide +kernel
theorem dL_law_539 : decode cL_law 539 = .ok (.iconst 1, 1) := by decide +kernel
theorem dL_law_540 : decode cL_law 540 = .ok (.iadd, 1) := by decide +kernel
theorem dL_law_541 : decode cL_law 541 = .ok (.iaload, 1) := by decide +kernel
theorem dL_law_542 : decode cL_law 542 = .ok (.aload_n 0, 1) := by decide +kernel
theorem dL_law_543 : decode cL_law 543 = .ok (.iload_n 3, 1) := by decide +kernel
theorem dL_law_544 : decode cL_law 544 = .ok (.iconst 2, 1) := by decide +kernel
theorem dL_law_545 : decode cL_law 545 = .ok (.iadd, 1) := by decide +kernel
theorem dL_law_546 : decode cL_law 546 = .ok (.iaload, 1) := by decide +kernel
theorem dL_law_547 : decode cL_law 547 = .ok (.invokevirtual 81, 3) := by decide +kernel
theorem dL_law_550 : decode cL_law 550 = .ok (.aload_n 2, 1) := by decide +kernel
theorem dL_law_551 : decode cL_law 551 = .ok (.aload_n 0, 1) := by decide +kernel
theorem dL_law_552 : decode cL_law 552 = .ok (.iload_n 3, 1) := by decide +kernel
theorem dL_law_553 : decode cL_law 553 = .ok (.iconst 1, 1) := by decide +kernel
theorem dL_law_554 : decode cL_law 554 = .ok (.iadd, 1) := by decide +kernel
theorem dL_law_555 : decode cL_law 555 = .ok (.iaload, 1) := by decide +kernel
theorem dL_law_556 : decode cL_law 556 = .ok (.aload_n 0, 1) := by decide +kernel
theorem dL_law_557 : decode cL_law 557 = .ok (.iload_n 3, 1) := by decide +kernel
theorem dL_law_558 : decode cL_law 558 = .ok (.iconst 2, 1) := by decide +kernel
theorem dL_law_559 : decode cL_law 559 = .ok (.iadd, 1) := by decide +kernel
theorem dL_law_560 : decode cL_law 560 = .ok (.iaload, 1) := by decide +kernel
theorem dL_law_561 : decode cL_law 561 = .ok (.invokevirtual 84, 3) := by decide +kernel
theorem dL_law_564 : decode cL_law 564 = .ok (.if_icmp .eq 365, 3) := by decide +kernel
theorem dL_law_567 : decode cL_law 567 = .ok (.iconst 0, 1) := by decide +kernel
theorem dL_law_568 : decode cL_law 568 = .ok (.ireturn, 1) := by decide +kernel
theorem dL_law_569 : decode cL_law 569 = .ok (.aload_n 1, 1) := by decide +kernel
theorem dL_law_570 : decode cL_law 570 = .ok (.aload_n 0, 1) := by decide +kernel
theorem dL_law_571 : decode cL_law 571 = .ok (.iload_n 3, 1) := by decide +kernel
theorem dL_law_572 : decode cL_law 572 = .ok (.iconst 1, 1) := by decide +kernel
theorem dL_law_573 : decode cL_law 573 = .ok (.iadd, 1) := by decide +kernel
theorem dL_law_574 : decode cL_law 574 = .ok (.iaload, 1) := by decide +kernel
theorem dL_law_575 : decode cL_law 575 = .ok (.aload_n 0, 1) := by decide +kernel
theorem dL_law_576 : decode cL_law 576 = .ok (.iload_n 3, 1) := by decide +kernel
theorem dL_law_577 : decode cL_law 577 = .ok (.iconst 2, 1) := by decide +kernel
theorem dL_law_578 : decode cL_law 578 = .ok (.iadd, 1) := by decide +kernel
theorem dL_law_579 : decode cL_law 579 = .ok (.iaload, 1) := by decide +kernel
theorem dL_law_580 : decode cL_law 580 = .ok (.invokevirtual 85, 3) := by decide +kernel
theorem dL_law_583 : decode cL_law 583 = .ok (.aload_n 2, 1) := by decide +kernel
theorem dL_law_584 : decode cL_law 584 = .ok (.aload_n 0, 1) := by decide +kernel
theorem dL_law_585 : decode cL_law 585 = .ok (.iload_n 3, 1) := by decide +kernel
theorem dL_law_586 : decode cL_law 586 = .ok (.iconst 1, 1) := by decide +kernel
theorem dL_law_587 : decode cL_law 587 = .ok (.iadd, 1) := by decide +kernel
theorem dL_law_588 : decode cL_law 588 = .ok (.iaload, 1) := by decide +kernel
theorem dL_law_589 : decode cL_law 589 = .ok (.aload_n 0, 1) := by decide +kernel
theorem dL_law_590 : decode cL_law 590 = .ok (.iload_n 3, 1) := by decide +kernel
theorem dL_law_591 : decode cL_law 591 = .ok (.iconst 2, 1) := by decide +kernel
theorem dL_law_592 : decode cL_law 592 = .ok (.iadd, 1) := by decide +kernel
theorem dL_law_593 : decode cL_law 593 = .ok (.iaload, 1) := by decide +kernel
theorem dL_law_594 : decode cL_law 594 = .ok (.invokevirtual 88, 3) := by decide +kernel
theorem dL_law_597 : decode cL_law 597 = .ok (.if_icmp .eq 332, 3) := by decide +kernel
theorem dL_law_600 : decode cL_law 600 = .ok (.iconst 0, 1) := by decide +kernel
theorem dL_law_601 : decode cL_law 601 = .ok (.ireturn, 1) := by decide +kernel
theorem dL_law_602 : decode cL_law 602 = .ok (.aload_n 1, 1) := by decide +kernel
theorem dL_law_603 : decode cL_law 603 = .ok (.aload_n 0, 1) := by decide +kernel
theorem dL_law_604 : decode cL_law 604 = .ok (.iload_n 3, 1) := by decide +kernel
theorem dL_law_605 : decode cL_law 605 = .ok (.iconst 1, 1) := by decide +kernel
theorem dL_law_606 : decode cL_law 606 = .ok (.iadd, 1) := by decide +kernel
theorem dL_law_607 : decode cL_law 607 = .ok (.iaload, 1) := by decide +kernel
theorem dL_law_608 : decode cL_law 608 = .ok (.aload_n 0, 1) := by decide +kernel
theorem dL_law_609 : decode cL_law 609 = .ok (.iload_n 3, 1) := by decide +kernel
theorem dL_law_610 : decode cL_law 610 = .ok (.iconst 2, 1) := by decide +kernel
theorem dL_law_611 : decode cL_law 611 = .ok (.iadd, 1) := by decide +kernel
theorem dL_law_612 : decode cL_law 612 = .ok (.iaload, 1) := by decide +kernel
theorem dL_law_613 : decode cL_law 613 = .ok (.invokevirtual 89, 3) := by decide +kernel
theorem dL_law_616 : decode cL_law 616 = .ok (.aload_n 2, 1) := by decide +kernel
theorem dL_law_617 : decode cL_law 617 = .ok (.aload_n 0, 1) := by decide +kernel
theorem dL_law_618 : decode cL_law 618 = .ok (.iload_n 3, 1) := by decide +kernel
theorem dL_law_619 : decode cL_law 619 = .ok (.iconst 1, 1) := by decide +kernel
theorem dL_law_620 : decode cL_law 620 = .ok (.iadd, 1) := by decide +kernel
theorem dL_law_621 : decode cL_law 621 = .ok (.iaload, 1) := by decide +kernel
theorem dL_law_622 : decode cL_law 622 = .ok (.aload_n 0, 1) := by decide +kernel
theorem dL_law_623 : decode cL_law 623 = .ok (.iload_n 3, 1) := by decide +kernel
theorem dL_law_624 : decode cL_law 624 = .ok (.iconst 2, 1) := by decide +kernel
theorem dL_law_625 : decode cL_law 625 = .ok (.iadd, 1) := by decide +kernel
theorem dL_law_626 : decode cL_law 626 = .ok (.iaload, 1) := by decide +kernel
theorem dL_law_627 : decode cL_law 627 = .ok (.invokevirtual 92, 3) := by decide +kernel
theorem dL_law_630 : decode cL_law 630 = .ok (.if_icmp .eq 299, 3) := by decide +kernel
theorem dL_law_633 : decode cL_law 633 = .ok (.iconst 0, 1) := by decide +kernel
theorem dL_law_634 : decode cL_law 634 = .ok (.ireturn, 1) := by decide +kernel
theorem dL_law_635 : decode cL_law 635 = .ok (.aload_n 1, 1) := by decide +kernel
theorem dL_law_636 : decode cL_law 636 = .ok (.aload_n 0, 1) := by decide +kernel
theorem dL_law_637 : decode cL_law 637 = .ok (.iload_n 3, 1) := by decide +kernel
theorem dL_law_638 : decode cL_law 638 = .ok (.iconst 1, 1) := by decide +kernel
theorem dL_law_639 : decode cL_law 639 = .ok (.iadd, 1) := by decide +kernel
theorem dL_law_640 : decode cL_law 640 = .ok (.iaload, 1) := by decide +kernel
theorem dL_law_641 : decode cL_law 641 = .ok (.aload_n 0, 1) := by decide +kernel
theorem dL_law_642 : decode cL_law 642 = .ok (.iload_n 3, 1) := by decide +kernel
theorem dL_law_643 : decode cL_law 643 = .ok (.iconst 2, 1) := by decide +kernel
theorem dL_law_644 : decode cL_law 644 = .ok (.iadd, 1) := by decide +kernel
theorem dL_law_645 : decode cL_law 645 = .ok (.iaload, 1) := by decide +kernel
theorem dL_law_646 : decode cL_law 646 = .ok (.aload_n 0, 1) := by decide +kernel
theorem dL_law_647 : decode cL_law 647 = .ok (.iload_n 3, 1) := by decide +kernel
theorem dL_law_648 : decode cL_law 648 = .ok (.iconst 3, 1) := by decide +kernel
theorem dL_law_649 : decode cL_law 649 = .ok (.iadd, 1) := by decide +kernel
theorem dL_law_650 : decode cL_law 650 = .ok (.iaload, 1) := by decide +kernel
theorem dL_law_651 : decode cL_law 651 = .ok (.invokevirtual 93, 3) := by decide +kernel
theorem dL_law_654 : decode cL_law 654 = .ok (.aload_n 2, 1) := by decide +kernel
theorem dL_law_655 : decode cL_law 655 = .ok (.aload_n 0, 1) := by decide +kernel
theorem dL_law_656 : decode cL_law 656 = .ok (.iload_n 3, 1) := by decide +kernel
theorem dL_law_657 : decode cL_law 657 = .ok (.iconst 1, 1) := by decide +kernel
theorem dL_law_658 : decode cL_law 658 = .ok (.iadd, 1) := by decide +kernel
theorem dL_law_659 : decode cL_law 659 = .ok (.iaload, 1) := by decide +kernel
theorem dL_law_660 : decode cL_law 660 = .ok (.aload_n 0, 1) := by decide +kernel
theorem dL_law_661 : decode cL_law 661 = .ok (.iload_n 3, 1) := by decide +kernel
theorem dL_law_662 : decode cL_law 662 = .ok (.iconst 2, 1) := by decide +kernel
theorem dL_law_663 : decode cL_law 663 = .ok (.iadd, 1) := by decide +kernel
theorem dL_law_664 : decode cL_law 664 = .ok (.iaload, 1) := by decide +kernel
theorem dL_law_665 : decode cL_law 665 = .ok (.aload_n 0, 1) := by decide +kernel
theorem dL_law_666 : decode cL_law 666 = .ok (.iload_n 3, 1) := by decide +kernel
theorem dL_law_667 : decode cL_law 667 = .ok (.iconst 3, 1) := by decide +kernel
theorem dL_law_668 : decode cL_law 668 = .ok (.iadd, 1) := by decide +kernel
theorem dL_law_669 : decode cL_law 669 = .ok (.iaload, 1) := by decide +kernel
theorem dL_law_670 : decode cL_law 670 = .ok (.invokevirtual 96, 3) := by decide +kernel
theorem dL_law_673 : decode cL_law 673 = .ok (.if_icmp .eq 256, 3) := by decide +kernel
theorem dL_law_676 : decode cL_law 676 = .ok (.iconst 0, 1) := by decide +kernel
theorem dL_law_677 : decode cL_law 677 = .ok (.ireturn, 1) := by decide +kernel
theorem dL_law_678 : decode cL_law 678 = .ok (.aload_n 1, 1) := by decide +kernel
theorem dL_law_679 : decode cL_law 679 = .ok (.invokevirtual 97, 3) := by decide +kernel
theorem dL_law_682 : decode cL_law 682 = .ok (.aload_n 2, 1) := by decide +kernel
theorem dL_law_683 : decode cL_law 683 = .ok (.invokevirtual 100, 3) := by decide +kernel
theorem dL_law_686 : decode cL_law 686 = .ok (.if_icmp .eq 243, 3) := by decide +kernel
theorem dL_law_689 : decode cL_law 689 = .ok (.iconst 0, 1) := by decide +kernel
theorem dL_law_690 : decode cL_law 690 = .ok (.ireturn, 1) := by decide +kernel
theorem dL_law_691 : decode cL_law 691 = .ok (.aload_n 1, 1) := by decide +kernel
theorem dL_law_692 : decode cL_law 692 = .ok (.aload_n 0, 1) := by decide +kernel
theorem dL_law_693 : decode cL_law 693 = .ok (.iload_n 3, 1) := by decide +kernel
theorem dL_law_694 : decode cL_law 694 = .ok (.iconst 1, 1) := by decide +kernel
theorem dL_law_695 : decode cL_law 695 = .ok (.iadd, 1) := by decide +kernel
theorem dL_law_696 : decode cL_law 696 = .ok (.iaload, 1) := by decide +kernel
theorem dL_law_697 : decode cL_law 697 = .ok (.aload_n 0, 1) := by decide +kernel
theorem dL_law_698 : decode cL_law 698 = .ok (.iload_n 3, 1) := by decide +kernel
theorem dL_law_699 : decode cL_law 699 = .ok (.iconst 2, 1) := by decide +kernel
theorem dL_law_700 : decode cL_law 700 = .ok (.iadd, 1) := by decide +kernel
theorem dL_law_701 : decode cL_law 701 = .ok (.iaload, 1) := by decide +kernel
theorem dL_law_702 : decode cL_law 702 = .ok (.invokevirtual 101, 3) := by decide +kernel
theorem dL_law_705 : decode cL_law 705 = .ok (.aload_n 2, 1) := by decide +kernel
theorem dL_law_706 : decode cL_law 706 = .ok (.aload_n 0, 1) := by decide +kernel
theorem dL_law_707 : decode cL_law 707 = .ok (.iload_n 3, 1) := by decide +kernel
theorem dL_law_708 : decode cL_law 708 = .ok (.iconst 1, 1) := by decide +kernel
theorem dL_law_709 : decode cL_law 709 = .ok (.iadd, 1) := by decide +kernel
theorem dL_law_710 : decode cL_law 710 = .ok (.iaload, 1) := by decide +kernel
theorem dL_law_711 : decode cL_law 711 = .ok (.aload_n 0, 1) := by decide +kernel
theorem dL_law_712 : decode cL_law 712 = .ok (.iload_n 3, 1) := by decide +kernel
theorem dL_law_713 : decode cL_law 713 = .ok (.iconst 2, 1) := by decide +kernel
theorem dL_law_714 : decode cL_law 714 = .ok (.iadd, 1) := by decide +kernel
theorem dL_law_715 : decode cL_law 715 = .ok (.iaload, 1) := by decide +kernel
theorem dL_law_716 : decode cL_law 716 = .ok (.invokevirtual 104, 3) := by decide +kernel
theorem dL_law_719 : decode cL_law 719 = .ok (.if_icmp .eq 210, 3) := by decide +kernel
theorem dL_law_722 : decode cL_law 722 = .ok (.iconst 0, 1) := by decide +kernel
theorem dL_law_723 : decode cL_law 723 = .ok (.ireturn, 1) := by decide +kernel
theorem dL_law_724 : decode cL_law 724 = .ok (.aload_n 1, 1) := by decide +kernel
theorem dL_law_725 : decode cL_law 725 = .ok (.aload_n 0, 1) := by decide +kernel
theorem dL_law_726 : decode cL_law 726 = .ok (.iload_n 3, 1) := by decide +kernel
theorem dL_law_727 : decode cL_law 727 = .ok (.iconst 1, 1) := by decide +kernel
theorem dL_law_728 : decode cL_law 728 = .ok (.iadd, 1) := by decide +kernel
theorem dL_law_729 : decode cL_law 729 = .ok (.iaload, 1) := by decide +kernel
theorem dL_law_730 : decode cL_law 730 = .ok (.aload_n 0, 1) := by decide +kernel
theorem dL_law_731 : decode cL_law 731 = .ok (.iload_n 3, 1) := by decide +kernel
theorem dL_law_732 : decode cL_law 732 = .ok (.iconst 2, 1) := by decide +kernel
theorem dL_law_733 : decode cL_law 733 = .ok (.iadd, 1) := by decide +kernel
theorem dL_law_734 : decode cL_law 734 = .ok (.iaload, 1) := by decide +kernel
theorem dL_law_735 : decode cL_law 735 = .ok (.invokevirtual 105, 3) := by decide +kernel
theorem dL_law_738 : decode cL_law 738 = .ok (.aload_n 2, 1) := by decide +kernel
theorem dL_law_739 : decode cL_law 739 = .ok (.aload_n 0, 1) := by decide +kernel
theorem dL_law_740 : decode cL_law 740 = .ok (.iload_n 3, 1) := by decide +kernel
theorem dL_law_741 : decode cL_law 741 = .ok (.iconst 1, 1) := by decide +kernel
theorem dL_law_742 : decode cL_law 742 = .ok (.iadd, 1) := by decide +kernel
theorem dL_law_743 : decode cL_law 743 = .ok (.iaload, 1) := by decide +kernel
theorem dL_law_744 : decode cL_law 744 = .ok (.aload_n 0, 1) := by decide +kernel
theorem dL_law_745 : decode cL_law 745 = .ok (.iload_n 3, 1) := by decide +kernel
theorem dL_law_746 : decode cL_law 746 = .ok (.iconst 2, 1) := by decide +kernel
theorem dL_law_747 : decode cL_law 747 = .ok (.iadd, 1) := by decide +kernel
theorem dL_law_748 : decode cL_law 748 = .ok (.iaload, 1) := by decide +kernel
theorem dL_law_749 : decode cL_law 749 = .ok (.invokevirtual 108, 3) := by decide +kernel
theorem dL_law_752 : decode cL_law 752 = .ok (.if_icmp .eq 177, 3) := by decide +kernel
theorem dL_law_755 : decode cL_law 755 = .ok (.iconst 0, 1) := by decide +kernel
theorem dL_law_756 : decode cL_law 756 = .ok (.ireturn, 1) := by decide +kernel
theorem dL_law_757 : decode cL_law 757 = .ok (.aload_n 1, 1) := by decide +kernel
theorem dL_law_758 : decode cL_law 758 = .ok (.invokevirtual 109, 3) := by decide +kernel
theorem dL_law_761 : decode cL_law 761 = .ok (.aload_n 2, 1) := by decide +kernel
theorem dL_law_762 : decode cL_law 762 = .ok (.invokevirtual 112, 3) := by decide +kernel
theorem dL_law_765 : decode cL_law 765 = .ok (.if_icmp .eq 164, 3) := by decide +kernel
theorem dL_law_768 : decode cL_law 768 = .ok (.iconst 0, 1) := by decide +kernel
theorem dL_law_769 : decode cL_law 769 = .ok (.ireturn, 1) := by decide +kernel
theorem dL_law_770 : decode cL_law 770 = .ok (.aload_n 1, 1) := by decide +kernel
theorem dL_law_771 : decode cL_law 771 = .ok (.aload_n 0, 1) := by decide +kernel
theorem dL_law_772 : decode cL_law 772 = .ok (.iload_n 3, 1) := by decide +kernel
theorem dL_law_773 : decode cL_law 773 = .ok (.iconst 1, 1) := by decide +kernel
theorem dL_law_774 : decode cL_law 774 = .ok (.iadd, 1) := by decide +kernel
theorem dL_law_775 : decode cL_law 775 = .ok (.iaload, 1) := by decide +kernel
theorem dL_law_776 : decode cL_law 776 = .ok (.aload_n 0, 1) := by decide +kernel
theorem dL_law_777 : decode cL_law 777 = .ok (.iload_n 3, 1) := by decide +kernel
theorem dL_law_778 : decode cL_law 778 = .ok (.iconst 2, 1) := by decide +kernel
theorem dL_law_779 : decode cL_law 779 = .ok (.iadd, 1) := by decide +kernel
theorem dL_law_780 : decode cL_law 780 = .ok (.iaload, 1) := by decide +kernel
theorem dL_law_781 : decode cL_law 781 = .ok (.aload_n 0, 1) := by decide +kernel
theorem dL_law_782 : decode cL_law 782 = .ok (.iload_n 3, 1) := by decide +kernel
theorem dL_law_783 : decode cL_law 783 = .ok (.iconst 3, 1) := by decide +kernel
theorem dL_law_784 : decode cL_law 784 = .ok (.iadd, 1) := by decide +kernel
theorem dL_law_785 : decode cL_law 785 = .ok (.iaload, 1) := by decide +kernel
theorem dL_law_786 : decode cL_law 786 = .ok (.invokevirtual 113, 3) := by decide +kernel
theorem dL_law_789 : decode cL_law 789 = .ok (.aload_n 2, 1) := by decide +kernel
theorem dL_law_790 : decode cL_law 790 = .ok (.aload_n 0, 1) := by decide +kernel
theorem dL_law_791 : decode cL_law 791 = .ok (.iload_n 3, 1) := by decide +kernel
theorem dL_law_792 : decode cL_law 792 = .ok (.iconst 1, 1) := by decide +kernel
theorem dL_law_793 : decode cL_law 793 = .ok (.iadd, 1) := by decide +kernel
theorem dL_law_794 : decode cL_law 794 = .ok (.iaload, 1) := by decide +kernel
theorem dL_law_795 : decode cL_law 795 = .ok (.aload_n 0, 1) := by decide +kernel
theorem dL_law_796 : decode cL_law 796 = .ok (.iload_n 3, 1) := by decide +kernel
theorem dL_law_797 : decode cL_law 797 = .ok (.iconst 2, 1) := by decide +kernel
theorem dL_law_798 : decode cL_law 798 = .ok (.iadd, 1) := by decide +kernel
theorem dL_law_799 : decode cL_law 799 = .ok (.iaload, 1) := by decide +kernel
theorem dL_law_800 : decode cL_law 800 = .ok (.aload_n 0, 1) := by decide +kernel
theorem dL_law_801 : decode cL_law 801 = .ok (.iload_n 3, 1) := by decide +kernel
theorem dL_law_802 : decode cL_law 802 = .ok (.iconst 3, 1) := by decide +kernel
theorem dL_law_803 : decode cL_law 803 = .ok (.iadd, 1) := by decide +kernel
theorem dL_law_804 : decode cL_law 804 = .ok (.iaload, 1) := by decide +kernel
theorem dL_law_805 : decode cL_law 805 = .ok (.invokevirtual 116, 3) := by decide +kernel
theorem dL_law_808 : decode cL_law 808 = .ok (.if_icmp .eq 121, 3) := by decide +kernel
theorem dL_law_811 : decode cL_law 811 = .ok (.iconst 0, 1) := by decide +kernel
theorem dL_law_812 : decode cL_law 812 = .ok (.ireturn, 1) := by decide +kernel
theorem dL_law_813 : decode cL_law 813 = .ok (.aload_n 1, 1) := by decide +kernel
theorem dL_law_814 : decode cL_law 814 = .ok (.aload_n 0, 1) := by decide +kernel
theorem dL_law_815 : decode cL_law 815 = .ok (.iload_n 3, 1) := by decide +kernel
theorem dL_law_816 : decode cL_law 816 = .ok (.iconst 1, 1) := by decide +kernel
theorem dL_law_817 : decode cL_law 817 = .ok (.iadd, 1) := by decide +kernel
theorem dL_law_818 : decode cL_law 818 = .ok (.iaload, 1) := by decide +kernel
theorem dL_law_819 : decode cL_law 819 = .ok (.aload_n 0, 1) := by decide +kernel
theorem dL_law_820 : decode cL_law 820 = .ok (.iload_n 3, 1) := by decide +kernel
theorem dL_law_821 : decode cL_law 821 = .ok (.iconst 2, 1) := by decide +kernel
theorem dL_law_822 : decode cL_law 822 = .ok (.iadd, 1) := by decide +kernel
theorem dL_law_823 : decode cL_law 823 = .ok (.iaload, 1) := by decide +kernel
theorem dL_law_824 : decode cL_law 824 = .ok (.invokevirtual 117, 3) := by decide +kernel
theorem dL_law_827 : decode cL_law 827 = .ok (.aload_n 2, 1) := by decide +kernel
theorem dL_law_828 : decode cL_law 828 = .ok (.aload_n 0, 1) := by decide +kernel
theorem dL_law_829 : decode cL_law 829 = .ok (.iload_n 3, 1) := by decide +kernel
theorem dL_law_830 : decode cL_law 830 = .ok (.iconst 1, 1) := by decide +kernel
theorem dL_law_831 : decode cL_law 831 = .ok (.iadd, 1) := by decide +kernel
theorem dL_law_832 : decode cL_law 832 = .ok (.iaload, 1) := by decide +kernel
theorem dL_law_833 : decode cL_law 833 = .ok (.aload_n 0, 1) := by decide +kernel
theorem dL_law_834 : decode cL_law 834 = .ok (.iload_n 3, 1) := by decide +kernel
theorem dL_law_835 : decode cL_law 835 = .ok (.iconst 2, 1) := by decide +kernel
theorem dL_law_836 : decode cL_law 836 = .ok (.iadd, 1) := by decide +kernel
theorem dL_law_837 : decode cL_law 837 = .ok (.iaload, 1) := by decide +kernel
theorem dL_law_838 : decode cL_law 838 = .ok (.invokevirtual 120, 3) := by decide +kernel
theorem dL_law_841 : decode cL_law 841 = .ok (.if_icmp .eq 88, 3) := by decide +kernel
theorem dL_law_844 : decode cL_law 844 = .ok (.iconst 0, 1) := by decide +kernel
theorem dL_law_845 : decode cL_law 845 = .ok (.ireturn, 1) := by decide +kernel
theorem dL_law_846 : decode cL_law 846 = .ok (.aload_n 1, 1) := by decide +kernel
theorem dL_law_847 : decode cL_law 847 = .ok (.aload_n 0, 1) := by decide +kernel
theorem dL_law_848 : decode cL_law 848 = .ok (.iload_n 3, 1) := by decide +kernel
theorem dL_law_849 : decode cL_law 849 = .ok (.iconst 1, 1) := by decide +kernel
theorem dL_law_850 : decode cL_law 850 = .ok (.iadd, 1) := by decide +kernel
theorem dL_law_851 : decode cL_law 851 = .ok (.iaload, 1) := by decide +kernel
theorem dL_law_852 : decode cL_law 852 = .ok (.invokevirtual 121, 3) := by decide +kernel
theorem dL_law_855 : decode cL_law 855 = .ok (.aload_n 2, 1) := by decide +kernel
theorem dL_law_856 : decode cL_law 856 = .ok (.aload_n 0, 1) := by decide +kernel
theorem dL_law_857 : decode cL_law 857 = .ok (.iload_n 3, 1) := by decide +kernel
theorem dL_law_858 : decode cL_law 858 = .ok (.iconst 1, 1) := by decide +kernel
theorem dL_law_859 : decode cL_law 859 = .ok (.iadd, 1) := by decide +kernel
theorem dL_law_860 : decode cL_law 860 = .ok (.iaload, 1) := by decide +kernel
theorem dL_law_861 : decode cL_law 861 = .ok (.invokevirtual 124, 3) := by decide +kernel
theorem dL_law_864 : decode cL_law 864 = .ok (.if_icmp .eq 65, 3) := by decide +kernel
theorem dL_law_867 : decode cL_law 867 = .ok (.iconst 0, 1) := by decide +kernel
theorem dL_law_868 : decode cL_law 868 = .ok (.ireturn, 1) := by decide +kernel
theorem dL_law_869 : decode cL_law 869 = .ok (.aload_n 1, 1) := by decide +kernel
theorem dL_law_870 : decode cL_law 870 = .ok (.aload_n 0, 1) := by decide +kernel
theorem dL_law_871 : decode cL_law 871 = .ok (.iload_n 3, 1) := by decide +kernel
theorem dL_law_872 : decode cL_law 872 = .ok (.iconst 1, 1) := by decide +kernel
theorem dL_law_873 : decode cL_law 873 = .ok (.iadd, 1) := by decide +kernel
theorem dL_law_874 : decode cL_law 874 = .ok (.iaload, 1) := by decide +kernel
theorem dL_law_875 : decode cL_law 875 = .ok (.invokevirtual 125, 3) := by decide +kernel
theorem dL_law_878 : decode cL_law 878 = .ok (.aload_n 2, 1) := by decide +kernel
theorem dL_law_879 : decode cL_law 879 = .ok (.aload_n 0, 1) := by decide +kernel
theorem dL_law_880 : decode cL_law 880 = .ok (.iload_n 3, 1) := by decide +kernel
theorem dL_law_881 : decode cL_law 881 = .ok (.iconst 1, 1) := by decide +kernel
theorem dL_law_882 : decode cL_law 882 = .ok (.iadd, 1) := by decide +kernel
theorem dL_law_883 : decode cL_law 883 = .ok (.iaload, 1) := by decide +kernel
theorem dL_law_884 : decode cL_law 884 = .ok (.invokevirtual 128, 3) := by decide +kernel
theorem dL_law_887 : decode cL_law 887 = .ok (.if_icmp .eq 42, 3) := by decide +kernel
theorem dL_law_890 : decode cL_law 890 = .ok (.iconst 0, 1) := by decide +kernel
theorem dL_law_891 : decode cL_law 891 = .ok (.ireturn, 1) := by decide +kernel
theorem dL_law_892 : decode cL_law 892 = .ok (.aload_n 1, 1) := by decide +kernel
theorem dL_law_893 : decode cL_law 893 = .ok (.aload_n 0, 1) := by decide +kernel
theorem dL_law_894 : decode cL_law 894 = .ok (.iload_n 3, 1) := by decide +kernel
theorem dL_law_895 : decode cL_law 895 = .ok (.iconst 1, 1) := by decide +kernel
theorem dL_law_896 : decode cL_law 896 = .ok (.iadd, 1) := by decide +kernel
theorem dL_law_897 : decode cL_law 897 = .ok (.iaload, 1) := by decide +kernel
theorem dL_law_898 : decode cL_law 898 = .ok (.invokevirtual 129, 3) := by decide +kernel
theorem dL_law_901 : decode cL_law 901 = .ok (.aload_n 2, 1) := by decide +kernel
theorem dL_law_902 : decode cL_law 902 = .ok (.aload_n 0, 1) := by decide +kernel
theorem dL_law_903 : decode cL_law 903 = .ok (.iload_n 3, 1) := by decide +kernel
theorem dL_law_904 : decode cL_law 904 = .ok (.iconst 1, 1) := by decide +kernel
theorem dL_law_905 : decode cL_law 905 = .ok (.iadd, 1) := by decide +kernel
theorem dL_law_906 : decode cL_law 906 = .ok (.iaload, 1) := by decide +kernel
theorem dL_law_907 : decode cL_law 907 = .ok (.invokevirtual 132, 3) := by decide +kernel
theorem dL_law_910 : decode cL_law 910 = .ok (.if_icmp .eq 19, 3) := by decide +kernel
theorem dL_law_913 : decode cL_law 913 = .ok (.iconst 0, 1) := by decide +kernel
theorem dL_law_914 : decode cL_law 914 = .ok (.ireturn, 1) := by decide +kernel
theorem dL_law_915 : decode cL_law 915 = .ok (.aload_n 1, 1) := by decide +kernel
theorem dL_law_916 : decode cL_law 916 = .ok (.invokevirtual 133, 3) := by decide +kernel
theorem dL_law_919 : decode cL_law 919 = .ok (.aload_n 2, 1) := by decide +kernel
theorem dL_law_920 : decode cL_law 920 = .ok (.invokevirtual 137, 3) := by decide +kernel
theorem dL_law_923 : decode cL_law 923 = .ok (.lcmp, 1) := by decide +kernel
theorem dL_law_924 : decode cL_law 924 = .ok (.ifCond .eq 5, 3) := by decide +kernel
theorem dL_law_927 : decode cL_law 927 = .ok (.iconst 0, 1) := by decide +kernel
theorem dL_law_928 : decode cL_law 928 = .ok (.ireturn, 1) := by decide +kernel
theorem dL_law_929 : decode cL_law 929 = .ok (.iinc 3 4, 3) := by decide +kernel
theorem dL_law_932 : decode cL_law 932 = .ok (.goto (-914), 3) := by decide +kernel
theorem dL_law_935 : decode cL_law 935 = .ok (.iconst 1, 1) := by decide +kernel
theorem dL_law_936 : decode cL_law 936 = .ok (.ireturn, 1) := by decide +kernel
end
section
/-! ===== the judgement Ev: a walk of one method over a heap whose cells have numbers (cell k lies at base + k) ===== -/
def lw_good : List Cond := lw_tbl.filter goodWord
theorem lg_mem {w : Cond} (i : Nat) (h : lw_tbl[i]? = some w) (g : goodWord w = true) : w ∈ lw_good := List.mem_filter.mpr ⟨List.mem_of_getElem? h, g⟩
theorem lg_all (ws : List Cond) (ps : List Nat) (hp : ws = ps.filterMap (fun i => lw_tbl[i]?)) (hg : ws.all goodWord = true) : ∀ w ∈ ws, w ∈ lw_good := by
  intro w hw
  have h1 := List.all_eq_true.mp hg w hw
  rw [hp] at hw
  obtain ⟨i, -, hi⟩ := List.mem_filterMap.mp hw
  exact lg_mem i hi h1
/-- launch; classes and slots; the classes of int[], boolean[], Watch[]; the base -/
abbrev GX : Type := Launch × va_G × (ClassId × ClassId × ClassId) × Nat
def gL (γ : GX) : Launch := γ.1
def gD (γ : GX) : va_G := γ.2.1
def gI (γ : GX) : ClassId := γ.2.2.1.1
def gZ (γ : GX) : ClassId := γ.2.2.1.2.1
def gW (γ : GX) : ClassId := γ.2.2.1.2.2
def gB (γ : GX) : Nat := γ.2.2.2
def gT (γ : GX) : List (ClassId × FieldType) := [(gI γ, .int), (gZ γ, .boolean), (gW γ, .object RX5)]
abbrev HP : Type := Nat → va_E
abbrev FN : Type := Nat → Int32
def up (h : HP) (k : Nat) (e : va_E) : HP := fun j => if j = k then e else h j
def wl (B n : Nat) (h : HP) : va_W := (List.range n).map (fun k => (B + k, h k))
theorem wl_len (B n : Nat) (h : HP) : (wl B n h).length = n := by simp [wl]
theorem wl_get {B n : Nat} {h : HP} {k : Nat} (hk : k < n) : (wl B n h)[k]? = some (B + k, h k) := by
  simp [wl, List.getElem?_map, hk]
theorem wl_of {B n : Nat} {h : HP} {k : Nat} {q : Nat × va_E} (hq : (wl B n h)[k]? = some q) : k < n ∧ q = (B + k, h k) := by
  have hk : k < n := by
    have := (List.getElem?_eq_some_iff.mp hq).1
    rwa [wl_len] at this
  refine ⟨hk, ?_⟩
  rw [wl_get hk] at hq
  exact (Option.some.inj hq).symm
theorem wl_set {B n : Nat} {h : HP} {k : Nat} {e : va_E} (hk : k < n) : (wl B n h).set k (B + k, e) = wl B n (up h k e) := by
  apply List.ext_getElem?
  intro i
  by_cases hi : i < n
  · by_cases hik : i = k
    · subst hik
      rw [List.getElem?_set_self (by rw [wl_len]; exact hi), wl_get hi]
      simp [up]
    · rw [List.getElem?_set_ne (Ne.symm hik), wl_get hi, wl_get hi]
      simp [up, hik]
  · rw [List.getElem?_eq_none (by simp [wl_len]; omega), List.getElem?_eq_none (by rw [wl_len]; omega)]
theorem wl_push {B n : Nat} {h : HP} {e : va_E} : wl B n h ++ [(B + n, e)] = wl B (n + 1) (up h n e) := by
  unfold wl
  rw [List.range_succ, List.map_append]
  congr 1
  · apply List.map_congr_left
    intro k hk
    have : k < n := List.mem_range.mp hk
    have : ¬ k = n := by omega
    simp [up, this]
  · simp [up]
theorem wl_D (B n : Nat) (h : HP) : va_D (fun q => B ≤ q) (wl B n h) := by
  refine ⟨fun i j p q hi hj hpq => ?_, fun k q hk => ?_⟩
  · obtain ⟨_, rfl⟩ := wl_of hi
    obtain ⟨_, rfl⟩ := wl_of hj
    dsimp only at hpq
    omega
  · obtain ⟨_, rfl⟩ := wl_of hk
    exact Nat.le_add_right _ _
/-- a method: its name, bytes, locals, answer's type, whether it is a constructor, its depth, the cells and slots that it makes -/
abbrev MI : Type := MethodName × ByteArray × Nat × Option FieldType × Bool × Nat × Nat × Nat
abbrev mY (μ : MI) : MethodName := μ.1
abbrev mC (μ : MI) : ByteArray := μ.2.1
abbrev mL (μ : MI) : Nat := μ.2.2.1
abbrev mR (μ : MI) : Option FieldType := μ.2.2.2.1
abbrev mN (μ : MI) : Bool := μ.2.2.2.2.1
abbrev mD (μ : MI) : Nat := μ.2.2.2.2.2.1
abbrev mK (μ : MI) : Nat := μ.2.2.2.2.2.2.1
abbrev mS (μ : MI) : Nat := μ.2.2.2.2.2.2.2
def rmD (μ : MI) : Room := { frames := mD μ, cells := mK μ, slots := mS μ, locals := 40 * mD μ + 60 }
def Cx (γ : GX) (μ : MI) (p : Program) (R : Room) (s : State) (m : MethodId) (args : Array Value) (meth : Method) (c : Code) : Prop :=
  p.tables.exec = Jvm.exec ∧ c.code = mC μ ∧ c.maxLocals = mL μ ∧ s.vm.findClass (mY μ).cls = some m.cls ∧ (∀ w ∈ lw_good, w.before args s = true) ∧ meth.locks = false ∧ meth.sig.returnType = mR μ ∧ mD μ ≤ R.frames ∧ 40 * mD μ + 60 ≤ R.locals ∧ va_K (gD γ) vwCl (gT γ) s ∧ (mN μ = true → meth.name = "<init>") ∧ mK μ ≤ R.cells ∧ mS μ ≤ R.slots
def Sz (γ : GX) (μ : MI) (s : State) (u : Nat × Nat) (n : Nat) : Prop := s.heap.size + u.1 = gB γ + n ∧ gB γ ≤ s.heap.size ∧ u.1 ≤ mK μ ∧ u.2 ≤ mS μ
def Rk (μ : MI) (pc : Nat) (v : Option Value) : Prop :=
  (mR μ = some .int ∧ decode (mC μ) pc = .ok (.ireturn, 1) ∧ ∃ x, v = some (.int x)) ∨ (mR μ = some .boolean ∧ decode (mC μ) pc = .ok (.ireturn, 1) ∧ ∃ x : Int32, v = some (.int x) ∧ x &&& 1 = x) ∨ (mR μ = some .long ∧ decode (mC μ) pc = .ok (.lreturn, 1) ∧ ∃ x, v = some (.long x)) ∨ (mR μ = none ∧ decode (mC μ) pc = .ok (.return_, 1) ∧ v = none)
abbrev PS : Type := Option Value → Nat → HP → Prop
def Ev (γ : GX) (μ : MI) (u : Nat × Nat) (n : Nat) (h : HP) (lv : List (Nat × Value)) (pc : Nat) (st : List Value) (Ψ : PS) : Prop :=
  ∀ (p : Program) (e : Env) (R : Room) (s : State) (m : MethodId) (args : Array Value) (below : List Frame) (meth : Method) (c : Code) (Q : State → Prop) (H : Heap) (locs : List Loc) (ls : Array Slot),
    Cx γ μ p R s m args meth c → Sz γ μ s u n → va_P (gD γ) vwCl (wl (gB γ) n h) H → va_S (fun q => gB γ ≤ q) s.heap H locs → lv_has ls (mL μ) lv →
    (∀ (v : Option Value) (n' : Nat) (h' : HP) (u' : Nat × Nat) (H' : Heap) (locs' : List Loc) (pc' : Nat) (ls' : Array Slot), Ψ v n' h' → Rk μ pc' v → Sz γ μ s u' n' → va_P (gD γ) vwCl (wl (gB γ) n' h') H' → va_S (fun q => gB γ ≤ q) s.heap H' locs' → W p (gL γ) e R s m args below meth c H' locs' u'.1 u'.2 Q (F0 m pc' ls' v.toList)) →
    W p (gL γ) e R s m args below meth c H locs u.1 u.2 Q (F0 m pc ls st)
/-- a method's contract over the heap h of n cells -/
def Ct (γ : GX) (μ : MI) (n : Nat) (h : HP) (as : List Value) (Ψ : PS) : Prop :=
  Met (gL γ) (mY μ) (.code (mY μ) (mC μ) (mL μ) (mR μ) :: lw_good) (rmD μ)
    (va_Pc as (fun U => U.heap.size = gB γ + n ∧ va_P (gD γ) vwCl (wl (gB γ) n h) U.heap ∧ va_K (gD γ) vwCl (gT γ) U))
    (fun _ st oc t => (∃ (v : Option Value) (n' : Nat) (h' : HP), oc = .returned v ∧ Ψ v n' h' ∧ va_P (gD γ) vwCl (wl (gB γ) n' h') t.heap) ∧ va_F (fun q => gB γ ≤ q) st t) (mK μ) (mS μ) (fun q => gB γ ≤ q)
/-- the end of a method that is a function: its answer, the cells that it made, the heap behind it -/
def Done (v0 : Option Value) (n0 : Nat) (h0 : HP) : PS := fun v n' h' => v = v0 ∧ n' = n0 ∧ h' = h0
theorem Ct.heap {γ : GX} {μ : MI} {n : Nat} {h h1 : HP} {as : List Value} {Ψ : PS} (e : h1 = h) (k : Ct γ μ n h as Ψ) : Ct γ μ n h1 as Ψ := by rw [e]; exact k
section EV
variable {γ : GX} {μ : MI} {u : Nat × Nat} {n : Nat} {h : HP} {lv : List (Nat × Value)} {pc q : Nat} {st rest : List Value} {Ψ : PS}
theorem Ev.heap {h1 : HP} (e : h1 = h) (k : Ev γ μ u n h lv pc st Ψ) : Ev γ μ u n h1 lv pc st Ψ := by rw [e]; exact k
theorem W_size {p : Program} {l : Launch} {e : Env} {R : Room} {s : State} {m : MethodId} {args : Array Value} {below : List Frame} {meth : Method} {c : Code} {H : Heap} {locs : List Loc} {cells slots : Nat} {Q : State → Prop} {g : JFrame}
    (k : H.size ≤ s.heap.size + cells → W p l e R s m args below meth c H locs cells slots Q g) : W p l e R s m args below meth c H locs cells slots Q g := by
  intro T hT X
  refine k ?_ T hT X
  have h1 := X.same.2.2.1
  rw [← hT]
  exact h1
theorem sz_eq {D : va_G} {H : Heap} {s : State} {A : Nat → Prop} {locs : List Loc} (hP : va_P D vwCl (wl (gB γ) n h) H) (hS : va_S A s.heap H locs) (z : Sz γ μ s u n) (hsz : H.size ≤ s.heap.size + u.1) : H.size = gB γ + n := by
  have h1 := hS.1
  obtain ⟨z1, z2, -⟩ := z
  by_cases hn : n = 0
  · omega
  · have h2 := (hP (n - 1) _ (wl_get (by omega))).lt
    dsimp only at h2
    omega
theorem Ct_of_Ev {as : List Value} (hy : plainName (mY μ).cls = true) (hi : mN μ = true → (mY μ).name = "<init>") (hlen : (lg_sl as).length ≤ mL μ) (k : Ev γ μ (0, 0) n h (lv_args 0 as) 0 [] Ψ) : Ct γ μ n h as Ψ := by
  refine Met.ofW (cc := mC μ) (maxL := mL μ) (ret := mR μ) hy rfl ?_
  intro p e s m args below meth c s₁ B hml hv
  obtain ⟨rfl, hsz, hP, hK⟩ := hv
  have hts := atoms_spec (ws := .code (mY μ) (mC μ) (mL μ) (mR μ) :: lw_good) B.pre
  have hl := lv_entry as (n := mL μ) hlen
  rw [lg_entry_eq]
  refine k p e (rmD μ) s m as.toArray below meth c _ s.heap [] _ ⟨B.exec, B.bytes, hml, findClass_of_methodNamed B.named, fun w hw => hts w (List.mem_cons_of_mem _ hw), B.notSynchronized, B.returns, Nat.le_refl _, Nat.le_refl _, hK, fun hz => (name_of_methodNamed B.named B.method).1.trans (hi hz), Nat.le_refl _, Nat.le_refl _⟩ ⟨hsz, by omega, Nat.zero_le _, Nat.zero_le _⟩ hP va_S.rf hl ?_
  intro v n' h' u' H' locs' pc' ls' hΨ hR hz hP' hS'
  refine W.widen hz.2.2.1 hz.2.2.2 ?_
  have hlocks := B.notSynchronized
  rcases hR with ⟨h1, hd, x, rfl⟩ | ⟨h1, hd, x, rfl, h2⟩ | ⟨h1, hd, x, rfl⟩ | ⟨h1, hd, rfl⟩
  · exact W.iret B.exec B.bytes (B.returns.trans h1) (fun t ht hw => ⟨⟨_, n', h', rfl, hΨ, by rw [ht]; exact hP'⟩, hS'.F ht⟩) (fun q hq => hS'.2.2 q hq) hd
  · exact W.zret B.exec B.bytes (B.returns.trans h1) (by show Value.int (x &&& 1) = _; rw [h2]) (fun t ht hw => ⟨⟨_, n', h', rfl, hΨ, by rw [ht]; exact hP'⟩, hS'.F ht⟩) (fun q hq => hS'.2.2 q hq) hd
  · exact W.lret B.exec B.bytes (B.returns.trans h1) (fun t ht hw => ⟨⟨_, n', h', rfl, hΨ, by rw [ht]; exact hP'⟩, hS'.F ht⟩) (fun q hq => hS'.2.2 q hq) hd
  · exact W.vret B.exec B.bytes (B.returns.trans h1) (fun t ht hw => ⟨⟨_, n', h', rfl, hΨ, by rw [ht]; exact hP'⟩, hS'.F ht⟩) (fun q hq => hS'.2.2 q hq) hd
/-- ends -/
theorem E_iret {x : Int32} (hd : decode (mC μ) pc = .ok (.ireturn, 1)) (hr : mR μ = some .int) (hp : Ψ (some (.int x)) n h) : Ev γ μ u n h lv pc [.int x] Ψ := by
  intro p e R s m args below meth c Q H locs ls C z P S L r
  exact r _ n h u H locs pc ls hp (Or.inl ⟨hr, hd, x, rfl⟩) z P S
theorem E_zret {x : Int32} (hd : decode (mC μ) pc = .ok (.ireturn, 1)) (hr : mR μ = some .boolean) (hx : x &&& 1 = x) (hp : Ψ (some (.int x)) n h) : Ev γ μ u n h lv pc [.int x] Ψ := by
  intro p e R s m args below meth c Q H locs ls C z P S L r
  exact r _ n h u H locs pc ls hp (Or.inr (Or.inl ⟨hr, hd, x, rfl, hx⟩)) z P S
theorem E_lret {x : Int64} (hd : decode (mC μ) pc = .ok (.lreturn, 1)) (hr : mR μ = some .long) (hp : Ψ (some (.long x)) n h) : Ev γ μ u n h lv pc [.long x] Ψ := by
  intro p e R s m args below meth c Q H locs ls C z P S L r
  exact r _ n h u H locs pc ls hp (Or.inr (Or.inr (Or.inl ⟨hr, hd, x, rfl⟩))) z P S
theorem E_vret (hd : decode (mC μ) pc = .ok (.return_, 1)) (hr : mR μ = none) (hp : Ψ none n h) : Ev γ μ u n h lv pc [] Ψ := by
  intro p e R s m args below meth c Q H locs ls C z P S L r
  exact r _ n h u H locs pc ls hp (Or.inr (Or.inr (Or.inr ⟨hr, hd, rfl⟩))) z P S
/-- fewer locals -/
theorem E_sub (ks : List Nat) {lv' : List (Nat × Value)} (hl : lv_pick lv ks = lv') (k : Ev γ μ u n h lv' pc st Ψ) : Ev γ μ u n h lv pc st Ψ := by
  intro p e R s m args below meth c Q H locs ls C z P S L r
  exact k p e R s m args below meth c Q H locs ls C z P S (lv_sub L ks hl) r
theorem E_iconst {i : Int} {x : Int32} (hd : decode (mC μ) pc = .ok (.iconst i, 1)) (hq : pc + 1 = q) (hv : Int32.ofInt i = x) (k : Ev γ μ u n h lv q (.int x :: rest) Ψ) : Ev γ μ u n h lv pc (rest) Ψ := by
  subst hq
  intro p e R s m args below meth c Q H locs ls C z P S L r
  exact lv_iconst C.1 C.2.1 hd hv (k p e R s m args below meth c Q H locs ls C z P S L r)
theorem E_bipush {i : Int} {x : Int32} (hd : decode (mC μ) pc = .ok (.bipush i, 2)) (hq : pc + 2 = q) (hv : (Int8.ofInt i).toInt32 = x) (k : Ev γ μ u n h lv q (.int x :: rest) Ψ) : Ev γ μ u n h lv pc (rest) Ψ := by
  subst hq
  intro p e R s m args below meth c Q H locs ls C z P S L r
  exact lv_bipush C.1 C.2.1 hd hv (k p e R s m args below meth c Q H locs ls C z P S L r)
theorem E_sipush {i : Int} {x : Int32} (hd : decode (mC μ) pc = .ok (.sipush i, 3)) (hq : pc + 3 = q) (hv : (Int16.ofInt i).toInt32 = x) (k : Ev γ μ u n h lv q (.int x :: rest) Ψ) : Ev γ μ u n h lv pc (rest) Ψ := by
  subst hq
  intro p e R s m args below meth c Q H locs ls C z P S L r
  exact lv_sipush C.1 C.2.1 hd hv (k p e R s m args below meth c Q H locs ls C z P S L r)
theorem E_lconst {i : Fin 2} {x : Int64} (hd : decode (mC μ) pc = .ok (.lconst i, 1)) (hq : pc + 1 = q) (hv : Int64.ofNat (i : Nat) = x) (k : Ev γ μ u n h lv q (.long x :: rest) Ψ) : Ev γ μ u n h lv pc (rest) Ψ := by
  subst hq
  intro p e R s m args below meth c Q H locs ls C z P S L r
  exact lv_lconst C.1 C.2.1 hd hv (k p e R s m args below meth c Q H locs ls C z P S L r)
theorem E_iadd {x y : Int32} (hd : decode (mC μ) pc = .ok (.iadd, 1)) (hq : pc + 1 = q) (k : Ev γ μ u n h lv q (.int (x + y) :: rest) Ψ) : Ev γ μ u n h lv pc (.int y :: .int x :: rest) Ψ := by
  subst hq
  intro p e R s m args below meth c Q H locs ls C z P S L r
  exact lv_iadd C.1 C.2.1 hd  (k p e R s m args below meth c Q H locs ls C z P S L r)
theorem E_isub {x y : Int32} (hd : decode (mC μ) pc = .ok (.isub, 1)) (hq : pc + 1 = q) (k : Ev γ μ u n h lv q (.int (x - y) :: rest) Ψ) : Ev γ μ u n h lv pc (.int y :: .int x :: rest) Ψ := by
  subst hq
  intro p e R s m args below meth c Q H locs ls C z P S L r
  exact lv_isub C.1 C.2.1 hd  (k p e R s m args below meth c Q H locs ls C z P S L r)
theorem E_imul {x y : Int32} (hd : decode (mC μ) pc = .ok (.imul, 1)) (hq : pc + 1 = q) (k : Ev γ μ u n h lv q (.int (x * y) :: rest) Ψ) : Ev γ μ u n h lv pc (.int y :: .int x :: rest) Ψ := by
  subst hq
  intro p e R s m args below meth c Q H locs ls C z P S L r
  exact lv_imul C.1 C.2.1 hd  (k p e R s m args below meth c Q H locs ls C z P S L r)
theorem E_iand {x y : Int32} (hd : decode (mC μ) pc = .ok (.iand, 1)) (hq : pc + 1 = q) (k : Ev γ μ u n h lv q (.int (x &&& y) :: rest) Ψ) : Ev γ μ u n h lv pc (.int y :: .int x :: rest) Ψ := by
  subst hq
  intro p e R s m args below meth c Q H locs ls C z P S L r
  exact lv_iand C.1 C.2.1 hd  (k p e R s m args below meth c Q H locs ls C z P S L r)
theorem E_ior {x y : Int32} (hd : decode (mC μ) pc = .ok (.ior, 1)) (hq : pc + 1 = q) (k : Ev γ μ u n h lv q (.int (x ||| y) :: rest) Ψ) : Ev γ μ u n h lv pc (.int y :: .int x :: rest) Ψ := by
  subst hq
  intro p e R s m args below meth c Q H locs ls C z P S L r
  exact lv_ior C.1 C.2.1 hd  (k p e R s m args below meth c Q H locs ls C z P S L r)
theorem E_ixor {x y : Int32} (hd : decode (mC μ) pc = .ok (.ixor, 1)) (hq : pc + 1 = q) (k : Ev γ μ u n h lv q (.int (x ^^^ y) :: rest) Ψ) : Ev γ μ u n h lv pc (.int y :: .int x :: rest) Ψ := by
  subst hq
  intro p e R s m args below meth c Q H locs ls C z P S L r
  exact lv_ixor C.1 C.2.1 hd  (k p e R s m args below meth c Q H locs ls C z P S L r)
theorem E_ishl {x y : Int32} (hd : decode (mC μ) pc = .ok (.ishl, 1)) (hq : pc + 1 = q) (k : Ev γ μ u n h lv q (.int (x <<< (y &&& 31)) :: rest) Ψ) : Ev γ μ u n h lv pc (.int y :: .int x :: rest) Ψ := by
  subst hq
  intro p e R s m args below meth c Q H locs ls C z P S L r
  exact lv_ishl C.1 C.2.1 hd  (k p e R s m args below meth c Q H locs ls C z P S L r)
theorem E_ishr {x y : Int32} (hd : decode (mC μ) pc = .ok (.ishr, 1)) (hq : pc + 1 = q) (k : Ev γ μ u n h lv q (.int (x >>> (y &&& 31)) :: rest) Ψ) : Ev γ μ u n h lv pc (.int y :: .int x :: rest) Ψ := by
  subst hq
  intro p e R s m args below meth c Q H locs ls C z P S L r
  exact lv_ishr C.1 C.2.1 hd  (k p e R s m args below meth c Q H locs ls C z P S L r)
theorem E_iushr {x y : Int32} (hd : decode (mC μ) pc = .ok (.iushr, 1)) (hq : pc + 1 = q) (k : Ev γ μ u n h lv q (.int ((x.toUInt32 >>> (y.toUInt32 &&& Int32.toUInt32 31)).toInt32) :: rest) Ψ) : Ev γ μ u n h lv pc (.int y :: .int x :: rest) Ψ := by
  subst hq
  intro p e R s m args below meth c Q H locs ls C z P S L r
  exact lv_iushr C.1 C.2.1 hd rfl (k p e R s m args below meth c Q H locs ls C z P S L r)
theorem E_idiv {x y : Int32} (hd : decode (mC μ) pc = .ok (.idiv, 1)) (hq : pc + 1 = q) (hne : ¬ y = 0) (k : Ev γ μ u n h lv q (.int (x / y) :: rest) Ψ) : Ev γ μ u n h lv pc (.int y :: .int x :: rest) Ψ := by
  subst hq
  intro p e R s m args below meth c Q H locs ls C z P S L r
  exact lv_idiv C.1 C.2.1 hd hne (k p e R s m args below meth c Q H locs ls C z P S L r)
theorem E_irem {x y : Int32} (hd : decode (mC μ) pc = .ok (.irem, 1)) (hq : pc + 1 = q) (hne : ¬ y = 0) (k : Ev γ μ u n h lv q (.int (x % y) :: rest) Ψ) : Ev γ μ u n h lv pc (.int y :: .int x :: rest) Ψ := by
  subst hq
  intro p e R s m args below meth c Q H locs ls C z P S L r
  refine lv_irem C.1 C.2.1 hd hne ?_
  rw [irem_eq_mod]
  exact k p e R s m args below meth c Q H locs ls C z P S L r
theorem E_ladd {x y : Int64} (hd : decode (mC μ) pc = .ok (.ladd, 1)) (hq : pc + 1 = q) (k : Ev γ μ u n h lv q (.long (x + y) :: rest) Ψ) : Ev γ μ u n h lv pc (.long y :: .long x :: rest) Ψ := by
  subst hq
  intro p e R s m args below meth c Q H locs ls C z P S L r
  exact lv_ladd C.1 C.2.1 hd  (k p e R s m args below meth c Q H locs ls C z P S L r)
theorem E_dup {v : Value} (hd : decode (mC μ) pc = .ok (.dup, 1)) (hq : pc + 1 = q) (hv : v.category = 1) (k : Ev γ μ u n h lv q (v :: v :: rest) Ψ) : Ev γ μ u n h lv pc (v :: rest) Ψ := by
  subst hq
  intro p e R s m args below meth c Q H locs ls C z P S L r
  exact lv_dup C.1 C.2.1 hd hv (k p e R s m args below meth c Q H locs ls C z P S L r)
theorem E_pop {v : Value} (hd : decode (mC μ) pc = .ok (.pop, 1)) (hq : pc + 1 = q) (hv : v.category = 1) (k : Ev γ μ u n h lv q (rest) Ψ) : Ev γ μ u n h lv pc (v :: rest) Ψ := by
  subst hq
  intro p e R s m args below meth c Q H locs ls C z P S L r
  exact lv_pop C.1 C.2.1 hd hv (k p e R s m args below meth c Q H locs ls C z P S L r)
theorem E_dup2 {v w : Value} (hd : decode (mC μ) pc = .ok (.dup2, 1)) (hq : pc + 1 = q) (hv : v.category = 1) (hw : w.category = 1) (k : Ev γ μ u n h lv q (v :: w :: v :: w :: rest) Ψ) : Ev γ μ u n h lv pc (v :: w :: rest) Ψ := by
  subst hq
  intro p e R s m args below meth c Q H locs ls C z P S L r
  exact lv_dup2_11 C.1 C.2.1 hd hv hw (k p e R s m args below meth c Q H locs ls C z P S L r)
theorem E_lcmp {x y : Int64} (hd : decode (mC μ) pc = .ok (.lcmp, 1)) (hq : pc + 1 = q) (k : Ev γ μ u n h lv q (.int (lg_cmp x y) :: rest) Ψ) : Ev γ μ u n h lv pc (.long y :: .long x :: rest) Ψ := by
  subst hq
  intro p e R s m args below meth c Q H locs ls C z P S L r
  exact W.lcmp C.1 C.2.1 hd (k p e R s m args below meth c Q H locs ls C z P S L r)
theorem E_iload_n (j : Nat) {i : Fin 4} {i' : Nat} {x : Int32} (hd : decode (mC μ) pc = .ok (.iload_n i, 1)) (hq : pc + 1 = q) (hi : (i : Nat) = i') (hj : lv[j]? = some (i', .int x)) (k : Ev γ μ u n h lv q (.int x :: rest) Ψ) : Ev γ μ u n h lv pc rest Ψ := by
  subst hq
  intro p e R s m args below meth c Q H locs ls C z P S L r
  exact lv_iload_n C.1 C.2.1 hd hi (lv_at L j hj) (k p e R s m args below meth c Q H locs ls C z P S L r)
theorem E_iload (j : Nat) {i : Nat} {x : Int32} (hd : decode (mC μ) pc = .ok (.iload i, 2)) (hq : pc + 2 = q) (hj : lv[j]? = some (i, .int x)) (k : Ev γ μ u n h lv q (.int x :: rest) Ψ) : Ev γ μ u n h lv pc rest Ψ := by
  subst hq
  intro p e R s m args below meth c Q H locs ls C z P S L r
  exact lv_iload C.1 C.2.1 hd (lv_at L j hj) (k p e R s m args below meth c Q H locs ls C z P S L r)
theorem E_aload_n (j : Nat) {i : Fin 4} {i' : Nat} {x : Nat} (hd : decode (mC μ) pc = .ok (.aload_n i, 1)) (hq : pc + 1 = q) (hi : (i : Nat) = i') (hj : lv[j]? = some (i', .ref x)) (k : Ev γ μ u n h lv q (.ref x :: rest) Ψ) : Ev γ μ u n h lv pc rest Ψ := by
  subst hq
  intro p e R s m args below meth c Q H locs ls C z P S L r
  exact lv_aload_n C.1 C.2.1 hd hi (lv_at L j hj) (k p e R s m args below meth c Q H locs ls C z P S L r)
theorem E_aload (j : Nat) {i : Nat} {x : Nat} (hd : decode (mC μ) pc = .ok (.aload i, 2)) (hq : pc + 2 = q) (hj : lv[j]? = some (i, .ref x)) (k : Ev γ μ u n h lv q (.ref x :: rest) Ψ) : Ev γ μ u n h lv pc rest Ψ := by
  subst hq
  intro p e R s m args below meth c Q H locs ls C z P S L r
  exact lv_aload C.1 C.2.1 hd (lv_at L j hj) (k p e R s m args below meth c Q H locs ls C z P S L r)
/-- a local is written: it stands first then -/
def lvw (lv : List (Nat × Value)) (i : Nat) (v : Value) : List (Nat × Value) := (i, v) :: lv.filter (fun q => !(q.1 == i) && !(q.1 + 1 == i && q.2.category == 2))
theorem E_istore_n {i : Fin 4} {i' : Nat} {x : Int32} (lv' : List (Nat × Value)) (hd : decode (mC μ) pc = .ok (.istore_n i, 1)) (hq : pc + 1 = q) (hi : (i : Nat) = i') (hn : i' < mL μ) (hl : lvw lv i' (.int x) = lv') (k : Ev γ μ u n h lv' q rest Ψ) : Ev γ μ u n h lv pc (.int x :: rest) Ψ := by
  subst hq
  intro p e R s m args below meth c Q H locs ls C z P S L r
  exact lv_istore_n C.1 C.2.1 hd hi L hn hl (fun ls' L' => k p e R s m args below meth c Q H locs ls' C z P S L' r)
theorem E_istore {i : Nat} {x : Int32} (lv' : List (Nat × Value)) (hd : decode (mC μ) pc = .ok (.istore i, 2)) (hq : pc + 2 = q) (hn : i < mL μ) (hl : lvw lv i (.int x) = lv') (k : Ev γ μ u n h lv' q rest Ψ) : Ev γ μ u n h lv pc (.int x :: rest) Ψ := by
  subst hq
  intro p e R s m args below meth c Q H locs ls C z P S L r
  exact lv_istore C.1 C.2.1 hd L hn hl (fun ls' L' => k p e R s m args below meth c Q H locs ls' C z P S L' r)
theorem E_astore_n {i : Fin 4} {i' : Nat} {x : Nat} (lv' : List (Nat × Value)) (hd : decode (mC μ) pc = .ok (.astore_n i, 1)) (hq : pc + 1 = q) (hi : (i : Nat) = i') (hn : i' < mL μ) (hl : lvw lv i' (.ref x) = lv') (k : Ev γ μ u n h lv' q rest Ψ) : Ev γ μ u n h lv pc (.ref x :: rest) Ψ := by
  subst hq
  intro p e R s m args below meth c Q H locs ls C z P S L r
  exact lv_astore_n C.1 C.2.1 hd hi L hn hl (fun ls' L' => k p e R s m args below meth c Q H locs ls' C z P S L' r)
theorem E_iinc (j : Nat) {i : Nat} {d : Int} {x v : Int32} (lv' : List (Nat × Value)) (hd : decode (mC μ) pc = .ok (.iinc i d, 3)) (hq : pc + 3 = q) (hj : lv[j]? = some (i, .int x)) (hv : x + Int32.ofInt d = v) (hn : i < mL μ) (hl : lvw lv i (.int v) = lv') (k : Ev γ μ u n h lv' q st Ψ) : Ev γ μ u n h lv pc st Ψ := by
  subst hq
  intro p e R s m args below meth c Q H locs ls C z P S L r
  exact lv_iinc C.1 C.2.1 hd L hj hv hn hl (fun ls' L' => k p e R s m args below meth c Q H locs ls' C z P S L' r)
theorem E_goto {o : Int} (hd : decode (mC μ) pc = .ok (.goto o, 3)) (ht : (pc : Int) + o = (q : Int)) (k : Ev γ μ u n h lv q st Ψ) : Ev γ μ u n h lv pc st Ψ := by
  intro p e R s m args below meth c Q H locs ls C z P S L r
  exact lv_goto C.1 C.2.1 hd ht (k p e R s m args below meth c Q H locs ls C z P S L r)
theorem E_if_eq {x : Int32} {o : Int} {t : Nat} (hd : decode (mC μ) pc = .ok (.ifCond .eq o, 3)) (ht : (pc : Int) + o = (t : Int)) (hq : pc + 3 = q) (kt : x = 0 → Ev γ μ u n h lv t rest Ψ) (kf : ¬ (x = 0) → Ev γ μ u n h lv q rest Ψ) : Ev γ μ u n h lv pc (.int x :: rest) Ψ := by
  subst hq
  intro p e R s m args below meth c Q H locs ls C z P S L r
  exact lv_if_eq C.1 C.2.1 hd ht (fun g => kt g p e R s m args below meth c Q H locs ls C z P S L r) (fun g => kf g p e R s m args below meth c Q H locs ls C z P S L r)
theorem E_icmp_eq {x y : Int32} {o : Int} {t : Nat} (hd : decode (mC μ) pc = .ok (.if_icmp .eq o, 3)) (ht : (pc : Int) + o = (t : Int)) (hq : pc + 3 = q) (kt : x = y → Ev γ μ u n h lv t rest Ψ) (kf : ¬ (x = y) → Ev γ μ u n h lv q rest Ψ) : Ev γ μ u n h lv pc (.int y :: .int x :: rest) Ψ := by
  subst hq
  intro p e R s m args below meth c Q H locs ls C z P S L r
  exact lv_icmp_eq C.1 C.2.1 hd ht (fun g => kt g p e R s m args below meth c Q H locs ls C z P S L r) (fun g => kf g p e R s m args below meth c Q H locs ls C z P S L r)
theorem E_if_ne {x : Int32} {o : Int} {t : Nat} (hd : decode (mC μ) pc = .ok (.ifCond .ne o, 3)) (ht : (pc : Int) + o = (t : Int)) (hq : pc + 3 = q) (kt : ¬ x = 0 → Ev γ μ u n h lv t rest Ψ) (kf : x = 0 → Ev γ μ u n h lv q rest Ψ) : Ev γ μ u n h lv pc (.int x :: rest) Ψ := by
  subst hq
  intro p e R s m args below meth c Q H locs ls C z P S L r
  exact lv_if_ne C.1 C.2.1 hd ht (fun g => kt g p e R s m args below meth c Q H locs ls C z P S L r) (fun g => kf g p e R s m args below meth c Q H locs ls C z P S L r)
theorem E_icmp_ne {x y : Int32} {o : Int} {t : Nat} (hd : decode (mC μ) pc = .ok (.if_icmp .ne o, 3)) (ht : (pc : Int) + o = (t : Int)) (hq : pc + 3 = q) (kt : ¬ x = y → Ev γ μ u n h lv t rest Ψ) (kf : x = y → Ev γ μ u n h lv q rest Ψ) : Ev γ μ u n h lv pc (.int y :: .int x :: rest) Ψ := by
  subst hq
  intro p e R s m args below meth c Q H locs ls C z P S L r
  exact lv_icmp_ne C.1 C.2.1 hd ht (fun g => kt g p e R s m args below meth c Q H locs ls C z P S L r) (fun g => kf g p e R s m args below meth c Q H locs ls C z P S L r)
theorem E_if_lt {x : Int32} {o : Int} {t : Nat} (hd : decode (mC μ) pc = .ok (.ifCond .lt o, 3)) (ht : (pc : Int) + o = (t : Int)) (hq : pc + 3 = q) (kt : x < 0 → Ev γ μ u n h lv t rest Ψ) (kf : ¬ (x < 0) → Ev γ μ u n h lv q rest Ψ) : Ev γ μ u n h lv pc (.int x :: rest) Ψ := by
  subst hq
  intro p e R s m args below meth c Q H locs ls C z P S L r
  exact lv_if_lt C.1 C.2.1 hd ht (fun g => kt g p e R s m args below meth c Q H locs ls C z P S L r) (fun g => kf g p e R s m args below meth c Q H locs ls C z P S L r)
theorem E_icmp_lt {x y : Int32} {o : Int} {t : Nat} (hd : decode (mC μ) pc = .ok (.if_icmp .lt o, 3)) (ht : (pc : Int) + o = (t : Int)) (hq : pc + 3 = q) (kt : x < y → Ev γ μ u n h lv t rest Ψ) (kf : ¬ (x < y) → Ev γ μ u n h lv q rest Ψ) : Ev γ μ u n h lv pc (.int y :: .int x :: rest) Ψ := by
  subst hq
  intro p e R s m args below meth c Q H locs ls C z P S L r
  exact lv_icmp_lt C.1 C.2.1 hd ht (fun g => kt g p e R s m args below meth c Q H locs ls C z P S L r) (fun g => kf g p e R s m args below meth c Q H locs ls C z P S L r)
theorem E_if_ge {x : Int32} {o : Int} {t : Nat} (hd : decode (mC μ) pc = .ok (.ifCond .ge o, 3)) (ht : (pc : Int) + o = (t : Int)) (hq : pc + 3 = q) (kt : 0 ≤ x → Ev γ μ u n h lv t rest Ψ) (kf : ¬ (0 ≤ x) → Ev γ μ u n h lv q rest Ψ) : Ev γ μ u n h lv pc (.int x :: rest) Ψ := by
  subst hq
  intro p e R s m args below meth c Q H locs ls C z P S L r
  exact lv_if_ge C.1 C.2.1 hd ht (fun g => kt g p e R s m args below meth c Q H locs ls C z P S L r) (fun g => kf g p e R s m args below meth c Q H locs ls C z P S L r)
theorem E_icmp_ge {x y : Int32} {o : Int} {t : Nat} (hd : decode (mC μ) pc = .ok (.if_icmp .ge o, 3)) (ht : (pc : Int) + o = (t : Int)) (hq : pc + 3 = q) (kt : y ≤ x → Ev γ μ u n h lv t rest Ψ) (kf : ¬ (y ≤ x) → Ev γ μ u n h lv q rest Ψ) : Ev γ μ u n h lv pc (.int y :: .int x :: rest) Ψ := by
  subst hq
  intro p e R s m args below meth c Q H locs ls C z P S L r
  exact lv_icmp_ge C.1 C.2.1 hd ht (fun g => kt g p e R s m args below meth c Q H locs ls C z P S L r) (fun g => kf g p e R s m args below meth c Q H locs ls C z P S L r)
theorem E_if_gt {x : Int32} {o : Int} {t : Nat} (hd : decode (mC μ) pc = .ok (.ifCond .gt o, 3)) (ht : (pc : Int) + o = (t : Int)) (hq : pc + 3 = q) (kt : 0 < x → Ev γ μ u n h lv t rest Ψ) (kf : ¬ (0 < x) → Ev γ μ u n h lv q rest Ψ) : Ev γ μ u n h lv pc (.int x :: rest) Ψ := by
  subst hq
  intro p e R s m args below meth c Q H locs ls C z P S L r
  exact lv_if_gt C.1 C.2.1 hd ht (fun g => kt g p e R s m args below meth c Q H locs ls C z P S L r) (fun g => kf g p e R s m args below meth c Q H locs ls C z P S L r)
theorem E_icmp_gt {x y : Int32} {o : Int} {t : Nat} (hd : decode (mC μ) pc = .ok (.if_icmp .gt o, 3)) (ht : (pc : Int) + o = (t : Int)) (hq : pc + 3 = q) (kt : y < x → Ev γ μ u n h lv t rest Ψ) (kf : ¬ (y < x) → Ev γ μ u n h lv q rest Ψ) : Ev γ μ u n h lv pc (.int y :: .int x :: rest) Ψ := by
  subst hq
  intro p e R s m args below meth c Q H locs ls C z P S L r
  exact lv_icmp_gt C.1 C.2.1 hd ht (fun g => kt g p e R s m args below meth c Q H locs ls C z P S L r) (fun g => kf g p e R s m args below meth c Q H locs ls C z P S L r)
theorem E_if_le {x : Int32} {o : Int} {t : Nat} (hd : decode (mC μ) pc = .ok (.ifCond .le o, 3)) (ht : (pc : Int) + o = (t : Int)) (hq : pc + 3 = q) (kt : x ≤ 0 → Ev γ μ u n h lv t rest Ψ) (kf : ¬ (x ≤ 0) → Ev γ μ u n h lv q rest Ψ) : Ev γ μ u n h lv pc (.int x :: rest) Ψ := by
  subst hq
  intro p e R s m args below meth c Q H locs ls C z P S L r
  exact lv_if_le C.1 C.2.1 hd ht (fun g => kt g p e R s m args below meth c Q H locs ls C z P S L r) (fun g => kf g p e R s m args below meth c Q H locs ls C z P S L r)
theorem E_icmp_le {x y : Int32} {o : Int} {t : Nat} (hd : decode (mC μ) pc = .ok (.if_icmp .le o, 3)) (ht : (pc : Int) + o = (t : Int)) (hq : pc + 3 = q) (kt : x ≤ y → Ev γ μ u n h lv t rest Ψ) (kf : ¬ (x ≤ y) → Ev γ μ u n h lv q rest Ψ) : Ev γ μ u n h lv pc (.int y :: .int x :: rest) Ψ := by
  subst hq
  intro p e R s m args below meth c Q H locs ls C z P S L r
  exact lv_icmp_le C.1 C.2.1 hd ht (fun g => kt g p e R s m args below meth c Q H locs ls C z P S L r) (fun g => kf g p e R s m args below meth c Q H locs ls C z P S L r)
theorem E_tabIn {dflt lo hi : Int} {offs : Array Int} {len t : Nat} {x : Int32} {o : Int} (hd : decode (mC μ) pc = .ok (.tableswitch dflt lo hi offs, len)) (h1 : ¬ x.toInt < lo) (h2 : ¬ hi < x.toInt) (ho : offs[(x.toInt - lo).toNat]? = some o) (ht : (pc : Int) + o = (t : Int)) (k : Ev γ μ u n h lv t rest Ψ) : Ev γ μ u n h lv pc (.int x :: rest) Ψ := by
  intro p e R s m args below meth c Q H locs ls C z P S L r
  exact lv_tableIn C.1 C.2.1 hd h1 h2 ho ht (k p e R s m args below meth c Q H locs ls C z P S L r)
theorem E_tabOut {dflt lo hi : Int} {offs : Array Int} {len t : Nat} {x : Int32} (hd : decode (mC μ) pc = .ok (.tableswitch dflt lo hi offs, len)) (h1 : x.toInt < lo ∨ hi < x.toInt) (ht : (pc : Int) + dflt = (t : Int)) (k : Ev γ μ u n h lv t rest Ψ) : Ev γ μ u n h lv pc (.int x :: rest) Ψ := by
  intro p e R s m args below meth c Q H locs ls C z P S L r
  exact lv_tableOut C.1 C.2.1 hd h1 ht (k p e R s m args below meth c Q H locs ls C z P S L r)
theorem E_ldc {idx : Nat} {x : Int32} (hd : decode (mC μ) pc = .ok (.ldc idx, 2)) (hq : pc + 2 = q) (hw : Cond.constant (mY μ).cls idx x ∈ lw_good) (k : Ev γ μ u n h lv q (.int x :: rest) Ψ) : Ev γ μ u n h lv pc rest Ψ := by
  subst hq
  intro p e R s m args below meth c Q H locs ls C z P S L r
  exact lv_ldc C.1 C.2.1 C.2.2.2.1 (C.2.2.2.2.1 _ hw) hd (k p e R s m args below meth c Q H locs ls C z P S L r)
theorem E_ldc2 {idx : Nat} {x : Int64} (hd : decode (mC μ) pc = .ok (.ldc2_w idx, 3)) (hq : pc + 3 = q) (hw : Cond.constantLong (mY μ).cls idx x ∈ lw_good) (k : Ev γ μ u n h lv q (.long x :: rest) Ψ) : Ev γ μ u n h lv pc rest Ψ := by
  subst hq
  intro p e R s m args below meth c Q H locs ls C z P S L r
  exact lv_ldc2 C.1 C.2.1 C.2.2.2.1 (C.2.2.2.2.1 _ hw) hd (k p e R s m args below meth c Q H locs ls C z P S L r)
end EV
end
section
/-! ===== the heap: blocks of cells; fields, arrays, new cells ===== -/
def put (k : Nat) (cs : List va_E) (h : HP) : HP := fun j => if j < k then h j else (cs[j - k]?).getD (h j)
def Has (n k : Nat) (cs : List va_E) (h : HP) : Prop := k + cs.length ≤ n ∧ ∀ (i : Nat) (c : va_E), cs[i]? = some c → h (k + i) = c
theorem put_at {k i : Nat} {cs : List va_E} {h : HP} {c : va_E} (hc : cs[i]? = some c) : put k cs h (k + i) = c := by
  have : ¬ k + i < k := by omega
  simp [put, this, hc]
theorem put_out {k j : Nat} {cs : List va_E} {h : HP} (hj : j < k ∨ k + cs.length ≤ j) : put k cs h j = h j := by
  by_cases h1 : j < k
  · simp [put, h1]
  · have : cs[j - k]? = none := List.getElem?_eq_none (by omega)
    simp [put, h1, this]
theorem up_same {h : HP} {k : Nat} {e : va_E} : up h k e k = e := by simp [up]
theorem up_ne {h : HP} {k j : Nat} {e : va_E} (hj : ¬ j = k) : up h k e j = h j := by simp [up, hj]
theorem up_put {k i : Nat} {cs cs' : List va_E} {h : HP} {c : va_E} (hi : i < cs.length) (e : cs.set i c = cs') : up (put k cs h) (k + i) c = put k cs' h := by
  subst e
  funext j
  by_cases hj : j = k + i
  · subst hj
    rw [up_same, put_at (List.getElem?_set_self hi)]
  · rw [up_ne hj]
    by_cases h1 : j < k
    · rw [put_out (Or.inl h1), put_out (Or.inl h1)]
    · have : i ≠ j - k := by omega
      simp [put, h1, List.getElem?_set_ne this]
theorem up_put_out {k j : Nat} {cs : List va_E} {h : HP} {c : va_E} (hj : j < k ∨ k + cs.length ≤ j) : up (put k cs h) j c = put k cs (up h j c) := by
  funext x
  by_cases hx : x = j
  · subst hx
    rw [up_same, put_out hj, up_same]
  · rw [up_ne hx]
    by_cases h1 : x < k
    · rw [put_out (Or.inl h1), put_out (Or.inl h1), up_ne hx]
    · simp [put, h1, up_ne hx]
theorem put_put {k : Nat} {cs cs' : List va_E} {h : HP} (hl : cs.length = cs'.length) : put k cs' (put k cs h) = put k cs' h := by
  funext j
  by_cases h1 : j < k
  · simp [put, h1]
  · by_cases h2 : k + cs'.length ≤ j
    · rw [put_out (Or.inr h2), put_out (Or.inr h2), put_out (Or.inr (by omega))]
    · have : j - k < cs'.length := by omega
      simp [put, h1, this]
theorem put_comm {k k' : Nat} {cs cs' : List va_E} {h : HP} (hd : k + cs.length ≤ k' ∨ k' + cs'.length ≤ k) : put k cs (put k' cs' h) = put k' cs' (put k cs h) := by
  funext j
  by_cases h1 : j < k ∨ k + cs.length ≤ j
  · rw [put_out h1]
    by_cases h2 : j < k' ∨ k' + cs'.length ≤ j
    · rw [put_out h2, put_out h2, put_out h1]
    · have g1 : ¬ j < k' := by omega
      have : j - k' < cs'.length := by omega
      simp [put, g1, this]
  · have h2 : j < k' ∨ k' + cs'.length ≤ j := by omega
    rw [put_out h2]
    have g1 : ¬ j < k := by omega
    have : j - k < cs.length := by omega
    simp [put, g1, this]
theorem put_self {n k : Nat} {cs : List va_E} {h : HP} (hh : Has n k cs h) : put k cs h = h := by
  funext j
  by_cases h1 : j < k ∨ k + cs.length ≤ j
  · exact put_out h1
  · obtain ⟨i, rfl⟩ : ∃ i, j = k + i := ⟨j - k, by omega⟩
    have hi : i < cs.length := by omega
    rw [put_at (List.getElem?_eq_getElem hi), hh.2 i _ (List.getElem?_eq_getElem hi)]
theorem has_put {n k : Nat} {cs : List va_E} {h : HP} (hn : k + cs.length ≤ n) : Has n k cs (put k cs h) := ⟨hn, fun _ _ hc => put_at hc⟩
theorem has_out {n k k' : Nat} {cs cs' : List va_E} {h : HP} (hh : Has n k cs h) (hd : k + cs.length ≤ k' ∨ k' + cs'.length ≤ k) : Has n k cs (put k' cs' h) := by
  refine ⟨hh.1, fun i c hc => ?_⟩
  have hi : i < cs.length := (List.getElem?_eq_some_iff.mp hc).1
  rw [put_out (by omega)]
  exact hh.2 i c hc
theorem has_up_out {n k j : Nat} {cs : List va_E} {h : HP} {e : va_E} (hh : Has n k cs h) (hd : j < k ∨ k + cs.length ≤ j) : Has n k cs (up h j e) := by
  refine ⟨hh.1, fun i c hc => ?_⟩
  have hi : i < cs.length := (List.getElem?_eq_some_iff.mp hc).1
  rw [up_ne (by omega)]
  exact hh.2 i c hc
theorem Has.at {n k : Nat} {cs : List va_E} {h : HP} (hh : Has n k cs h) (i : Nat) {c : va_E} (hc : cs[i]? = some c) : h (k + i) = c := hh.2 i c hc
theorem Has.lt {n k : Nat} {cs : List va_E} {h : HP} (hh : Has n k cs h) (i : Nat) (hi : i < cs.length) : k + i < n := by have := hh.1; omega
abbrev IA (γ : GX) (n : Nat) (f : FN) : va_E := .inl (gI γ, n, .inl f)
abbrev ZA (γ : GX) (n : Nat) (f : FN) : va_E := .inl (gZ γ, n, .inl f)
abbrev WA (γ : GX) (n : Nat) (f : Nat → Option Nat) : va_E := .inl (gW γ, n, .inr (.inr (.inr (.inr f))))
abbrev ci (i : Int32) : Nat := i.toNatClampNeg
def ix (i : Int32) (n : Nat) : Bool := decide (¬ i < 0) && decide (i.toNatClampNeg < n)
theorem ix_in {i : Int32} {n : Nat} (hi : ix i n = true) : vp_in i n := by
  simp only [ix, Bool.and_eq_true, decide_eq_true_eq] at hi
  intro h
  rcases h with h | h
  · exact hi.1 h
  · omega
def CKx (ci : Nat) (C : String) (T : u_T) (N : Nat) (ty : Nat → FieldType) : Prop := vwCl[ci]? = some (C, T, N) ∧ (∀ w ∈ u_ws C T N, w ∈ lw_good) ∧ (∀ k, k < N → parseFieldDescriptor (T k).2.2.1 = some (ty k)) ∧ (∀ a, a < N → ∀ b, b < N → a ≠ b → (T a).2.1 ≠ (T b).2.1)
section EH
variable {γ : GX} {μ : MI} {u : Nat × Nat} {n : Nat} {h h' : HP} {lv : List (Nat × Value)} {pc q : Nat} {st rest : List Value} {Ψ : PS}
theorem E_get {c0 : Nat} {C : String} {T : u_T} {N : Nat} {ty : Nat → FieldType} {fs : List Value} {v : Value} {a idx : Nat} (k : Nat) (hd : decode (mC μ) pc = .ok (.getfield idx, 3)) (hq : pc + 3 = q) (ck : CKx c0 C T N ty) (hk : k < N) (hl : Cond.fieldLink (mY μ).cls idx (T k).1 (T k).2.1 (T k).2.2.1 ∈ lw_good)
    (hc : h a = .inr (c0, fs)) (ha : a < n) (hv : fs[k]? = some v) (kk : Ev γ μ u n h lv q (v :: rest) Ψ) : Ev γ μ u n h lv pc (.ref (gB γ + a) :: rest) Ψ := by
  subst hq
  intro p e R s m args below meth c Q H locs ls C0 z P S L r
  exact va_get C0.1 C0.2.1 C0.2.2.2.2.1 ck.2.1 C0.2.2.2.1 C0.2.2.2.2.2.2.2.2.2.1 P a (by rw [wl_get ha, hc]) ck.1 k hk (C0.2.2.2.2.1 _ hl) (fun x hx => hx) hv hd (kk p e R s m args below meth c Q H locs ls C0 z P S L r)
theorem E_put {c0 : Nat} {C : String} {T : u_T} {N : Nat} {ty : Nat → FieldType} {fs : List Value} {v : Value} {a idx : Nat} (k : Nat) (hd : decode (mC μ) pc = .ok (.putfield idx, 3)) (hq : pc + 3 = q) (ck : CKx c0 C T N ty) (hk : k < N) (hl : Cond.fieldLink (mY μ).cls idx (T k).1 (T k).2.1 (T k).2.2.1 ∈ lw_good) (hfin : (T k).2.2.2 = false) (hn : narrow (ty k) v = v) (hft : fits (ty k) v = true)
    (hc : h a = .inr (c0, fs)) (ha : a < n) (hv : k < fs.length) (hh : up h a (.inr (c0, fs.set k v)) = h') (kk : Ev γ μ u n h' lv q rest Ψ) : Ev γ μ u n h lv pc (v :: .ref (gB γ + a) :: rest) Ψ := by
  subst hq
  intro p e R s m args below meth c Q H locs ls C0 z P S L r
  refine va_put C0.1 C0.2.1 C0.2.2.2.2.1 ck.2.1 ty ck.2.2.1 ck.2.2.2 C0.2.2.2.1 C0.2.2.2.2.2.2.2.2.2.1 P (wl_D _ _ _) S a (by rw [wl_get ha, hc]) ck.1 k hk (C0.2.2.2.2.1 _ hl) (fun x hx => hx) hfin (ck.2.2.1 k hk) hn hft hv hd (fun H1 locs1 P1 _ S1 => ?_)
  rw [wl_set ha, hh] at P1
  exact kk p e R s m args below meth c Q H1 locs1 ls C0 z P1 S1 L r
theorem E_putF {c0 : Nat} {C : String} {T : u_T} {N : Nat} {ty : Nat → FieldType} {fs : List Value} {v : Value} {a idx : Nat} (k : Nat) (hd : decode (mC μ) pc = .ok (.putfield idx, 3)) (hq : pc + 3 = q) (ck : CKx c0 C T N ty) (hk : k < N) (hl : Cond.fieldLink (mY μ).cls idx (T k).1 (T k).2.1 (T k).2.2.1 ∈ lw_good) (hfin : (T k).2.2.2 = true) (hini : mN μ = true) (hdecl : (T k).1 = (mY μ).cls) (hn : narrow (ty k) v = v) (hft : fits (ty k) v = true)
    (hc : h a = .inr (c0, fs)) (ha : a < n) (hv : k < fs.length) (hh : up h a (.inr (c0, fs.set k v)) = h') (kk : Ev γ μ u n h' lv q rest Ψ) : Ev γ μ u n h lv pc (v :: .ref (gB γ + a) :: rest) Ψ := by
  subst hq
  intro p e R s m args below meth c Q H locs ls C0 z P S L r
  refine va_putF C0.1 C0.2.1 C0.2.2.2.2.1 ck.2.1 ty ck.2.2.1 ck.2.2.2 C0.2.2.2.1 C0.2.2.2.2.2.2.2.2.2.1 P (wl_D _ _ _) S a (by rw [wl_get ha, hc]) ck.1 k hk (C0.2.2.2.2.1 _ hl) (fun x hx => hx) hfin (C0.2.2.2.2.2.2.2.2.2.2.1 hini) hdecl (ck.2.2.1 k hk) hn hft hv hd (fun H1 locs1 P1 _ S1 => ?_)
  rw [wl_set ha, hh] at P1
  exact kk p e R s m args below meth c Q H1 locs1 ls C0 z P1 S1 L r
theorem E_iald {f : FN} {i : Int32} {a len : Nat} (hd : decode (mC μ) pc = .ok (.iaload, 1)) (hq : pc + 1 = q) (hc : h a = IA γ len f) (ha : a < n) (hi : ix i len = true) (kk : Ev γ μ u n h lv q (.int (f (ci i)) :: rest) Ψ) : Ev γ μ u n h lv pc (.int i :: .ref (gB γ + a) :: rest) Ψ := by
  subst hq
  intro p e R s m args below meth c Q H locs ls C0 z P S L r
  exact va_iald C0.1 C0.2.1 C0.2.2.2.2.2.2.2.2.2.1 P a 0 (by rw [wl_get ha, hc]) rfl (ix_in hi) hd (kk p e R s m args below meth c Q H locs ls C0 z P S L r)
theorem E_zald {f : FN} {i : Int32} {a len : Nat} (hd : decode (mC μ) pc = .ok (.baload, 1)) (hq : pc + 1 = q) (hc : h a = ZA γ len f) (ha : a < n) (hi : ix i len = true) (kk : Ev γ μ u n h lv q (.int (f (ci i)) :: rest) Ψ) : Ev γ μ u n h lv pc (.int i :: .ref (gB γ + a) :: rest) Ψ := by
  subst hq
  intro p e R s m args below meth c Q H locs ls C0 z P S L r
  exact va_zald C0.1 C0.2.1 C0.2.2.2.2.2.2.2.2.2.1 P a 1 (by rw [wl_get ha, hc]) rfl (ix_in hi) hd (kk p e R s m args below meth c Q H locs ls C0 z P S L r)
theorem E_wald {f : Nat → Option Nat} {i : Int32} {a len : Nat} {v : Value} (hd : decode (mC μ) pc = .ok (.aaload, 1)) (hq : pc + 1 = q) (hc : h a = WA γ len f) (ha : a < n) (hi : ix i len = true) (hv : va_rf (f (ci i)) = v) (kk : Ev γ μ u n h lv q (v :: rest) Ψ) : Ev γ μ u n h lv pc (.int i :: .ref (gB γ + a) :: rest) Ψ := by
  subst hq
  subst hv
  intro p e R s m args below meth c Q H locs ls C0 z P S L r
  exact va_aldq C0.1 C0.2.1 C0.2.2.2.2.2.2.2.2.2.1 P a 2 (by rw [wl_get ha, hc]) rfl (ix_in hi) hd (kk p e R s m args below meth c Q H locs ls C0 z P S L r)
theorem E_iast {f : FN} {i x : Int32} {a len : Nat} (hd : decode (mC μ) pc = .ok (.iastore, 1)) (hq : pc + 1 = q) (hc : h a = IA γ len f) (ha : a < n) (hi : ix i len = true) (hh : up h a (IA γ len (upd f (ci i) x)) = h') (kk : Ev γ μ u n h' lv q rest Ψ) : Ev γ μ u n h lv pc (.int x :: .int i :: .ref (gB γ + a) :: rest) Ψ := by
  subst hq
  intro p e R s m args below meth c Q H locs ls C0 z P S L r
  refine va_iast C0.1 C0.2.1 C0.2.2.2.2.2.2.2.2.2.1 P (wl_D _ _ _) S a 0 (by rw [wl_get ha, hc]) rfl (ix_in hi) hd (fun H1 locs1 P1 _ S1 => ?_)
  rw [wl_set ha, hh] at P1
  exact kk p e R s m args below meth c Q H1 locs1 ls C0 z P1 S1 L r
theorem E_zast {f : FN} {i x : Int32} {a len : Nat} (hd : decode (mC μ) pc = .ok (.bastore, 1)) (hq : pc + 1 = q) (hc : h a = ZA γ len f) (ha : a < n) (hi : ix i len = true) (hx : x &&& 1 = x) (hh : up h a (ZA γ len (upd f (ci i) x)) = h') (kk : Ev γ μ u n h' lv q rest Ψ) : Ev γ μ u n h lv pc (.int x :: .int i :: .ref (gB γ + a) :: rest) Ψ := by
  subst hq
  intro p e R s m args below meth c Q H locs ls C0 z P S L r
  refine va_zast C0.1 C0.2.1 C0.2.2.2.2.2.2.2.2.2.1 P (wl_D _ _ _) S a 1 (by rw [wl_get ha, hc]) rfl (ix_in hi) hd (fun H1 locs1 P1 _ S1 => ?_)
  rw [show vp_nar .boolean x = x from hx, wl_set ha, hh] at P1
  exact kk p e R s m args below meth c Q H1 locs1 ls C0 z P1 S1 L r
theorem E_wast {f : Nat → Option Nat} {fs : List Value} {i : Int32} {a b len : Nat} (hd : decode (mC μ) pc = .ok (.aastore, 1)) (hq : pc + 1 = q) (hc : h a = WA γ len f) (ha : a < n) (hb : h b = .inr (5, fs)) (hbn : b < n) (hi : ix i len = true) (hh : up h a (WA γ len (va_up f (ci i) (some (gB γ + b)))) = h') (kk : Ev γ μ u n h' lv q rest Ψ) : Ev γ μ u n h lv pc (.ref (gB γ + b) :: .int i :: .ref (gB γ + a) :: rest) Ψ := by
  subst hq
  intro p e R s m args below meth c Q H locs ls C0 z P S L r
  refine va_astq C0.1 C0.2.1 C0.2.2.2.2.2.2.2.2.2.1 P (wl_D _ _ _) S a 2 b 5 (r := (RX5, TX5, 5)) (by rw [wl_get ha, hc]) rfl (by rw [wl_get hbn, hb]) rfl (ix_in hi) hd (fun H1 locs1 P1 _ S1 => ?_)
  rw [wl_set ha, hh] at P1
  exact kk p e R s m args below meth c Q H1 locs1 ls C0 z P1 S1 L r
theorem E_alen {a len : Nat} {x : Int32} {f : FN} (hd : decode (mC μ) pc = .ok (.arraylength, 1)) (hq : pc + 1 = q) (hc : h a = IA γ len f) (ha : a < n) (hx : Int32.ofNat len = x) (kk : Ev γ μ u n h lv q (.int x :: rest) Ψ) : Ev γ μ u n h lv pc (.ref (gB γ + a) :: rest) Ψ := by
  subst hq
  intro p e R s m args below meth c Q H locs ls C0 z P S L r
  exact va_alen C0.1 C0.2.1 C0.2.2.2.2.2.2.2.2.2.1 P a 0 (by rw [wl_get ha, hc]) (ty := .int) rfl hx hd (kk p e R s m args below meth c Q H locs ls C0 z P S L r)
theorem new_at {D : va_G} {H1 : Heap} {B q n : Nat} {h : HP} {e0 : va_E} (P : va_P D vwCl (wl B n h ++ [(q, e0)]) H1) (hD : va_D (fun q => B ≤ q) (wl B n h ++ [(q, e0)])) (hz : H1.size ≤ B + n + 1) : q = B + n := by
  have g1 : (wl B n h ++ [(q, e0)])[n]? = some (q, e0) := by
    rw [List.getElem?_append_right (by rw [wl_len]; exact Nat.le_refl _), wl_len, Nat.sub_self]; rfl
  have g2 := (P n _ g1).lt
  have g3 := hD.2 n _ g1
  dsimp only at g2 g3
  by_cases hq : q = B + n
  · exact hq
  · exfalso
    have hk : q - B < n := by omega
    have g4 : (wl B n h ++ [(q, e0)])[q - B]? = some (B + (q - B), h (q - B)) := by
      rw [List.getElem?_append_left (by rw [wl_len]; exact hk), wl_get hk]
    have := hD.1 n (q - B) _ _ g1 g4 (by dsimp only; omega)
    omega
theorem E_newa {x : Int32} {len : Nat} (hd : decode (mC μ) pc = .ok (.newarray .int, 2)) (hq : pc + 2 = q) (hw : Cond.arrayClass .int ∈ lw_good) (hx : ¬ x < 0) (hN : x.toNatClampNeg = len) (hb : len ≤ 1000) (hu : u.1 + 1 ≤ mK μ ∧ u.2 + len ≤ mS μ) (hh : up h n (IA γ len (fun _ => 0)) = h') (kk : Ev γ μ (u.1 + 1, u.2 + len) (n + 1) h' lv q (.ref (gB γ + n) :: rest) Ψ) : Ev γ μ u n h lv pc (.int x :: rest) Ψ := by
  subst hq
  intro p e R s m args below meth c Q H locs ls C0 z P S L r
  have hK := C0.2.2.2.2.2.2.2.2.2.1
  refine va_newa (a0 := (len, .inl (fun _ => 0))) (atype := .int) C0.1 C0.2.1 (C0.2.2.2.2.1 _ hw) rfl hK P (wl_D _ _ _) S (fun q hq => Nat.le_trans z.2.1 hq) (fun cA => rfl) hx hN (by show len * 4 ≤ 536870912; omega) (Nat.le_trans hu.1 C0.2.2.2.2.2.2.2.2.2.2.2.1) (Nat.le_trans hu.2 C0.2.2.2.2.2.2.2.2.2.2.2.2) hd (fun q0 cA H1 K1 P1 D1 S1 => ?_)
  refine W_size fun hsz => ?_
  have hcA : cA = gI γ := by
    have a1 : va_RA s cA .int := (K1.2 3 (cA, .int) rfl).2
    have a2 : va_RA s (gI γ) .int := (hK.2 0 (gI γ, .int) rfl).2
    exact Option.some.inj (a1.symm.trans a2)
  subst hcA
  have hz1 := z.1
  have hq0 : q0 = gB γ + n := new_at P1 D1 (by omega)
  subst hq0
  rw [wl_push, hh] at P1
  refine kk p e R s m args below meth c Q H1 locs ls C0 ⟨?_, z.2.1, hu.1, hu.2⟩ P1 S1 L r
  show s.heap.size + (u.1 + 1) = gB γ + (n + 1)
  omega
theorem E_newz {x : Int32} {len : Nat} (hd : decode (mC μ) pc = .ok (.newarray .boolean, 2)) (hq : pc + 2 = q) (hw : Cond.arrayClass .boolean ∈ lw_good) (hx : ¬ x < 0) (hN : x.toNatClampNeg = len) (hb : len ≤ 1000) (hu : u.1 + 1 ≤ mK μ ∧ u.2 + len ≤ mS μ) (hh : up h n (ZA γ len (fun _ => 0)) = h') (kk : Ev γ μ (u.1 + 1, u.2 + len) (n + 1) h' lv q (.ref (gB γ + n) :: rest) Ψ) : Ev γ μ u n h lv pc (.int x :: rest) Ψ := by
  subst hq
  intro p e R s m args below meth c Q H locs ls C0 z P S L r
  have hK := C0.2.2.2.2.2.2.2.2.2.1
  refine va_newa (a0 := (len, .inl (fun _ => 0))) (atype := .boolean) C0.1 C0.2.1 (C0.2.2.2.2.1 _ hw) rfl hK P (wl_D _ _ _) S (fun q hq => Nat.le_trans z.2.1 hq) (fun cA => rfl) hx hN (by show len * 1 ≤ 536870912; omega) (Nat.le_trans hu.1 C0.2.2.2.2.2.2.2.2.2.2.2.1) (Nat.le_trans hu.2 C0.2.2.2.2.2.2.2.2.2.2.2.2) hd (fun q0 cA H1 K1 P1 D1 S1 => ?_)
  refine W_size fun hsz => ?_
  have hcA : cA = gZ γ := by
    have a1 : va_RA s cA .boolean := (K1.2 3 (cA, .boolean) rfl).2
    have a2 : va_RA s (gZ γ) .boolean := (hK.2 1 (gZ γ, .boolean) rfl).2
    exact Option.some.inj (a1.symm.trans a2)
  subst hcA
  have hz1 := z.1
  have hq0 : q0 = gB γ + n := new_at P1 D1 (by omega)
  subst hq0
  rw [wl_push, hh] at P1
  refine kk p e R s m args below meth c Q H1 locs ls C0 ⟨?_, z.2.1, hu.1, hu.2⟩ P1 S1 L r
  show s.heap.size + (u.1 + 1) = gB γ + (n + 1)
  omega
theorem E_neww {x : Int32} {len idx : Nat} (hd : decode (mC μ) pc = .ok (.anewarray idx, 3)) (hq : pc + 3 = q) (hl : Cond.classLink (mY μ).cls idx RX5 ∈ lw_good) (hov : Cond.arrayOver (.object RX5) ∈ lw_good) (hx : ¬ x < 0) (hN : x.toNatClampNeg = len) (hb : len ≤ 1000) (hu : u.1 + 1 ≤ mK μ ∧ u.2 + len ≤ mS μ) (hh : up h n (WA γ len (fun _ => none)) = h') (kk : Ev γ μ (u.1 + 1, u.2 + len) (n + 1) h' lv q (.ref (gB γ + n) :: rest) Ψ) : Ev γ μ u n h lv pc (.int x :: rest) Ψ := by
  subst hq
  intro p e R s m args below meth c Q H locs ls C0 z P S L r
  have hK := C0.2.2.2.2.2.2.2.2.2.1
  refine va_newq C0.1 C0.2.1 C0.2.2.2.1 (C0.2.2.2.2.1 _ hl) (by have := C0.2.2.2.2.1 _ hov; exact this) hK P (wl_D _ _ _) S (fun q hq => Nat.le_trans z.2.1 hq) hx hN (by omega) (Nat.le_trans hu.1 C0.2.2.2.2.2.2.2.2.2.2.2.1) (Nat.le_trans hu.2 C0.2.2.2.2.2.2.2.2.2.2.2.2) hd (fun q0 cA H1 K1 P1 D1 S1 => ?_)
  refine W_size fun hsz => ?_
  have hcA : cA = gW γ := by
    obtain ⟨_, _, _, _, _, a1⟩ := (K1.2 3 (cA, .object RX5) rfl).2
    obtain ⟨_, _, _, _, _, a2⟩ := (hK.2 2 (gW γ, .object RX5) rfl).2
    exact Option.some.inj (a1.symm.trans a2)
  subst hcA
  have hz1 := z.1
  have hq0 : q0 = gB γ + n := new_at P1 D1 (by omega)
  subst hq0
  rw [wl_push, hh] at P1
  refine kk p e R s m args below meth c Q H1 locs ls C0 ⟨?_, z.2.1, hu.1, hu.2⟩ P1 S1 L r
  show s.heap.size + (u.1 + 1) = gB γ + (n + 1)
  omega
theorem E_new {c0 idx : Nat} {C : String} {T : u_T} {N : Nat} {ty : Nat → FieldType} {fs : List Value} (hd : decode (mC μ) pc = .ok (.new idx, 3)) (hq : pc + 3 = q) (ck : CKx c0 C T N ty) (hl : Cond.classLink (mY μ).cls idx C ∈ lw_good) (hi : Cond.instantiable C N ∈ lw_good) (hini : Cond.initialized C ∈ lw_good) (hfs : ∀ j, j < N → defaultValue (ty j) = vp_V fs j) (hu : u.1 + 1 ≤ mK μ ∧ u.2 + N ≤ mS μ) (hh : up h n (.inr (c0, fs)) = h') (kk : Ev γ μ (u.1 + 1, u.2 + N) (n + 1) h' lv q (.ref (gB γ + n) :: rest) Ψ) : Ev γ μ u n h lv pc rest Ψ := by
  subst hq
  intro p e R s m args below meth c Q H locs ls C0 z P S L r
  have hK := C0.2.2.2.2.2.2.2.2.2.1
  refine va_new C0.1 C0.2.1 C0.2.2.2.2.1 ck.2.1 ty ck.2.2.1 C0.2.2.2.1 (C0.2.2.2.2.1 _ hl) (C0.2.2.2.2.1 _ hi) (C0.2.2.2.2.1 _ hini) hK P (wl_D _ _ _) S (fun q hq => Nat.le_trans z.2.1 hq) ck.1 hfs (Nat.le_trans hu.1 C0.2.2.2.2.2.2.2.2.2.2.2.1) (Nat.le_trans hu.2 C0.2.2.2.2.2.2.2.2.2.2.2.2) hd (fun q0 H1 P1 D1 S1 => ?_)
  refine W_size fun hsz => ?_
  have hz1 := z.1
  have hq0 : q0 = gB γ + n := new_at P1 D1 (by omega)
  subst hq0
  rw [wl_push, hh] at P1
  refine kk p e R s m args below meth c Q H1 locs ls C0 ⟨?_, z.2.1, hu.1, hu.2⟩ P1 S1 L r
  show s.heap.size + (u.1 + 1) = gB γ + (n + 1)
  omega
theorem E_objInit {idx a : Nat} (hd : decode (mC μ) pc = .ok (.invokespecial idx, 3)) (hq : pc + 3 = q) (hl : Cond.methodLink (mY μ).cls idx Lib.objectInit ∈ lw_good) (hi : Cond.instanceMethod Lib.objectInit ∈ lw_good) (hc : Cond.code Lib.objectInit ⟨#[0xb1]⟩ 1 none ∈ lw_good) (hdp : 1 ≤ mD μ) (hr : (rest.map fun v => v.category).sum ≤ 8) (kk : Ev γ μ u n h lv q rest Ψ) : Ev γ μ u n h lv pc (.ref a :: rest) Ψ := by
  subst hq
  intro p e R s m args below meth c Q H locs ls C0 z P S L r
  refine W.objInit C0.1 C0.2.1 C0.2.2.2.1 (C0.2.2.2.2.1 _ hl) (C0.2.2.2.2.1 _ hi) (C0.2.2.2.2.1 _ hc) rfl (by rw [C0.2.2.1]; exact L.1) (a := a) (rest := rest) rfl hd (Nat.le_trans hdp C0.2.2.2.2.2.2.2.1) ?_ (kk p e R s m args below meth c Q H locs ls C0 z P S L r)
  have h1 := C0.2.2.2.2.2.2.2.2.1
  have h2 := lv_room (m := m) (pc := pc) (ls := ls) (rest := .ref a :: rest) hr
  omega
theorem E_max {idx : Nat} {x y : Int32} (hd : decode (mC μ) pc = .ok (.invokestatic idx, 3)) (hq : pc + 3 = q) (hl : Cond.methodLink (mY μ).cls idx Lib.Math.max.name ∈ lw_good) (hs : Cond.static Lib.Math.max.name ∈ lw_good) (hi : Cond.initialized "java/lang/Math" ∈ lw_good) (hc : Cond.code Lib.Math.max.name Lib.Math.max.code 2 (some .int) ∈ lw_good) (hdp : 1 ≤ mD μ) (hr : (rest.map fun v => v.category).sum ≤ 8) (kk : Ev γ μ u n h lv q (.int (if x < y then y else x) :: rest) Ψ) : Ev γ μ u n h lv pc (.int y :: .int x :: rest) Ψ := by
  subst hq
  intro p e R s m args below meth c Q H locs ls C0 z P S L r
  have h1 := C0.2.2.2.2.2.2.2.2.1
  exact va_mmax C0.1 C0.2.1 (by rw [C0.2.2.1]; exact L.1.symm) C0.2.2.2.1 (C0.2.2.2.2.1 _ hl) (C0.2.2.2.2.1 _ hs) (C0.2.2.2.2.1 _ hi) (C0.2.2.2.2.1 _ hc) (Nat.le_trans hdp C0.2.2.2.2.2.2.2.1) (by omega) (Nat.le_trans z.2.2.1 C0.2.2.2.2.2.2.2.2.2.2.2.1) (Nat.le_trans z.2.2.2 C0.2.2.2.2.2.2.2.2.2.2.2.2) hd (kk p e R s m args below meth c Q H locs ls C0 z P S L r)
theorem E_min {idx : Nat} {x y : Int32} (hd : decode (mC μ) pc = .ok (.invokestatic idx, 3)) (hq : pc + 3 = q) (hl : Cond.methodLink (mY μ).cls idx Lib.Math.min.name ∈ lw_good) (hs : Cond.static Lib.Math.min.name ∈ lw_good) (hi : Cond.initialized "java/lang/Math" ∈ lw_good) (hc : Cond.code Lib.Math.min.name Lib.Math.min.code 2 (some .int) ∈ lw_good) (hdp : 1 ≤ mD μ) (hr : (rest.map fun v => v.category).sum ≤ 8) (kk : Ev γ μ u n h lv q (.int (if x < y then x else y) :: rest) Ψ) : Ev γ μ u n h lv pc (.int y :: .int x :: rest) Ψ := by
  subst hq
  intro p e R s m args below meth c Q H locs ls C0 z P S L r
  have h1 := C0.2.2.2.2.2.2.2.2.1
  refine va_mmin C0.1 C0.2.1 (by rw [C0.2.2.1]; exact L.1.symm) C0.2.2.2.1 (C0.2.2.2.2.1 _ hl) (C0.2.2.2.2.1 _ hs) (C0.2.2.2.2.1 _ hi) (C0.2.2.2.2.1 _ hc) (Nat.le_trans hdp C0.2.2.2.2.2.2.2.1) (by omega) (Nat.le_trans z.2.2.1 C0.2.2.2.2.2.2.2.2.2.2.2.1) (Nat.le_trans z.2.2.2 C0.2.2.2.2.2.2.2.2.2.2.2.2) hd ?_
  have e1 := kk p e R s m args below meth c Q H locs ls C0 z P S L r
  first
    | exact e1
    | (have e2 : (if y < x then y else x) = (if x < y then x else y) := by
         by_cases g1 : x < y
         · have g2 : ¬ y < x := fun g => Int32.lt_irrefl (Int32.lt_trans g1 g)
           simp [g1, g2]
         · by_cases g2 : y < x
           · simp [g1, g2]
           · have : x = y := Int32.le_antisymm (Int32.not_lt.mp g2) (Int32.not_lt.mp g1)
             simp [this]
       rw [e2]
       exact e1)
theorem E_copy {idx a a0 n0 n1 : Nat} {f g : FN} {sp dp x : Int32} (hd : decode (mC μ) pc = .ok (.invokestatic idx, 3)) (hq : pc + 3 = q) (hl : Cond.methodLink (mY μ).cls idx arraycopyName ∈ lw_good) (hnt : Cond.native arraycopyName ∈ lw_good) (hs : Cond.static arraycopyName ∈ lw_good) (hi : Cond.initialized "java/lang/System" ∈ lw_good) (hc0 : h a0 = IA γ n0 f) (ha0 : a0 < n) (hc1 : h a = IA γ n1 g) (ha : a < n)
    (h1 : ¬ sp < 0) (h2 : ¬ dp < 0) (h3 : ¬ x < 0) (h4 : sp.toNatClampNeg + x.toNatClampNeg ≤ n0) (h5 : dp.toNatClampNeg + x.toNatClampNeg ≤ n1) (hdp : 1 ≤ mD μ) (hr : (rest.map fun v => v.category).sum ≤ 8) (hh : up h a (IA γ n1 (va_cpy f g sp.toNatClampNeg dp.toNatClampNeg x.toNatClampNeg)) = h')
    (kk : Ev γ μ u n h' lv q rest Ψ) : Ev γ μ u n h lv pc (.int x :: .int dp :: .ref (gB γ + a) :: .int sp :: .ref (gB γ + a0) :: rest) Ψ := by
  subst hq
  intro p e R s m args below meth c Q H locs ls C0 z P S L r
  have hK := C0.2.2.2.2.2.2.2.2.2.1
  refine va_copyi C0.1 C0.2.1 (by rw [C0.2.2.1]; exact L.1.symm) C0.2.2.2.1 (C0.2.2.2.2.1 _ hl) (C0.2.2.2.2.1 _ hnt) (C0.2.2.2.2.1 _ hs) (C0.2.2.2.2.1 _ hi) hK P (wl_D _ _ _) S a0 a 0 0 (by rw [wl_get ha0, hc0]) (by rw [wl_get ha, hc1]) (ty := .int) rfl rfl rfl h1 h2 h3 h4 h5 (fun i hi => rfl) (Nat.le_trans hdp C0.2.2.2.2.2.2.2.1) ?_ hd (fun H1 locs1 P1 _ S1 => ?_)
  · have h6 := C0.2.2.2.2.2.2.2.2.1
    have h7 : nativeFrameWords "java/lang/System" "arraycopy" 5 ≤ 60 := by decide
    omega
  · rw [wl_set ha, hh] at P1
    exact kk p e R s m args below meth c Q H1 locs1 ls C0 z P1 S1 L r
end EH
end
section
/-! ===== calls ===== -/
/-- what the tables say of a method: its class is initialised, its code; np: how many parameters -/
def LkM (μ : MI) (np : Nat) : Prop := Cond.initialized (mY μ).cls ∈ lw_good ∧ Cond.code (mY μ) (mC μ) (mL μ) (mR μ) ∈ lw_good ∧ ((mY μ).cls ≠ "java/lang/invoke/MethodHandle" ∧ (mY μ).cls ≠ "java/lang/invoke/VarHandle" ∧ (parseMethodDescriptor (mY μ).desc).map (fun d => d.parameters.length) = some np) ∧ mL μ ≤ 21
def LkV (own : String) (idx : Nat) (μ : MI) : Prop := Cond.methodLink own idx (mY μ) ∈ lw_good ∧ Cond.instanceMethod (mY μ) ∈ lw_good ∧ Cond.selects (mY μ).cls (mY μ) (mY μ) ∈ lw_good
def LkS (own : String) (idx : Nat) (μ : MI) : Prop := Cond.methodLink own idx (mY μ) ∈ lw_good ∧ Cond.static (mY μ) ∈ lw_good
def LkI (own : String) (idx : Nat) (μ : MI) : Prop := Cond.methodLink own idx (mY μ) ∈ lw_good ∧ Cond.instanceMethod (mY μ) ∈ lw_good ∧ (mY μ).name = "<init>"
def LkN (own : String) (idx : Nat) (host : String) (μ : MI) : Prop := Cond.methodLinkNest own idx (mY μ) host ∈ lw_good ∧ Cond.instanceMethod (mY μ) ∈ lw_good ∧ (mY μ).name = "<init>"
section EC
variable {γ : GX} {μ μ' : MI} {u : Nat × Nat} {n : Nat} {h h' : HP} {lv : List (Nat × Value)} {pc q : Nat} {st rest as : List Value} {Ψ Φ : PS}
theorem lg_code (hm : LkM μ' n) : GoodIn lw_good (.code (mY μ') (mC μ') (mL μ') (mR μ') :: lw_good) := by
  intro w hw
  rcases List.mem_cons.mp hw with rfl | hw
  · exact ⟨hm.2.1, good_of_word (List.mem_filter.mp hm.2.1).2⟩
  · exact ⟨hw, good_of_word (List.mem_filter.mp hw).2⟩
theorem ev_back {p : Program} {e : Env} {R : Room} {s : State} {m : MethodId} {args : Array Value} {below : List Frame} {meth : Method} {c : Code} {H : Heap} {locs : List Loc} {ls : Array Slot} {Q : State → Prop} {mc ms : Nat}
    (hr : va_Run p (gL γ) e R s m args below meth c H locs u.1 u.2 mc ms (F0 m pc ls st) rest (fun st oc t => (∃ (v : Option Value) (n' : Nat) (h' : HP), oc = .returned v ∧ Φ v n' h' ∧ va_P (gD γ) vwCl (wl (gB γ) n' h') t.heap) ∧ va_F (fun q => gB γ ≤ q) st t) (fun q => gB γ ≤ q))
    (S : va_S (fun q => gB γ ≤ q) s.heap H locs)
    (kk : ∀ (v : Option Value) (n' : Nat) (h' : HP) (H' : Heap) (locs' : List Loc), Φ v n' h' → va_P (gD γ) vwCl (wl (gB γ) n' h') H' → va_S (fun q => gB γ ≤ q) s.heap H' locs' → W p (gL γ) e R s m args below meth c H' locs' (u.1 + mc) (u.2 + ms) Q (F0 m (pc + 3) ls (v.toList ++ rest))) :
    W p (gL γ) e R s m args below meth c H locs u.1 u.2 Q (F0 m pc ls st) := by
  intro T hT X
  obtain ⟨v, st₀, t, T', L, h0, X', hL, e1, e2, ⟨⟨v', n', h', hv, hp, hb⟩, hz, hk⟩, go⟩ := hr T hT X
  cases hv
  rw [h0] at hz hk
  obtain ⟨t2, a1, b1⟩ := kk v n' h' T'.heap (locs ++ L) hp (by rw [e1]; exact hb) ⟨Nat.le_trans S.1 (by rw [e1]; exact hz), fun q h1 h2 => by rw [e1, hk q (Nat.lt_of_lt_of_le h1 S.1) h2]; exact S.2.1 q h1 h2, fun q hq => by
      rcases List.mem_append.mp hq with h | h
      · exact S.2.2 q h
      · exact hL q h⟩ T' rfl X'
  exact ⟨t2, go t2 a1, b1⟩
theorem pc_blind {B : State → Prop} (hB : ∀ (U V : State), U.heap = V.heap → U.vm = V.vm → B U → B V) {av : List Value} : FrameBlind (va_Pc av B) := fun a U g mk q => ⟨q.1, hB U _ rfl rfl q.2⟩
theorem ct_blind {av : List Value} : FrameBlind (va_Pc av (fun U => U.heap.size = gB γ + n ∧ va_P (gD γ) vwCl (wl (gB γ) n h) U.heap ∧ va_K (gD γ) vwCl (gT γ) U)) := by
  intro a U g mk q
  obtain ⟨q1, q2, q3, q4⟩ := q
  exact ⟨q1, q2, q3, va_K.moved (u := U) (U := U.calling g mk a) (Vm.Alike.refl U.vm) q4⟩
theorem E_callV {k idx c0 np : Nat} {fs : List Value} {T : u_T} {N : Nat} {ty : Nat → FieldType} (hd : decode (mC μ) pc = .ok (.invokevirtual idx, 3)) (hq : pc + 3 = q) (hm : LkM μ' np) (hl : LkV (mY μ).cls idx μ') (hdp : mD μ' + 1 ≤ mD μ) (ck : CKx c0 (mY μ').cls T N ty) (hcell : h k = .inr (c0, fs)) (hk : k < n) (hu : u.1 + mK μ' ≤ mK μ ∧ u.2 + mS μ' ≤ mS μ) (hr : (rest.map fun v => v.category).sum ≤ 8) (hst : st = as.reverse ++ .ref (gB γ + k) :: rest) (hnp : as.length = np)
    (hc : Ct γ μ' n h (.ref (gB γ + k) :: as) Φ) (hn : ∀ v n' h', Φ v n' h' → n' = n + mK μ') (kk : ∀ v n' h', Φ v n' h' → Ev γ μ (u.1 + mK μ', u.2 + mS μ') n' h' lv q (v.toList ++ rest) Ψ) : Ev γ μ u n h lv pc st Ψ := by
  subst hq
  intro p e R s m args below meth c Q H locs ls C z P S L r
  have hK := C.2.2.2.2.2.2.2.2.2.1
  refine W_size fun hsz => ?_
  have hsz := sz_eq P S z hsz
  have hfr := C.2.2.2.2.2.2.2.1
  have hlo := C.2.2.2.2.2.2.2.2.1
  have hmL := hm.2.2.2
  have hw := C.2.2.2.2.1
  refine ev_back (mc := mK μ') (ms := mS μ') (va_runV ⟨C.1, C.2.1, C.2.2.1, C.2.2.2.1, hw⟩ hc (n := np) (C := (mY μ').cls) ⟨callB_of np hw (lg_code hm) rfl rfl rfl (hw _ hm.1) (hw _ hl.1) hm.2.2.1 ⟨by show mD μ' + 1 ≤ R.frames; omega, by show 8 + (mL μ' + 11) + (40 * mD μ' + 60) ≤ R.locals; omega⟩, hw _ hl.2.1, hw _ hl.2.2⟩ ⟨ct_blind, va_recv hK P ck.1 (by rw [wl_get hk, hcell]), fun U hU hW => ⟨rfl, by rw [hU]; exact hsz, by rw [hU]; exact P, va_K.moved hW.alike hK⟩⟩ rfl hnp L.1 hst (lv_room hr) hd ⟨Nat.le_trans hu.1 C.2.2.2.2.2.2.2.2.2.2.2.1, Nat.le_trans hu.2 C.2.2.2.2.2.2.2.2.2.2.2.2⟩) S ?_
  intro v n' h' H' locs' hp P' S'
  have hz := z.1
  have hn' := hn v n' h' hp
  exact kk v n' h' hp p e R s m args below meth c Q H' locs' ls C ⟨by show s.heap.size + (u.1 + mK μ') = _; omega, z.2.1, hu.1, hu.2⟩ P' S' L r
theorem E_callS {idx np : Nat} (hd : decode (mC μ) pc = .ok (.invokestatic idx, 3)) (hq : pc + 3 = q) (hm : LkM μ' np) (hl : LkS (mY μ).cls idx μ') (hdp : mD μ' + 1 ≤ mD μ) (hu : u.1 + mK μ' ≤ mK μ ∧ u.2 + mS μ' ≤ mS μ) (hr : (rest.map fun v => v.category).sum ≤ 8) (hst : st = as.reverse ++ rest) (hnp : as.length = np)
    (hc : Ct γ μ' n h as Φ) (hn : ∀ v n' h', Φ v n' h' → n' = n + mK μ') (kk : ∀ v n' h', Φ v n' h' → Ev γ μ (u.1 + mK μ', u.2 + mS μ') n' h' lv q (v.toList ++ rest) Ψ) : Ev γ μ u n h lv pc st Ψ := by
  subst hq
  intro p e R s m args below meth c Q H locs ls C z P S L r
  have hK := C.2.2.2.2.2.2.2.2.2.1
  refine W_size fun hsz => ?_
  have hsz := sz_eq P S z hsz
  have hfr := C.2.2.2.2.2.2.2.1
  have hlo := C.2.2.2.2.2.2.2.2.1
  have hmL := hm.2.2.2
  have hw := C.2.2.2.2.1
  refine ev_back (mc := mK μ') (ms := mS μ') (va_runS ⟨C.1, C.2.1, C.2.2.1, C.2.2.2.1, hw⟩ hc (n := np) ⟨callB_of np hw (lg_code hm) rfl rfl rfl (hw _ hm.1) (hw _ hl.1) hm.2.2.1 ⟨by show mD μ' + 1 ≤ R.frames; omega, by show 8 + (mL μ' + 11) + (40 * mD μ' + 60) ≤ R.locals; omega⟩, hw _ hl.2⟩ ⟨ct_blind, fun U hU hW => ⟨rfl, by rw [hU]; exact hsz, by rw [hU]; exact P, va_K.moved hW.alike hK⟩⟩ rfl hnp L.1 hst (lv_room hr) hd ⟨Nat.le_trans hu.1 C.2.2.2.2.2.2.2.2.2.2.2.1, Nat.le_trans hu.2 C.2.2.2.2.2.2.2.2.2.2.2.2⟩) S ?_
  intro v n' h' H' locs' hp P' S'
  have hz := z.1
  have hn' := hn v n' h' hp
  exact kk v n' h' hp p e R s m args below meth c Q H' locs' ls C ⟨by show s.heap.size + (u.1 + mK μ') = _; omega, z.2.1, hu.1, hu.2⟩ P' S' L r
theorem E_callI {a idx np : Nat} (hd : decode (mC μ) pc = .ok (.invokespecial idx, 3)) (hq : pc + 3 = q) (hm : LkM μ' np) (hl : LkI (mY μ).cls idx μ') (hrt : mR μ' = none) (hdp : mD μ' + 1 ≤ mD μ) (hu : u.1 + mK μ' ≤ mK μ ∧ u.2 + mS μ' ≤ mS μ) (hr : (rest.map fun v => v.category).sum ≤ 8) (hst : st = as.reverse ++ .ref a :: rest) (hnp : as.length = np)
    (hc : Ct γ μ' n h (.ref a :: as) Φ) (hn : ∀ v n' h', Φ v n' h' → n' = n + mK μ') (kk : ∀ v n' h', Φ v n' h' → Ev γ μ (u.1 + mK μ', u.2 + mS μ') n' h' lv q (v.toList ++ rest) Ψ) : Ev γ μ u n h lv pc st Ψ := by
  subst hq
  intro p e R s m args below meth c Q H locs ls C z P S L r
  have hK := C.2.2.2.2.2.2.2.2.2.1
  refine W_size fun hsz => ?_
  have hsz := sz_eq P S z hsz
  have hfr := C.2.2.2.2.2.2.2.1
  have hlo := C.2.2.2.2.2.2.2.2.1
  have hmL := hm.2.2.2
  have hw := C.2.2.2.2.1
  refine ev_back (mc := mK μ') (ms := mS μ') (va_runI (bytes := mC μ') (maxL := mL μ') ⟨C.1, C.2.1, C.2.2.1, C.2.2.2.1, hw⟩ hc (n := np) ⟨callB_of np hw (lg_code hm) (by rw [hrt]) rfl rfl (hw _ hm.1) (hw _ hl.1) hm.2.2.1 ⟨by show mD μ' + 1 ≤ R.frames; omega, by show 8 + (mL μ' + 11) + (40 * mD μ' + 60) ≤ R.locals; omega⟩, hl.2.2, hw _ hl.2.1⟩ ⟨ct_blind, fun U hU hW => ⟨rfl, by rw [hU]; exact hsz, by rw [hU]; exact P, va_K.moved hW.alike hK⟩⟩ rfl hnp L.1 hst (lv_room hr) hd ⟨Nat.le_trans hu.1 C.2.2.2.2.2.2.2.2.2.2.2.1, Nat.le_trans hu.2 C.2.2.2.2.2.2.2.2.2.2.2.2⟩) S ?_
  intro v n' h' H' locs' hp P' S'
  have hz := z.1
  have hn' := hn v n' h' hp
  exact kk v n' h' hp p e R s m args below meth c Q H' locs' ls C ⟨by show s.heap.size + (u.1 + mK μ') = _; omega, z.2.1, hu.1, hu.2⟩ P' S' L r
theorem E_callN {a idx np : Nat} {host : String} (hd : decode (mC μ) pc = .ok (.invokespecial idx, 3)) (hq : pc + 3 = q) (hm : LkM μ' np) (hl : LkN (mY μ).cls idx host μ') (hrt : mR μ' = none) (hdp : mD μ' + 1 ≤ mD μ) (hu : u.1 + mK μ' ≤ mK μ ∧ u.2 + mS μ' ≤ mS μ) (hr : (rest.map fun v => v.category).sum ≤ 8) (hst : st = as.reverse ++ .ref a :: rest) (hnp : as.length = np)
    (hc : Ct γ μ' n h (.ref a :: as) Φ) (hn : ∀ v n' h', Φ v n' h' → n' = n + mK μ') (kk : ∀ v n' h', Φ v n' h' → Ev γ μ (u.1 + mK μ', u.2 + mS μ') n' h' lv q (v.toList ++ rest) Ψ) : Ev γ μ u n h lv pc st Ψ := by
  subst hq
  intro p e R s m args below meth c Q H locs ls C z P S L r
  have hK := C.2.2.2.2.2.2.2.2.2.1
  refine W_size fun hsz => ?_
  have hsz := sz_eq P S z hsz
  have hfr := C.2.2.2.2.2.2.2.1
  have hlo := C.2.2.2.2.2.2.2.2.1
  have hmL := hm.2.2.2
  have hw := C.2.2.2.2.1
  have hnest : va_Nw (.methodLinkNest (mY μ).cls idx (mY μ') host) s := va_Nw.use rfl (hw _ hl.1)
  refine ev_back (mc := mK μ') (ms := mS μ') (va_runIN (bytes := mC μ') (maxL := mL μ') ⟨C.1, C.2.1, C.2.2.1, C.2.2.2.1, hw⟩ hc (n := np) ⟨va_cnB np hw (lg_code hm) (by rw [hrt]) rfl rfl hnest (hw _ hm.1) hm.2.2.1 ⟨by show mD μ' + 1 ≤ R.frames; omega, by show 8 + (mL μ' + 11) + (40 * mD μ' + 60) ≤ R.locals; omega⟩, hl.2.2, hw _ hl.2.1⟩ ⟨ct_blind, fun U hU hW => ⟨rfl, by rw [hU]; exact hsz, by rw [hU]; exact P, va_K.moved hW.alike hK⟩⟩ rfl hnp L.1 hst (lv_room hr) hd ⟨Nat.le_trans hu.1 C.2.2.2.2.2.2.2.2.2.2.2.1, Nat.le_trans hu.2 C.2.2.2.2.2.2.2.2.2.2.2.2⟩) S ?_
  intro v n' h' H' locs' hp P' S'
  have hz := z.1
  have hn' := hn v n' h' hp
  exact kk v n' h' hp p e R s m args below meth c Q H' locs' ls C ⟨by show s.heap.size + (u.1 + mK μ') = _; omega, z.2.1, hu.1, hu.2⟩ P' S' L r
/-- calls of methods that are functions -/
theorem E_cV {k idx c0 np : Nat} {fs : List Value} {T : u_T} {N n1 : Nat} {ty : Nat → FieldType} {v : Option Value} {u' : Nat × Nat} {st' : List Value} (hd : decode (mC μ) pc = .ok (.invokevirtual idx, 3)) (hq : pc + 3 = q) (hm : LkM μ' np) (hl : LkV (mY μ).cls idx μ') (hdp : mD μ' + 1 ≤ mD μ) (ck : CKx c0 (mY μ').cls T N ty) (hcell : h k = .inr (c0, fs)) (hk : k < n) (hu : u.1 + mK μ' ≤ mK μ ∧ u.2 + mS μ' ≤ mS μ) (hr : (rest.map fun v => v.category).sum ≤ 8) (hst : st = as.reverse ++ .ref (gB γ + k) :: rest) (hnp : as.length = np)
    (hc : Ct γ μ' n h (.ref (gB γ + k) :: as) (Done v n1 h')) (hn : n1 = n + mK μ') (hu' : (u.1 + mK μ', u.2 + mS μ') = u') (hs' : v.toList ++ rest = st') (kk : Ev γ μ u' n1 h' lv q st' Ψ) : Ev γ μ u n h lv pc st Ψ := by
  subst hu'; subst hs'
  refine E_callV hd hq hm hl hdp ck hcell hk hu hr hst hnp hc (fun v n' h' hp => hp.2.1.trans hn) (fun v' n' h' hp => ?_)
  obtain ⟨rfl, rfl, rfl⟩ := hp
  exact kk
theorem E_cS {idx np n1 : Nat} {v : Option Value} {u' : Nat × Nat} {st' : List Value} (hd : decode (mC μ) pc = .ok (.invokestatic idx, 3)) (hq : pc + 3 = q) (hm : LkM μ' np) (hl : LkS (mY μ).cls idx μ') (hdp : mD μ' + 1 ≤ mD μ) (hu : u.1 + mK μ' ≤ mK μ ∧ u.2 + mS μ' ≤ mS μ) (hr : (rest.map fun v => v.category).sum ≤ 8) (hst : st = as.reverse ++ rest) (hnp : as.length = np)
    (hc : Ct γ μ' n h as (Done v n1 h')) (hn : n1 = n + mK μ') (hu' : (u.1 + mK μ', u.2 + mS μ') = u') (hs' : v.toList ++ rest = st') (kk : Ev γ μ u' n1 h' lv q st' Ψ) : Ev γ μ u n h lv pc st Ψ := by
  subst hu'; subst hs'
  refine E_callS hd hq hm hl hdp hu hr hst hnp hc (fun v n' h' hp => hp.2.1.trans hn) (fun v' n' h' hp => ?_)
  obtain ⟨rfl, rfl, rfl⟩ := hp
  exact kk
theorem E_cI {a idx np n1 : Nat} {v : Option Value} {u' : Nat × Nat} {st' : List Value} (hd : decode (mC μ) pc = .ok (.invokespecial idx, 3)) (hq : pc + 3 = q) (hm : LkM μ' np) (hl : LkI (mY μ).cls idx μ') (hrt : mR μ' = none) (hdp : mD μ' + 1 ≤ mD μ) (hu : u.1 + mK μ' ≤ mK μ ∧ u.2 + mS μ' ≤ mS μ) (hr : (rest.map fun v => v.category).sum ≤ 8) (hst : st = as.reverse ++ .ref a :: rest) (hnp : as.length = np)
    (hc : Ct γ μ' n h (.ref a :: as) (Done v n1 h')) (hn : n1 = n + mK μ') (hu' : (u.1 + mK μ', u.2 + mS μ') = u') (hs' : v.toList ++ rest = st') (kk : Ev γ μ u' n1 h' lv q st' Ψ) : Ev γ μ u n h lv pc st Ψ := by
  subst hu'; subst hs'
  refine E_callI hd hq hm hl hrt hdp hu hr hst hnp hc (fun v n' h' hp => hp.2.1.trans hn) (fun v' n' h' hp => ?_)
  obtain ⟨rfl, rfl, rfl⟩ := hp
  exact kk
theorem E_cN {a idx np n1 : Nat} {host : String} {v : Option Value} {u' : Nat × Nat} {st' : List Value} (hd : decode (mC μ) pc = .ok (.invokespecial idx, 3)) (hq : pc + 3 = q) (hm : LkM μ' np) (hl : LkN (mY μ).cls idx host μ') (hrt : mR μ' = none) (hdp : mD μ' + 1 ≤ mD μ) (hu : u.1 + mK μ' ≤ mK μ ∧ u.2 + mS μ' ≤ mS μ) (hr : (rest.map fun v => v.category).sum ≤ 8) (hst : st = as.reverse ++ .ref a :: rest) (hnp : as.length = np)
    (hc : Ct γ μ' n h (.ref a :: as) (Done v n1 h')) (hn : n1 = n + mK μ') (hu' : (u.1 + mK μ', u.2 + mS μ') = u') (hs' : v.toList ++ rest = st') (kk : Ev γ μ u' n1 h' lv q st' Ψ) : Ev γ μ u n h lv pc st Ψ := by
  subst hu'; subst hs'
  refine E_callN hd hq hm hl hrt hdp hu hr hst hnp hc (fun v n' h' hp => hp.2.1.trans hn) (fun v' n' h' hp => ?_)
  obtain ⟨rfl, rfl, rfl⟩ := hp
  exact kk
end EC
end
section
abbrev WtT : Type := Int32 × FN × FN × FN × FN
def updT (f : Nat → WtT) (k : Nat) (w : WtT) : Nat → WtT := fun j => if j = k then w else f j
/-- a loop: a body that goes on or ends -/
def lp {σ τ : Type} (body : σ → Option (σ ⊕ τ)) : Nat → σ → Option τ
  | 0, _ => none
  | n + 1, s => match body s with
    | none => none
    | some (.inl s') => lp body n s'
    | some (.inr t) => some t
theorem E_lp {σ τ : Type} {body : σ → Option (σ ⊕ τ)} {P : σ → Prop} {K : τ → Prop} (step : ∀ s r, body s = some r → (∀ s', r = .inl s' → P s') → (∀ t, r = .inr t → K t) → P s) : ∀ (N : Nat) (s : σ) (t : τ), lp body N s = some t → K t → P s := by
  intro N
  induction N with
  | zero => intro s t h; simp [lp] at h
  | succ N ih =>
    intro s t h hK
    unfold lp at h
    cases hb : body s with
    | none => rw [hb] at h; cases h
    | some r =>
      rw [hb] at h
      cases r with
      | inl s' => exact step s _ hb (fun s'' e => by cases e; exact ih s' t h hK) (fun t e => by cases e)
      | inr t' =>
        cases h
        exact step s _ hb (fun s'' e => by cases e) (fun t'' e => by cases e; exact hK)
theorem bnd {α β : Type} {o : Option α} {f : α → Option β} {x : β} (h : o.bind f = some x) : ∃ a, o = some a ∧ f a = some x := Option.bind_eq_some_iff.mp h
theorem gd {c : Prop} [Decidable c] {α : Type} {a : Option α} {x : α} (h : (if c then a else none) = some x) : c ∧ a = some x := by
  by_cases hc : c
  · rw [if_pos hc] at h; exact ⟨hc, h⟩
  · rw [if_neg hc] at h; cases h
theorem if_t {c : Prop} [Decidable c] {α : Type} {a b x : α} (hc : c) (h : (if c then a else b) = x) : a = x := by rwa [if_pos hc] at h
theorem if_f {c : Prop} [Decidable c] {α : Type} {a b x : α} (hc : ¬ c) (h : (if c then a else b) = x) : b = x := by rwa [if_neg hc] at h
theorem ne_toInt {x v : Int32} {z : Int} (hz : v.toInt = z) (h : ¬ x = v) : ¬ x.toInt = z := fun e => h (Int32.toInt_inj.mp (e.trans hz.symm))
theorem ix_lt {i : Int32} {n : Nat} (h : ix i n = true) : ci i < n := by
  simp only [ix, Bool.and_eq_true, decide_eq_true_eq] at h
  exact h.2
def dpB (γ : GX) (k : Nat) (c_posts : Int32) (c_sees : FN) (c_cold : FN) (c_men : Int32) (c_debts : FN) (c_on : Int32) (c_stove : Int32) : List va_E := [.inr (0, [.int c_posts, .ref (gB γ + (k + 1)), .ref (gB γ + (k + 2)), .int c_men, .ref (gB γ + (k + 3)), .int c_on, .int c_stove]), IA γ 5 c_sees, IA γ 5 c_cold, IA γ 6 c_debts]
def fiB (γ : GX) (k : Nat) (c_size : Int32) (c_men : FN) (c_hours : FN) (c_asleep : FN) : List va_E := [.inr (1, [.int c_size, .ref (gB γ + (k + 1)), .ref (gB γ + (k + 2)), .ref (gB γ + (k + 3))]), IA γ 6 c_men, IA γ 6 c_hours, IA γ 6 c_asleep]
def plB (γ : GX) (k : Nat) (c_least : Int32) (c_chosen : FN) (c_trial : FN) (c_debtThen : FN) : List va_E := [.inr (3, [.int c_least, .ref (gB γ + (k + 1)), .ref (gB γ + (k + 2)), .ref (gB γ + (k + 3))]), IA γ 5 c_chosen, IA γ 5 c_trial, IA γ 30 c_debtThen]
def txB (γ : GX) (k : Nat) (c_letters : FN) (c_length : Int32) (c_at : Int32) (c_start : Int32) (c_token : Int32) (c_value : Int32) (c_onTold : Int32) (c_stoveTold : Int32) : List va_E := [.inr (4, [.ref (gB γ + (k + 1)), .int c_length, .int c_at, .int c_start, .int c_token, .int c_value, .int c_onTold, .int c_stoveTold]), IA γ 200 c_letters]
def wtB (γ : GX) (k : Nat) (c_hour : Int32) (c_debts : FN) (c_guards : FN) (c_stood : FN) (c_served : FN) : List va_E := [.inr (5, [.int c_hour, .ref (gB γ + (k + 1)), .ref (gB γ + (k + 2)), .ref (gB γ + (k + 3)), .ref (gB γ + (k + 4))]), IA γ 6 c_debts, IA γ 5 c_guards, IA γ 5 c_stood, IA γ 30 c_served]
def mdB (γ : GX) (k : Nat) (c_thrown : Int32) (c_trace : Int64) (c_text : FN) (c_typed : Int32) (c_next : Int32) (c_token : Int32) (c_place : Int32) (c_value : Int32) (c_fault : Int32) (c_many : FN) (c_sees : FN) (c_cold : FN) (c_first : FN) (c_told : Int32) (c_s : FN) (c_w : FN) (c_kept : FN) (c_isKept : FN) (c_undos : FN) (c_undoMany : Int32) (c_foundMan : FN) (c_foundHours : FN) (c_foundIs : FN) (c_foundMany : Int32) (c_row : FN) (c_best : FN) : List va_E := [.inr (7, [.int c_thrown, .long c_trace, .ref (gB γ + (k + 1)), .int c_typed, .int c_next, .int c_token, .int c_place, .int c_value, .int c_fault, .ref (gB γ + (k + 2)), .ref (gB γ + (k + 3)), .ref (gB γ + (k + 4)), .ref (gB γ + (k + 5)), .int c_told, .ref (gB γ + (k + 6)), .ref (gB γ + (k + 7)), .ref (gB γ + (k + 8)), .ref (gB γ + (k + 9)), .ref (gB γ + (k + 10)), .int c_undoMany, .ref (gB γ + (k + 11)), .ref (gB γ + (k + 12)), .ref (gB γ + (k + 13)), .int c_foundMany, .ref (gB γ + (k + 14)), .ref (gB γ + (k + 15))]), IA γ 200 c_text, IA γ 8 c_many, IA γ 10 c_sees, IA γ 10 c_cold, IA γ 12 c_first, IA γ 48 c_s, IA γ 48 c_w, IA γ 96 c_kept, ZA γ 2 c_isKept, IA γ 480 c_undos, IA γ 6 c_foundMan, IA γ 6 c_foundHours, IA γ 6 c_foundIs, IA γ 5 c_row, IA γ 5 c_best]
def poB (γ : GX) (_ : Nat) (track : Int64) : List va_E := [.inr (6, [.ref (gB γ + 1), .ref (gB γ + 3), .ref (gB γ + 7), .ref (gB γ + 11), .ref (gB γ + 16), .ref (gB γ + 21), .ref (gB γ + 73), .ref (gB γ + 74), .ref (gB γ + 75), .ref (gB γ + 79), .long track])]
def paB (γ : GX) (k : Nat) (next known : Int32) : List va_E := [.inr (2, [.ref (gB γ + (k + 1)), .int next, .int known]), WA γ 10 (fun j => some (gB γ + (23 + 5 * j)))]
def imB (γ : GX) (_ : Nat) : List va_E := [WA γ 2 (fun j => some (gB γ + (83 + 5 * j)))]
def kpB (γ : GX) (_ : Nat) (kept : FN) : List va_E := [ZA γ 2 kept]
def famB (γ : GX) (k : Nat) (w : Nat → WtT) : Nat → List va_E
  | 0 => []
  | c + 1 => famB γ k w c ++ wtB γ (k + 5 * c) (w c).1 (w c).2.1 (w c).2.2.1 (w c).2.2.2.1 (w c).2.2.2.2
def pwB (γ : GX) (k : Nat) (pw : Nat → WtT) : List va_E := famB γ k pw 10
def iwB (γ : GX) (k : Nat) (iw : Nat → WtT) : List va_E := famB γ k iw 2
theorem fam_len (γ : GX) (k : Nat) (w : Nat → WtT) : ∀ c, (famB γ k w c).length = 5 * c
  | 0 => rfl
  | c + 1 => by
    have : (wtB γ (k + 5 * c) (w c).1 (w c).2.1 (w c).2.2.1 (w c).2.2.2.1 (w c).2.2.2.2).length = 5 := rfl
    rw [famB, List.length_append, fam_len γ k w c, this]
    omega
theorem fam_get (γ : GX) (k : Nat) (w : Nat → WtT) (j : Nat) (hj : j < 5) : ∀ c i, i < c → (famB γ k w c)[5 * i + j]? = (wtB γ (k + 5 * i) (w i).1 (w i).2.1 (w i).2.2.1 (w i).2.2.2.1 (w i).2.2.2.2)[j]?
  | 0, i, h => by omega
  | c + 1, i, h => by
    by_cases hi : i = c
    · subst hi
      rw [famB, List.getElem?_append_right (by rw [fam_len]; omega), fam_len]
      congr 1
      omega
    · rw [famB, List.getElem?_append_left (by rw [fam_len]; omega)]
      exact fam_get γ k w j hj c i (by omega)
theorem famHas {γ : GX} {n k c i : Nat} {w : Nat → WtT} {h : HP} (hh : Has n k (famB γ k w c) h) (hi : i < c) : Has n (k + 5 * i) (wtB γ (k + 5 * i) (w i).1 (w i).2.1 (w i).2.2.1 (w i).2.2.2.1 (w i).2.2.2.2) h := by
  have hl : (wtB γ (k + 5 * i) (w i).1 (w i).2.1 (w i).2.2.1 (w i).2.2.2.1 (w i).2.2.2.2).length = 5 := rfl
  refine ⟨?_, fun j e he => ?_⟩
  · have h1 := hh.1
    rw [fam_len] at h1
    rw [hl]
    omega
  · have hj : j < 5 := by rw [← hl]; exact (List.getElem?_eq_some_iff.mp he).1
    rw [← fam_get γ k w j hj c i hi] at he
    rw [Nat.add_assoc]
    exact hh.2 _ e he
theorem famPut {γ : GX} {k c i : Nat} {w : Nat → WtT} {h : HP} {v : WtT} (hi : i < c) : put (k + 5 * i) (wtB γ (k + 5 * i) v.1 v.2.1 v.2.2.1 v.2.2.2.1 v.2.2.2.2) (put k (famB γ k w c) h) = put k (famB γ k (updT w i v) c) h := by
  have hl : (wtB γ (k + 5 * i) v.1 v.2.1 v.2.2.1 v.2.2.2.1 v.2.2.2.2).length = 5 := rfl
  funext x
  by_cases h1 : x < k ∨ k + 5 * c ≤ x
  · rw [put_out (by rw [hl]; omega), put_out (by rw [fam_len]; exact h1), put_out (by rw [fam_len]; exact h1)]
  · obtain ⟨y, rfl⟩ : ∃ y, x = k + y := ⟨x - k, by omega⟩
    obtain ⟨i', j, hj, rfl⟩ : ∃ i' j, j < 5 ∧ y = 5 * i' + j := ⟨y / 5, y % 5, Nat.mod_lt _ (by omega), by omega⟩
    have hi' : i' < c := by omega
    have hex : ∃ e, (wtB γ (k + 5 * i') (updT w i v i').1 (updT w i v i').2.1 (updT w i v i').2.2.1 (updT w i v i').2.2.2.1 (updT w i v i').2.2.2.2)[j]? = some e := ⟨_, List.getElem?_eq_getElem (by show j < 5; exact hj)⟩
    obtain ⟨e, he⟩ := hex
    rw [put_at (k := k) (i := 5 * i' + j) ((fam_get γ k (updT w i v) j hj c i' hi').trans he)]
    by_cases hii : i' = i
    · subst hii
      simp only [updT, if_pos] at he
      rw [show k + (5 * i' + j) = (k + 5 * i') + j by omega]
      exact put_at he
    · rw [put_out (by rw [hl]; omega)]
      simp only [updT, if_neg hii] at he
      exact put_at ((fam_get γ k w j hj c i' hi').trans he)
theorem fam_has {γ : GX} {n i : Nat} {w : Nat → WtT} {h : HP} (hh : Has n 23 (pwB γ 23 w) h) (hi : i < 10) : Has n (23 + 5 * i) (wtB γ (23 + 5 * i) (w i).1 (w i).2.1 (w i).2.2.1 (w i).2.2.2.1 (w i).2.2.2.2) h := famHas hh hi
theorem fam_has2 {γ : GX} {n i : Nat} {w : Nat → WtT} {h : HP} (hh : Has n 83 (iwB γ 83 w) h) (hi : i < 2) : Has n (83 + 5 * i) (wtB γ (83 + 5 * i) (w i).1 (w i).2.1 (w i).2.2.1 (w i).2.2.2.1 (w i).2.2.2.2) h := famHas hh hi
theorem fam_put {γ : GX} {i : Nat} {w : Nat → WtT} {h : HP} {a : Int32} {b c d e : FN} (hi : i < 10) : put (23 + 5 * i) (wtB γ (23 + 5 * i) a b c d e) (put 23 (pwB γ 23 w) h) = put 23 (pwB γ 23 (updT w i (a, b, c, d, e))) h := famPut (v := (a, b, c, d, e)) hi
theorem fam_put2 {γ : GX} {i : Nat} {w : Nat → WtT} {h : HP} {a : Int32} {b c d e : FN} (hi : i < 2) : put (83 + 5 * i) (wtB γ (83 + 5 * i) a b c d e) (put 83 (iwB γ 83 w) h) = put 83 (iwB γ 83 (updT w i (a, b, c, d, e))) h := famPut (v := (a, b, c, d, e)) hi
theorem E_ldcw {γ : GX} {μ : MI} {u : Nat × Nat} {n : Nat} {h : HP} {lv : List (Nat × Value)} {pc q : Nat} {rest : List Value} {Ψ : PS} {idx : Nat} {x : Int32} (hd : decode (mC μ) pc = .ok (.ldc_w idx, 3)) (hq : pc + 3 = q) (hw : Cond.constant (mY μ).cls idx x ∈ lw_good) (k : Ev γ μ u n h lv q (.int x :: rest) Ψ) : Ev γ μ u n h lv pc rest Ψ := by
  subst hq
  intro p e R s m args below meth c Q H locs ls C z P S L r
  exact lv_ldcw C.1 C.2.1 C.2.2.2.1 (C.2.2.2.2.1 _ hw) hd (k p e R s m args below meth c Q H locs ls C z P S L r)
theorem ckX0 : CKx 0 RX0 TX0 7 tyX0 := ⟨rfl, lg_all _ [137, 139, 141, 143, 145, 147, 149] (by decide +kernel) (by decide +kernel), tyX0_ok, nmX0⟩
theorem ckX1 : CKx 1 RX1 TX1 4 tyX1 := ⟨rfl, lg_all _ [215, 217, 219, 221] (by decide +kernel) (by decide +kernel), tyX1_ok, nmX1⟩
theorem ckX2 : CKx 2 RX2 TX2 3 tyX2 := ⟨rfl, lg_all _ [197, 199, 201] (by decide +kernel) (by decide +kernel), tyX2_ok, nmX2⟩
theorem ckX3 : CKx 3 RX3 TX3 4 tyX3 := ⟨rfl, lg_all _ [237, 239, 241, 243] (by decide +kernel) (by decide +kernel), tyX3_ok, nmX3⟩
theorem ckX4 : CKx 4 RX4 TX4 8 tyX4 := ⟨rfl, lg_all _ [85, 87, 89, 91, 93, 95, 97, 99] (by decide +kernel) (by decide +kernel), tyX4_ok, nmX4⟩
theorem ckX5 : CKx 5 RX5 TX5 5 tyX5 := ⟨rfl, lg_all _ [173, 175, 177, 179, 181] (by decide +kernel) (by decide +kernel), tyX5_ok, nmX5⟩
theorem ckX6 : CKx 6 RX6 TX6 11 tyX6 := ⟨rfl, lg_all _ [257, 259, 261, 263, 265, 267, 269, 271, 273, 275, 277] (by decide +kernel) (by decide +kernel), tyX6_ok, nmX6⟩
theorem ckX7 : CKx 7 RX7 TX7 26 tyX7 := ⟨rfl, lg_all _ [704, 706, 708, 710, 712, 714, 716, 718, 720, 722, 724, 726, 728, 730, 732, 734, 736, 738, 740, 742, 744, 746, 748, 750, 752, 754] (by decide +kernel) (by decide +kernel), tyX7_ok, nmX7⟩
end
section
def M_J7_fill : MI := (yJ7_fill_53178, cJ7_fill_53178, 4, none, false, 1, 0, 0)
theorem lkm_J7_fill : LkM M_J7_fill 2 := ⟨(lg_mem 54 (by decide +kernel) rfl), (lg_mem 160 (by decide +kernel) rfl), ⟨by decide, by decide, by decide +kernel⟩, (Nat.le_of_ble_eq_true rfl)⟩
def fillF (f : FN) (len : Nat) (x : Int32) : FN := fun j => if j < len then x else f j
theorem ix_nI {i n : Nat} (h : i < n) (hn : n < 2 ^ 31) : ix (nI i) n = true := by
  have h1 : ¬ nI i < 0 := nI_pos (by omega)
  have h2 : (nI i).toNatClampNeg = i := nI_clamp (by omega)
  simp [ix, h1, h2, h]
theorem up_up {h : HP} {k : Nat} {e e' : va_E} : up (up h k e) k e' = up h k e' := by
  funext j
  by_cases hj : j = k
  · subst hj; rw [up_same, up_same]
  · rw [up_ne hj, up_ne hj, up_ne hj]
theorem fill_step (f : FN) (i : Nat) (x : Int32) : upd (fillF f i x) i x = fillF f (i + 1) x := by
  funext j
  unfold upd fillF
  by_cases h1 : j = i
  · subst h1; simp
  · by_cases h2 : j < i
    · have : j < i + 1 := by omega
      simp [h1, h2, this]
    · have : ¬ j < i + 1 := by omega
      simp [h1, h2, this]
theorem fill_0 (f : FN) (x : Int32) : fillF f 0 x = f := by funext j; simp [fillF]
theorem up_id {h : HP} {k : Nat} {e : va_E} (he : h k = e) : up h k e = h := by
  funext j
  by_cases hj : j = k
  · subst hj; rw [up_same, he]
  · rw [up_ne hj]
set_option maxRecDepth 100000 in
theorem L_J7_fill {γ : GX} {n : Nat} {h : HP} {a len : Nat} {f : FN} {x : Int32} (ha : a < n) (hl : len < 2 ^ 31) : ∀ (r i : Nat), i + r = len → Ev γ M_J7_fill (0, 0) n (up h a (IA γ len (fillF f i x))) [(0, .ref (gB γ + a)), (1, .int x), (2, .int (nI i)), (3, .int (nI len))] 5 [] (Done none n (up h a (IA γ len (fillF f len x)))) := by
  intro r
  induction r with
  | zero =>
    intro i hi
    have hi : i = len := by omega
    subst hi
    refine E_iload_n 2 dJ7_fill_53178_5 (q := 6) rfl rfl rfl ?_
    refine E_iload_n 3 dJ7_fill_53178_6 (q := 7) rfl rfl rfl ?_
    refine E_icmp_ge dJ7_fill_53178_7 (t := 20) (by decide) (q := 10) rfl (fun c1 => ?_) (fun c1 => absurd (nI_le (Nat.le_refl i) hl) c1)
    exact E_vret dJ7_fill_53178_20 rfl ⟨rfl, rfl, rfl⟩
  | succ r ih =>
    intro i hi
    refine E_iload_n 2 dJ7_fill_53178_5 (q := 6) rfl rfl rfl ?_
    refine E_iload_n 3 dJ7_fill_53178_6 (q := 7) rfl rfl rfl ?_
    refine E_icmp_ge dJ7_fill_53178_7 (t := 20) (by decide) (q := 10) rfl (fun c1 => absurd c1 (nI_ge (by omega) hl)) (fun c1 => ?_)
    refine E_aload_n 0 dJ7_fill_53178_10 (q := 11) rfl rfl rfl ?_
    refine E_iload_n 2 dJ7_fill_53178_11 (q := 12) rfl rfl rfl ?_
    refine E_iload_n 1 dJ7_fill_53178_12 (q := 13) rfl rfl rfl ?_
    have e1 : up (up h a (IA γ len (fillF f i x))) a (IA γ len (upd (fillF f i x) (ci (nI i)) x)) = up h a (IA γ len (fillF f (i + 1) x)) := by
      rw [up_up, show ci (nI i) = i from nI_clamp (by omega), fill_step]
    refine E_iast dJ7_fill_53178_13 (q := 14) rfl up_same ha (ix_nI (by omega) hl) e1 ?_
    refine E_iinc (v := nI (i + 1)) 2 [(2, .int (nI (i + 1))), (0, .ref (gB γ + a)), (1, .int x), (3, .int (nI len))] dJ7_fill_53178_14 (q := 17) rfl rfl (nI_1 i) (Nat.le_of_ble_eq_true rfl) rfl ?_
    refine E_goto (q := 5) dJ7_fill_53178_17 (by decide) ?_
    exact E_sub [1, 2, 0, 3] rfl (ih (i + 1) (by omega))
set_option maxRecDepth 100000 in
theorem m_J7_fill {γ : GX} {n : Nat} {h : HP} {a len : Nat} {f : FN} {x : Int32} (hc : h a = IA γ len f) (ha : a < n) (hl : len ≤ 1000) : Ct γ M_J7_fill n h [.ref (gB γ + a), .int x] (Done none n (up h a (IA γ len (fillF f len x)))) := by
  refine Ct_of_Ev (by decide) (fun h => by cases h) (Nat.le_of_ble_eq_true rfl) ?_
  show Ev γ M_J7_fill (0, 0) n h [(0, .ref (gB γ + a)), (1, .int x)] 0 [] _
  refine E_iconst (x := 0) dJ7_fill_53178_0 (q := 1) rfl (by decide) ?_
  refine E_istore_n [(2, .int 0), (0, .ref (gB γ + a)), (1, .int x)] dJ7_fill_53178_1 (q := 2) rfl rfl (Nat.le_of_ble_eq_true rfl) rfl ?_
  refine E_aload_n 1 dJ7_fill_53178_2 (q := 3) rfl rfl rfl ?_
  refine E_alen (x := nI len) dJ7_fill_53178_3 (q := 4) rfl hc ha rfl ?_
  refine E_istore_n [(3, .int (nI len)), (2, .int 0), (0, .ref (gB γ + a)), (1, .int x)] dJ7_fill_53178_4 (q := 5) rfl rfl (Nat.le_of_ble_eq_true rfl) rfl ?_
  refine Ev.heap (h := up h a (IA γ len (fillF f 0 x))) (by rw [fill_0, up_id hc]) ?_
  exact E_sub [2, 3, 1, 0] rfl (L_J7_fill ha (by omega) len 0 (by omega))
theorem E_fill {γ : GX} {μ : MI} {u : Nat × Nat} {n : Nat} {h h' : HP} {lv : List (Nat × Value)} {pc q : Nat} {rest : List Value} {Ψ : PS} {a len idx : Nat} {f : FN} {x : Int32} (hd : decode (mC μ) pc = .ok (.invokestatic idx, 3)) (hq : pc + 3 = q) (hl : LkS (mY μ).cls idx M_J7_fill) (hdp : 2 ≤ mD μ) (hu : u.1 ≤ mK μ ∧ u.2 ≤ mS μ) (hr : (rest.map fun v => v.category).sum ≤ 8) (hc : h a = IA γ len f) (ha : a < n) (hlen : len ≤ 1000) (hh : up h a (IA γ len (fillF f len x)) = h') (kk : Ev γ μ u n h' lv q rest Ψ) : Ev γ μ u n h lv pc (.int x :: .ref (gB γ + a) :: rest) Ψ := by
  subst hh
  exact E_cS (as := [.ref (gB γ + a), .int x]) (rest := rest) (u' := u) (st' := rest) hd hq lkm_J7_fill hl hdp hu hr rfl rfl (m_J7_fill hc ha hlen) rfl rfl rfl kk
end
section
def M_J6_bitCount : MI := (yJ6_bitCount_0f7a4, cJ6_bitCount_0f7a4, 1, (some .int), false, 1, 0, 0)
theorem lkm_J6_bitCount : LkM M_J6_bitCount 1 := ⟨(lg_mem 61 (by decide +kernel) rfl), (lg_mem 440 (by decide +kernel) rfl), ⟨by decide, by decide, by decide +kernel⟩, (Nat.le_of_ble_eq_true rfl)⟩
def M_J6_numberOfTrailingZeros : MI := (yJ6_numberOfTrailingZeros_0f7a4, cJ6_numberOfTrailingZeros_0f7a4, 2, (some .int), false, 1, 0, 0)
theorem lkm_J6_numberOfTrailingZeros : LkM M_J6_numberOfTrailingZeros 1 := ⟨(lg_mem 61 (by decide +kernel) rfl), (lg_mem 578 (by decide +kernel) rfl), ⟨by decide, by decide, by decide +kernel⟩, (Nat.le_of_ble_eq_true rfl)⟩
def M_X6_within : MI := (yX6_within, cX6_within, 3, (some .boolean), false, 1, 0, 0)
theorem lkm_X6_within : LkM M_X6_within 3 := ⟨(lg_mem 50 (by decide +kernel) rfl), (lg_mem 286 (by decide +kernel) rfl), ⟨by decide, by decide, by decide +kernel⟩, (Nat.le_of_ble_eq_true rfl)⟩
def M_X6_power : MI := (yX6_power, cX6_power, 4, (some .int), false, 1, 0, 0)
theorem lkm_X6_power : LkM M_X6_power 2 := ⟨(lg_mem 50 (by decide +kernel) rfl), (lg_mem 565 (by decide +kernel) rfl), ⟨by decide, by decide, by decide +kernel⟩, (Nat.le_of_ble_eq_true rfl)⟩
def M_X6_commonDivisor : MI := (yX6_commonDivisor, cX6_commonDivisor, 6, (some .int), false, 1, 0, 0)
theorem lkm_X6_commonDivisor : LkM M_X6_commonDivisor 2 := ⟨(lg_mem 50 (by decide +kernel) rfl), (lg_mem 571 (by decide +kernel) rfl), ⟨by decide, by decide, by decide +kernel⟩, (Nat.le_of_ble_eq_true rfl)⟩
def M_X6_leastTerms : MI := (yX6_leastTerms, cX6_leastTerms, 4, (some .int), false, 2, 0, 0)
theorem lkm_X6_leastTerms : LkM M_X6_leastTerms 3 := ⟨(lg_mem 50 (by decide +kernel) rfl), (lg_mem 568 (by decide +kernel) rfl), ⟨by decide, by decide, by decide +kernel⟩, (Nat.le_of_ble_eq_true rfl)⟩
def M_X6_weightOfWaking : MI := (yX6_weightOfWaking, cX6_weightOfWaking, 3, (some .int), false, 2, 0, 0)
theorem lkm_X6_weightOfWaking : LkM M_X6_weightOfWaking 3 := ⟨(lg_mem 50 (by decide +kernel) rfl), (lg_mem 562 (by decide +kernel) rfl), ⟨by decide, by decide, by decide +kernel⟩, (Nat.le_of_ble_eq_true rfl)⟩
def M_X0_empty : MI := (yX0_empty, cX0_empty, 1, none, false, 1, 0, 0)
theorem lkm_X0_empty : LkM M_X0_empty 0 := ⟨(lg_mem 52 (by decide +kernel) rfl), (lg_mem 306 (by decide +kernel) rfl), ⟨by decide, by decide, by decide +kernel⟩, (Nat.le_of_ble_eq_true rfl)⟩
def M_X0_become : MI := (yX0_become, cX0_become, 2, none, false, 1, 0, 0)
theorem lkm_X0_become : LkM M_X0_become 1 := ⟨(lg_mem 52 (by decide +kernel) rfl), (lg_mem 352 (by decide +kernel) rfl), ⟨by decide, by decide, by decide +kernel⟩, (Nat.le_of_ble_eq_true rfl)⟩
def M_X0_allPosts : MI := (yX0_allPosts, cX0_allPosts, 1, (some .int), false, 1, 0, 0)
theorem lkm_X0_allPosts : LkM M_X0_allPosts 0 := ⟨(lg_mem 52 (by decide +kernel) rfl), (lg_mem 380 (by decide +kernel) rfl), ⟨by decide, by decide, by decide +kernel⟩, (Nat.le_of_ble_eq_true rfl)⟩
def M_X0_seenFrom : MI := (yX0_seenFrom, cX0_seenFrom, 2, (some .int), false, 2, 0, 0)
theorem lkm_X0_seenFrom : LkM M_X0_seenFrom 1 := ⟨(lg_mem 52 (by decide +kernel) rfl), (lg_mem 376 (by decide +kernel) rfl), ⟨by decide, by decide, by decide +kernel⟩, (Nat.le_of_ble_eq_true rfl)⟩
def M_X0_watchedBy : MI := (yX0_watchedBy, cX0_watchedBy, 4, (some .int), false, 3, 0, 0)
theorem lkm_X0_watchedBy : LkM M_X0_watchedBy 1 := ⟨(lg_mem 52 (by decide +kernel) rfl), (lg_mem 419 (by decide +kernel) rfl), ⟨by decide, by decide, by decide +kernel⟩, (Nat.le_of_ble_eq_true rfl)⟩
def M_X0_burden : MI := (yX0_burden, cX0_burden, 5, (some .int), false, 1, 0, 0)
theorem lkm_X0_burden : LkM M_X0_burden 2 := ⟨(lg_mem 52 (by decide +kernel) rfl), (lg_mem 463 (by decide +kernel) rfl), ⟨by decide, by decide, by decide +kernel⟩, (Nat.le_of_ble_eq_true rfl)⟩
def M_X0_nextPost : MI := (yX0_nextPost, cX0_nextPost, 3, (some .int), false, 1, 0, 0)
theorem lkm_X0_nextPost : LkM M_X0_nextPost 2 := ⟨(lg_mem 52 (by decide +kernel) rfl), (lg_mem 481 (by decide +kernel) rfl), ⟨by decide, by decide, by decide +kernel⟩, (Nat.le_of_ble_eq_true rfl)⟩
def M_X1_add : MI := (yX1_add, cX1_add, 4, (some .boolean), false, 1, 0, 0)
theorem lkm_X1_add : LkM M_X1_add 3 := ⟨(lg_mem 56 (by decide +kernel) rfl), (lg_mem 587 (by decide +kernel) rfl), ⟨by decide, by decide, by decide +kernel⟩, (Nat.le_of_ble_eq_true rfl)⟩
def M_X1_agree : MI := (yX1_agree, cX1_agree, 4, (some .boolean), false, 1, 0, 0)
theorem lkm_X1_agree : LkM M_X1_agree 2 := ⟨(lg_mem 56 (by decide +kernel) rfl), (lg_mem 605 (by decide +kernel) rfl), ⟨by decide, by decide, by decide +kernel⟩, (Nat.le_of_ble_eq_true rfl)⟩
theorem cw_J6_265 : Cond.constant RJ6 265 1431655765 ∈ lw_good := (lg_mem 441 (by decide +kernel) rfl)
theorem cw_J6_266 : Cond.constant RJ6 266 858993459 ∈ lw_good := (lg_mem 442 (by decide +kernel) rfl)
theorem cw_J6_267 : Cond.constant RJ6 267 252645135 ∈ lw_good := (lg_mem 443 (by decide +kernel) rfl)
theorem cw_J6_264 : Cond.constant RJ6 264 65536 ∈ lw_good := (lg_mem 579 (by decide +kernel) rfl)
theorem lkmax_X6_162 : Cond.methodLink RX6 162 Lib.Math.max.name ∈ lw_good := (lg_mem 501 (by decide +kernel) rfl)
theorem st_max : Cond.static Lib.Math.max.name ∈ lw_good := (lg_mem 458 (by decide +kernel) rfl)
theorem in_math : Cond.initialized "java/lang/Math" ∈ lw_good := (lg_mem 59 (by decide +kernel) rfl)
theorem co_max : Cond.code Lib.Math.max.name Lib.Math.max.code 2 (some .int) ∈ lw_good := (lg_mem 459 (by decide +kernel) rfl)
theorem lks_X6_270 : LkS RX6 270 M_X6_commonDivisor := ⟨(lg_mem 569 (by decide +kernel) rfl), (lg_mem 570 (by decide +kernel) rfl)⟩
theorem lks_X6_141 : LkS RX6 141 M_J6_bitCount := ⟨(lg_mem 438 (by decide +kernel) rfl), (lg_mem 439 (by decide +kernel) rfl)⟩
theorem lks_X6_206 : LkS RX6 206 M_X6_power := ⟨(lg_mem 563 (by decide +kernel) rfl), (lg_mem 564 (by decide +kernel) rfl)⟩
theorem fl_X0_28 : Cond.fieldLink RX0 28 (TX0 0).1 (TX0 0).2.1 (TX0 0).2.2.1 ∈ lw_good := (lg_mem 109 (by decide +kernel) rfl)
theorem fl_X0_31 : Cond.fieldLink RX0 31 (TX0 3).1 (TX0 3).2.1 (TX0 3).2.2.1 ∈ lw_good := (lg_mem 120 (by decide +kernel) rfl)
theorem fl_X0_21 : Cond.fieldLink RX0 21 (TX0 5).1 (TX0 5).2.1 (TX0 5).2.2.1 ∈ lw_good := (lg_mem 128 (by decide +kernel) rfl)
theorem fl_X0_25 : Cond.fieldLink RX0 25 (TX0 6).1 (TX0 6).2.1 (TX0 6).2.2.1 ∈ lw_good := (lg_mem 133 (by decide +kernel) rfl)
theorem fl_X0_9 : Cond.fieldLink RX0 9 (TX0 1).1 (TX0 1).2.1 (TX0 1).2.2.1 ∈ lw_good := (lg_mem 114 (by decide +kernel) rfl)
theorem lkcp_X0_34 : Cond.methodLink RX0 34 arraycopyName ∈ lw_good := (lg_mem 353 (by decide +kernel) rfl)
theorem na_cp : Cond.native arraycopyName ∈ lw_good := (lg_mem 355 (by decide +kernel) rfl)
theorem st_cp : Cond.static arraycopyName ∈ lw_good := (lg_mem 354 (by decide +kernel) rfl)
theorem in_sys : Cond.initialized "java/lang/System" ∈ lw_good := (lg_mem 60 (by decide +kernel) rfl)
theorem fl_X0_15 : Cond.fieldLink RX0 15 (TX0 2).1 (TX0 2).2.1 (TX0 2).2.2.1 ∈ lw_good := (lg_mem 116 (by decide +kernel) rfl)
theorem fl_X0_18 : Cond.fieldLink RX0 18 (TX0 4).1 (TX0 4).2.1 (TX0 4).2.2.1 ∈ lw_good := (lg_mem 125 (by decide +kernel) rfl)
theorem lkv_X0_40 : LkV RX0 40 M_X0_allPosts := ⟨(lg_mem 377 (by decide +kernel) rfl), (lg_mem 378 (by decide +kernel) rfl), (lg_mem 379 (by decide +kernel) rfl)⟩
theorem lkv_X0_44 : LkV RX0 44 M_X0_seenFrom := ⟨(lg_mem 420 (by decide +kernel) rfl), (lg_mem 374 (by decide +kernel) rfl), (lg_mem 375 (by decide +kernel) rfl)⟩
theorem fl_X1_21 : Cond.fieldLink RX1 21 (TX1 0).1 (TX1 0).2.1 (TX1 0).2.2.1 ∈ lw_good := (lg_mem 210 (by decide +kernel) rfl)
theorem fl_X1_9 : Cond.fieldLink RX1 9 (TX1 1).1 (TX1 1).2.1 (TX1 1).2.2.1 ∈ lw_good := (lg_mem 212 (by decide +kernel) rfl)
theorem fl_X1_15 : Cond.fieldLink RX1 15 (TX1 2).1 (TX1 2).2.1 (TX1 2).2.2.1 ∈ lw_good := (lg_mem 213 (by decide +kernel) rfl)
theorem fl_X1_18 : Cond.fieldLink RX1 18 (TX1 3).1 (TX1 3).2.1 (TX1 3).2.2.1 ∈ lw_good := (lg_mem 214 (by decide +kernel) rfl)
-- java/lang/Integer.bitCount(I)I
def f_J6_bitCount (N : Nat) (a0 : Int32) : Option (Int32) :=
  some ((((((((a0 - (((a0).toUInt32 >>> ((1 : Int32).toUInt32 &&& Int32.toUInt32 31)).toInt32 &&& 1431655765)) &&& 858993459) + ((((a0 - (((a0).toUInt32 >>> ((1 : Int32).toUInt32 &&& Int32.toUInt32 31)).toInt32 &&& 1431655765))).toUInt32 >>> ((2 : Int32).toUInt32 &&& Int32.toUInt32 31)).toInt32 &&& 858993459)) + (((((a0 - (((a0).toUInt32 >>> ((1 : Int32).toUInt32 &&& Int32.toUInt32 31)).toInt32 &&& 1431655765)) &&& 858993459) + ((((a0 - (((a0).toUInt32 >>> ((1 : Int32).toUInt32 &&& Int32.toUInt32 31)).toInt32 &&& 1431655765))).toUInt32 >>> ((2 : Int32).toUInt32 &&& Int32.toUInt32 31)).toInt32 &&& 858993459))).toUInt32 >>> ((4 : Int32).toUInt32 &&& Int32.toUInt32 31)).toInt32) &&& 252645135) + (((((((a0 - (((a0).toUInt32 >>> ((1 : Int32).toUInt32 &&& Int32.toUInt32 31)).toInt32 &&& 1431655765)) &&& 858993459) + ((((a0 - (((a0).toUInt32 >>> ((1 : Int32).toUInt32 &&& Int32.toUInt32 31)).toInt32 &&& 1431655765))).toUInt32 >>> ((2 : Int32).toUInt32 &&& Int32.toUInt32 31)).toInt32 &&& 858993459)) + (((((a0 - (((a0).toUInt32 >>> ((1 : Int32).toUInt32 &&& Int32.toUInt32 31)).toInt32 &&& 1431655765)) &&& 858993459) + ((((a0 - (((a0).toUInt32 >>> ((1 : Int32).toUInt32 &&& Int32.toUInt32 31)).toInt32 &&& 1431655765))).toUInt32 >>> ((2 : Int32).toUInt32 &&& Int32.toUInt32 31)).toInt32 &&& 858993459))).toUInt32 >>> ((4 : Int32).toUInt32 &&& Int32.toUInt32 31)).toInt32) &&& 252645135)).toUInt32 >>> ((8 : Int32).toUInt32 &&& Int32.toUInt32 31)).toInt32) + ((((((((a0 - (((a0).toUInt32 >>> ((1 : Int32).toUInt32 &&& Int32.toUInt32 31)).toInt32 &&& 1431655765)) &&& 858993459) + ((((a0 - (((a0).toUInt32 >>> ((1 : Int32).toUInt32 &&& Int32.toUInt32 31)).toInt32 &&& 1431655765))).toUInt32 >>> ((2 : Int32).toUInt32 &&& Int32.toUInt32 31)).toInt32 &&& 858993459)) + (((((a0 - (((a0).toUInt32 >>> ((1 : Int32).toUInt32 &&& Int32.toUInt32 31)).toInt32 &&& 1431655765)) &&& 858993459) + ((((a0 - (((a0).toUInt32 >>> ((1 : Int32).toUInt32 &&& Int32.toUInt32 31)).toInt32 &&& 1431655765))).toUInt32 >>> ((2 : Int32).toUInt32 &&& Int32.toUInt32 31)).toInt32 &&& 858993459))).toUInt32 >>> ((4 : Int32).toUInt32 &&& Int32.toUInt32 31)).toInt32) &&& 252645135) + (((((((a0 - (((a0).toUInt32 >>> ((1 : Int32).toUInt32 &&& Int32.toUInt32 31)).toInt32 &&& 1431655765)) &&& 858993459) + ((((a0 - (((a0).toUInt32 >>> ((1 : Int32).toUInt32 &&& Int32.toUInt32 31)).toInt32 &&& 1431655765))).toUInt32 >>> ((2 : Int32).toUInt32 &&& Int32.toUInt32 31)).toInt32 &&& 858993459)) + (((((a0 - (((a0).toUInt32 >>> ((1 : Int32).toUInt32 &&& Int32.toUInt32 31)).toInt32 &&& 1431655765)) &&& 858993459) + ((((a0 - (((a0).toUInt32 >>> ((1 : Int32).toUInt32 &&& Int32.toUInt32 31)).toInt32 &&& 1431655765))).toUInt32 >>> ((2 : Int32).toUInt32 &&& Int32.toUInt32 31)).toInt32 &&& 858993459))).toUInt32 >>> ((4 : Int32).toUInt32 &&& Int32.toUInt32 31)).toInt32) &&& 252645135)).toUInt32 >>> ((8 : Int32).toUInt32 &&& Int32.toUInt32 31)).toInt32)).toUInt32 >>> ((16 : Int32).toUInt32 &&& Int32.toUInt32 31)).toInt32) &&& 63)
set_option maxHeartbeats 4000000 in
set_option maxRecDepth 100000 in
theorem m_J6_bitCount {γ : GX} {n : Nat} {N : Nat} {h : HP} {a0 : Int32}   {z : Int32} (hf : f_J6_bitCount N a0 = some z)  : Ct γ M_J6_bitCount n h [.int a0] (Done (some (.int z)) n h) := by
  refine Ct_of_Ev (by decide) (fun h => by cases h) (Nat.le_of_ble_eq_true rfl) ?_
  show Ev γ M_J6_bitCount (0, 0) n h [(0, .int a0)] 0 [] _
  unfold f_J6_bitCount at hf
  refine E_iload_n 0 dJ6_bitCount_0f7a4_0 (q := 1) rfl rfl rfl ?_
  refine E_iload_n 0 dJ6_bitCount_0f7a4_1 (q := 2) rfl rfl rfl ?_
  refine E_iconst (x := 1) dJ6_bitCount_0f7a4_2 (q := 3) rfl (by decide) ?_
  refine E_iushr dJ6_bitCount_0f7a4_3 (q := 4) rfl ?_
  refine E_ldcw dJ6_bitCount_0f7a4_4 (q := 7) rfl cw_J6_265 ?_
  refine E_iand dJ6_bitCount_0f7a4_7 (q := 8) rfl ?_
  refine E_isub dJ6_bitCount_0f7a4_8 (q := 9) rfl ?_
  refine E_istore_n [(0, .int (a0 - (((a0).toUInt32 >>> ((1 : Int32).toUInt32 &&& Int32.toUInt32 31)).toInt32 &&& 1431655765)))] dJ6_bitCount_0f7a4_9 (q := 10) rfl rfl (Nat.le_of_ble_eq_true rfl) rfl ?_
  refine E_iload_n 0 dJ6_bitCount_0f7a4_10 (q := 11) rfl rfl rfl ?_
  refine E_ldcw dJ6_bitCount_0f7a4_11 (q := 14) rfl cw_J6_266 ?_
  refine E_iand dJ6_bitCount_0f7a4_14 (q := 15) rfl ?_
  refine E_iload_n 0 dJ6_bitCount_0f7a4_15 (q := 16) rfl rfl rfl ?_
  refine E_iconst (x := 2) dJ6_bitCount_0f7a4_16 (q := 17) rfl (by decide) ?_
  refine E_iushr dJ6_bitCount_0f7a4_17 (q := 18) rfl ?_
  refine E_ldcw dJ6_bitCount_0f7a4_18 (q := 21) rfl cw_J6_266 ?_
  refine E_iand dJ6_bitCount_0f7a4_21 (q := 22) rfl ?_
  refine E_iadd dJ6_bitCount_0f7a4_22 (q := 23) rfl ?_
  refine E_istore_n [(0, .int (((a0 - (((a0).toUInt32 >>> ((1 : Int32).toUInt32 &&& Int32.toUInt32 31)).toInt32 &&& 1431655765)) &&& 858993459) + ((((a0 - (((a0).toUInt32 >>> ((1 : Int32).toUInt32 &&& Int32.toUInt32 31)).toInt32 &&& 1431655765))).toUInt32 >>> ((2 : Int32).toUInt32 &&& Int32.toUInt32 31)).toInt32 &&& 858993459)))] dJ6_bitCount_0f7a4_23 (q := 24) rfl rfl (Nat.le_of_ble_eq_true rfl) rfl ?_
  refine E_iload_n 0 dJ6_bitCount_0f7a4_24 (q := 25) rfl rfl rfl ?_
  refine E_iload_n 0 dJ6_bitCount_0f7a4_25 (q := 26) rfl rfl rfl ?_
  refine E_iconst (x := 4) dJ6_bitCount_0f7a4_26 (q := 27) rfl (by decide) ?_
  refine E_iushr dJ6_bitCount_0f7a4_27 (q := 28) rfl ?_
  refine E_iadd dJ6_bitCount_0f7a4_28 (q := 29) rfl ?_
  refine E_ldcw dJ6_bitCount_0f7a4_29 (q := 32) rfl cw_J6_267 ?_
  refine E_iand dJ6_bitCount_0f7a4_32 (q := 33) rfl ?_
  refine E_istore_n [(0, .int (((((a0 - (((a0).toUInt32 >>> ((1 : Int32).toUInt32 &&& Int32.toUInt32 31)).toInt32 &&& 1431655765)) &&& 858993459) + ((((a0 - (((a0).toUInt32 >>> ((1 : Int32).toUInt32 &&& Int32.toUInt32 31)).toInt32 &&& 1431655765))).toUInt32 >>> ((2 : Int32).toUInt32 &&& Int32.toUInt32 31)).toInt32 &&& 858993459)) + (((((a0 - (((a0).toUInt32 >>> ((1 : Int32).toUInt32 &&& Int32.toUInt32 31)).toInt32 &&& 1431655765)) &&& 858993459) + ((((a0 - (((a0).toUInt32 >>> ((1 : Int32).toUInt32 &&& Int32.toUInt32 31)).toInt32 &&& 1431655765))).toUInt32 >>> ((2 : Int32).toUInt32 &&& Int32.toUInt32 31)).toInt32 &&& 858993459))).toUInt32 >>> ((4 : Int32).toUInt32 &&& Int32.toUInt32 31)).toInt32) &&& 252645135))] dJ6_bitCount_0f7a4_33 (q := 34) rfl rfl (Nat.le_of_ble_eq_true rfl) rfl ?_
  refine E_iload_n 0 dJ6_bitCount_0f7a4_34 (q := 35) rfl rfl rfl ?_
  refine E_iload_n 0 dJ6_bitCount_0f7a4_35 (q := 36) rfl rfl rfl ?_
  refine E_bipush (x := 8) dJ6_bitCount_0f7a4_36 (q := 38) rfl (by decide) ?_
  refine E_iushr dJ6_bitCount_0f7a4_38 (q := 39) rfl ?_
  refine E_iadd dJ6_bitCount_0f7a4_39 (q := 40) rfl ?_
  refine E_istore_n [(0, .int ((((((a0 - (((a0).toUInt32 >>> ((1 : Int32).toUInt32 &&& Int32.toUInt32 31)).toInt32 &&& 1431655765)) &&& 858993459) + ((((a0 - (((a0).toUInt32 >>> ((1 : Int32).toUInt32 &&& Int32.toUInt32 31)).toInt32 &&& 1431655765))).toUInt32 >>> ((2 : Int32).toUInt32 &&& Int32.toUInt32 31)).toInt32 &&& 858993459)) + (((((a0 - (((a0).toUInt32 >>> ((1 : Int32).toUInt32 &&& Int32.toUInt32 31)).toInt32 &&& 1431655765)) &&& 858993459) + ((((a0 - (((a0).toUInt32 >>> ((1 : Int32).toUInt32 &&& Int32.toUInt32 31)).toInt32 &&& 1431655765))).toUInt32 >>> ((2 : Int32).toUInt32 &&& Int32.toUInt32 31)).toInt32 &&& 858993459))).toUInt32 >>> ((4 : Int32).toUInt32 &&& Int32.toUInt32 31)).toInt32) &&& 252645135) + (((((((a0 - (((a0).toUInt32 >>> ((1 : Int32).toUInt32 &&& Int32.toUInt32 31)).toInt32 &&& 1431655765)) &&& 858993459) + ((((a0 - (((a0).toUInt32 >>> ((1 : Int32).toUInt32 &&& Int32.toUInt32 31)).toInt32 &&& 1431655765))).toUInt32 >>> ((2 : Int32).toUInt32 &&& Int32.toUInt32 31)).toInt32 &&& 858993459)) + (((((a0 - (((a0).toUInt32 >>> ((1 : Int32).toUInt32 &&& Int32.toUInt32 31)).toInt32 &&& 1431655765)) &&& 858993459) + ((((a0 - (((a0).toUInt32 >>> ((1 : Int32).toUInt32 &&& Int32.toUInt32 31)).toInt32 &&& 1431655765))).toUInt32 >>> ((2 : Int32).toUInt32 &&& Int32.toUInt32 31)).toInt32 &&& 858993459))).toUInt32 >>> ((4 : Int32).toUInt32 &&& Int32.toUInt32 31)).toInt32) &&& 252645135)).toUInt32 >>> ((8 : Int32).toUInt32 &&& Int32.toUInt32 31)).toInt32))] dJ6_bitCount_0f7a4_40 (q := 41) rfl rfl (Nat.le_of_ble_eq_true rfl) rfl ?_
  refine E_iload_n 0 dJ6_bitCount_0f7a4_41 (q := 42) rfl rfl rfl ?_
  refine E_iload_n 0 dJ6_bitCount_0f7a4_42 (q := 43) rfl rfl rfl ?_
  refine E_bipush (x := 16) dJ6_bitCount_0f7a4_43 (q := 45) rfl (by decide) ?_
  refine E_iushr dJ6_bitCount_0f7a4_45 (q := 46) rfl ?_
  refine E_iadd dJ6_bitCount_0f7a4_46 (q := 47) rfl ?_
  refine E_istore_n [(0, .int (((((((a0 - (((a0).toUInt32 >>> ((1 : Int32).toUInt32 &&& Int32.toUInt32 31)).toInt32 &&& 1431655765)) &&& 858993459) + ((((a0 - (((a0).toUInt32 >>> ((1 : Int32).toUInt32 &&& Int32.toUInt32 31)).toInt32 &&& 1431655765))).toUInt32 >>> ((2 : Int32).toUInt32 &&& Int32.toUInt32 31)).toInt32 &&& 858993459)) + (((((a0 - (((a0).toUInt32 >>> ((1 : Int32).toUInt32 &&& Int32.toUInt32 31)).toInt32 &&& 1431655765)) &&& 858993459) + ((((a0 - (((a0).toUInt32 >>> ((1 : Int32).toUInt32 &&& Int32.toUInt32 31)).toInt32 &&& 1431655765))).toUInt32 >>> ((2 : Int32).toUInt32 &&& Int32.toUInt32 31)).toInt32 &&& 858993459))).toUInt32 >>> ((4 : Int32).toUInt32 &&& Int32.toUInt32 31)).toInt32) &&& 252645135) + (((((((a0 - (((a0).toUInt32 >>> ((1 : Int32).toUInt32 &&& Int32.toUInt32 31)).toInt32 &&& 1431655765)) &&& 858993459) + ((((a0 - (((a0).toUInt32 >>> ((1 : Int32).toUInt32 &&& Int32.toUInt32 31)).toInt32 &&& 1431655765))).toUInt32 >>> ((2 : Int32).toUInt32 &&& Int32.toUInt32 31)).toInt32 &&& 858993459)) + (((((a0 - (((a0).toUInt32 >>> ((1 : Int32).toUInt32 &&& Int32.toUInt32 31)).toInt32 &&& 1431655765)) &&& 858993459) + ((((a0 - (((a0).toUInt32 >>> ((1 : Int32).toUInt32 &&& Int32.toUInt32 31)).toInt32 &&& 1431655765))).toUInt32 >>> ((2 : Int32).toUInt32 &&& Int32.toUInt32 31)).toInt32 &&& 858993459))).toUInt32 >>> ((4 : Int32).toUInt32 &&& Int32.toUInt32 31)).toInt32) &&& 252645135)).toUInt32 >>> ((8 : Int32).toUInt32 &&& Int32.toUInt32 31)).toInt32) + ((((((((a0 - (((a0).toUInt32 >>> ((1 : Int32).toUInt32 &&& Int32.toUInt32 31)).toInt32 &&& 1431655765)) &&& 858993459) + ((((a0 - (((a0).toUInt32 >>> ((1 : Int32).toUInt32 &&& Int32.toUInt32 31)).toInt32 &&& 1431655765))).toUInt32 >>> ((2 : Int32).toUInt32 &&& Int32.toUInt32 31)).toInt32 &&& 858993459)) + (((((a0 - (((a0).toUInt32 >>> ((1 : Int32).toUInt32 &&& Int32.toUInt32 31)).toInt32 &&& 1431655765)) &&& 858993459) + ((((a0 - (((a0).toUInt32 >>> ((1 : Int32).toUInt32 &&& Int32.toUInt32 31)).toInt32 &&& 1431655765))).toUInt32 >>> ((2 : Int32).toUInt32 &&& Int32.toUInt32 31)).toInt32 &&& 858993459))).toUInt32 >>> ((4 : Int32).toUInt32 &&& Int32.toUInt32 31)).toInt32) &&& 252645135) + (((((((a0 - (((a0).toUInt32 >>> ((1 : Int32).toUInt32 &&& Int32.toUInt32 31)).toInt32 &&& 1431655765)) &&& 858993459) + ((((a0 - (((a0).toUInt32 >>> ((1 : Int32).toUInt32 &&& Int32.toUInt32 31)).toInt32 &&& 1431655765))).toUInt32 >>> ((2 : Int32).toUInt32 &&& Int32.toUInt32 31)).toInt32 &&& 858993459)) + (((((a0 - (((a0).toUInt32 >>> ((1 : Int32).toUInt32 &&& Int32.toUInt32 31)).toInt32 &&& 1431655765)) &&& 858993459) + ((((a0 - (((a0).toUInt32 >>> ((1 : Int32).toUInt32 &&& Int32.toUInt32 31)).toInt32 &&& 1431655765))).toUInt32 >>> ((2 : Int32).toUInt32 &&& Int32.toUInt32 31)).toInt32 &&& 858993459))).toUInt32 >>> ((4 : Int32).toUInt32 &&& Int32.toUInt32 31)).toInt32) &&& 252645135)).toUInt32 >>> ((8 : Int32).toUInt32 &&& Int32.toUInt32 31)).toInt32)).toUInt32 >>> ((16 : Int32).toUInt32 &&& Int32.toUInt32 31)).toInt32))] dJ6_bitCount_0f7a4_47 (q := 48) rfl rfl (Nat.le_of_ble_eq_true rfl) rfl ?_
  refine E_iload_n 0 dJ6_bitCount_0f7a4_48 (q := 49) rfl rfl rfl ?_
  refine E_bipush (x := 63) dJ6_bitCount_0f7a4_49 (q := 51) rfl (by decide) ?_
  refine E_iand dJ6_bitCount_0f7a4_51 (q := 52) rfl ?_
  obtain rfl := Option.some.inj hf
  exact E_iret dJ6_bitCount_0f7a4_52 rfl ⟨rfl, rfl, rfl⟩

-- java/lang/Integer.numberOfTrailingZeros(I)I
def f_J6_numberOfTrailingZeros (N : Nat) (a0 : Int32) : Option (Int32) :=
  (if 0 < ((a0 ^^^ (-1)) &&& (a0 - 1)) then (if ((a0 ^^^ (-1)) &&& (a0 - 1)) ≤ 65536 then (if ((a0 ^^^ (-1)) &&& (a0 - 1)) ≤ 256 then (if ((a0 ^^^ (-1)) &&& (a0 - 1)) ≤ 16 then (if ((a0 ^^^ (-1)) &&& (a0 - 1)) ≤ 4 then some (1 + ((((a0 ^^^ (-1)) &&& (a0 - 1))).toUInt32 >>> ((1 : Int32).toUInt32 &&& Int32.toUInt32 31)).toInt32) else some ((1 + 2) + ((((((a0 ^^^ (-1)) &&& (a0 - 1))).toUInt32 >>> ((2 : Int32).toUInt32 &&& Int32.toUInt32 31)).toInt32).toUInt32 >>> ((1 : Int32).toUInt32 &&& Int32.toUInt32 31)).toInt32)) else (if (((((a0 ^^^ (-1)) &&& (a0 - 1))).toUInt32 >>> ((4 : Int32).toUInt32 &&& Int32.toUInt32 31)).toInt32) ≤ 4 then some ((1 + 4) + ((((((a0 ^^^ (-1)) &&& (a0 - 1))).toUInt32 >>> ((4 : Int32).toUInt32 &&& Int32.toUInt32 31)).toInt32).toUInt32 >>> ((1 : Int32).toUInt32 &&& Int32.toUInt32 31)).toInt32) else some (((1 + 4) + 2) + ((((((((a0 ^^^ (-1)) &&& (a0 - 1))).toUInt32 >>> ((4 : Int32).toUInt32 &&& Int32.toUInt32 31)).toInt32).toUInt32 >>> ((2 : Int32).toUInt32 &&& Int32.toUInt32 31)).toInt32).toUInt32 >>> ((1 : Int32).toUInt32 &&& Int32.toUInt32 31)).toInt32))) else (if (((((a0 ^^^ (-1)) &&& (a0 - 1))).toUInt32 >>> ((8 : Int32).toUInt32 &&& Int32.toUInt32 31)).toInt32) ≤ 16 then (if (((((a0 ^^^ (-1)) &&& (a0 - 1))).toUInt32 >>> ((8 : Int32).toUInt32 &&& Int32.toUInt32 31)).toInt32) ≤ 4 then some ((1 + 8) + ((((((a0 ^^^ (-1)) &&& (a0 - 1))).toUInt32 >>> ((8 : Int32).toUInt32 &&& Int32.toUInt32 31)).toInt32).toUInt32 >>> ((1 : Int32).toUInt32 &&& Int32.toUInt32 31)).toInt32) else some (((1 + 8) + 2) + ((((((((a0 ^^^ (-1)) &&& (a0 - 1))).toUInt32 >>> ((8 : Int32).toUInt32 &&& Int32.toUInt32 31)).toInt32).toUInt32 >>> ((2 : Int32).toUInt32 &&& Int32.toUInt32 31)).toInt32).toUInt32 >>> ((1 : Int32).toUInt32 &&& Int32.toUInt32 31)).toInt32)) else (if (((((((a0 ^^^ (-1)) &&& (a0 - 1))).toUInt32 >>> ((8 : Int32).toUInt32 &&& Int32.toUInt32 31)).toInt32).toUInt32 >>> ((4 : Int32).toUInt32 &&& Int32.toUInt32 31)).toInt32) ≤ 4 then some (((1 + 8) + 4) + ((((((((a0 ^^^ (-1)) &&& (a0 - 1))).toUInt32 >>> ((8 : Int32).toUInt32 &&& Int32.toUInt32 31)).toInt32).toUInt32 >>> ((4 : Int32).toUInt32 &&& Int32.toUInt32 31)).toInt32).toUInt32 >>> ((1 : Int32).toUInt32 &&& Int32.toUInt32 31)).toInt32) else some ((((1 + 8) + 4) + 2) + ((((((((((a0 ^^^ (-1)) &&& (a0 - 1))).toUInt32 >>> ((8 : Int32).toUInt32 &&& Int32.toUInt32 31)).toInt32).toUInt32 >>> ((4 : Int32).toUInt32 &&& Int32.toUInt32 31)).toInt32).toUInt32 >>> ((2 : Int32).toUInt32 &&& Int32.toUInt32 31)).toInt32).toUInt32 >>> ((1 : Int32).toUInt32 &&& Int32.toUInt32 31)).toInt32)))) else (if (((((a0 ^^^ (-1)) &&& (a0 - 1))).toUInt32 >>> ((16 : Int32).toUInt32 &&& Int32.toUInt32 31)).toInt32) ≤ 256 then (if (((((a0 ^^^ (-1)) &&& (a0 - 1))).toUInt32 >>> ((16 : Int32).toUInt32 &&& Int32.toUInt32 31)).toInt32) ≤ 16 then (if (((((a0 ^^^ (-1)) &&& (a0 - 1))).toUInt32 >>> ((16 : Int32).toUInt32 &&& Int32.toUInt32 31)).toInt32) ≤ 4 then some ((1 + 16) + ((((((a0 ^^^ (-1)) &&& (a0 - 1))).toUInt32 >>> ((16 : Int32).toUInt32 &&& Int32.toUInt32 31)).toInt32).toUInt32 >>> ((1 : Int32).toUInt32 &&& Int32.toUInt32 31)).toInt32) else some (((1 + 16) + 2) + ((((((((a0 ^^^ (-1)) &&& (a0 - 1))).toUInt32 >>> ((16 : Int32).toUInt32 &&& Int32.toUInt32 31)).toInt32).toUInt32 >>> ((2 : Int32).toUInt32 &&& Int32.toUInt32 31)).toInt32).toUInt32 >>> ((1 : Int32).toUInt32 &&& Int32.toUInt32 31)).toInt32)) else (if (((((((a0 ^^^ (-1)) &&& (a0 - 1))).toUInt32 >>> ((16 : Int32).toUInt32 &&& Int32.toUInt32 31)).toInt32).toUInt32 >>> ((4 : Int32).toUInt32 &&& Int32.toUInt32 31)).toInt32) ≤ 4 then some (((1 + 16) + 4) + ((((((((a0 ^^^ (-1)) &&& (a0 - 1))).toUInt32 >>> ((16 : Int32).toUInt32 &&& Int32.toUInt32 31)).toInt32).toUInt32 >>> ((4 : Int32).toUInt32 &&& Int32.toUInt32 31)).toInt32).toUInt32 >>> ((1 : Int32).toUInt32 &&& Int32.toUInt32 31)).toInt32) else some ((((1 + 16) + 4) + 2) + ((((((((((a0 ^^^ (-1)) &&& (a0 - 1))).toUInt32 >>> ((16 : Int32).toUInt32 &&& Int32.toUInt32 31)).toInt32).toUInt32 >>> ((4 : Int32).toUInt32 &&& Int32.toUInt32 31)).toInt32).toUInt32 >>> ((2 : Int32).toUInt32 &&& Int32.toUInt32 31)).toInt32).toUInt32 >>> ((1 : Int32).toUInt32 &&& Int32.toUInt32 31)).toInt32))) else (if (((((((a0 ^^^ (-1)) &&& (a0 - 1))).toUInt32 >>> ((16 : Int32).toUInt32 &&& Int32.toUInt32 31)).toInt32).toUInt32 >>> ((8 : Int32).toUInt32 &&& Int32.toUInt32 31)).toInt32) ≤ 16 then (if (((((((a0 ^^^ (-1)) &&& (a0 - 1))).toUInt32 >>> ((16 : Int32).toUInt32 &&& Int32.toUInt32 31)).toInt32).toUInt32 >>> ((8 : Int32).toUInt32 &&& Int32.toUInt32 31)).toInt32) ≤ 4 then some (((1 + 16) + 8) + ((((((((a0 ^^^ (-1)) &&& (a0 - 1))).toUInt32 >>> ((16 : Int32).toUInt32 &&& Int32.toUInt32 31)).toInt32).toUInt32 >>> ((8 : Int32).toUInt32 &&& Int32.toUInt32 31)).toInt32).toUInt32 >>> ((1 : Int32).toUInt32 &&& Int32.toUInt32 31)).toInt32) else some ((((1 + 16) + 8) + 2) + ((((((((((a0 ^^^ (-1)) &&& (a0 - 1))).toUInt32 >>> ((16 : Int32).toUInt32 &&& Int32.toUInt32 31)).toInt32).toUInt32 >>> ((8 : Int32).toUInt32 &&& Int32.toUInt32 31)).toInt32).toUInt32 >>> ((2 : Int32).toUInt32 &&& Int32.toUInt32 31)).toInt32).toUInt32 >>> ((1 : Int32).toUInt32 &&& Int32.toUInt32 31)).toInt32)) else (if (((((((((a0 ^^^ (-1)) &&& (a0 - 1))).toUInt32 >>> ((16 : Int32).toUInt32 &&& Int32.toUInt32 31)).toInt32).toUInt32 >>> ((8 : Int32).toUInt32 &&& Int32.toUInt32 31)).toInt32).toUInt32 >>> ((4 : Int32).toUInt32 &&& Int32.toUInt32 31)).toInt32) ≤ 4 then some ((((1 + 16) + 8) + 4) + ((((((((((a0 ^^^ (-1)) &&& (a0 - 1))).toUInt32 >>> ((16 : Int32).toUInt32 &&& Int32.toUInt32 31)).toInt32).toUInt32 >>> ((8 : Int32).toUInt32 &&& Int32.toUInt32 31)).toInt32).toUInt32 >>> ((4 : Int32).toUInt32 &&& Int32.toUInt32 31)).toInt32).toUInt32 >>> ((1 : Int32).toUInt32 &&& Int32.toUInt32 31)).toInt32) else some (((((1 + 16) + 8) + 4) + 2) + ((((((((((((a0 ^^^ (-1)) &&& (a0 - 1))).toUInt32 >>> ((16 : Int32).toUInt32 &&& Int32.toUInt32 31)).toInt32).toUInt32 >>> ((8 : Int32).toUInt32 &&& Int32.toUInt32 31)).toInt32).toUInt32 >>> ((4 : Int32).toUInt32 &&& Int32.toUInt32 31)).toInt32).toUInt32 >>> ((2 : Int32).toUInt32 &&& Int32.toUInt32 31)).toInt32).toUInt32 >>> ((1 : Int32).toUInt32 &&& Int32.toUInt32 31)).toInt32))))) else some (((a0 ^^^ (-1)) &&& (a0 - 1)) &&& 32))
set_option maxHeartbeats 4000000 in
set_option maxRecDepth 100000 in
theorem m_J6_numberOfTrailingZeros {γ : GX} {n : Nat} {N : Nat} {h : HP} {a0 : Int32}   {z : Int32} (hf : f_J6_numberOfTrailingZeros N a0 = some z)  : Ct γ M_J6_numberOfTrailingZeros n h [.int a0] (Done (some (.int z)) n h) := by
  refine Ct_of_Ev (by decide) (fun h => by cases h) (Nat.le_of_ble_eq_true rfl) ?_
  show Ev γ M_J6_numberOfTrailingZeros (0, 0) n h [(0, .int a0)] 0 [] _
  unfold f_J6_numberOfTrailingZeros at hf
  refine E_iload_n 0 dJ6_numberOfTrailingZeros_0f7a4_0 (q := 1) rfl rfl rfl ?_
  refine E_iconst (x := (-1)) dJ6_numberOfTrailingZeros_0f7a4_1 (q := 2) rfl (by decide) ?_
  refine E_ixor dJ6_numberOfTrailingZeros_0f7a4_2 (q := 3) rfl ?_
  refine E_iload_n 0 dJ6_numberOfTrailingZeros_0f7a4_3 (q := 4) rfl rfl rfl ?_
  refine E_iconst (x := 1) dJ6_numberOfTrailingZeros_0f7a4_4 (q := 5) rfl (by decide) ?_
  refine E_isub dJ6_numberOfTrailingZeros_0f7a4_5 (q := 6) rfl ?_
  refine E_iand dJ6_numberOfTrailingZeros_0f7a4_6 (q := 7) rfl ?_
  refine E_istore_n [(0, .int ((a0 ^^^ (-1)) &&& (a0 - 1)))] dJ6_numberOfTrailingZeros_0f7a4_7 (q := 8) rfl rfl (Nat.le_of_ble_eq_true rfl) rfl ?_
  refine E_iload_n 0 dJ6_numberOfTrailingZeros_0f7a4_8 (q := 9) rfl rfl rfl ?_
  refine E_if_gt dJ6_numberOfTrailingZeros_0f7a4_9 (t := 17) (by decide) (q := 12) rfl (fun c1 => ?_) (fun c1 => ?_)
  · have hf := if_t c1 hf
    refine E_iconst (x := 1) dJ6_numberOfTrailingZeros_0f7a4_17 (q := 18) rfl (by decide) ?_
    refine E_istore_n [(1, .int 1), (0, .int ((a0 ^^^ (-1)) &&& (a0 - 1)))] dJ6_numberOfTrailingZeros_0f7a4_18 (q := 19) rfl rfl (Nat.le_of_ble_eq_true rfl) rfl ?_
    refine E_iload_n 1 dJ6_numberOfTrailingZeros_0f7a4_19 (q := 20) rfl rfl rfl ?_
    refine E_ldcw dJ6_numberOfTrailingZeros_0f7a4_20 (q := 23) rfl cw_J6_264 ?_
    refine E_icmp_le dJ6_numberOfTrailingZeros_0f7a4_23 (t := 34) (by decide) (q := 26) rfl (fun c2 => ?_) (fun c2 => ?_)
    · have hf := if_t c2 hf
      refine E_iload_n 1 dJ6_numberOfTrailingZeros_0f7a4_34 (q := 35) rfl rfl rfl ?_
      refine E_sipush (x := 256) dJ6_numberOfTrailingZeros_0f7a4_35 (q := 38) rfl (by decide) ?_
      refine E_icmp_le dJ6_numberOfTrailingZeros_0f7a4_38 (t := 49) (by decide) (q := 41) rfl (fun c3 => ?_) (fun c3 => ?_)
      · have hf := if_t c3 hf
        refine E_iload_n 1 dJ6_numberOfTrailingZeros_0f7a4_49 (q := 50) rfl rfl rfl ?_
        refine E_bipush (x := 16) dJ6_numberOfTrailingZeros_0f7a4_50 (q := 52) rfl (by decide) ?_
        refine E_icmp_le dJ6_numberOfTrailingZeros_0f7a4_52 (t := 62) (by decide) (q := 55) rfl (fun c4 => ?_) (fun c4 => ?_)
        · have hf := if_t c4 hf
          refine E_iload_n 1 dJ6_numberOfTrailingZeros_0f7a4_62 (q := 63) rfl rfl rfl ?_
          refine E_iconst (x := 4) dJ6_numberOfTrailingZeros_0f7a4_63 (q := 64) rfl (by decide) ?_
          refine E_icmp_le dJ6_numberOfTrailingZeros_0f7a4_64 (t := 74) (by decide) (q := 67) rfl (fun c5 => ?_) (fun c5 => ?_)
          · have hf := if_t c5 hf
            refine E_iload_n 0 dJ6_numberOfTrailingZeros_0f7a4_74 (q := 75) rfl rfl rfl ?_
            refine E_iload_n 1 dJ6_numberOfTrailingZeros_0f7a4_75 (q := 76) rfl rfl rfl ?_
            refine E_iconst (x := 1) dJ6_numberOfTrailingZeros_0f7a4_76 (q := 77) rfl (by decide) ?_
            refine E_iushr dJ6_numberOfTrailingZeros_0f7a4_77 (q := 78) rfl ?_
            refine E_iadd dJ6_numberOfTrailingZeros_0f7a4_78 (q := 79) rfl ?_
            obtain rfl := Option.some.inj hf
            exact E_iret dJ6_numberOfTrailingZeros_0f7a4_79 rfl ⟨rfl, rfl, rfl⟩
          · have hf := if_f c5 hf
            refine E_iinc 0 [(1, .int (1 + 2)), (0, .int ((a0 ^^^ (-1)) &&& (a0 - 1)))] dJ6_numberOfTrailingZeros_0f7a4_67 (q := 70) rfl rfl rfl (Nat.le_of_ble_eq_true rfl) rfl ?_
            refine E_iload_n 1 dJ6_numberOfTrailingZeros_0f7a4_70 (q := 71) rfl rfl rfl ?_
            refine E_iconst (x := 2) dJ6_numberOfTrailingZeros_0f7a4_71 (q := 72) rfl (by decide) ?_
            refine E_iushr dJ6_numberOfTrailingZeros_0f7a4_72 (q := 73) rfl ?_
            refine E_istore_n [(0, .int (((((a0 ^^^ (-1)) &&& (a0 - 1))).toUInt32 >>> ((2 : Int32).toUInt32 &&& Int32.toUInt32 31)).toInt32)), (1, .int (1 + 2))] dJ6_numberOfTrailingZeros_0f7a4_73 (q := 74) rfl rfl (Nat.le_of_ble_eq_true rfl) rfl ?_
            refine E_iload_n 1 dJ6_numberOfTrailingZeros_0f7a4_74 (q := 75) rfl rfl rfl ?_
            refine E_iload_n 0 dJ6_numberOfTrailingZeros_0f7a4_75 (q := 76) rfl rfl rfl ?_
            refine E_iconst (x := 1) dJ6_numberOfTrailingZeros_0f7a4_76 (q := 77) rfl (by decide) ?_
            refine E_iushr dJ6_numberOfTrailingZeros_0f7a4_77 (q := 78) rfl ?_
            refine E_iadd dJ6_numberOfTrailingZeros_0f7a4_78 (q := 79) rfl ?_
            obtain rfl := Option.some.inj hf
            exact E_iret dJ6_numberOfTrailingZeros_0f7a4_79 rfl ⟨rfl, rfl, rfl⟩
        · have hf := if_f c4 hf
          refine E_iinc 0 [(1, .int (1 + 4)), (0, .int ((a0 ^^^ (-1)) &&& (a0 - 1)))] dJ6_numberOfTrailingZeros_0f7a4_55 (q := 58) rfl rfl rfl (Nat.le_of_ble_eq_true rfl) rfl ?_
          refine E_iload_n 1 dJ6_numberOfTrailingZeros_0f7a4_58 (q := 59) rfl rfl rfl ?_
          refine E_iconst (x := 4) dJ6_numberOfTrailingZeros_0f7a4_59 (q := 60) rfl (by decide) ?_
          refine E_iushr dJ6_numberOfTrailingZeros_0f7a4_60 (q := 61) rfl ?_
          refine E_istore_n [(0, .int (((((a0 ^^^ (-1)) &&& (a0 - 1))).toUInt32 >>> ((4 : Int32).toUInt32 &&& Int32.toUInt32 31)).toInt32)), (1, .int (1 + 4))] dJ6_numberOfTrailingZeros_0f7a4_61 (q := 62) rfl rfl (Nat.le_of_ble_eq_true rfl) rfl ?_
          refine E_iload_n 0 dJ6_numberOfTrailingZeros_0f7a4_62 (q := 63) rfl rfl rfl ?_
          refine E_iconst (x := 4) dJ6_numberOfTrailingZeros_0f7a4_63 (q := 64) rfl (by decide) ?_
          refine E_icmp_le dJ6_numberOfTrailingZeros_0f7a4_64 (t := 74) (by decide) (q := 67) rfl (fun c6 => ?_) (fun c6 => ?_)
          · have hf := if_t c6 hf
            refine E_iload_n 1 dJ6_numberOfTrailingZeros_0f7a4_74 (q := 75) rfl rfl rfl ?_
            refine E_iload_n 0 dJ6_numberOfTrailingZeros_0f7a4_75 (q := 76) rfl rfl rfl ?_
            refine E_iconst (x := 1) dJ6_numberOfTrailingZeros_0f7a4_76 (q := 77) rfl (by decide) ?_
            refine E_iushr dJ6_numberOfTrailingZeros_0f7a4_77 (q := 78) rfl ?_
            refine E_iadd dJ6_numberOfTrailingZeros_0f7a4_78 (q := 79) rfl ?_
            obtain rfl := Option.some.inj hf
            exact E_iret dJ6_numberOfTrailingZeros_0f7a4_79 rfl ⟨rfl, rfl, rfl⟩
          · have hf := if_f c6 hf
            refine E_iinc 1 [(1, .int ((1 + 4) + 2)), (0, .int (((((a0 ^^^ (-1)) &&& (a0 - 1))).toUInt32 >>> ((4 : Int32).toUInt32 &&& Int32.toUInt32 31)).toInt32))] dJ6_numberOfTrailingZeros_0f7a4_67 (q := 70) rfl rfl rfl (Nat.le_of_ble_eq_true rfl) rfl ?_
            refine E_iload_n 1 dJ6_numberOfTrailingZeros_0f7a4_70 (q := 71) rfl rfl rfl ?_
            refine E_iconst (x := 2) dJ6_numberOfTrailingZeros_0f7a4_71 (q := 72) rfl (by decide) ?_
            refine E_iushr dJ6_numberOfTrailingZeros_0f7a4_72 (q := 73) rfl ?_
            refine E_istore_n [(0, .int (((((((a0 ^^^ (-1)) &&& (a0 - 1))).toUInt32 >>> ((4 : Int32).toUInt32 &&& Int32.toUInt32 31)).toInt32).toUInt32 >>> ((2 : Int32).toUInt32 &&& Int32.toUInt32 31)).toInt32)), (1, .int ((1 + 4) + 2))] dJ6_numberOfTrailingZeros_0f7a4_73 (q := 74) rfl rfl (Nat.le_of_ble_eq_true rfl) rfl ?_
            refine E_iload_n 1 dJ6_numberOfTrailingZeros_0f7a4_74 (q := 75) rfl rfl rfl ?_
            refine E_iload_n 0 dJ6_numberOfTrailingZeros_0f7a4_75 (q := 76) rfl rfl rfl ?_
            refine E_iconst (x := 1) dJ6_numberOfTrailingZeros_0f7a4_76 (q := 77) rfl (by decide) ?_
            refine E_iushr dJ6_numberOfTrailingZeros_0f7a4_77 (q := 78) rfl ?_
            refine E_iadd dJ6_numberOfTrailingZeros_0f7a4_78 (q := 79) rfl ?_
            obtain rfl := Option.some.inj hf
            exact E_iret dJ6_numberOfTrailingZeros_0f7a4_79 rfl ⟨rfl, rfl, rfl⟩
      · have hf := if_f c3 hf
        refine E_iinc 0 [(1, .int (1 + 8)), (0, .int ((a0 ^^^ (-1)) &&& (a0 - 1)))] dJ6_numberOfTrailingZeros_0f7a4_41 (q := 44) rfl rfl rfl (Nat.le_of_ble_eq_true rfl) rfl ?_
        refine E_iload_n 1 dJ6_numberOfTrailingZeros_0f7a4_44 (q := 45) rfl rfl rfl ?_
        refine E_bipush (x := 8) dJ6_numberOfTrailingZeros_0f7a4_45 (q := 47) rfl (by decide) ?_
        refine E_iushr dJ6_numberOfTrailingZeros_0f7a4_47 (q := 48) rfl ?_
        refine E_istore_n [(0, .int (((((a0 ^^^ (-1)) &&& (a0 - 1))).toUInt32 >>> ((8 : Int32).toUInt32 &&& Int32.toUInt32 31)).toInt32)), (1, .int (1 + 8))] dJ6_numberOfTrailingZeros_0f7a4_48 (q := 49) rfl rfl (Nat.le_of_ble_eq_true rfl) rfl ?_
        refine E_iload_n 0 dJ6_numberOfTrailingZeros_0f7a4_49 (q := 50) rfl rfl rfl ?_
        refine E_bipush (x := 16) dJ6_numberOfTrailingZeros_0f7a4_50 (q := 52) rfl (by decide) ?_
        refine E_icmp_le dJ6_numberOfTrailingZeros_0f7a4_52 (t := 62) (by decide) (q := 55) rfl (fun c7 => ?_) (fun c7 => ?_)
        · have hf := if_t c7 hf
          refine E_iload_n 0 dJ6_numberOfTrailingZeros_0f7a4_62 (q := 63) rfl rfl rfl ?_
          refine E_iconst (x := 4) dJ6_numberOfTrailingZeros_0f7a4_63 (q := 64) rfl (by decide) ?_
          refine E_icmp_le dJ6_numberOfTrailingZeros_0f7a4_64 (t := 74) (by decide) (q := 67) rfl (fun c8 => ?_) (fun c8 => ?_)
          · have hf := if_t c8 hf
            refine E_iload_n 1 dJ6_numberOfTrailingZeros_0f7a4_74 (q := 75) rfl rfl rfl ?_
            refine E_iload_n 0 dJ6_numberOfTrailingZeros_0f7a4_75 (q := 76) rfl rfl rfl ?_
            refine E_iconst (x := 1) dJ6_numberOfTrailingZeros_0f7a4_76 (q := 77) rfl (by decide) ?_
            refine E_iushr dJ6_numberOfTrailingZeros_0f7a4_77 (q := 78) rfl ?_
            refine E_iadd dJ6_numberOfTrailingZeros_0f7a4_78 (q := 79) rfl ?_
            obtain rfl := Option.some.inj hf
            exact E_iret dJ6_numberOfTrailingZeros_0f7a4_79 rfl ⟨rfl, rfl, rfl⟩
          · have hf := if_f c8 hf
            refine E_iinc 1 [(1, .int ((1 + 8) + 2)), (0, .int (((((a0 ^^^ (-1)) &&& (a0 - 1))).toUInt32 >>> ((8 : Int32).toUInt32 &&& Int32.toUInt32 31)).toInt32))] dJ6_numberOfTrailingZeros_0f7a4_67 (q := 70) rfl rfl rfl (Nat.le_of_ble_eq_true rfl) rfl ?_
            refine E_iload_n 1 dJ6_numberOfTrailingZeros_0f7a4_70 (q := 71) rfl rfl rfl ?_
            refine E_iconst (x := 2) dJ6_numberOfTrailingZeros_0f7a4_71 (q := 72) rfl (by decide) ?_
            refine E_iushr dJ6_numberOfTrailingZeros_0f7a4_72 (q := 73) rfl ?_
            refine E_istore_n [(0, .int (((((((a0 ^^^ (-1)) &&& (a0 - 1))).toUInt32 >>> ((8 : Int32).toUInt32 &&& Int32.toUInt32 31)).toInt32).toUInt32 >>> ((2 : Int32).toUInt32 &&& Int32.toUInt32 31)).toInt32)), (1, .int ((1 + 8) + 2))] dJ6_numberOfTrailingZeros_0f7a4_73 (q := 74) rfl rfl (Nat.le_of_ble_eq_true rfl) rfl ?_
            refine E_iload_n 1 dJ6_numberOfTrailingZeros_0f7a4_74 (q := 75) rfl rfl rfl ?_
            refine E_iload_n 0 dJ6_numberOfTrailingZeros_0f7a4_75 (q := 76) rfl rfl rfl ?_
            refine E_iconst (x := 1) dJ6_numberOfTrailingZeros_0f7a4_76 (q := 77) rfl (by decide) ?_
            refine E_iushr dJ6_numberOfTrailingZeros_0f7a4_77 (q := 78) rfl ?_
            refine E_iadd dJ6_numberOfTrailingZeros_0f7a4_78 (q := 79) rfl ?_
            obtain rfl := Option.some.inj hf
            exact E_iret dJ6_numberOfTrailingZeros_0f7a4_79 rfl ⟨rfl, rfl, rfl⟩
        · have hf := if_f c7 hf
          refine E_iinc 1 [(1, .int ((1 + 8) + 4)), (0, .int (((((a0 ^^^ (-1)) &&& (a0 - 1))).toUInt32 >>> ((8 : Int32).toUInt32 &&& Int32.toUInt32 31)).toInt32))] dJ6_numberOfTrailingZeros_0f7a4_55 (q := 58) rfl rfl rfl (Nat.le_of_ble_eq_true rfl) rfl ?_
          refine E_iload_n 1 dJ6_numberOfTrailingZeros_0f7a4_58 (q := 59) rfl rfl rfl ?_
          refine E_iconst (x := 4) dJ6_numberOfTrailingZeros_0f7a4_59 (q := 60) rfl (by decide) ?_
          refine E_iushr dJ6_numberOfTrailingZeros_0f7a4_60 (q := 61) rfl ?_
          refine E_istore_n [(0, .int (((((((a0 ^^^ (-1)) &&& (a0 - 1))).toUInt32 >>> ((8 : Int32).toUInt32 &&& Int32.toUInt32 31)).toInt32).toUInt32 >>> ((4 : Int32).toUInt32 &&& Int32.toUInt32 31)).toInt32)), (1, .int ((1 + 8) + 4))] dJ6_numberOfTrailingZeros_0f7a4_61 (q := 62) rfl rfl (Nat.le_of_ble_eq_true rfl) rfl ?_
          refine E_iload_n 0 dJ6_numberOfTrailingZeros_0f7a4_62 (q := 63) rfl rfl rfl ?_
          refine E_iconst (x := 4) dJ6_numberOfTrailingZeros_0f7a4_63 (q := 64) rfl (by decide) ?_
          refine E_icmp_le dJ6_numberOfTrailingZeros_0f7a4_64 (t := 74) (by decide) (q := 67) rfl (fun c9 => ?_) (fun c9 => ?_)
          · have hf := if_t c9 hf
            refine E_iload_n 1 dJ6_numberOfTrailingZeros_0f7a4_74 (q := 75) rfl rfl rfl ?_
            refine E_iload_n 0 dJ6_numberOfTrailingZeros_0f7a4_75 (q := 76) rfl rfl rfl ?_
            refine E_iconst (x := 1) dJ6_numberOfTrailingZeros_0f7a4_76 (q := 77) rfl (by decide) ?_
            refine E_iushr dJ6_numberOfTrailingZeros_0f7a4_77 (q := 78) rfl ?_
            refine E_iadd dJ6_numberOfTrailingZeros_0f7a4_78 (q := 79) rfl ?_
            obtain rfl := Option.some.inj hf
            exact E_iret dJ6_numberOfTrailingZeros_0f7a4_79 rfl ⟨rfl, rfl, rfl⟩
          · have hf := if_f c9 hf
            refine E_iinc 1 [(1, .int (((1 + 8) + 4) + 2)), (0, .int (((((((a0 ^^^ (-1)) &&& (a0 - 1))).toUInt32 >>> ((8 : Int32).toUInt32 &&& Int32.toUInt32 31)).toInt32).toUInt32 >>> ((4 : Int32).toUInt32 &&& Int32.toUInt32 31)).toInt32))] dJ6_numberOfTrailingZeros_0f7a4_67 (q := 70) rfl rfl rfl (Nat.le_of_ble_eq_true rfl) rfl ?_
            refine E_iload_n 1 dJ6_numberOfTrailingZeros_0f7a4_70 (q := 71) rfl rfl rfl ?_
            refine E_iconst (x := 2) dJ6_numberOfTrailingZeros_0f7a4_71 (q := 72) rfl (by decide) ?_
            refine E_iushr dJ6_numberOfTrailingZeros_0f7a4_72 (q := 73) rfl ?_
            refine E_istore_n [(0, .int (((((((((a0 ^^^ (-1)) &&& (a0 - 1))).toUInt32 >>> ((8 : Int32).toUInt32 &&& Int32.toUInt32 31)).toInt32).toUInt32 >>> ((4 : Int32).toUInt32 &&& Int32.toUInt32 31)).toInt32).toUInt32 >>> ((2 : Int32).toUInt32 &&& Int32.toUInt32 31)).toInt32)), (1, .int (((1 + 8) + 4) + 2))] dJ6_numberOfTrailingZeros_0f7a4_73 (q := 74) rfl rfl (Nat.le_of_ble_eq_true rfl) rfl ?_
            refine E_iload_n 1 dJ6_numberOfTrailingZeros_0f7a4_74 (q := 75) rfl rfl rfl ?_
            refine E_iload_n 0 dJ6_numberOfTrailingZeros_0f7a4_75 (q := 76) rfl rfl rfl ?_
            refine E_iconst (x := 1) dJ6_numberOfTrailingZeros_0f7a4_76 (q := 77) rfl (by decide) ?_
            refine E_iushr dJ6_numberOfTrailingZeros_0f7a4_77 (q := 78) rfl ?_
            refine E_iadd dJ6_numberOfTrailingZeros_0f7a4_78 (q := 79) rfl ?_
            obtain rfl := Option.some.inj hf
            exact E_iret dJ6_numberOfTrailingZeros_0f7a4_79 rfl ⟨rfl, rfl, rfl⟩
    · have hf := if_f c2 hf
      refine E_iinc 0 [(1, .int (1 + 16)), (0, .int ((a0 ^^^ (-1)) &&& (a0 - 1)))] dJ6_numberOfTrailingZeros_0f7a4_26 (q := 29) rfl rfl rfl (Nat.le_of_ble_eq_true rfl) rfl ?_
      refine E_iload_n 1 dJ6_numberOfTrailingZeros_0f7a4_29 (q := 30) rfl rfl rfl ?_
      refine E_bipush (x := 16) dJ6_numberOfTrailingZeros_0f7a4_30 (q := 32) rfl (by decide) ?_
      refine E_iushr dJ6_numberOfTrailingZeros_0f7a4_32 (q := 33) rfl ?_
      refine E_istore_n [(0, .int (((((a0 ^^^ (-1)) &&& (a0 - 1))).toUInt32 >>> ((16 : Int32).toUInt32 &&& Int32.toUInt32 31)).toInt32)), (1, .int (1 + 16))] dJ6_numberOfTrailingZeros_0f7a4_33 (q := 34) rfl rfl (Nat.le_of_ble_eq_true rfl) rfl ?_
      refine E_iload_n 0 dJ6_numberOfTrailingZeros_0f7a4_34 (q := 35) rfl rfl rfl ?_
      refine E_sipush (x := 256) dJ6_numberOfTrailingZeros_0f7a4_35 (q := 38) rfl (by decide) ?_
      refine E_icmp_le dJ6_numberOfTrailingZeros_0f7a4_38 (t := 49) (by decide) (q := 41) rfl (fun c10 => ?_) (fun c10 => ?_)
      · have hf := if_t c10 hf
        refine E_iload_n 0 dJ6_numberOfTrailingZeros_0f7a4_49 (q := 50) rfl rfl rfl ?_
        refine E_bipush (x := 16) dJ6_numberOfTrailingZeros_0f7a4_50 (q := 52) rfl (by decide) ?_
        refine E_icmp_le dJ6_numberOfTrailingZeros_0f7a4_52 (t := 62) (by decide) (q := 55) rfl (fun c11 => ?_) (fun c11 => ?_)
        · have hf := if_t c11 hf
          refine E_iload_n 0 dJ6_numberOfTrailingZeros_0f7a4_62 (q := 63) rfl rfl rfl ?_
          refine E_iconst (x := 4) dJ6_numberOfTrailingZeros_0f7a4_63 (q := 64) rfl (by decide) ?_
          refine E_icmp_le dJ6_numberOfTrailingZeros_0f7a4_64 (t := 74) (by decide) (q := 67) rfl (fun c12 => ?_) (fun c12 => ?_)
          · have hf := if_t c12 hf
            refine E_iload_n 1 dJ6_numberOfTrailingZeros_0f7a4_74 (q := 75) rfl rfl rfl ?_
            refine E_iload_n 0 dJ6_numberOfTrailingZeros_0f7a4_75 (q := 76) rfl rfl rfl ?_
            refine E_iconst (x := 1) dJ6_numberOfTrailingZeros_0f7a4_76 (q := 77) rfl (by decide) ?_
            refine E_iushr dJ6_numberOfTrailingZeros_0f7a4_77 (q := 78) rfl ?_
            refine E_iadd dJ6_numberOfTrailingZeros_0f7a4_78 (q := 79) rfl ?_
            obtain rfl := Option.some.inj hf
            exact E_iret dJ6_numberOfTrailingZeros_0f7a4_79 rfl ⟨rfl, rfl, rfl⟩
          · have hf := if_f c12 hf
            refine E_iinc 1 [(1, .int ((1 + 16) + 2)), (0, .int (((((a0 ^^^ (-1)) &&& (a0 - 1))).toUInt32 >>> ((16 : Int32).toUInt32 &&& Int32.toUInt32 31)).toInt32))] dJ6_numberOfTrailingZeros_0f7a4_67 (q := 70) rfl rfl rfl (Nat.le_of_ble_eq_true rfl) rfl ?_
            refine E_iload_n 1 dJ6_numberOfTrailingZeros_0f7a4_70 (q := 71) rfl rfl rfl ?_
            refine E_iconst (x := 2) dJ6_numberOfTrailingZeros_0f7a4_71 (q := 72) rfl (by decide) ?_
            refine E_iushr dJ6_numberOfTrailingZeros_0f7a4_72 (q := 73) rfl ?_
            refine E_istore_n [(0, .int (((((((a0 ^^^ (-1)) &&& (a0 - 1))).toUInt32 >>> ((16 : Int32).toUInt32 &&& Int32.toUInt32 31)).toInt32).toUInt32 >>> ((2 : Int32).toUInt32 &&& Int32.toUInt32 31)).toInt32)), (1, .int ((1 + 16) + 2))] dJ6_numberOfTrailingZeros_0f7a4_73 (q := 74) rfl rfl (Nat.le_of_ble_eq_true rfl) rfl ?_
            refine E_iload_n 1 dJ6_numberOfTrailingZeros_0f7a4_74 (q := 75) rfl rfl rfl ?_
            refine E_iload_n 0 dJ6_numberOfTrailingZeros_0f7a4_75 (q := 76) rfl rfl rfl ?_
            refine E_iconst (x := 1) dJ6_numberOfTrailingZeros_0f7a4_76 (q := 77) rfl (by decide) ?_
            refine E_iushr dJ6_numberOfTrailingZeros_0f7a4_77 (q := 78) rfl ?_
            refine E_iadd dJ6_numberOfTrailingZeros_0f7a4_78 (q := 79) rfl ?_
            obtain rfl := Option.some.inj hf
            exact E_iret dJ6_numberOfTrailingZeros_0f7a4_79 rfl ⟨rfl, rfl, rfl⟩
        · have hf := if_f c11 hf
          refine E_iinc 1 [(1, .int ((1 + 16) + 4)), (0, .int (((((a0 ^^^ (-1)) &&& (a0 - 1))).toUInt32 >>> ((16 : Int32).toUInt32 &&& Int32.toUInt32 31)).toInt32))] dJ6_numberOfTrailingZeros_0f7a4_55 (q := 58) rfl rfl rfl (Nat.le_of_ble_eq_true rfl) rfl ?_
          refine E_iload_n 1 dJ6_numberOfTrailingZeros_0f7a4_58 (q := 59) rfl rfl rfl ?_
          refine E_iconst (x := 4) dJ6_numberOfTrailingZeros_0f7a4_59 (q := 60) rfl (by decide) ?_
          refine E_iushr dJ6_numberOfTrailingZeros_0f7a4_60 (q := 61) rfl ?_
          refine E_istore_n [(0, .int (((((((a0 ^^^ (-1)) &&& (a0 - 1))).toUInt32 >>> ((16 : Int32).toUInt32 &&& Int32.toUInt32 31)).toInt32).toUInt32 >>> ((4 : Int32).toUInt32 &&& Int32.toUInt32 31)).toInt32)), (1, .int ((1 + 16) + 4))] dJ6_numberOfTrailingZeros_0f7a4_61 (q := 62) rfl rfl (Nat.le_of_ble_eq_true rfl) rfl ?_
          refine E_iload_n 0 dJ6_numberOfTrailingZeros_0f7a4_62 (q := 63) rfl rfl rfl ?_
          refine E_iconst (x := 4) dJ6_numberOfTrailingZeros_0f7a4_63 (q := 64) rfl (by decide) ?_
          refine E_icmp_le dJ6_numberOfTrailingZeros_0f7a4_64 (t := 74) (by decide) (q := 67) rfl (fun c13 => ?_) (fun c13 => ?_)
          · have hf := if_t c13 hf
            refine E_iload_n 1 dJ6_numberOfTrailingZeros_0f7a4_74 (q := 75) rfl rfl rfl ?_
            refine E_iload_n 0 dJ6_numberOfTrailingZeros_0f7a4_75 (q := 76) rfl rfl rfl ?_
            refine E_iconst (x := 1) dJ6_numberOfTrailingZeros_0f7a4_76 (q := 77) rfl (by decide) ?_
            refine E_iushr dJ6_numberOfTrailingZeros_0f7a4_77 (q := 78) rfl ?_
            refine E_iadd dJ6_numberOfTrailingZeros_0f7a4_78 (q := 79) rfl ?_
            obtain rfl := Option.some.inj hf
            exact E_iret dJ6_numberOfTrailingZeros_0f7a4_79 rfl ⟨rfl, rfl, rfl⟩
          · have hf := if_f c13 hf
            refine E_iinc 1 [(1, .int (((1 + 16) + 4) + 2)), (0, .int (((((((a0 ^^^ (-1)) &&& (a0 - 1))).toUInt32 >>> ((16 : Int32).toUInt32 &&& Int32.toUInt32 31)).toInt32).toUInt32 >>> ((4 : Int32).toUInt32 &&& Int32.toUInt32 31)).toInt32))] dJ6_numberOfTrailingZeros_0f7a4_67 (q := 70) rfl rfl rfl (Nat.le_of_ble_eq_true rfl) rfl ?_
            refine E_iload_n 1 dJ6_numberOfTrailingZeros_0f7a4_70 (q := 71) rfl rfl rfl ?_
            refine E_iconst (x := 2) dJ6_numberOfTrailingZeros_0f7a4_71 (q := 72) rfl (by decide) ?_
            refine E_iushr dJ6_numberOfTrailingZeros_0f7a4_72 (q := 73) rfl ?_
            refine E_istore_n [(0, .int (((((((((a0 ^^^ (-1)) &&& (a0 - 1))).toUInt32 >>> ((16 : Int32).toUInt32 &&& Int32.toUInt32 31)).toInt32).toUInt32 >>> ((4 : Int32).toUInt32 &&& Int32.toUInt32 31)).toInt32).toUInt32 >>> ((2 : Int32).toUInt32 &&& Int32.toUInt32 31)).toInt32)), (1, .int (((1 + 16) + 4) + 2))] dJ6_numberOfTrailingZeros_0f7a4_73 (q := 74) rfl rfl (Nat.le_of_ble_eq_true rfl) rfl ?_
            refine E_iload_n 1 dJ6_numberOfTrailingZeros_0f7a4_74 (q := 75) rfl rfl rfl ?_
            refine E_iload_n 0 dJ6_numberOfTrailingZeros_0f7a4_75 (q := 76) rfl rfl rfl ?_
            refine E_iconst (x := 1) dJ6_numberOfTrailingZeros_0f7a4_76 (q := 77) rfl (by decide) ?_
            refine E_iushr dJ6_numberOfTrailingZeros_0f7a4_77 (q := 78) rfl ?_
            refine E_iadd dJ6_numberOfTrailingZeros_0f7a4_78 (q := 79) rfl ?_
            obtain rfl := Option.some.inj hf
            exact E_iret dJ6_numberOfTrailingZeros_0f7a4_79 rfl ⟨rfl, rfl, rfl⟩
      · have hf := if_f c10 hf
        refine E_iinc 1 [(1, .int ((1 + 16) + 8)), (0, .int (((((a0 ^^^ (-1)) &&& (a0 - 1))).toUInt32 >>> ((16 : Int32).toUInt32 &&& Int32.toUInt32 31)).toInt32))] dJ6_numberOfTrailingZeros_0f7a4_41 (q := 44) rfl rfl rfl (Nat.le_of_ble_eq_true rfl) rfl ?_
        refine E_iload_n 1 dJ6_numberOfTrailingZeros_0f7a4_44 (q := 45) rfl rfl rfl ?_
        refine E_bipush (x := 8) dJ6_numberOfTrailingZeros_0f7a4_45 (q := 47) rfl (by decide) ?_
        refine E_iushr dJ6_numberOfTrailingZeros_0f7a4_47 (q := 48) rfl ?_
        refine E_istore_n [(0, .int (((((((a0 ^^^ (-1)) &&& (a0 - 1))).toUInt32 >>> ((16 : Int32).toUInt32 &&& Int32.toUInt32 31)).toInt32).toUInt32 >>> ((8 : Int32).toUInt32 &&& Int32.toUInt32 31)).toInt32)), (1, .int ((1 + 16) + 8))] dJ6_numberOfTrailingZeros_0f7a4_48 (q := 49) rfl rfl (Nat.le_of_ble_eq_true rfl) rfl ?_
        refine E_iload_n 0 dJ6_numberOfTrailingZeros_0f7a4_49 (q := 50) rfl rfl rfl ?_
        refine E_bipush (x := 16) dJ6_numberOfTrailingZeros_0f7a4_50 (q := 52) rfl (by decide) ?_
        refine E_icmp_le dJ6_numberOfTrailingZeros_0f7a4_52 (t := 62) (by decide) (q := 55) rfl (fun c14 => ?_) (fun c14 => ?_)
        · have hf := if_t c14 hf
          refine E_iload_n 0 dJ6_numberOfTrailingZeros_0f7a4_62 (q := 63) rfl rfl rfl ?_
          refine E_iconst (x := 4) dJ6_numberOfTrailingZeros_0f7a4_63 (q := 64) rfl (by decide) ?_
          refine E_icmp_le dJ6_numberOfTrailingZeros_0f7a4_64 (t := 74) (by decide) (q := 67) rfl (fun c15 => ?_) (fun c15 => ?_)
          · have hf := if_t c15 hf
            refine E_iload_n 1 dJ6_numberOfTrailingZeros_0f7a4_74 (q := 75) rfl rfl rfl ?_
            refine E_iload_n 0 dJ6_numberOfTrailingZeros_0f7a4_75 (q := 76) rfl rfl rfl ?_
            refine E_iconst (x := 1) dJ6_numberOfTrailingZeros_0f7a4_76 (q := 77) rfl (by decide) ?_
            refine E_iushr dJ6_numberOfTrailingZeros_0f7a4_77 (q := 78) rfl ?_
            refine E_iadd dJ6_numberOfTrailingZeros_0f7a4_78 (q := 79) rfl ?_
            obtain rfl := Option.some.inj hf
            exact E_iret dJ6_numberOfTrailingZeros_0f7a4_79 rfl ⟨rfl, rfl, rfl⟩
          · have hf := if_f c15 hf
            refine E_iinc 1 [(1, .int (((1 + 16) + 8) + 2)), (0, .int (((((((a0 ^^^ (-1)) &&& (a0 - 1))).toUInt32 >>> ((16 : Int32).toUInt32 &&& Int32.toUInt32 31)).toInt32).toUInt32 >>> ((8 : Int32).toUInt32 &&& Int32.toUInt32 31)).toInt32))] dJ6_numberOfTrailingZeros_0f7a4_67 (q := 70) rfl rfl rfl (Nat.le_of_ble_eq_true rfl) rfl ?_
            refine E_iload_n 1 dJ6_numberOfTrailingZeros_0f7a4_70 (q := 71) rfl rfl rfl ?_
            refine E_iconst (x := 2) dJ6_numberOfTrailingZeros_0f7a4_71 (q := 72) rfl (by decide) ?_
            refine E_iushr dJ6_numberOfTrailingZeros_0f7a4_72 (q := 73) rfl ?_
            refine E_istore_n [(0, .int (((((((((a0 ^^^ (-1)) &&& (a0 - 1))).toUInt32 >>> ((16 : Int32).toUInt32 &&& Int32.toUInt32 31)).toInt32).toUInt32 >>> ((8 : Int32).toUInt32 &&& Int32.toUInt32 31)).toInt32).toUInt32 >>> ((2 : Int32).toUInt32 &&& Int32.toUInt32 31)).toInt32)), (1, .int (((1 + 16) + 8) + 2))] dJ6_numberOfTrailingZeros_0f7a4_73 (q := 74) rfl rfl (Nat.le_of_ble_eq_true rfl) rfl ?_
            refine E_iload_n 1 dJ6_numberOfTrailingZeros_0f7a4_74 (q := 75) rfl rfl rfl ?_
            refine E_iload_n 0 dJ6_numberOfTrailingZeros_0f7a4_75 (q := 76) rfl rfl rfl ?_
            refine E_iconst (x := 1) dJ6_numberOfTrailingZeros_0f7a4_76 (q := 77) rfl (by decide) ?_
            refine E_iushr dJ6_numberOfTrailingZeros_0f7a4_77 (q := 78) rfl ?_
            refine E_iadd dJ6_numberOfTrailingZeros_0f7a4_78 (q := 79) rfl ?_
            obtain rfl := Option.some.inj hf
            exact E_iret dJ6_numberOfTrailingZeros_0f7a4_79 rfl ⟨rfl, rfl, rfl⟩
        · have hf := if_f c14 hf
          refine E_iinc 1 [(1, .int (((1 + 16) + 8) + 4)), (0, .int (((((((a0 ^^^ (-1)) &&& (a0 - 1))).toUInt32 >>> ((16 : Int32).toUInt32 &&& Int32.toUInt32 31)).toInt32).toUInt32 >>> ((8 : Int32).toUInt32 &&& Int32.toUInt32 31)).toInt32))] dJ6_numberOfTrailingZeros_0f7a4_55 (q := 58) rfl rfl rfl (Nat.le_of_ble_eq_true rfl) rfl ?_
          refine E_iload_n 1 dJ6_numberOfTrailingZeros_0f7a4_58 (q := 59) rfl rfl rfl ?_
          refine E_iconst (x := 4) dJ6_numberOfTrailingZeros_0f7a4_59 (q := 60) rfl (by decide) ?_
          refine E_iushr dJ6_numberOfTrailingZeros_0f7a4_60 (q := 61) rfl ?_
          refine E_istore_n [(0, .int (((((((((a0 ^^^ (-1)) &&& (a0 - 1))).toUInt32 >>> ((16 : Int32).toUInt32 &&& Int32.toUInt32 31)).toInt32).toUInt32 >>> ((8 : Int32).toUInt32 &&& Int32.toUInt32 31)).toInt32).toUInt32 >>> ((4 : Int32).toUInt32 &&& Int32.toUInt32 31)).toInt32)), (1, .int (((1 + 16) + 8) + 4))] dJ6_numberOfTrailingZeros_0f7a4_61 (q := 62) rfl rfl (Nat.le_of_ble_eq_true rfl) rfl ?_
          refine E_iload_n 0 dJ6_numberOfTrailingZeros_0f7a4_62 (q := 63) rfl rfl rfl ?_
          refine E_iconst (x := 4) dJ6_numberOfTrailingZeros_0f7a4_63 (q := 64) rfl (by decide) ?_
          refine E_icmp_le dJ6_numberOfTrailingZeros_0f7a4_64 (t := 74) (by decide) (q := 67) rfl (fun c16 => ?_) (fun c16 => ?_)
          · have hf := if_t c16 hf
            refine E_iload_n 1 dJ6_numberOfTrailingZeros_0f7a4_74 (q := 75) rfl rfl rfl ?_
            refine E_iload_n 0 dJ6_numberOfTrailingZeros_0f7a4_75 (q := 76) rfl rfl rfl ?_
            refine E_iconst (x := 1) dJ6_numberOfTrailingZeros_0f7a4_76 (q := 77) rfl (by decide) ?_
            refine E_iushr dJ6_numberOfTrailingZeros_0f7a4_77 (q := 78) rfl ?_
            refine E_iadd dJ6_numberOfTrailingZeros_0f7a4_78 (q := 79) rfl ?_
            obtain rfl := Option.some.inj hf
            exact E_iret dJ6_numberOfTrailingZeros_0f7a4_79 rfl ⟨rfl, rfl, rfl⟩
          · have hf := if_f c16 hf
            refine E_iinc 1 [(1, .int ((((1 + 16) + 8) + 4) + 2)), (0, .int (((((((((a0 ^^^ (-1)) &&& (a0 - 1))).toUInt32 >>> ((16 : Int32).toUInt32 &&& Int32.toUInt32 31)).toInt32).toUInt32 >>> ((8 : Int32).toUInt32 &&& Int32.toUInt32 31)).toInt32).toUInt32 >>> ((4 : Int32).toUInt32 &&& Int32.toUInt32 31)).toInt32))] dJ6_numberOfTrailingZeros_0f7a4_67 (q := 70) rfl rfl rfl (Nat.le_of_ble_eq_true rfl) rfl ?_
            refine E_iload_n 1 dJ6_numberOfTrailingZeros_0f7a4_70 (q := 71) rfl rfl rfl ?_
            refine E_iconst (x := 2) dJ6_numberOfTrailingZeros_0f7a4_71 (q := 72) rfl (by decide) ?_
            refine E_iushr dJ6_numberOfTrailingZeros_0f7a4_72 (q := 73) rfl ?_
            refine E_istore_n [(0, .int (((((((((((a0 ^^^ (-1)) &&& (a0 - 1))).toUInt32 >>> ((16 : Int32).toUInt32 &&& Int32.toUInt32 31)).toInt32).toUInt32 >>> ((8 : Int32).toUInt32 &&& Int32.toUInt32 31)).toInt32).toUInt32 >>> ((4 : Int32).toUInt32 &&& Int32.toUInt32 31)).toInt32).toUInt32 >>> ((2 : Int32).toUInt32 &&& Int32.toUInt32 31)).toInt32)), (1, .int ((((1 + 16) + 8) + 4) + 2))] dJ6_numberOfTrailingZeros_0f7a4_73 (q := 74) rfl rfl (Nat.le_of_ble_eq_true rfl) rfl ?_
            refine E_iload_n 1 dJ6_numberOfTrailingZeros_0f7a4_74 (q := 75) rfl rfl rfl ?_
            refine E_iload_n 0 dJ6_numberOfTrailingZeros_0f7a4_75 (q := 76) rfl rfl rfl ?_
            refine E_iconst (x := 1) dJ6_numberOfTrailingZeros_0f7a4_76 (q := 77) rfl (by decide) ?_
            refine E_iushr dJ6_numberOfTrailingZeros_0f7a4_77 (q := 78) rfl ?_
            refine E_iadd dJ6_numberOfTrailingZeros_0f7a4_78 (q := 79) rfl ?_
            obtain rfl := Option.some.inj hf
            exact E_iret dJ6_numberOfTrailingZeros_0f7a4_79 rfl ⟨rfl, rfl, rfl⟩
  · have hf := if_f c1 hf
    refine E_iload_n 0 dJ6_numberOfTrailingZeros_0f7a4_12 (q := 13) rfl rfl rfl ?_
    refine E_bipush (x := 32) dJ6_numberOfTrailingZeros_0f7a4_13 (q := 15) rfl (by decide) ?_
    refine E_iand dJ6_numberOfTrailingZeros_0f7a4_15 (q := 16) rfl ?_
    obtain rfl := Option.some.inj hf
    exact E_iret dJ6_numberOfTrailingZeros_0f7a4_16 rfl ⟨rfl, rfl, rfl⟩

-- PostRelief.within(III)Z
def f_X6_within (N : Nat) (a0 : Int32) (a1 : Int32) (a2 : Int32) : Option (Int32) :=
  (if a0 < a1 then some 0 else (if a2 < a0 then some 0 else some 1))
set_option maxHeartbeats 4000000 in
set_option maxRecDepth 100000 in
theorem m_X6_within {γ : GX} {n : Nat} {N : Nat} {h : HP} {a0 : Int32} {a1 : Int32} {a2 : Int32}   {z : Int32} (hf : f_X6_within N a0 a1 a2 = some z)  : Ct γ M_X6_within n h [.int a0, .int a1, .int a2] (Done (some (.int z)) n h) := by
  refine Ct_of_Ev (by decide) (fun h => by cases h) (Nat.le_of_ble_eq_true rfl) ?_
  show Ev γ M_X6_within (0, 0) n h [(0, .int a0), (1, .int a1), (2, .int a2)] 0 [] _
  unfold f_X6_within at hf
  refine E_iload_n 0 dX6_within_0 (q := 1) rfl rfl rfl ?_
  refine E_iload_n 1 dX6_within_1 (q := 2) rfl rfl rfl ?_
  refine E_icmp_lt dX6_within_2 (t := 14) (by decide) (q := 5) rfl (fun c1 => ?_) (fun c1 => ?_)
  · have hf := if_t c1 hf
    refine E_iconst (x := 0) dX6_within_14 (q := 15) rfl (by decide) ?_
    obtain rfl := Option.some.inj hf
    exact E_zret dX6_within_15 rfl rfl ⟨rfl, rfl, rfl⟩
  · have hf := if_f c1 hf
    refine E_iload_n 0 dX6_within_5 (q := 6) rfl rfl rfl ?_
    refine E_iload_n 2 dX6_within_6 (q := 7) rfl rfl rfl ?_
    refine E_icmp_gt dX6_within_7 (t := 14) (by decide) (q := 10) rfl (fun c2 => ?_) (fun c2 => ?_)
    · have hf := if_t c2 hf
      refine E_iconst (x := 0) dX6_within_14 (q := 15) rfl (by decide) ?_
      obtain rfl := Option.some.inj hf
      exact E_zret dX6_within_15 rfl rfl ⟨rfl, rfl, rfl⟩
    · have hf := if_f c2 hf
      refine E_iconst (x := 1) dX6_within_10 (q := 11) rfl (by decide) ?_
      refine E_goto (q := 15) dX6_within_11 (by decide) ?_
      obtain rfl := Option.some.inj hf
      exact E_zret dX6_within_15 rfl rfl ⟨rfl, rfl, rfl⟩

-- PostRelief.power(II)I
def b_X6_power_1 (N : Nat) (p0 : Int32) (p1 : Int32) (v2 : Int32) (v3 : Int32) : Option ((Int32 × Int32) ⊕ (Int32)) :=
  (if p1 ≤ v3 then some (.inr v2) else some (.inl ((v2 * p0), (v3 + 1))))
def f_X6_power (N : Nat) (a0 : Int32) (a1 : Int32) : Option (Int32) :=
  ((lp (fun s => b_X6_power_1 N a0 a1 s.1 s.2) N (1, 0)).bind fun t3 => some t3)
set_option maxHeartbeats 4000000 in
set_option maxRecDepth 100000 in
theorem L_X6_power_1 {γ : GX} {n : Nat} {h : HP} {Ψ : PS} {N : Nat} {p0 : Int32} {p1 : Int32}   {s0 : Int32 × Int32} {t : Int32} (hf : lp (fun s => b_X6_power_1 N p0 p1 s.1 s.2) N s0 = some t) (K : Ev γ M_X6_power (0, 0) n h [(2, .int t)] 19 [] Ψ) : Ev γ M_X6_power (0, 0) n h [(0, .int p0), (1, .int p1), (2, .int s0.1), (3, .int s0.2)] 4 [] Ψ := by
  refine E_lp (P := fun s => Ev γ M_X6_power (0, 0) n h [(0, .int p0), (1, .int p1), (2, .int s.1), (3, .int s.2)] 4 [] Ψ) (K := fun t => Ev γ M_X6_power (0, 0) n h [(2, .int t)] 19 [] Ψ) ?_ N s0 t hf K
  intro s r hf hP hK
  obtain ⟨v2, v3⟩ := s
  unfold b_X6_power_1 at hf
  try dsimp only at hf
  show Ev γ M_X6_power (0, 0) n h [(0, .int p0), (1, .int p1), (2, .int v2), (3, .int v3)] 4 [] Ψ
  refine E_iload_n 3 dX6_power_4 (q := 5) rfl rfl rfl ?_
  refine E_iload_n 1 dX6_power_5 (q := 6) rfl rfl rfl ?_
  refine E_icmp_ge dX6_power_6 (t := 19) (by decide) (q := 9) rfl (fun c2 => ?_) (fun c2 => ?_)
  · have hf := if_t c2 hf
    exact E_sub [2] rfl (hK _ (Option.some.inj hf).symm)
  · have hf := if_f c2 hf
    refine E_iload_n 2 dX6_power_9 (q := 10) rfl rfl rfl ?_
    refine E_iload_n 0 dX6_power_10 (q := 11) rfl rfl rfl ?_
    refine E_imul dX6_power_11 (q := 12) rfl ?_
    refine E_istore_n [(2, .int (v2 * p0)), (0, .int p0), (1, .int p1), (3, .int v3)] dX6_power_12 (q := 13) rfl rfl (Nat.le_of_ble_eq_true rfl) rfl ?_
    refine E_iinc 3 [(3, .int (v3 + 1)), (2, .int (v2 * p0)), (0, .int p0), (1, .int p1)] dX6_power_13 (q := 16) rfl rfl rfl (Nat.le_of_ble_eq_true rfl) rfl ?_
    refine E_goto (q := 4) dX6_power_16 (by decide) ?_
    exact E_sub [2, 3, 1, 0] rfl (hP _ (Option.some.inj hf).symm)
set_option maxHeartbeats 4000000 in
set_option maxRecDepth 100000 in
theorem m_X6_power {γ : GX} {n : Nat} {N : Nat} {h : HP} {a0 : Int32} {a1 : Int32}   {z : Int32} (hf : f_X6_power N a0 a1 = some z)  : Ct γ M_X6_power n h [.int a0, .int a1] (Done (some (.int z)) n h) := by
  refine Ct_of_Ev (by decide) (fun h => by cases h) (Nat.le_of_ble_eq_true rfl) ?_
  show Ev γ M_X6_power (0, 0) n h [(0, .int a0), (1, .int a1)] 0 [] _
  unfold f_X6_power at hf
  refine E_iconst (x := 1) dX6_power_0 (q := 1) rfl (by decide) ?_
  refine E_istore_n [(2, .int 1), (0, .int a0), (1, .int a1)] dX6_power_1 (q := 2) rfl rfl (Nat.le_of_ble_eq_true rfl) rfl ?_
  refine E_iconst (x := 0) dX6_power_2 (q := 3) rfl (by decide) ?_
  refine E_istore_n [(3, .int 0), (2, .int 1), (0, .int a0), (1, .int a1)] dX6_power_3 (q := 4) rfl rfl (Nat.le_of_ble_eq_true rfl) rfl ?_
  obtain ⟨t3, hxt3, hf⟩ := bnd hf
  refine E_sub [2, 3, 1, 0] rfl ?_
  refine L_X6_power_1  hxt3 ?_
  show Ev γ M_X6_power _ n h [(2, .int t3)] 19 [] _
  refine E_iload_n 0 dX6_power_19 (q := 20) rfl rfl rfl ?_
  obtain rfl := Option.some.inj hf
  exact E_iret dX6_power_20 rfl ⟨rfl, rfl, rfl⟩

-- PostRelief.commonDivisor(II)I
def b_X6_commonDivisor_1 (N : Nat) (v2 : Int32) (v3 : Int32) (v4 : Int32) : Option ((Int32 × Int32 × Int32) ⊕ (Int32)) :=
  (if 64 ≤ v4 then some (.inr v2) else (if v3 = 0 then some (.inr v2) else (if ¬ v3 = 0 then some (.inl (v3, (v2 % v3), (v4 + 1))) else none)))
def f_X6_commonDivisor (N : Nat) (a0 : Int32) (a1 : Int32) : Option (Int32) :=
  ((lp (fun s => b_X6_commonDivisor_1 N s.1 s.2.1 s.2.2) N (a0, a1, 0)).bind fun t5 => some t5)
set_option maxHeartbeats 4000000 in
set_option maxRecDepth 100000 in
theorem L_X6_commonDivisor_1 {γ : GX} {n : Nat} {h : HP} {Ψ : PS} {N : Nat}   {s0 : Int32 × Int32 × Int32} {t : Int32} (hf : lp (fun s => b_X6_commonDivisor_1 N s.1 s.2.1 s.2.2) N s0 = some t) (K : Ev γ M_X6_commonDivisor (0, 0) n h [(2, .int t)] 34 [] Ψ) : Ev γ M_X6_commonDivisor (0, 0) n h [(2, .int s0.1), (3, .int s0.2.1), (4, .int s0.2.2)] 7 [] Ψ := by
  refine E_lp (P := fun s => Ev γ M_X6_commonDivisor (0, 0) n h [(2, .int s.1), (3, .int s.2.1), (4, .int s.2.2)] 7 [] Ψ) (K := fun t => Ev γ M_X6_commonDivisor (0, 0) n h [(2, .int t)] 34 [] Ψ) ?_ N s0 t hf K
  intro s r hf hP hK
  obtain ⟨v2, v3, v4⟩ := s
  unfold b_X6_commonDivisor_1 at hf
  try dsimp only at hf
  show Ev γ M_X6_commonDivisor (0, 0) n h [(2, .int v2), (3, .int v3), (4, .int v4)] 7 [] Ψ
  refine E_iload 2 dX6_commonDivisor_7 (q := 9) rfl rfl ?_
  refine E_bipush (x := 64) dX6_commonDivisor_9 (q := 11) rfl (by decide) ?_
  refine E_icmp_ge dX6_commonDivisor_11 (t := 34) (by decide) (q := 14) rfl (fun c2 => ?_) (fun c2 => ?_)
  · have hf := if_t c2 hf
    exact E_sub [0] rfl (hK _ (Option.some.inj hf).symm)
  · have hf := if_f c2 hf
    refine E_iload_n 1 dX6_commonDivisor_14 (q := 15) rfl rfl rfl ?_
    refine E_if_eq dX6_commonDivisor_15 (t := 34) (by decide) (q := 18) rfl (fun c3 => ?_) (fun c3 => ?_)
    · have hf := if_t c3 hf
      exact E_sub [0] rfl (hK _ (Option.some.inj hf).symm)
    · have hf := if_f c3 hf
      refine E_iload_n 0 dX6_commonDivisor_18 (q := 19) rfl rfl rfl ?_
      refine E_iload_n 1 dX6_commonDivisor_19 (q := 20) rfl rfl rfl ?_
      obtain ⟨g4, hf⟩ := gd hf
      refine E_irem dX6_commonDivisor_20 (q := 21) rfl g4 ?_
      refine E_istore [(5, .int (v2 % v3)), (2, .int v2), (3, .int v3), (4, .int v4)] dX6_commonDivisor_21 (q := 23) rfl (Nat.le_of_ble_eq_true rfl) rfl ?_
      refine E_iload_n 2 dX6_commonDivisor_23 (q := 24) rfl rfl rfl ?_
      refine E_istore_n [(2, .int v3), (5, .int (v2 % v3)), (3, .int v3), (4, .int v4)] dX6_commonDivisor_24 (q := 25) rfl rfl (Nat.le_of_ble_eq_true rfl) rfl ?_
      refine E_iload 1 dX6_commonDivisor_25 (q := 27) rfl rfl ?_
      refine E_istore_n [(3, .int (v2 % v3)), (2, .int v3), (5, .int (v2 % v3)), (4, .int v4)] dX6_commonDivisor_27 (q := 28) rfl rfl (Nat.le_of_ble_eq_true rfl) rfl ?_
      refine E_iinc 3 [(4, .int (v4 + 1)), (3, .int (v2 % v3)), (2, .int v3), (5, .int (v2 % v3))] dX6_commonDivisor_28 (q := 31) rfl rfl rfl (Nat.le_of_ble_eq_true rfl) rfl ?_
      refine E_goto (q := 7) dX6_commonDivisor_31 (by decide) ?_
      exact E_sub [2, 1, 0] rfl (hP _ (Option.some.inj hf).symm)
set_option maxHeartbeats 4000000 in
set_option maxRecDepth 100000 in
theorem m_X6_commonDivisor {γ : GX} {n : Nat} {N : Nat} {h : HP} {a0 : Int32} {a1 : Int32}   {z : Int32} (hf : f_X6_commonDivisor N a0 a1 = some z)  : Ct γ M_X6_commonDivisor n h [.int a0, .int a1] (Done (some (.int z)) n h) := by
  refine Ct_of_Ev (by decide) (fun h => by cases h) (Nat.le_of_ble_eq_true rfl) ?_
  show Ev γ M_X6_commonDivisor (0, 0) n h [(0, .int a0), (1, .int a1)] 0 [] _
  unfold f_X6_commonDivisor at hf
  refine E_iload_n 0 dX6_commonDivisor_0 (q := 1) rfl rfl rfl ?_
  refine E_istore_n [(2, .int a0), (0, .int a0), (1, .int a1)] dX6_commonDivisor_1 (q := 2) rfl rfl (Nat.le_of_ble_eq_true rfl) rfl ?_
  refine E_iload_n 2 dX6_commonDivisor_2 (q := 3) rfl rfl rfl ?_
  refine E_istore_n [(3, .int a1), (2, .int a0), (0, .int a0), (1, .int a1)] dX6_commonDivisor_3 (q := 4) rfl rfl (Nat.le_of_ble_eq_true rfl) rfl ?_
  refine E_iconst (x := 0) dX6_commonDivisor_4 (q := 5) rfl (by decide) ?_
  refine E_istore [(4, .int 0), (3, .int a1), (2, .int a0), (0, .int a0), (1, .int a1)] dX6_commonDivisor_5 (q := 7) rfl (Nat.le_of_ble_eq_true rfl) rfl ?_
  obtain ⟨t5, hxt5, hf⟩ := bnd hf
  refine E_sub [2, 1, 0] rfl ?_
  refine L_X6_commonDivisor_1  hxt5 ?_
  show Ev γ M_X6_commonDivisor _ n h [(2, .int t5)] 34 [] _
  refine E_iload_n 0 dX6_commonDivisor_34 (q := 35) rfl rfl rfl ?_
  obtain rfl := Option.some.inj hf
  exact E_iret dX6_commonDivisor_35 rfl ⟨rfl, rfl, rfl⟩

-- PostRelief.leastTerms(III)I
def f_X6_leastTerms (N : Nat) (a0 : Int32) (a1 : Int32) (a2 : Int32) : Option (Int32) :=
  ((f_X6_commonDivisor N a0 a1).bind fun z1 => (if a2 = 0 then (if ¬ (if 1 < z1 then z1 else 1) = 0 then some (a0 / (if 1 < z1 then z1 else 1)) else none) else (if ¬ (if 1 < z1 then z1 else 1) = 0 then some (a1 / (if 1 < z1 then z1 else 1)) else none)))
set_option maxHeartbeats 4000000 in
set_option maxRecDepth 100000 in
theorem m_X6_leastTerms {γ : GX} {n : Nat} {N : Nat} {h : HP} {a0 : Int32} {a1 : Int32} {a2 : Int32}   {z : Int32} (hf : f_X6_leastTerms N a0 a1 a2 = some z)  : Ct γ M_X6_leastTerms n h [.int a0, .int a1, .int a2] (Done (some (.int z)) n h) := by
  refine Ct_of_Ev (by decide) (fun h => by cases h) (Nat.le_of_ble_eq_true rfl) ?_
  show Ev γ M_X6_leastTerms (0, 0) n h [(0, .int a0), (1, .int a1), (2, .int a2)] 0 [] _
  unfold f_X6_leastTerms at hf
  refine E_iconst (x := 1) dX6_leastTerms_0 (q := 1) rfl (by decide) ?_
  refine E_iload_n 0 dX6_leastTerms_1 (q := 2) rfl rfl rfl ?_
  refine E_iload_n 1 dX6_leastTerms_2 (q := 3) rfl rfl rfl ?_
  obtain ⟨z1, hxz1, hf⟩ := bnd hf
  refine E_cS (as := [.int a0, .int a1]) (rest := [.int 1]) (u' := (0, 0)) (st' := [.int z1, .int 1]) dX6_leastTerms_3 (q := 6) rfl lkm_X6_commonDivisor lks_X6_270 (Nat.le_of_ble_eq_true rfl) ⟨Nat.le_refl _, Nat.le_refl _⟩ (Nat.le_of_ble_eq_true rfl) rfl rfl (m_X6_commonDivisor (N := N)  hxz1) rfl rfl rfl ?_
  refine E_max dX6_leastTerms_6 (q := 9) rfl lkmax_X6_162 st_max in_math co_max (Nat.le_of_ble_eq_true rfl) (Nat.le_of_ble_eq_true rfl) ?_
  refine E_istore_n [(3, .int (if 1 < z1 then z1 else 1)), (0, .int a0), (1, .int a1), (2, .int a2)] dX6_leastTerms_9 (q := 10) rfl rfl (Nat.le_of_ble_eq_true rfl) rfl ?_
  refine E_iload_n 3 dX6_leastTerms_10 (q := 11) rfl rfl rfl ?_
  refine E_if_ne dX6_leastTerms_11 (t := 18) (by decide) (q := 14) rfl (fun c2 => ?_) (fun c2 => ?_)
  · have hf := if_f c2 hf
    refine E_iload_n 2 dX6_leastTerms_18 (q := 19) rfl rfl rfl ?_
    refine E_iload_n 0 dX6_leastTerms_19 (q := 20) rfl rfl rfl ?_
    obtain ⟨g4, hf⟩ := gd hf
    refine E_idiv dX6_leastTerms_20 (q := 21) rfl g4 ?_
    obtain rfl := Option.some.inj hf
    exact E_iret dX6_leastTerms_21 rfl ⟨rfl, rfl, rfl⟩
  · have hf := if_t c2 hf
    refine E_iload_n 1 dX6_leastTerms_14 (q := 15) rfl rfl rfl ?_
    refine E_goto (q := 19) dX6_leastTerms_15 (by decide) ?_
    refine E_iload_n 0 dX6_leastTerms_19 (q := 20) rfl rfl rfl ?_
    obtain ⟨g3, hf⟩ := gd hf
    refine E_idiv dX6_leastTerms_20 (q := 21) rfl g3 ?_
    obtain rfl := Option.some.inj hf
    exact E_iret dX6_leastTerms_21 rfl ⟨rfl, rfl, rfl⟩

-- PostRelief.weightOfWaking(III)I
def f_X6_weightOfWaking (N : Nat) (a0 : Int32) (a1 : Int32) (a2 : Int32) : Option (Int32) :=
  ((f_J6_bitCount N a0).bind fun z1 => ((f_X6_power N a2 z1).bind fun z2 => ((f_J6_bitCount N (a1 &&& (a0 ^^^ (-1)))).bind fun z3 => ((f_X6_power N (10 - a2) z3).bind fun z4 => some (z2 * z4)))))
set_option maxHeartbeats 4000000 in
set_option maxRecDepth 100000 in
theorem m_X6_weightOfWaking {γ : GX} {n : Nat} {N : Nat} {h : HP} {a0 : Int32} {a1 : Int32} {a2 : Int32}   {z : Int32} (hf : f_X6_weightOfWaking N a0 a1 a2 = some z)  : Ct γ M_X6_weightOfWaking n h [.int a0, .int a1, .int a2] (Done (some (.int z)) n h) := by
  refine Ct_of_Ev (by decide) (fun h => by cases h) (Nat.le_of_ble_eq_true rfl) ?_
  show Ev γ M_X6_weightOfWaking (0, 0) n h [(0, .int a0), (1, .int a1), (2, .int a2)] 0 [] _
  unfold f_X6_weightOfWaking at hf
  refine E_iload_n 2 dX6_weightOfWaking_0 (q := 1) rfl rfl rfl ?_
  refine E_iload_n 0 dX6_weightOfWaking_1 (q := 2) rfl rfl rfl ?_
  obtain ⟨z1, hxz1, hf⟩ := bnd hf
  refine E_cS (as := [.int a0]) (rest := [.int a2]) (u' := (0, 0)) (st' := [.int z1, .int a2]) dX6_weightOfWaking_2 (q := 5) rfl lkm_J6_bitCount lks_X6_141 (Nat.le_of_ble_eq_true rfl) ⟨Nat.le_refl _, Nat.le_refl _⟩ (Nat.le_of_ble_eq_true rfl) rfl rfl (m_J6_bitCount (N := N)  hxz1) rfl rfl rfl ?_
  obtain ⟨z2, hxz2, hf⟩ := bnd hf
  refine E_cS (as := [.int a2, .int z1]) (rest := []) (u' := (0, 0)) (st' := [.int z2]) dX6_weightOfWaking_5 (q := 8) rfl lkm_X6_power lks_X6_206 (Nat.le_of_ble_eq_true rfl) ⟨Nat.le_refl _, Nat.le_refl _⟩ (Nat.le_of_ble_eq_true rfl) rfl rfl (m_X6_power (N := N)  hxz2) rfl rfl rfl ?_
  refine E_bipush (x := 10) dX6_weightOfWaking_8 (q := 10) rfl (by decide) ?_
  refine E_iload_n 2 dX6_weightOfWaking_10 (q := 11) rfl rfl rfl ?_
  refine E_isub dX6_weightOfWaking_11 (q := 12) rfl ?_
  refine E_iload_n 1 dX6_weightOfWaking_12 (q := 13) rfl rfl rfl ?_
  refine E_iload_n 0 dX6_weightOfWaking_13 (q := 14) rfl rfl rfl ?_
  refine E_iconst (x := (-1)) dX6_weightOfWaking_14 (q := 15) rfl (by decide) ?_
  refine E_ixor dX6_weightOfWaking_15 (q := 16) rfl ?_
  refine E_iand dX6_weightOfWaking_16 (q := 17) rfl ?_
  obtain ⟨z3, hxz3, hf⟩ := bnd hf
  refine E_cS (as := [.int (a1 &&& (a0 ^^^ (-1)))]) (rest := [.int (10 - a2), .int z2]) (u' := (0, 0)) (st' := [.int z3, .int (10 - a2), .int z2]) dX6_weightOfWaking_17 (q := 20) rfl lkm_J6_bitCount lks_X6_141 (Nat.le_of_ble_eq_true rfl) ⟨Nat.le_refl _, Nat.le_refl _⟩ (Nat.le_of_ble_eq_true rfl) rfl rfl (m_J6_bitCount (N := N)  hxz3) rfl rfl rfl ?_
  obtain ⟨z4, hxz4, hf⟩ := bnd hf
  refine E_cS (as := [.int (10 - a2), .int z3]) (rest := [.int z2]) (u' := (0, 0)) (st' := [.int z4, .int z2]) dX6_weightOfWaking_20 (q := 23) rfl lkm_X6_power lks_X6_206 (Nat.le_of_ble_eq_true rfl) ⟨Nat.le_refl _, Nat.le_refl _⟩ (Nat.le_of_ble_eq_true rfl) rfl rfl (m_X6_power (N := N)  hxz4) rfl rfl rfl ?_
  refine E_imul dX6_weightOfWaking_23 (q := 24) rfl ?_
  obtain rfl := Option.some.inj hf
  exact E_iret dX6_weightOfWaking_24 rfl ⟨rfl, rfl, rfl⟩

-- PostRelief$Depot.empty()V
def f_X0_empty (N : Nat) (g_posts : Int32) (g_men : Int32) (g_on : Int32) (g_stove : Int32) : Option (Int32 × Int32 × Int32 × Int32) :=
  some (0, 0, 2, 3)
set_option maxHeartbeats 4000000 in
set_option maxRecDepth 100000 in
theorem m_X0_empty {γ : GX} {n : Nat} {N : Nat} {h : HP} {g_posts : Int32} {g_sees : FN} {g_cold : FN} {g_men : Int32} {g_debts : FN} {g_on : Int32} {g_stove : Int32} (hH_g : Has n 7 (dpB γ 7 g_posts g_sees g_cold g_men g_debts g_on g_stove) h) {z : Int32 × Int32 × Int32 × Int32} (hf : f_X0_empty N g_posts g_men g_on g_stove = some z)  : Ct γ M_X0_empty n h [.ref (gB γ + 7)] (Done none n (put 7 (dpB γ 7 z.1 g_sees g_cold z.2.1 g_debts z.2.2.1 z.2.2.2) h)) := by
  have hn_g : 7 + 4 ≤ n := hH_g.1
  refine Ct.heap (h := (put 7 (dpB γ 7 g_posts g_sees g_cold g_men g_debts g_on g_stove) h)) (put_self hH_g).symm ?_
  refine Ct_of_Ev (by decide) (fun h => by cases h) (Nat.le_of_ble_eq_true rfl) ?_
  show Ev γ M_X0_empty (0, 0) n (put 7 (dpB γ 7 g_posts g_sees g_cold g_men g_debts g_on g_stove) h) [(0, .ref (gB γ + 7))] 0 [] _
  unfold f_X0_empty at hf
  refine E_aload_n 0 dX0_empty_0 (q := 1) rfl rfl rfl ?_
  refine E_iconst (x := 0) dX0_empty_1 (q := 2) rfl (by decide) ?_
  have hF1 : Has n 7 (dpB γ 7 g_posts g_sees g_cold g_men g_debts g_on g_stove) (put 7 (dpB γ 7 g_posts g_sees g_cold g_men g_debts g_on g_stove) h) := (has_put hn_g)
  refine E_put 0 dX0_empty_2 (q := 5) rfl ckX0 (Nat.le_of_ble_eq_true rfl) fl_X0_28 rfl rfl rfl (hF1.at 0 rfl) (hF1.lt 0 (Nat.le_of_ble_eq_true rfl)) (Nat.le_of_ble_eq_true rfl) (up_put (i := 0) (cs' := (dpB γ 7 0 g_sees g_cold g_men g_debts g_on g_stove)) (Nat.le_of_ble_eq_true rfl) rfl) ?_
  refine E_aload_n 0 dX0_empty_5 (q := 6) rfl rfl rfl ?_
  refine E_iconst (x := 0) dX0_empty_6 (q := 7) rfl (by decide) ?_
  have hF3 : Has n 7 (dpB γ 7 0 g_sees g_cold g_men g_debts g_on g_stove) (put 7 (dpB γ 7 0 g_sees g_cold g_men g_debts g_on g_stove) h) := (has_put hn_g)
  refine E_put 3 dX0_empty_7 (q := 10) rfl ckX0 (Nat.le_of_ble_eq_true rfl) fl_X0_31 rfl rfl rfl (hF3.at 0 rfl) (hF3.lt 0 (Nat.le_of_ble_eq_true rfl)) (Nat.le_of_ble_eq_true rfl) (up_put (i := 0) (cs' := (dpB γ 7 0 g_sees g_cold 0 g_debts g_on g_stove)) (Nat.le_of_ble_eq_true rfl) rfl) ?_
  refine E_aload_n 0 dX0_empty_10 (q := 11) rfl rfl rfl ?_
  refine E_iconst (x := 2) dX0_empty_11 (q := 12) rfl (by decide) ?_
  have hF5 : Has n 7 (dpB γ 7 0 g_sees g_cold 0 g_debts g_on g_stove) (put 7 (dpB γ 7 0 g_sees g_cold 0 g_debts g_on g_stove) h) := (has_put hn_g)
  refine E_put 5 dX0_empty_12 (q := 15) rfl ckX0 (Nat.le_of_ble_eq_true rfl) fl_X0_21 rfl rfl rfl (hF5.at 0 rfl) (hF5.lt 0 (Nat.le_of_ble_eq_true rfl)) (Nat.le_of_ble_eq_true rfl) (up_put (i := 0) (cs' := (dpB γ 7 0 g_sees g_cold 0 g_debts 2 g_stove)) (Nat.le_of_ble_eq_true rfl) rfl) ?_
  refine E_aload_n 0 dX0_empty_15 (q := 16) rfl rfl rfl ?_
  refine E_iconst (x := 3) dX0_empty_16 (q := 17) rfl (by decide) ?_
  have hF7 : Has n 7 (dpB γ 7 0 g_sees g_cold 0 g_debts 2 g_stove) (put 7 (dpB γ 7 0 g_sees g_cold 0 g_debts 2 g_stove) h) := (has_put hn_g)
  refine E_put 6 dX0_empty_17 (q := 20) rfl ckX0 (Nat.le_of_ble_eq_true rfl) fl_X0_25 rfl rfl rfl (hF7.at 0 rfl) (hF7.lt 0 (Nat.le_of_ble_eq_true rfl)) (Nat.le_of_ble_eq_true rfl) (up_put (i := 0) (cs' := (dpB γ 7 0 g_sees g_cold 0 g_debts 2 3)) (Nat.le_of_ble_eq_true rfl) rfl) ?_
  obtain rfl := Option.some.inj hf
  exact E_vret dX0_empty_20 rfl ⟨rfl, rfl, rfl⟩

-- PostRelief$Depot.become(LPostRelief$Depot;)V
def f_X0_become (N : Nat) (d_posts : Int32) (d_sees : FN) (d_cold : FN) (d_men : Int32) (d_debts : FN) (d_on : Int32) (d_stove : Int32) (g_posts : Int32) (g_sees : FN) (g_cold : FN) (g_men : Int32) (g_debts : FN) (g_on : Int32) (g_stove : Int32) : Option (Int32 × FN × FN × Int32 × FN × Int32 × Int32) :=
  some (g_posts, (va_cpy g_sees d_sees (ci 0) (ci 0) (ci 5)), (va_cpy g_cold d_cold (ci 0) (ci 0) (ci 5)), g_men, (va_cpy g_debts d_debts (ci 0) (ci 0) (ci 6)), g_on, g_stove)
set_option maxHeartbeats 4000000 in
set_option maxRecDepth 100000 in
theorem m_X0_become {γ : GX} {n : Nat} {N : Nat} {h : HP} {d_posts : Int32} {d_sees : FN} {d_cold : FN} {d_men : Int32} {d_debts : FN} {d_on : Int32} {d_stove : Int32} {g_posts : Int32} {g_sees : FN} {g_cold : FN} {g_men : Int32} {g_debts : FN} {g_on : Int32} {g_stove : Int32} (hH_d : Has n 3 (dpB γ 3 d_posts d_sees d_cold d_men d_debts d_on d_stove) h) (hH_g : Has n 7 (dpB γ 7 g_posts g_sees g_cold g_men g_debts g_on g_stove) h) {z : Int32 × FN × FN × Int32 × FN × Int32 × Int32} (hf : f_X0_become N d_posts d_sees d_cold d_men d_debts d_on d_stove g_posts g_sees g_cold g_men g_debts g_on g_stove = some z)  : Ct γ M_X0_become n h [.ref (gB γ + 3), .ref (gB γ + 7)] (Done none n (put 3 (dpB γ 3 z.1 z.2.1 z.2.2.1 z.2.2.2.1 z.2.2.2.2.1 z.2.2.2.2.2.1 z.2.2.2.2.2.2) h)) := by
  have hn_d : 3 + 4 ≤ n := hH_d.1
  refine Ct.heap (h := (put 3 (dpB γ 3 d_posts d_sees d_cold d_men d_debts d_on d_stove) h)) (put_self hH_d).symm ?_
  refine Ct_of_Ev (by decide) (fun h => by cases h) (Nat.le_of_ble_eq_true rfl) ?_
  show Ev γ M_X0_become (0, 0) n (put 3 (dpB γ 3 d_posts d_sees d_cold d_men d_debts d_on d_stove) h) [(0, .ref (gB γ + 3)), (1, .ref (gB γ + 7))] 0 [] _
  unfold f_X0_become at hf
  refine E_aload_n 0 dX0_become_0 (q := 1) rfl rfl rfl ?_
  refine E_aload_n 1 dX0_become_1 (q := 2) rfl rfl rfl ?_
  have hF1 : Has n 7 (dpB γ 7 g_posts g_sees g_cold g_men g_debts g_on g_stove) (put 3 (dpB γ 3 d_posts d_sees d_cold d_men d_debts d_on d_stove) h) := (has_out hH_g (Or.inr (Nat.le_of_ble_eq_true rfl)))
  refine E_get 0 dX0_become_2 (q := 5) rfl ckX0 (Nat.le_of_ble_eq_true rfl) fl_X0_28 (hF1.at 0 rfl) (hF1.lt 0 (Nat.le_of_ble_eq_true rfl)) rfl ?_
  have hF2 : Has n 3 (dpB γ 3 d_posts d_sees d_cold d_men d_debts d_on d_stove) (put 3 (dpB γ 3 d_posts d_sees d_cold d_men d_debts d_on d_stove) h) := (has_put hn_d)
  refine E_put 0 dX0_become_5 (q := 8) rfl ckX0 (Nat.le_of_ble_eq_true rfl) fl_X0_28 rfl rfl rfl (hF2.at 0 rfl) (hF2.lt 0 (Nat.le_of_ble_eq_true rfl)) (Nat.le_of_ble_eq_true rfl) (up_put (i := 0) (cs' := (dpB γ 3 g_posts d_sees d_cold d_men d_debts d_on d_stove)) (Nat.le_of_ble_eq_true rfl) rfl) ?_
  refine E_aload_n 1 dX0_become_8 (q := 9) rfl rfl rfl ?_
  have hF4 : Has n 7 (dpB γ 7 g_posts g_sees g_cold g_men g_debts g_on g_stove) (put 3 (dpB γ 3 g_posts d_sees d_cold d_men d_debts d_on d_stove) h) := (has_out hH_g (Or.inr (Nat.le_of_ble_eq_true rfl)))
  refine E_get 1 dX0_become_9 (q := 12) rfl ckX0 (Nat.le_of_ble_eq_true rfl) fl_X0_9 (hF4.at 0 rfl) (hF4.lt 0 (Nat.le_of_ble_eq_true rfl)) rfl ?_
  refine E_iconst (x := 0) dX0_become_12 (q := 13) rfl (by decide) ?_
  refine E_aload_n 0 dX0_become_13 (q := 14) rfl rfl rfl ?_
  have hF5 : Has n 3 (dpB γ 3 g_posts d_sees d_cold d_men d_debts d_on d_stove) (put 3 (dpB γ 3 g_posts d_sees d_cold d_men d_debts d_on d_stove) h) := (has_put hn_d)
  refine E_get 1 dX0_become_14 (q := 17) rfl ckX0 (Nat.le_of_ble_eq_true rfl) fl_X0_9 (hF5.at 0 rfl) (hF5.lt 0 (Nat.le_of_ble_eq_true rfl)) rfl ?_
  refine E_iconst (x := 0) dX0_become_17 (q := 18) rfl (by decide) ?_
  refine E_iconst (x := 5) dX0_become_18 (q := 19) rfl (by decide) ?_
  refine E_copy dX0_become_19 (q := 22) rfl lkcp_X0_34 na_cp st_cp in_sys (hF4.at 1 rfl) (hF4.lt 1 (Nat.le_of_ble_eq_true rfl)) (hF5.at 1 rfl) (hF5.lt 1 (Nat.le_of_ble_eq_true rfl)) (by decide) (by decide) (by decide) (by decide) (by decide) (Nat.le_of_ble_eq_true rfl) (Nat.le_of_ble_eq_true rfl) (up_put (i := 1) (cs' := (dpB γ 3 g_posts (va_cpy g_sees d_sees (ci 0) (ci 0) (ci 5)) d_cold d_men d_debts d_on d_stove)) (Nat.le_of_ble_eq_true rfl) rfl) ?_
  refine E_aload_n 1 dX0_become_22 (q := 23) rfl rfl rfl ?_
  have hF7 : Has n 7 (dpB γ 7 g_posts g_sees g_cold g_men g_debts g_on g_stove) (put 3 (dpB γ 3 g_posts (va_cpy g_sees d_sees (ci 0) (ci 0) (ci 5)) d_cold d_men d_debts d_on d_stove) h) := (has_out hH_g (Or.inr (Nat.le_of_ble_eq_true rfl)))
  refine E_get 2 dX0_become_23 (q := 26) rfl ckX0 (Nat.le_of_ble_eq_true rfl) fl_X0_15 (hF7.at 0 rfl) (hF7.lt 0 (Nat.le_of_ble_eq_true rfl)) rfl ?_
  refine E_iconst (x := 0) dX0_become_26 (q := 27) rfl (by decide) ?_
  refine E_aload_n 0 dX0_become_27 (q := 28) rfl rfl rfl ?_
  have hF8 : Has n 3 (dpB γ 3 g_posts (va_cpy g_sees d_sees (ci 0) (ci 0) (ci 5)) d_cold d_men d_debts d_on d_stove) (put 3 (dpB γ 3 g_posts (va_cpy g_sees d_sees (ci 0) (ci 0) (ci 5)) d_cold d_men d_debts d_on d_stove) h) := (has_put hn_d)
  refine E_get 2 dX0_become_28 (q := 31) rfl ckX0 (Nat.le_of_ble_eq_true rfl) fl_X0_15 (hF8.at 0 rfl) (hF8.lt 0 (Nat.le_of_ble_eq_true rfl)) rfl ?_
  refine E_iconst (x := 0) dX0_become_31 (q := 32) rfl (by decide) ?_
  refine E_iconst (x := 5) dX0_become_32 (q := 33) rfl (by decide) ?_
  refine E_copy dX0_become_33 (q := 36) rfl lkcp_X0_34 na_cp st_cp in_sys (hF7.at 2 rfl) (hF7.lt 2 (Nat.le_of_ble_eq_true rfl)) (hF8.at 2 rfl) (hF8.lt 2 (Nat.le_of_ble_eq_true rfl)) (by decide) (by decide) (by decide) (by decide) (by decide) (Nat.le_of_ble_eq_true rfl) (Nat.le_of_ble_eq_true rfl) (up_put (i := 2) (cs' := (dpB γ 3 g_posts (va_cpy g_sees d_sees (ci 0) (ci 0) (ci 5)) (va_cpy g_cold d_cold (ci 0) (ci 0) (ci 5)) d_men d_debts d_on d_stove)) (Nat.le_of_ble_eq_true rfl) rfl) ?_
  refine E_aload_n 0 dX0_become_36 (q := 37) rfl rfl rfl ?_
  refine E_aload_n 1 dX0_become_37 (q := 38) rfl rfl rfl ?_
  have hF10 : Has n 7 (dpB γ 7 g_posts g_sees g_cold g_men g_debts g_on g_stove) (put 3 (dpB γ 3 g_posts (va_cpy g_sees d_sees (ci 0) (ci 0) (ci 5)) (va_cpy g_cold d_cold (ci 0) (ci 0) (ci 5)) d_men d_debts d_on d_stove) h) := (has_out hH_g (Or.inr (Nat.le_of_ble_eq_true rfl)))
  refine E_get 3 dX0_become_38 (q := 41) rfl ckX0 (Nat.le_of_ble_eq_true rfl) fl_X0_31 (hF10.at 0 rfl) (hF10.lt 0 (Nat.le_of_ble_eq_true rfl)) rfl ?_
  have hF11 : Has n 3 (dpB γ 3 g_posts (va_cpy g_sees d_sees (ci 0) (ci 0) (ci 5)) (va_cpy g_cold d_cold (ci 0) (ci 0) (ci 5)) d_men d_debts d_on d_stove) (put 3 (dpB γ 3 g_posts (va_cpy g_sees d_sees (ci 0) (ci 0) (ci 5)) (va_cpy g_cold d_cold (ci 0) (ci 0) (ci 5)) d_men d_debts d_on d_stove) h) := (has_put hn_d)
  refine E_put 3 dX0_become_41 (q := 44) rfl ckX0 (Nat.le_of_ble_eq_true rfl) fl_X0_31 rfl rfl rfl (hF11.at 0 rfl) (hF11.lt 0 (Nat.le_of_ble_eq_true rfl)) (Nat.le_of_ble_eq_true rfl) (up_put (i := 0) (cs' := (dpB γ 3 g_posts (va_cpy g_sees d_sees (ci 0) (ci 0) (ci 5)) (va_cpy g_cold d_cold (ci 0) (ci 0) (ci 5)) g_men d_debts d_on d_stove)) (Nat.le_of_ble_eq_true rfl) rfl) ?_
  refine E_aload_n 1 dX0_become_44 (q := 45) rfl rfl rfl ?_
  have hF13 : Has n 7 (dpB γ 7 g_posts g_sees g_cold g_men g_debts g_on g_stove) (put 3 (dpB γ 3 g_posts (va_cpy g_sees d_sees (ci 0) (ci 0) (ci 5)) (va_cpy g_cold d_cold (ci 0) (ci 0) (ci 5)) g_men d_debts d_on d_stove) h) := (has_out hH_g (Or.inr (Nat.le_of_ble_eq_true rfl)))
  refine E_get 4 dX0_become_45 (q := 48) rfl ckX0 (Nat.le_of_ble_eq_true rfl) fl_X0_18 (hF13.at 0 rfl) (hF13.lt 0 (Nat.le_of_ble_eq_true rfl)) rfl ?_
  refine E_iconst (x := 0) dX0_become_48 (q := 49) rfl (by decide) ?_
  refine E_aload_n 0 dX0_become_49 (q := 50) rfl rfl rfl ?_
  have hF14 : Has n 3 (dpB γ 3 g_posts (va_cpy g_sees d_sees (ci 0) (ci 0) (ci 5)) (va_cpy g_cold d_cold (ci 0) (ci 0) (ci 5)) g_men d_debts d_on d_stove) (put 3 (dpB γ 3 g_posts (va_cpy g_sees d_sees (ci 0) (ci 0) (ci 5)) (va_cpy g_cold d_cold (ci 0) (ci 0) (ci 5)) g_men d_debts d_on d_stove) h) := (has_put hn_d)
  refine E_get 4 dX0_become_50 (q := 53) rfl ckX0 (Nat.le_of_ble_eq_true rfl) fl_X0_18 (hF14.at 0 rfl) (hF14.lt 0 (Nat.le_of_ble_eq_true rfl)) rfl ?_
  refine E_iconst (x := 0) dX0_become_53 (q := 54) rfl (by decide) ?_
  refine E_bipush (x := 6) dX0_become_54 (q := 56) rfl (by decide) ?_
  refine E_copy dX0_become_56 (q := 59) rfl lkcp_X0_34 na_cp st_cp in_sys (hF13.at 3 rfl) (hF13.lt 3 (Nat.le_of_ble_eq_true rfl)) (hF14.at 3 rfl) (hF14.lt 3 (Nat.le_of_ble_eq_true rfl)) (by decide) (by decide) (by decide) (by decide) (by decide) (Nat.le_of_ble_eq_true rfl) (Nat.le_of_ble_eq_true rfl) (up_put (i := 3) (cs' := (dpB γ 3 g_posts (va_cpy g_sees d_sees (ci 0) (ci 0) (ci 5)) (va_cpy g_cold d_cold (ci 0) (ci 0) (ci 5)) g_men (va_cpy g_debts d_debts (ci 0) (ci 0) (ci 6)) d_on d_stove)) (Nat.le_of_ble_eq_true rfl) rfl) ?_
  refine E_aload_n 0 dX0_become_59 (q := 60) rfl rfl rfl ?_
  refine E_aload_n 1 dX0_become_60 (q := 61) rfl rfl rfl ?_
  have hF16 : Has n 7 (dpB γ 7 g_posts g_sees g_cold g_men g_debts g_on g_stove) (put 3 (dpB γ 3 g_posts (va_cpy g_sees d_sees (ci 0) (ci 0) (ci 5)) (va_cpy g_cold d_cold (ci 0) (ci 0) (ci 5)) g_men (va_cpy g_debts d_debts (ci 0) (ci 0) (ci 6)) d_on d_stove) h) := (has_out hH_g (Or.inr (Nat.le_of_ble_eq_true rfl)))
  refine E_get 5 dX0_become_61 (q := 64) rfl ckX0 (Nat.le_of_ble_eq_true rfl) fl_X0_21 (hF16.at 0 rfl) (hF16.lt 0 (Nat.le_of_ble_eq_true rfl)) rfl ?_
  have hF17 : Has n 3 (dpB γ 3 g_posts (va_cpy g_sees d_sees (ci 0) (ci 0) (ci 5)) (va_cpy g_cold d_cold (ci 0) (ci 0) (ci 5)) g_men (va_cpy g_debts d_debts (ci 0) (ci 0) (ci 6)) d_on d_stove) (put 3 (dpB γ 3 g_posts (va_cpy g_sees d_sees (ci 0) (ci 0) (ci 5)) (va_cpy g_cold d_cold (ci 0) (ci 0) (ci 5)) g_men (va_cpy g_debts d_debts (ci 0) (ci 0) (ci 6)) d_on d_stove) h) := (has_put hn_d)
  refine E_put 5 dX0_become_64 (q := 67) rfl ckX0 (Nat.le_of_ble_eq_true rfl) fl_X0_21 rfl rfl rfl (hF17.at 0 rfl) (hF17.lt 0 (Nat.le_of_ble_eq_true rfl)) (Nat.le_of_ble_eq_true rfl) (up_put (i := 0) (cs' := (dpB γ 3 g_posts (va_cpy g_sees d_sees (ci 0) (ci 0) (ci 5)) (va_cpy g_cold d_cold (ci 0) (ci 0) (ci 5)) g_men (va_cpy g_debts d_debts (ci 0) (ci 0) (ci 6)) g_on d_stove)) (Nat.le_of_ble_eq_true rfl) rfl) ?_
  refine E_aload_n 0 dX0_become_67 (q := 68) rfl rfl rfl ?_
  refine E_aload_n 1 dX0_become_68 (q := 69) rfl rfl rfl ?_
  have hF19 : Has n 7 (dpB γ 7 g_posts g_sees g_cold g_men g_debts g_on g_stove) (put 3 (dpB γ 3 g_posts (va_cpy g_sees d_sees (ci 0) (ci 0) (ci 5)) (va_cpy g_cold d_cold (ci 0) (ci 0) (ci 5)) g_men (va_cpy g_debts d_debts (ci 0) (ci 0) (ci 6)) g_on d_stove) h) := (has_out hH_g (Or.inr (Nat.le_of_ble_eq_true rfl)))
  refine E_get 6 dX0_become_69 (q := 72) rfl ckX0 (Nat.le_of_ble_eq_true rfl) fl_X0_25 (hF19.at 0 rfl) (hF19.lt 0 (Nat.le_of_ble_eq_true rfl)) rfl ?_
  have hF20 : Has n 3 (dpB γ 3 g_posts (va_cpy g_sees d_sees (ci 0) (ci 0) (ci 5)) (va_cpy g_cold d_cold (ci 0) (ci 0) (ci 5)) g_men (va_cpy g_debts d_debts (ci 0) (ci 0) (ci 6)) g_on d_stove) (put 3 (dpB γ 3 g_posts (va_cpy g_sees d_sees (ci 0) (ci 0) (ci 5)) (va_cpy g_cold d_cold (ci 0) (ci 0) (ci 5)) g_men (va_cpy g_debts d_debts (ci 0) (ci 0) (ci 6)) g_on d_stove) h) := (has_put hn_d)
  refine E_put 6 dX0_become_72 (q := 75) rfl ckX0 (Nat.le_of_ble_eq_true rfl) fl_X0_25 rfl rfl rfl (hF20.at 0 rfl) (hF20.lt 0 (Nat.le_of_ble_eq_true rfl)) (Nat.le_of_ble_eq_true rfl) (up_put (i := 0) (cs' := (dpB γ 3 g_posts (va_cpy g_sees d_sees (ci 0) (ci 0) (ci 5)) (va_cpy g_cold d_cold (ci 0) (ci 0) (ci 5)) g_men (va_cpy g_debts d_debts (ci 0) (ci 0) (ci 6)) g_on g_stove)) (Nat.le_of_ble_eq_true rfl) rfl) ?_
  obtain rfl := Option.some.inj hf
  exact E_vret dX0_become_75 rfl ⟨rfl, rfl, rfl⟩

-- PostRelief$Depot.allPosts()I
def f_X0_allPosts (N : Nat) (d_posts : Int32) : Option (Int32) :=
  some ((1 <<< (d_posts &&& 31)) - 1)
set_option maxHeartbeats 4000000 in
set_option maxRecDepth 100000 in
theorem m_X0_allPosts {γ : GX} {n : Nat} {N : Nat} {h : HP} {d_posts : Int32} {d_sees : FN} {d_cold : FN} {d_men : Int32} {d_debts : FN} {d_on : Int32} {d_stove : Int32} (hH_d : Has n 3 (dpB γ 3 d_posts d_sees d_cold d_men d_debts d_on d_stove) h) {z : Int32} (hf : f_X0_allPosts N d_posts = some z)  : Ct γ M_X0_allPosts n h [.ref (gB γ + 3)] (Done (some (.int z)) n h) := by
  refine Ct_of_Ev (by decide) (fun h => by cases h) (Nat.le_of_ble_eq_true rfl) ?_
  show Ev γ M_X0_allPosts (0, 0) n h [(0, .ref (gB γ + 3))] 0 [] _
  unfold f_X0_allPosts at hf
  refine E_iconst (x := 1) dX0_allPosts_0 (q := 1) rfl (by decide) ?_
  refine E_aload_n 0 dX0_allPosts_1 (q := 2) rfl rfl rfl ?_
  refine E_get 0 dX0_allPosts_2 (q := 5) rfl ckX0 (Nat.le_of_ble_eq_true rfl) fl_X0_28 (hH_d.at 0 rfl) (hH_d.lt 0 (Nat.le_of_ble_eq_true rfl)) rfl ?_
  refine E_ishl dX0_allPosts_5 (q := 6) rfl ?_
  refine E_iconst (x := 1) dX0_allPosts_6 (q := 7) rfl (by decide) ?_
  refine E_isub dX0_allPosts_7 (q := 8) rfl ?_
  obtain rfl := Option.some.inj hf
  exact E_iret dX0_allPosts_8 rfl ⟨rfl, rfl, rfl⟩

-- PostRelief$Depot.seenFrom(I)I
def f_X0_seenFrom (N : Nat) (a1 : Int32) (d_posts : Int32) (d_sees : FN) : Option (Int32) :=
  (if ix a1 5 = true then ((f_X0_allPosts N d_posts).bind fun z2 => some (((d_sees (ci a1)) &&& z2) &&& ((1 <<< (a1 &&& 31)) ^^^ (-1)))) else none)
set_option maxHeartbeats 4000000 in
set_option maxRecDepth 100000 in
theorem m_X0_seenFrom {γ : GX} {n : Nat} {N : Nat} {h : HP} {a1 : Int32} {d_posts : Int32} {d_sees : FN} {d_cold : FN} {d_men : Int32} {d_debts : FN} {d_on : Int32} {d_stove : Int32} (hH_d : Has n 3 (dpB γ 3 d_posts d_sees d_cold d_men d_debts d_on d_stove) h) {z : Int32} (hf : f_X0_seenFrom N a1 d_posts d_sees = some z)  : Ct γ M_X0_seenFrom n h [.ref (gB γ + 3), .int a1] (Done (some (.int z)) n h) := by
  refine Ct_of_Ev (by decide) (fun h => by cases h) (Nat.le_of_ble_eq_true rfl) ?_
  show Ev γ M_X0_seenFrom (0, 0) n h [(0, .ref (gB γ + 3)), (1, .int a1)] 0 [] _
  unfold f_X0_seenFrom at hf
  refine E_aload_n 0 dX0_seenFrom_0 (q := 1) rfl rfl rfl ?_
  refine E_get 1 dX0_seenFrom_1 (q := 4) rfl ckX0 (Nat.le_of_ble_eq_true rfl) fl_X0_9 (hH_d.at 0 rfl) (hH_d.lt 0 (Nat.le_of_ble_eq_true rfl)) rfl ?_
  refine E_iload_n 1 dX0_seenFrom_4 (q := 5) rfl rfl rfl ?_
  obtain ⟨g1, hf⟩ := gd hf
  refine E_iald dX0_seenFrom_5 (q := 6) rfl (hH_d.at 1 rfl) (hH_d.lt 1 (Nat.le_of_ble_eq_true rfl)) g1 ?_
  refine E_aload_n 0 dX0_seenFrom_6 (q := 7) rfl rfl rfl ?_
  obtain ⟨z2, hxz2, hf⟩ := bnd hf
  refine E_cV (as := []) (k := 3) (rest := [.int (d_sees (ci a1))]) (u' := (0, 0)) (st' := [.int z2, .int (d_sees (ci a1))]) dX0_seenFrom_7 (q := 10) rfl lkm_X0_allPosts lkv_X0_40 (Nat.le_of_ble_eq_true rfl) ckX0 (hH_d.at 0 rfl) (hH_d.lt 0 (Nat.le_of_ble_eq_true rfl)) ⟨Nat.le_refl _, Nat.le_refl _⟩ (Nat.le_of_ble_eq_true rfl) rfl rfl (m_X0_allPosts (N := N)  hH_d hxz2) rfl rfl rfl ?_
  refine E_iand dX0_seenFrom_10 (q := 11) rfl ?_
  refine E_iconst (x := 1) dX0_seenFrom_11 (q := 12) rfl (by decide) ?_
  refine E_iload_n 1 dX0_seenFrom_12 (q := 13) rfl rfl rfl ?_
  refine E_ishl dX0_seenFrom_13 (q := 14) rfl ?_
  refine E_iconst (x := (-1)) dX0_seenFrom_14 (q := 15) rfl (by decide) ?_
  refine E_ixor dX0_seenFrom_15 (q := 16) rfl ?_
  refine E_iand dX0_seenFrom_16 (q := 17) rfl ?_
  obtain rfl := Option.some.inj hf
  exact E_iret dX0_seenFrom_17 rfl ⟨rfl, rfl, rfl⟩

-- PostRelief$Depot.watchedBy(I)I
def b_X0_watchedBy_1 (N : Nat) (p1 : Int32) (d_posts : Int32) (d_sees : FN) (v2 : Int32) (v3 : Int32) : Option ((Int32 × Int32) ⊕ (Int32)) :=
  (if d_posts ≤ v3 then some (.inr v2) else (if ((p1 >>> (v3 &&& 31)) &&& 1) = 1 then ((f_X0_seenFrom N v3 d_posts d_sees).bind fun z4 => some (.inl ((v2 ||| z4), (v3 + 1)))) else some (.inl (v2, (v3 + 1)))))
def f_X0_watchedBy (N : Nat) (a1 : Int32) (d_posts : Int32) (d_sees : FN) : Option (Int32) :=
  ((lp (fun s => b_X0_watchedBy_1 N a1 d_posts d_sees s.1 s.2) N (a1, 0)).bind fun t5 => some t5)
set_option maxHeartbeats 4000000 in
set_option maxRecDepth 100000 in
theorem L_X0_watchedBy_1 {γ : GX} {n : Nat} {h : HP} {Ψ : PS} {N : Nat} {p1 : Int32} {d_posts : Int32} {d_sees : FN} {d_cold : FN} {d_men : Int32} {d_debts : FN} {d_on : Int32} {d_stove : Int32} (hH_d : Has n 3 (dpB γ 3 d_posts d_sees d_cold d_men d_debts d_on d_stove) h) {s0 : Int32 × Int32} {t : Int32} (hf : lp (fun s => b_X0_watchedBy_1 N p1 d_posts d_sees s.1 s.2) N s0 = some t) (K : Ev γ M_X0_watchedBy (0, 0) n h [(2, .int t)] 35 [] Ψ) : Ev γ M_X0_watchedBy (0, 0) n h [(0, .ref (gB γ + 3)), (1, .int p1), (2, .int s0.1), (3, .int s0.2)] 4 [] Ψ := by
  refine E_lp (P := fun s => Ev γ M_X0_watchedBy (0, 0) n h [(0, .ref (gB γ + 3)), (1, .int p1), (2, .int s.1), (3, .int s.2)] 4 [] Ψ) (K := fun t => Ev γ M_X0_watchedBy (0, 0) n h [(2, .int t)] 35 [] Ψ) ?_ N s0 t hf K
  intro s r hf hP hK
  obtain ⟨v2, v3⟩ := s
  unfold b_X0_watchedBy_1 at hf
  try dsimp only at hf
  show Ev γ M_X0_watchedBy (0, 0) n h [(0, .ref (gB γ + 3)), (1, .int p1), (2, .int v2), (3, .int v3)] 4 [] Ψ
  refine E_iload_n 3 dX0_watchedBy_4 (q := 5) rfl rfl rfl ?_
  refine E_aload_n 0 dX0_watchedBy_5 (q := 6) rfl rfl rfl ?_
  refine E_get 0 dX0_watchedBy_6 (q := 9) rfl ckX0 (Nat.le_of_ble_eq_true rfl) fl_X0_28 (hH_d.at 0 rfl) (hH_d.lt 0 (Nat.le_of_ble_eq_true rfl)) rfl ?_
  refine E_icmp_ge dX0_watchedBy_9 (t := 35) (by decide) (q := 12) rfl (fun c2 => ?_) (fun c2 => ?_)
  · have hf := if_t c2 hf
    exact E_sub [2] rfl (hK _ (Option.some.inj hf).symm)
  · have hf := if_f c2 hf
    refine E_iload_n 1 dX0_watchedBy_12 (q := 13) rfl rfl rfl ?_
    refine E_iload_n 3 dX0_watchedBy_13 (q := 14) rfl rfl rfl ?_
    refine E_ishr dX0_watchedBy_14 (q := 15) rfl ?_
    refine E_iconst (x := 1) dX0_watchedBy_15 (q := 16) rfl (by decide) ?_
    refine E_iand dX0_watchedBy_16 (q := 17) rfl ?_
    refine E_iconst (x := 1) dX0_watchedBy_17 (q := 18) rfl (by decide) ?_
    refine E_icmp_ne dX0_watchedBy_18 (t := 29) (by decide) (q := 21) rfl (fun c3 => ?_) (fun c3 => ?_)
    · have hf := if_f c3 hf
      refine E_iinc 3 [(3, .int (v3 + 1)), (0, .ref (gB γ + 3)), (1, .int p1), (2, .int v2)] dX0_watchedBy_29 (q := 32) rfl rfl rfl (Nat.le_of_ble_eq_true rfl) rfl ?_
      refine E_goto (q := 4) dX0_watchedBy_32 (by decide) ?_
      exact E_sub [1, 2, 3, 0] rfl (hP _ (Option.some.inj hf).symm)
    · have hf := if_t c3 hf
      refine E_iload_n 2 dX0_watchedBy_21 (q := 22) rfl rfl rfl ?_
      refine E_aload_n 0 dX0_watchedBy_22 (q := 23) rfl rfl rfl ?_
      refine E_iload_n 3 dX0_watchedBy_23 (q := 24) rfl rfl rfl ?_
      obtain ⟨z4, hxz4, hf⟩ := bnd hf
      refine E_cV (as := [.int v3]) (k := 3) (rest := [.int v2]) (u' := (0, 0)) (st' := [.int z4, .int v2]) dX0_watchedBy_24 (q := 27) rfl lkm_X0_seenFrom lkv_X0_44 (Nat.le_of_ble_eq_true rfl) ckX0 (hH_d.at 0 rfl) (hH_d.lt 0 (Nat.le_of_ble_eq_true rfl)) ⟨Nat.le_refl _, Nat.le_refl _⟩ (Nat.le_of_ble_eq_true rfl) rfl rfl (m_X0_seenFrom (N := N)  hH_d hxz4) rfl rfl rfl ?_
      refine E_ior dX0_watchedBy_27 (q := 28) rfl ?_
      refine E_istore_n [(2, .int (v2 ||| z4)), (0, .ref (gB γ + 3)), (1, .int p1), (3, .int v3)] dX0_watchedBy_28 (q := 29) rfl rfl (Nat.le_of_ble_eq_true rfl) rfl ?_
      refine E_iinc 3 [(3, .int (v3 + 1)), (2, .int (v2 ||| z4)), (0, .ref (gB γ + 3)), (1, .int p1)] dX0_watchedBy_29 (q := 32) rfl rfl rfl (Nat.le_of_ble_eq_true rfl) rfl ?_
      refine E_goto (q := 4) dX0_watchedBy_32 (by decide) ?_
      exact E_sub [2, 3, 1, 0] rfl (hP _ (Option.some.inj hf).symm)
set_option maxHeartbeats 4000000 in
set_option maxRecDepth 100000 in
theorem m_X0_watchedBy {γ : GX} {n : Nat} {N : Nat} {h : HP} {a1 : Int32} {d_posts : Int32} {d_sees : FN} {d_cold : FN} {d_men : Int32} {d_debts : FN} {d_on : Int32} {d_stove : Int32} (hH_d : Has n 3 (dpB γ 3 d_posts d_sees d_cold d_men d_debts d_on d_stove) h) {z : Int32} (hf : f_X0_watchedBy N a1 d_posts d_sees = some z)  : Ct γ M_X0_watchedBy n h [.ref (gB γ + 3), .int a1] (Done (some (.int z)) n h) := by
  refine Ct_of_Ev (by decide) (fun h => by cases h) (Nat.le_of_ble_eq_true rfl) ?_
  show Ev γ M_X0_watchedBy (0, 0) n h [(0, .ref (gB γ + 3)), (1, .int a1)] 0 [] _
  unfold f_X0_watchedBy at hf
  refine E_iload_n 1 dX0_watchedBy_0 (q := 1) rfl rfl rfl ?_
  refine E_istore_n [(2, .int a1), (0, .ref (gB γ + 3)), (1, .int a1)] dX0_watchedBy_1 (q := 2) rfl rfl (Nat.le_of_ble_eq_true rfl) rfl ?_
  refine E_iconst (x := 0) dX0_watchedBy_2 (q := 3) rfl (by decide) ?_
  refine E_istore_n [(3, .int 0), (2, .int a1), (0, .ref (gB γ + 3)), (1, .int a1)] dX0_watchedBy_3 (q := 4) rfl rfl (Nat.le_of_ble_eq_true rfl) rfl ?_
  obtain ⟨t5, hxt5, hf⟩ := bnd hf
  refine E_sub [2, 3, 1, 0] rfl ?_
  refine L_X0_watchedBy_1 hH_d hxt5 ?_
  show Ev γ M_X0_watchedBy _ n h [(2, .int t5)] 35 [] _
  refine E_iload_n 0 dX0_watchedBy_35 (q := 36) rfl rfl rfl ?_
  obtain rfl := Option.some.inj hf
  exact E_iret dX0_watchedBy_36 rfl ⟨rfl, rfl, rfl⟩

-- PostRelief$Depot.burden(II)I
def f_X0_burden (N : Nat) (a1 : Int32) (a2 : Int32) (d_cold : FN) : Option (Int32) :=
  (if (a2 % 12) < 2 then (if ix a1 5 = true then some ((4 + 0) + ((d_cold (ci a1)) / 3)) else none) else (if 4 < (a2 % 12) then (if ix a1 5 = true then some ((4 + 0) + ((d_cold (ci a1)) / 3)) else none) else (if ix a1 5 = true then some ((4 + 2) + ((d_cold (ci a1)) / 3)) else none)))
set_option maxHeartbeats 4000000 in
set_option maxRecDepth 100000 in
theorem m_X0_burden {γ : GX} {n : Nat} {N : Nat} {h : HP} {a1 : Int32} {a2 : Int32} {d_posts : Int32} {d_sees : FN} {d_cold : FN} {d_men : Int32} {d_debts : FN} {d_on : Int32} {d_stove : Int32} (hH_d : Has n 3 (dpB γ 3 d_posts d_sees d_cold d_men d_debts d_on d_stove) h) {z : Int32} (hf : f_X0_burden N a1 a2 d_cold = some z)  : Ct γ M_X0_burden n h [.ref (gB γ + 3), .int a1, .int a2] (Done (some (.int z)) n h) := by
  refine Ct_of_Ev (by decide) (fun h => by cases h) (Nat.le_of_ble_eq_true rfl) ?_
  show Ev γ M_X0_burden (0, 0) n h [(0, .ref (gB γ + 3)), (1, .int a1), (2, .int a2)] 0 [] _
  unfold f_X0_burden at hf
  refine E_iload_n 2 dX0_burden_0 (q := 1) rfl rfl rfl ?_
  refine E_bipush (x := 12) dX0_burden_1 (q := 3) rfl (by decide) ?_
  refine E_irem dX0_burden_3 (q := 4) rfl (by decide) ?_
  refine E_istore_n [(3, .int (a2 % 12)), (0, .ref (gB γ + 3)), (1, .int a1), (2, .int a2)] dX0_burden_4 (q := 5) rfl rfl (Nat.le_of_ble_eq_true rfl) rfl ?_
  refine E_iload_n 0 dX0_burden_5 (q := 6) rfl rfl rfl ?_
  refine E_iconst (x := 2) dX0_burden_6 (q := 7) rfl (by decide) ?_
  refine E_icmp_lt dX0_burden_7 (t := 19) (by decide) (q := 10) rfl (fun c1 => ?_) (fun c1 => ?_)
  · have hf := if_t c1 hf
    refine E_iconst (x := 0) dX0_burden_19 (q := 20) rfl (by decide) ?_
    refine E_istore [(4, .int 0), (3, .int (a2 % 12)), (0, .ref (gB γ + 3)), (1, .int a1), (2, .int a2)] dX0_burden_20 (q := 22) rfl (Nat.le_of_ble_eq_true rfl) rfl ?_
    refine E_iconst (x := 4) dX0_burden_22 (q := 23) rfl (by decide) ?_
    refine E_iload 0 dX0_burden_23 (q := 25) rfl rfl ?_
    refine E_iadd dX0_burden_25 (q := 26) rfl ?_
    refine E_aload_n 2 dX0_burden_26 (q := 27) rfl rfl rfl ?_
    refine E_get 2 dX0_burden_27 (q := 30) rfl ckX0 (Nat.le_of_ble_eq_true rfl) fl_X0_15 (hH_d.at 0 rfl) (hH_d.lt 0 (Nat.le_of_ble_eq_true rfl)) rfl ?_
    refine E_iload_n 3 dX0_burden_30 (q := 31) rfl rfl rfl ?_
    obtain ⟨g2, hf⟩ := gd hf
    refine E_iald dX0_burden_31 (q := 32) rfl (hH_d.at 2 rfl) (hH_d.lt 2 (Nat.le_of_ble_eq_true rfl)) g2 ?_
    refine E_iconst (x := 3) dX0_burden_32 (q := 33) rfl (by decide) ?_
    refine E_idiv dX0_burden_33 (q := 34) rfl (by decide) ?_
    refine E_iadd dX0_burden_34 (q := 35) rfl ?_
    obtain rfl := Option.some.inj hf
    exact E_iret dX0_burden_35 rfl ⟨rfl, rfl, rfl⟩
  · have hf := if_f c1 hf
    refine E_iload_n 0 dX0_burden_10 (q := 11) rfl rfl rfl ?_
    refine E_iconst (x := 4) dX0_burden_11 (q := 12) rfl (by decide) ?_
    refine E_icmp_gt dX0_burden_12 (t := 19) (by decide) (q := 15) rfl (fun c3 => ?_) (fun c3 => ?_)
    · have hf := if_t c3 hf
      refine E_iconst (x := 0) dX0_burden_19 (q := 20) rfl (by decide) ?_
      refine E_istore [(4, .int 0), (3, .int (a2 % 12)), (0, .ref (gB γ + 3)), (1, .int a1), (2, .int a2)] dX0_burden_20 (q := 22) rfl (Nat.le_of_ble_eq_true rfl) rfl ?_
      refine E_iconst (x := 4) dX0_burden_22 (q := 23) rfl (by decide) ?_
      refine E_iload 0 dX0_burden_23 (q := 25) rfl rfl ?_
      refine E_iadd dX0_burden_25 (q := 26) rfl ?_
      refine E_aload_n 2 dX0_burden_26 (q := 27) rfl rfl rfl ?_
      refine E_get 2 dX0_burden_27 (q := 30) rfl ckX0 (Nat.le_of_ble_eq_true rfl) fl_X0_15 (hH_d.at 0 rfl) (hH_d.lt 0 (Nat.le_of_ble_eq_true rfl)) rfl ?_
      refine E_iload_n 3 dX0_burden_30 (q := 31) rfl rfl rfl ?_
      obtain ⟨g4, hf⟩ := gd hf
      refine E_iald dX0_burden_31 (q := 32) rfl (hH_d.at 2 rfl) (hH_d.lt 2 (Nat.le_of_ble_eq_true rfl)) g4 ?_
      refine E_iconst (x := 3) dX0_burden_32 (q := 33) rfl (by decide) ?_
      refine E_idiv dX0_burden_33 (q := 34) rfl (by decide) ?_
      refine E_iadd dX0_burden_34 (q := 35) rfl ?_
      obtain rfl := Option.some.inj hf
      exact E_iret dX0_burden_35 rfl ⟨rfl, rfl, rfl⟩
    · have hf := if_f c3 hf
      refine E_iconst (x := 2) dX0_burden_15 (q := 16) rfl (by decide) ?_
      refine E_goto (q := 20) dX0_burden_16 (by decide) ?_
      refine E_istore [(4, .int 2), (3, .int (a2 % 12)), (0, .ref (gB γ + 3)), (1, .int a1), (2, .int a2)] dX0_burden_20 (q := 22) rfl (Nat.le_of_ble_eq_true rfl) rfl ?_
      refine E_iconst (x := 4) dX0_burden_22 (q := 23) rfl (by decide) ?_
      refine E_iload 0 dX0_burden_23 (q := 25) rfl rfl ?_
      refine E_iadd dX0_burden_25 (q := 26) rfl ?_
      refine E_aload_n 2 dX0_burden_26 (q := 27) rfl rfl rfl ?_
      refine E_get 2 dX0_burden_27 (q := 30) rfl ckX0 (Nat.le_of_ble_eq_true rfl) fl_X0_15 (hH_d.at 0 rfl) (hH_d.lt 0 (Nat.le_of_ble_eq_true rfl)) rfl ?_
      refine E_iload_n 3 dX0_burden_30 (q := 31) rfl rfl rfl ?_
      obtain ⟨g5, hf⟩ := gd hf
      refine E_iald dX0_burden_31 (q := 32) rfl (hH_d.at 2 rfl) (hH_d.lt 2 (Nat.le_of_ble_eq_true rfl)) g5 ?_
      refine E_iconst (x := 3) dX0_burden_32 (q := 33) rfl (by decide) ?_
      refine E_idiv dX0_burden_33 (q := 34) rfl (by decide) ?_
      refine E_iadd dX0_burden_34 (q := 35) rfl ?_
      obtain rfl := Option.some.inj hf
      exact E_iret dX0_burden_35 rfl ⟨rfl, rfl, rfl⟩

-- PostRelief$Depot.nextPost(II)I
def f_X0_nextPost (N : Nat) (a1 : Int32) (a2 : Int32) (d_posts : Int32) : Option (Int32) :=
  (if a2 = 1 then (if d_posts ≤ (a1 + 1) then some 0 else some (a1 + 1)) else (if a1 ≤ 0 then some (d_posts - 1) else some (a1 - 1)))
set_option maxHeartbeats 4000000 in
set_option maxRecDepth 100000 in
theorem m_X0_nextPost {γ : GX} {n : Nat} {N : Nat} {h : HP} {a1 : Int32} {a2 : Int32} {d_posts : Int32} {d_sees : FN} {d_cold : FN} {d_men : Int32} {d_debts : FN} {d_on : Int32} {d_stove : Int32} (hH_d : Has n 3 (dpB γ 3 d_posts d_sees d_cold d_men d_debts d_on d_stove) h) {z : Int32} (hf : f_X0_nextPost N a1 a2 d_posts = some z)  : Ct γ M_X0_nextPost n h [.ref (gB γ + 3), .int a1, .int a2] (Done (some (.int z)) n h) := by
  refine Ct_of_Ev (by decide) (fun h => by cases h) (Nat.le_of_ble_eq_true rfl) ?_
  show Ev γ M_X0_nextPost (0, 0) n h [(0, .ref (gB γ + 3)), (1, .int a1), (2, .int a2)] 0 [] _
  unfold f_X0_nextPost at hf
  refine E_iload_n 2 dX0_nextPost_0 (q := 1) rfl rfl rfl ?_
  refine E_iconst (x := 1) dX0_nextPost_1 (q := 2) rfl (by decide) ?_
  refine E_icmp_ne dX0_nextPost_2 (t := 23) (by decide) (q := 5) rfl (fun c1 => ?_) (fun c1 => ?_)
  · have hf := if_f c1 hf
    refine E_iload_n 1 dX0_nextPost_23 (q := 24) rfl rfl rfl ?_
    refine E_if_le dX0_nextPost_24 (t := 33) (by decide) (q := 27) rfl (fun c3 => ?_) (fun c3 => ?_)
    · have hf := if_t c3 hf
      refine E_aload_n 0 dX0_nextPost_33 (q := 34) rfl rfl rfl ?_
      refine E_get 0 dX0_nextPost_34 (q := 37) rfl ckX0 (Nat.le_of_ble_eq_true rfl) fl_X0_28 (hH_d.at 0 rfl) (hH_d.lt 0 (Nat.le_of_ble_eq_true rfl)) rfl ?_
      refine E_iconst (x := 1) dX0_nextPost_37 (q := 38) rfl (by decide) ?_
      refine E_isub dX0_nextPost_38 (q := 39) rfl ?_
      obtain rfl := Option.some.inj hf
      exact E_iret dX0_nextPost_39 rfl ⟨rfl, rfl, rfl⟩
    · have hf := if_f c3 hf
      refine E_iload_n 1 dX0_nextPost_27 (q := 28) rfl rfl rfl ?_
      refine E_iconst (x := 1) dX0_nextPost_28 (q := 29) rfl (by decide) ?_
      refine E_isub dX0_nextPost_29 (q := 30) rfl ?_
      refine E_goto (q := 39) dX0_nextPost_30 (by decide) ?_
      obtain rfl := Option.some.inj hf
      exact E_iret dX0_nextPost_39 rfl ⟨rfl, rfl, rfl⟩
  · have hf := if_t c1 hf
    refine E_iload_n 1 dX0_nextPost_5 (q := 6) rfl rfl rfl ?_
    refine E_iconst (x := 1) dX0_nextPost_6 (q := 7) rfl (by decide) ?_
    refine E_iadd dX0_nextPost_7 (q := 8) rfl ?_
    refine E_aload_n 0 dX0_nextPost_8 (q := 9) rfl rfl rfl ?_
    refine E_get 0 dX0_nextPost_9 (q := 12) rfl ckX0 (Nat.le_of_ble_eq_true rfl) fl_X0_28 (hH_d.at 0 rfl) (hH_d.lt 0 (Nat.le_of_ble_eq_true rfl)) rfl ?_
    refine E_icmp_ge dX0_nextPost_12 (t := 21) (by decide) (q := 15) rfl (fun c2 => ?_) (fun c2 => ?_)
    · have hf := if_t c2 hf
      refine E_iconst (x := 0) dX0_nextPost_21 (q := 22) rfl (by decide) ?_
      obtain rfl := Option.some.inj hf
      exact E_iret dX0_nextPost_22 rfl ⟨rfl, rfl, rfl⟩
    · have hf := if_f c2 hf
      refine E_iload_n 1 dX0_nextPost_15 (q := 16) rfl rfl rfl ?_
      refine E_iconst (x := 1) dX0_nextPost_16 (q := 17) rfl (by decide) ?_
      refine E_iadd dX0_nextPost_17 (q := 18) rfl ?_
      refine E_goto (q := 22) dX0_nextPost_18 (by decide) ?_
      obtain rfl := Option.some.inj hf
      exact E_iret dX0_nextPost_22 rfl ⟨rfl, rfl, rfl⟩

-- PostRelief$Findings.add(III)Z
def f_X1_add (N : Nat) (a1 : Int32) (a2 : Int32) (a3 : Int32) (f_size : Int32) (f_men : FN) (f_hours : FN) (f_asleep : FN) : Option (Int32 × Int32 × FN × FN × FN) :=
  (if f_size < 6 then (if ix f_size 6 = true then some (1, (f_size + 1), (upd f_men (ci f_size) a1), (upd f_hours (ci f_size) a2), (upd f_asleep (ci f_size) a3)) else none) else some (0, f_size, f_men, f_hours, f_asleep))
set_option maxHeartbeats 4000000 in
set_option maxRecDepth 100000 in
theorem m_X1_add {γ : GX} {n : Nat} {N : Nat} {h : HP} {a1 : Int32} {a2 : Int32} {a3 : Int32} {f_size : Int32} {f_men : FN} {f_hours : FN} {f_asleep : FN} (hH_f : Has n 75 (fiB γ 75 f_size f_men f_hours f_asleep) h) {z : Int32 × Int32 × FN × FN × FN} (hf : f_X1_add N a1 a2 a3 f_size f_men f_hours f_asleep = some z)  : Ct γ M_X1_add n h [.ref (gB γ + 75), .int a1, .int a2, .int a3] (Done (some (.int z.1)) n (put 75 (fiB γ 75 z.2.1 z.2.2.1 z.2.2.2.1 z.2.2.2.2) h)) := by
  have hn_f : 75 + 4 ≤ n := hH_f.1
  refine Ct.heap (h := (put 75 (fiB γ 75 f_size f_men f_hours f_asleep) h)) (put_self hH_f).symm ?_
  refine Ct_of_Ev (by decide) (fun h => by cases h) (Nat.le_of_ble_eq_true rfl) ?_
  show Ev γ M_X1_add (0, 0) n (put 75 (fiB γ 75 f_size f_men f_hours f_asleep) h) [(0, .ref (gB γ + 75)), (1, .int a1), (2, .int a2), (3, .int a3)] 0 [] _
  unfold f_X1_add at hf
  refine E_aload_n 0 dX1_add_0 (q := 1) rfl rfl rfl ?_
  have hF1 : Has n 75 (fiB γ 75 f_size f_men f_hours f_asleep) (put 75 (fiB γ 75 f_size f_men f_hours f_asleep) h) := (has_put hn_f)
  refine E_get 0 dX1_add_1 (q := 4) rfl ckX1 (Nat.le_of_ble_eq_true rfl) fl_X1_21 (hF1.at 0 rfl) (hF1.lt 0 (Nat.le_of_ble_eq_true rfl)) rfl ?_
  refine E_bipush (x := 6) dX1_add_4 (q := 6) rfl (by decide) ?_
  refine E_icmp_lt dX1_add_6 (t := 11) (by decide) (q := 9) rfl (fun c2 => ?_) (fun c2 => ?_)
  · have hf := if_t c2 hf
    refine E_aload_n 0 dX1_add_11 (q := 12) rfl rfl rfl ?_
    refine E_get 1 dX1_add_12 (q := 15) rfl ckX1 (Nat.le_of_ble_eq_true rfl) fl_X1_9 (hF1.at 0 rfl) (hF1.lt 0 (Nat.le_of_ble_eq_true rfl)) rfl ?_
    refine E_aload_n 0 dX1_add_15 (q := 16) rfl rfl rfl ?_
    refine E_get 0 dX1_add_16 (q := 19) rfl ckX1 (Nat.le_of_ble_eq_true rfl) fl_X1_21 (hF1.at 0 rfl) (hF1.lt 0 (Nat.le_of_ble_eq_true rfl)) rfl ?_
    refine E_iload_n 1 dX1_add_19 (q := 20) rfl rfl rfl ?_
    obtain ⟨g3, hf⟩ := gd hf
    refine E_iast dX1_add_20 (q := 21) rfl (hF1.at 1 rfl) (hF1.lt 1 (Nat.le_of_ble_eq_true rfl)) g3 (up_put (i := 1) (cs' := (fiB γ 75 f_size (upd f_men (ci f_size) a1) f_hours f_asleep)) (Nat.le_of_ble_eq_true rfl) rfl) ?_
    refine E_aload_n 0 dX1_add_21 (q := 22) rfl rfl rfl ?_
    have hF5 : Has n 75 (fiB γ 75 f_size (upd f_men (ci f_size) a1) f_hours f_asleep) (put 75 (fiB γ 75 f_size (upd f_men (ci f_size) a1) f_hours f_asleep) h) := (has_put hn_f)
    refine E_get 2 dX1_add_22 (q := 25) rfl ckX1 (Nat.le_of_ble_eq_true rfl) fl_X1_15 (hF5.at 0 rfl) (hF5.lt 0 (Nat.le_of_ble_eq_true rfl)) rfl ?_
    refine E_aload_n 0 dX1_add_25 (q := 26) rfl rfl rfl ?_
    refine E_get 0 dX1_add_26 (q := 29) rfl ckX1 (Nat.le_of_ble_eq_true rfl) fl_X1_21 (hF5.at 0 rfl) (hF5.lt 0 (Nat.le_of_ble_eq_true rfl)) rfl ?_
    refine E_iload_n 2 dX1_add_29 (q := 30) rfl rfl rfl ?_
    refine E_iast dX1_add_30 (q := 31) rfl (hF5.at 2 rfl) (hF5.lt 2 (Nat.le_of_ble_eq_true rfl)) g3 (up_put (i := 2) (cs' := (fiB γ 75 f_size (upd f_men (ci f_size) a1) (upd f_hours (ci f_size) a2) f_asleep)) (Nat.le_of_ble_eq_true rfl) rfl) ?_
    refine E_aload_n 0 dX1_add_31 (q := 32) rfl rfl rfl ?_
    have hF7 : Has n 75 (fiB γ 75 f_size (upd f_men (ci f_size) a1) (upd f_hours (ci f_size) a2) f_asleep) (put 75 (fiB γ 75 f_size (upd f_men (ci f_size) a1) (upd f_hours (ci f_size) a2) f_asleep) h) := (has_put hn_f)
    refine E_get 3 dX1_add_32 (q := 35) rfl ckX1 (Nat.le_of_ble_eq_true rfl) fl_X1_18 (hF7.at 0 rfl) (hF7.lt 0 (Nat.le_of_ble_eq_true rfl)) rfl ?_
    refine E_aload_n 0 dX1_add_35 (q := 36) rfl rfl rfl ?_
    refine E_get 0 dX1_add_36 (q := 39) rfl ckX1 (Nat.le_of_ble_eq_true rfl) fl_X1_21 (hF7.at 0 rfl) (hF7.lt 0 (Nat.le_of_ble_eq_true rfl)) rfl ?_
    refine E_iload_n 3 dX1_add_39 (q := 40) rfl rfl rfl ?_
    refine E_iast dX1_add_40 (q := 41) rfl (hF7.at 3 rfl) (hF7.lt 3 (Nat.le_of_ble_eq_true rfl)) g3 (up_put (i := 3) (cs' := (fiB γ 75 f_size (upd f_men (ci f_size) a1) (upd f_hours (ci f_size) a2) (upd f_asleep (ci f_size) a3))) (Nat.le_of_ble_eq_true rfl) rfl) ?_
    refine E_aload_n 0 dX1_add_41 (q := 42) rfl rfl rfl ?_
    refine E_dup dX1_add_42 (q := 43) rfl rfl ?_
    have hF9 : Has n 75 (fiB γ 75 f_size (upd f_men (ci f_size) a1) (upd f_hours (ci f_size) a2) (upd f_asleep (ci f_size) a3)) (put 75 (fiB γ 75 f_size (upd f_men (ci f_size) a1) (upd f_hours (ci f_size) a2) (upd f_asleep (ci f_size) a3)) h) := (has_put hn_f)
    refine E_get 0 dX1_add_43 (q := 46) rfl ckX1 (Nat.le_of_ble_eq_true rfl) fl_X1_21 (hF9.at 0 rfl) (hF9.lt 0 (Nat.le_of_ble_eq_true rfl)) rfl ?_
    refine E_iconst (x := 1) dX1_add_46 (q := 47) rfl (by decide) ?_
    refine E_iadd dX1_add_47 (q := 48) rfl ?_
    refine E_put 0 dX1_add_48 (q := 51) rfl ckX1 (Nat.le_of_ble_eq_true rfl) fl_X1_21 rfl rfl rfl (hF9.at 0 rfl) (hF9.lt 0 (Nat.le_of_ble_eq_true rfl)) (Nat.le_of_ble_eq_true rfl) (up_put (i := 0) (cs' := (fiB γ 75 (f_size + 1) (upd f_men (ci f_size) a1) (upd f_hours (ci f_size) a2) (upd f_asleep (ci f_size) a3))) (Nat.le_of_ble_eq_true rfl) rfl) ?_
    refine E_iconst (x := 1) dX1_add_51 (q := 52) rfl (by decide) ?_
    obtain rfl := Option.some.inj hf
    exact E_zret dX1_add_52 rfl rfl ⟨rfl, rfl, rfl⟩
  · have hf := if_f c2 hf
    refine E_iconst (x := 0) dX1_add_9 (q := 10) rfl (by decide) ?_
    obtain rfl := Option.some.inj hf
    exact E_zret dX1_add_10 rfl rfl ⟨rfl, rfl, rfl⟩

-- PostRelief$Findings.agree(II)Z
def b_X1_agree_1 (N : Nat) (p1 : Int32) (p2 : Int32) (f_size : Int32) (f_men : FN) (f_hours : FN) (f_asleep : FN) (v3 : Int32) : Option ((Int32) ⊕ ((Unit) ⊕ (Int32))) :=
  (if f_size ≤ v3 then some (.inr (.inl ())) else (if ix v3 6 = true then (if (f_men (ci v3)) = p1 then (if ((p2 >>> ((f_hours (ci v3)) &&& 31)) &&& 1) = (f_asleep (ci v3)) then some (.inl (v3 + 1)) else some (.inr (.inr 0))) else some (.inl (v3 + 1))) else none))
def f_X1_agree (N : Nat) (a1 : Int32) (a2 : Int32) (f_size : Int32) (f_men : FN) (f_hours : FN) (f_asleep : FN) : Option (Int32) :=
  ((lp (fun s => b_X1_agree_1 N a1 a2 f_size f_men f_hours f_asleep s) N 0).bind (Sum.elim (fun t6e => some 1) (fun r_ => some r_)))
set_option maxHeartbeats 4000000 in
set_option maxRecDepth 100000 in
theorem L_X1_agree_1 {γ : GX} {n : Nat} {h : HP} {Ψ : PS} {N : Nat} {p1 : Int32} {p2 : Int32} {f_size : Int32} {f_men : FN} {f_hours : FN} {f_asleep : FN} (hH_f : Has n 75 (fiB γ 75 f_size f_men f_hours f_asleep) h) {s0 : Int32} {t : (Unit) ⊕ (Int32)} (hf : lp (fun s => b_X1_agree_1 N p1 p2 f_size f_men f_hours f_asleep s) N s0 = some t) (K : Sum.elim (fun e_ => Ev γ M_X1_agree (0, 0) n h [] 47 [] Ψ) (fun r_ => Ψ (some (.int r_)) n h) t) : Ev γ M_X1_agree (0, 0) n h [(0, .ref (gB γ + 75)), (1, .int p1), (2, .int p2), (3, .int s0)] 2 [] Ψ := by
  refine E_lp (P := fun s => Ev γ M_X1_agree (0, 0) n h [(0, .ref (gB γ + 75)), (1, .int p1), (2, .int p2), (3, .int s)] 2 [] Ψ) (K := fun t => Sum.elim (fun e_ => Ev γ M_X1_agree (0, 0) n h [] 47 [] Ψ) (fun r_ => Ψ (some (.int r_)) n h) t) ?_ N s0 t hf K
  intro s r hf hP hK
  obtain ⟨v3, hs⟩ : ∃ z, z = s := ⟨s, rfl⟩; subst hs
  unfold b_X1_agree_1 at hf
  try dsimp only at hf
  show Ev γ M_X1_agree (0, 0) n h [(0, .ref (gB γ + 75)), (1, .int p1), (2, .int p2), (3, .int v3)] 2 [] Ψ
  refine E_iload_n 3 dX1_agree_2 (q := 3) rfl rfl rfl ?_
  refine E_aload_n 0 dX1_agree_3 (q := 4) rfl rfl rfl ?_
  refine E_get 0 dX1_agree_4 (q := 7) rfl ckX1 (Nat.le_of_ble_eq_true rfl) fl_X1_21 (hH_f.at 0 rfl) (hH_f.lt 0 (Nat.le_of_ble_eq_true rfl)) rfl ?_
  refine E_icmp_ge dX1_agree_7 (t := 47) (by decide) (q := 10) rfl (fun c2 => ?_) (fun c2 => ?_)
  · have hf := if_t c2 hf
    exact E_sub [] rfl (hK _ (Option.some.inj hf).symm)
  · have hf := if_f c2 hf
    refine E_aload_n 0 dX1_agree_10 (q := 11) rfl rfl rfl ?_
    refine E_get 1 dX1_agree_11 (q := 14) rfl ckX1 (Nat.le_of_ble_eq_true rfl) fl_X1_9 (hH_f.at 0 rfl) (hH_f.lt 0 (Nat.le_of_ble_eq_true rfl)) rfl ?_
    refine E_iload_n 3 dX1_agree_14 (q := 15) rfl rfl rfl ?_
    obtain ⟨g3, hf⟩ := gd hf
    refine E_iald dX1_agree_15 (q := 16) rfl (hH_f.at 1 rfl) (hH_f.lt 1 (Nat.le_of_ble_eq_true rfl)) g3 ?_
    refine E_iload_n 1 dX1_agree_16 (q := 17) rfl rfl rfl ?_
    refine E_icmp_ne dX1_agree_17 (t := 41) (by decide) (q := 20) rfl (fun c4 => ?_) (fun c4 => ?_)
    · have hf := if_f c4 hf
      refine E_iinc 3 [(3, .int (v3 + 1)), (0, .ref (gB γ + 75)), (1, .int p1), (2, .int p2)] dX1_agree_41 (q := 44) rfl rfl rfl (Nat.le_of_ble_eq_true rfl) rfl ?_
      refine E_goto (q := 2) dX1_agree_44 (by decide) ?_
      exact E_sub [1, 2, 3, 0] rfl (hP _ (Option.some.inj hf).symm)
    · have hf := if_t c4 hf
      refine E_iload_n 2 dX1_agree_20 (q := 21) rfl rfl rfl ?_
      refine E_aload_n 0 dX1_agree_21 (q := 22) rfl rfl rfl ?_
      refine E_get 2 dX1_agree_22 (q := 25) rfl ckX1 (Nat.le_of_ble_eq_true rfl) fl_X1_15 (hH_f.at 0 rfl) (hH_f.lt 0 (Nat.le_of_ble_eq_true rfl)) rfl ?_
      refine E_iload_n 3 dX1_agree_25 (q := 26) rfl rfl rfl ?_
      refine E_iald dX1_agree_26 (q := 27) rfl (hH_f.at 2 rfl) (hH_f.lt 2 (Nat.le_of_ble_eq_true rfl)) g3 ?_
      refine E_ishr dX1_agree_27 (q := 28) rfl ?_
      refine E_iconst (x := 1) dX1_agree_28 (q := 29) rfl (by decide) ?_
      refine E_iand dX1_agree_29 (q := 30) rfl ?_
      refine E_aload_n 0 dX1_agree_30 (q := 31) rfl rfl rfl ?_
      refine E_get 3 dX1_agree_31 (q := 34) rfl ckX1 (Nat.le_of_ble_eq_true rfl) fl_X1_18 (hH_f.at 0 rfl) (hH_f.lt 0 (Nat.le_of_ble_eq_true rfl)) rfl ?_
      refine E_iload_n 3 dX1_agree_34 (q := 35) rfl rfl rfl ?_
      refine E_iald dX1_agree_35 (q := 36) rfl (hH_f.at 3 rfl) (hH_f.lt 3 (Nat.le_of_ble_eq_true rfl)) g3 ?_
      refine E_icmp_eq dX1_agree_36 (t := 41) (by decide) (q := 39) rfl (fun c5 => ?_) (fun c5 => ?_)
      · have hf := if_t c5 hf
        refine E_iinc 3 [(3, .int (v3 + 1)), (0, .ref (gB γ + 75)), (1, .int p1), (2, .int p2)] dX1_agree_41 (q := 44) rfl rfl rfl (Nat.le_of_ble_eq_true rfl) rfl ?_
        refine E_goto (q := 2) dX1_agree_44 (by decide) ?_
        exact E_sub [1, 2, 3, 0] rfl (hP _ (Option.some.inj hf).symm)
      · have hf := if_f c5 hf
        refine E_iconst (x := 0) dX1_agree_39 (q := 40) rfl (by decide) ?_
        exact E_zret dX1_agree_40 rfl rfl (hK _ (Option.some.inj hf).symm)
set_option maxHeartbeats 4000000 in
set_option maxRecDepth 100000 in
theorem m_X1_agree {γ : GX} {n : Nat} {N : Nat} {h : HP} {a1 : Int32} {a2 : Int32} {f_size : Int32} {f_men : FN} {f_hours : FN} {f_asleep : FN} (hH_f : Has n 75 (fiB γ 75 f_size f_men f_hours f_asleep) h) {z : Int32} (hf : f_X1_agree N a1 a2 f_size f_men f_hours f_asleep = some z)  : Ct γ M_X1_agree n h [.ref (gB γ + 75), .int a1, .int a2] (Done (some (.int z)) n h) := by
  refine Ct_of_Ev (by decide) (fun h => by cases h) (Nat.le_of_ble_eq_true rfl) ?_
  show Ev γ M_X1_agree (0, 0) n h [(0, .ref (gB γ + 75)), (1, .int a1), (2, .int a2)] 0 [] _
  unfold f_X1_agree at hf
  refine E_iconst (x := 0) dX1_agree_0 (q := 1) rfl (by decide) ?_
  refine E_istore_n [(3, .int 0), (0, .ref (gB γ + 75)), (1, .int a1), (2, .int a2)] dX1_agree_1 (q := 2) rfl rfl (Nat.le_of_ble_eq_true rfl) rfl ?_
  obtain ⟨t6, hxt6, hf⟩ := bnd hf
  rcases t6 with t6e | t6r
  · dsimp only [Sum.elim_inl] at hf
    refine E_sub [1, 2, 3, 0] rfl ?_
    refine L_X1_agree_1 hH_f hxt6 ?_
    show Ev γ M_X1_agree _ n h [] 47 [] _
    refine E_iconst (x := 1) dX1_agree_47 (q := 48) rfl (by decide) ?_
    obtain rfl := Option.some.inj hf
    exact E_zret dX1_agree_48 rfl rfl ⟨rfl, rfl, rfl⟩
  · dsimp only [Sum.elim_inr] at hf
    obtain rfl := Option.some.inj hf
    refine E_sub [1, 2, 3, 0] rfl ?_
    refine L_X1_agree_1 hH_f hxt6 ?_
    exact ⟨rfl, rfl, rfl⟩
end
section
def M_X5_begin : MI := (yX5_begin, cX5_begin, 2, none, false, 2, 0, 0)
theorem lkm_X5_begin : LkM M_X5_begin 1 := ⟨(lg_mem 53 (by decide +kernel) rfl), (lg_mem 363 (by decide +kernel) rfl), ⟨by decide, by decide, by decide +kernel⟩, (Nat.le_of_ble_eq_true rfl)⟩
def M_X5_become : MI := (yX5_become, cX5_become, 2, none, false, 1, 0, 0)
theorem lkm_X5_become : LkM M_X5_become 1 := ⟨(lg_mem 53 (by decide +kernel) rfl), (lg_mem 432 (by decide +kernel) rfl), ⟨by decide, by decide, by decide +kernel⟩, (Nat.le_of_ble_eq_true rfl)⟩
def M_X5_placeOf : MI := (yX5_placeOf, cX5_placeOf, 3, (some .int), false, 1, 0, 0)
theorem lkm_X5_placeOf : LkM M_X5_placeOf 1 := ⟨(lg_mem 53 (by decide +kernel) rfl), (lg_mem 392 (by decide +kernel) rfl), ⟨by decide, by decide, by decide +kernel⟩, (Nat.le_of_ble_eq_true rfl)⟩
def M_X5_place : MI := (yX5_place, cX5_place, 3, none, false, 1, 0, 0)
theorem lkm_X5_place : LkM M_X5_place 2 := ⟨(lg_mem 53 (by decide +kernel) rfl), (lg_mem 437 (by decide +kernel) rfl), ⟨by decide, by decide, by decide +kernel⟩, (Nat.le_of_ble_eq_true rfl)⟩
def M_X5_sleepsAt : MI := (yX5_sleepsAt, cX5_sleepsAt, 3, (some .boolean), false, 1, 0, 0)
theorem lkm_X5_sleepsAt : LkM M_X5_sleepsAt 1 := ⟨(lg_mem 53 (by decide +kernel) rfl), (lg_mem 396 (by decide +kernel) rfl), ⟨by decide, by decide, by decide +kernel⟩, (Nat.le_of_ble_eq_true rfl)⟩
def M_X5_mannedPosts : MI := (yX5_mannedPosts, cX5_mannedPosts, 3, (some .int), false, 1, 0, 0)
theorem lkm_X5_mannedPosts : LkM M_X5_mannedPosts 0 := ⟨(lg_mem 53 (by decide +kernel) rfl), (lg_mem 404 (by decide +kernel) rfl), ⟨by decide, by decide, by decide +kernel⟩, (Nat.le_of_ble_eq_true rfl)⟩
def M_X5_sleepingPosts : MI := (yX5_sleepingPosts, cX5_sleepingPosts, 3, (some .int), false, 2, 0, 0)
theorem lkm_X5_sleepingPosts : LkM M_X5_sleepingPosts 0 := ⟨(lg_mem 53 (by decide +kernel) rfl), (lg_mem 408 (by decide +kernel) rfl), ⟨by decide, by decide, by decide +kernel⟩, (Nat.le_of_ble_eq_true rfl)⟩
def M_X5_watchedPosts : MI := (yX5_watchedPosts, cX5_watchedPosts, 2, (some .int), false, 4, 0, 0)
theorem lkm_X5_watchedPosts : LkM M_X5_watchedPosts 1 := ⟨(lg_mem 53 (by decide +kernel) rfl), (lg_mem 413 (by decide +kernel) rfl), ⟨by decide, by decide, by decide +kernel⟩, (Nat.le_of_ble_eq_true rfl)⟩
def M_X5_passHour : MI := (yX5_passHour, cX5_passHour, 4, none, false, 2, 0, 0)
theorem lkm_X5_passHour : LkM M_X5_passHour 1 := ⟨(lg_mem 53 (by decide +kernel) rfl), (lg_mem 455 (by decide +kernel) rfl), ⟨by decide, by decide, by decide +kernel⟩, (Nat.le_of_ble_eq_true rfl)⟩
def M_X5_freshestMan : MI := (yX5_freshestMan, cX5_freshestMan, 6, (some .int), false, 2, 0, 0)
theorem lkm_X5_freshestMan : LkM M_X5_freshestMan 2 := ⟨(lg_mem 53 (by decide +kernel) rfl), (lg_mem 476 (by decide +kernel) rfl), ⟨by decide, by decide, by decide +kernel⟩, (Nat.le_of_ble_eq_true rfl)⟩
def M_X5_bringRelief : MI := (yX5_bringRelief, cX5_bringRelief, 10, (some .int), false, 3, 0, 0)
theorem lkm_X5_bringRelief : LkM M_X5_bringRelief 3 := ⟨(lg_mem 53 (by decide +kernel) rfl), (lg_mem 472 (by decide +kernel) rfl), ⟨by decide, by decide, by decide +kernel⟩, (Nat.le_of_ble_eq_true rfl)⟩
def M_X5_advance : MI := (yX5_advance, cX5_advance, 3, none, false, 4, 0, 0)
theorem lkm_X5_advance : LkM M_X5_advance 2 := ⟨(lg_mem 53 (by decide +kernel) rfl), (lg_mem 498 (by decide +kernel) rfl), ⟨by decide, by decide, by decide +kernel⟩, (Nat.le_of_ble_eq_true rfl)⟩
def M_X5_greatestDebt : MI := (yX5_greatestDebt, cX5_greatestDebt, 4, (some .int), false, 1, 0, 0)
theorem lkm_X5_greatestDebt : LkM M_X5_greatestDebt 1 := ⟨(lg_mem 53 (by decide +kernel) rfl), (lg_mem 505 (by decide +kernel) rfl), ⟨by decide, by decide, by decide +kernel⟩, (Nat.le_of_ble_eq_true rfl)⟩
def M_X5_debtOnPost : MI := (yX5_debtOnPost, cX5_debtOnPost, 3, (some .int), false, 1, 0, 0)
theorem lkm_X5_debtOnPost : LkM M_X5_debtOnPost 0 := ⟨(lg_mem 53 (by decide +kernel) rfl), (lg_mem 513 (by decide +kernel) rfl), ⟨by decide, by decide, by decide +kernel⟩, (Nat.le_of_ble_eq_true rfl)⟩
def M_X5_coldOf : MI := (yX5_coldOf, cX5_coldOf, 5, (some .int), false, 1, 0, 0)
theorem lkm_X5_coldOf : LkM M_X5_coldOf 2 := ⟨(lg_mem 53 (by decide +kernel) rfl), (lg_mem 617 (by decide +kernel) rfl), ⟨by decide, by decide, by decide +kernel⟩, (Nat.le_of_ble_eq_true rfl)⟩
theorem fl_X5_30 : Cond.fieldLink RX5 30 (TX5 0).1 (TX5 0).2.1 (TX5 0).2.2.1 ∈ lw_good := (lg_mem 161 (by decide +kernel) rfl)
theorem fl_X5_34 : Cond.fieldLink RX5 34 (TX0 4).1 (TX0 4).2.1 (TX0 4).2.2.1 ∈ lw_good := (lg_mem 126 (by decide +kernel) rfl)
theorem fl_X5_9 : Cond.fieldLink RX5 9 (TX5 1).1 (TX5 1).2.1 (TX5 1).2.2.1 ∈ lw_good := (lg_mem 164 (by decide +kernel) rfl)
theorem lkcp_X5_37 : Cond.methodLink RX5 37 arraycopyName ∈ lw_good := (lg_mem 364 (by decide +kernel) rfl)
theorem fl_X5_15 : Cond.fieldLink RX5 15 (TX5 2).1 (TX5 2).2.1 (TX5 2).2.2.1 ∈ lw_good := (lg_mem 167 (by decide +kernel) rfl)
theorem lks_X5_24 : LkS RX5 24 M_J7_fill := ⟨(lg_mem 158 (by decide +kernel) rfl), (lg_mem 159 (by decide +kernel) rfl)⟩
theorem fl_X5_18 : Cond.fieldLink RX5 18 (TX5 3).1 (TX5 3).2.1 (TX5 3).2.2.1 ∈ lw_good := (lg_mem 169 (by decide +kernel) rfl)
theorem fl_X5_21 : Cond.fieldLink RX5 21 (TX5 4).1 (TX5 4).2.1 (TX5 4).2.2.1 ∈ lw_good := (lg_mem 171 (by decide +kernel) rfl)
theorem lkv_X5_43 : LkV RX5 43 M_X5_sleepsAt := ⟨(lg_mem 409 (by decide +kernel) rfl), (lg_mem 394 (by decide +kernel) rfl), (lg_mem 395 (by decide +kernel) rfl)⟩
theorem lkv_X5_47 : LkV RX5 47 M_X5_mannedPosts := ⟨(lg_mem 414 (by decide +kernel) rfl), (lg_mem 402 (by decide +kernel) rfl), (lg_mem 403 (by decide +kernel) rfl)⟩
theorem lkv_X5_51 : LkV RX5 51 M_X5_sleepingPosts := ⟨(lg_mem 415 (by decide +kernel) rfl), (lg_mem 406 (by decide +kernel) rfl), (lg_mem 407 (by decide +kernel) rfl)⟩
theorem lkv_X5_54 : LkV RX5 54 M_X0_watchedBy := ⟨(lg_mem 416 (by decide +kernel) rfl), (lg_mem 417 (by decide +kernel) rfl), (lg_mem 418 (by decide +kernel) rfl)⟩
theorem fl_X5_58 : Cond.fieldLink RX5 58 (TX0 3).1 (TX0 3).2.1 (TX0 3).2.2.1 ∈ lw_good := (lg_mem 123 (by decide +kernel) rfl)
theorem fl_X5_64 : Cond.fieldLink RX5 64 (TX0 6).1 (TX0 6).2.1 (TX0 6).2.2.1 ∈ lw_good := (lg_mem 135 (by decide +kernel) rfl)
theorem lkmax_X5_67 : Cond.methodLink RX5 67 Lib.Math.max.name ∈ lw_good := (lg_mem 457 (by decide +kernel) rfl)
theorem lkmin_X5_76 : Cond.methodLink RX5 76 Lib.Math.min.name ∈ lw_good := (lg_mem 464 (by decide +kernel) rfl)
theorem st_min : Cond.static Lib.Math.min.name ∈ lw_good := (lg_mem 319 (by decide +kernel) rfl)
theorem co_min : Cond.code Lib.Math.min.name Lib.Math.min.code 2 (some .int) ∈ lw_good := (lg_mem 320 (by decide +kernel) rfl)
theorem lkv_X5_61 : LkV RX5 61 M_X5_placeOf := ⟨(lg_mem 456 (by decide +kernel) rfl), (lg_mem 390 (by decide +kernel) rfl), (lg_mem 391 (by decide +kernel) rfl)⟩
theorem lkv_X5_73 : LkV RX5 73 M_X0_burden := ⟨(lg_mem 460 (by decide +kernel) rfl), (lg_mem 461 (by decide +kernel) rfl), (lg_mem 462 (by decide +kernel) rfl)⟩
theorem fl_X5_79 : Cond.fieldLink RX5 79 (TX0 0).1 (TX0 0).2.1 (TX0 0).2.2.1 ∈ lw_good := (lg_mem 112 (by decide +kernel) rfl)
theorem fl_X5_82 : Cond.fieldLink RX5 82 (TX0 5).1 (TX0 5).2.1 (TX0 5).2.2.1 ∈ lw_good := (lg_mem 131 (by decide +kernel) rfl)
theorem lkv_X5_93 : LkV RX5 93 M_X0_nextPost := ⟨(lg_mem 478 (by decide +kernel) rfl), (lg_mem 479 (by decide +kernel) rfl), (lg_mem 480 (by decide +kernel) rfl)⟩
theorem lkv_X5_85 : LkV RX5 85 M_X5_freshestMan := ⟨(lg_mem 473 (by decide +kernel) rfl), (lg_mem 474 (by decide +kernel) rfl), (lg_mem 475 (by decide +kernel) rfl)⟩
theorem lkv_X5_89 : LkV RX5 89 M_X5_place := ⟨(lg_mem 477 (by decide +kernel) rfl), (lg_mem 435 (by decide +kernel) rfl), (lg_mem 436 (by decide +kernel) rfl)⟩
theorem lkv_X5_96 : LkV RX5 96 M_X5_passHour := ⟨(lg_mem 499 (by decide +kernel) rfl), (lg_mem 453 (by decide +kernel) rfl), (lg_mem 454 (by decide +kernel) rfl)⟩
theorem lkv_X5_100 : LkV RX5 100 M_X5_bringRelief := ⟨(lg_mem 500 (by decide +kernel) rfl), (lg_mem 470 (by decide +kernel) rfl), (lg_mem 471 (by decide +kernel) rfl)⟩
theorem fl_X5_104 : Cond.fieldLink RX5 104 (TX0 2).1 (TX0 2).2.1 (TX0 2).2.2.1 ∈ lw_good := (lg_mem 119 (by decide +kernel) rfl)
-- PostRelief$Watch.begin(LPostRelief$Depot;)V
def f_X5_begin (N : Nat) (d_debts : FN) (w_hour : Int32) (w_debts : FN) (w_guards : FN) (w_stood : FN) (w_served : FN) : Option (Int32 × FN × FN × FN × FN) :=
  some (0, (va_cpy d_debts w_debts (ci 0) (ci 0) (ci 6)), (fillF w_guards 5 (-9)), (fillF w_stood 5 0), (fillF w_served 30 0))
set_option maxHeartbeats 4000000 in
set_option maxRecDepth 100000 in
theorem m_X5_begin {γ : GX} {n : Nat} {N : Nat} {k : Nat} {h : HP} {d_posts : Int32} {d_sees : FN} {d_cold : FN} {d_men : Int32} {d_debts : FN} {d_on : Int32} {d_stove : Int32} {w_hour : Int32} {w_debts : FN} {w_guards : FN} {w_stood : FN} {w_served : FN} (hk : 11 ≤ k) (hH_d : Has n 3 (dpB γ 3 d_posts d_sees d_cold d_men d_debts d_on d_stove) h) (hH_w : Has n k (wtB γ k w_hour w_debts w_guards w_stood w_served) h) {z : Int32 × FN × FN × FN × FN} (hf : f_X5_begin N d_debts w_hour w_debts w_guards w_stood w_served = some z)  : Ct γ M_X5_begin n h [.ref (gB γ + k), .ref (gB γ + 3)] (Done none n (put k (wtB γ k z.1 z.2.1 z.2.2.1 z.2.2.2.1 z.2.2.2.2) h)) := by
  have hn_w : k + 5 ≤ n := hH_w.1
  refine Ct.heap (h := (put k (wtB γ k w_hour w_debts w_guards w_stood w_served) h)) (put_self hH_w).symm ?_
  refine Ct_of_Ev (by decide) (fun h => by cases h) (Nat.le_of_ble_eq_true rfl) ?_
  show Ev γ M_X5_begin (0, 0) n (put k (wtB γ k w_hour w_debts w_guards w_stood w_served) h) [(0, .ref (gB γ + k)), (1, .ref (gB γ + 3))] 0 [] _
  unfold f_X5_begin at hf
  refine E_aload_n 0 dX5_begin_0 (q := 1) rfl rfl rfl ?_
  refine E_iconst (x := 0) dX5_begin_1 (q := 2) rfl (by decide) ?_
  have hF1 : Has n k (wtB γ k w_hour w_debts w_guards w_stood w_served) (put k (wtB γ k w_hour w_debts w_guards w_stood w_served) h) := (has_put hn_w)
  refine E_put 0 dX5_begin_2 (q := 5) rfl ckX5 (Nat.le_of_ble_eq_true rfl) fl_X5_30 rfl rfl rfl (hF1.at 0 rfl) (hF1.lt 0 (Nat.le_of_ble_eq_true rfl)) (Nat.le_of_ble_eq_true rfl) (up_put (i := 0) (cs' := (wtB γ k 0 w_debts w_guards w_stood w_served)) (Nat.le_of_ble_eq_true rfl) rfl) ?_
  refine E_aload_n 1 dX5_begin_5 (q := 6) rfl rfl rfl ?_
  have hF3 : Has n 3 (dpB γ 3 d_posts d_sees d_cold d_men d_debts d_on d_stove) (put k (wtB γ k 0 w_debts w_guards w_stood w_served) h) := (has_out hH_d (Or.inl (by show 3 + 4 ≤ k; omega)))
  refine E_get 4 dX5_begin_6 (q := 9) rfl ckX0 (Nat.le_of_ble_eq_true rfl) fl_X5_34 (hF3.at 0 rfl) (hF3.lt 0 (Nat.le_of_ble_eq_true rfl)) rfl ?_
  refine E_iconst (x := 0) dX5_begin_9 (q := 10) rfl (by decide) ?_
  refine E_aload_n 0 dX5_begin_10 (q := 11) rfl rfl rfl ?_
  have hF4 : Has n k (wtB γ k 0 w_debts w_guards w_stood w_served) (put k (wtB γ k 0 w_debts w_guards w_stood w_served) h) := (has_put hn_w)
  refine E_get 1 dX5_begin_11 (q := 14) rfl ckX5 (Nat.le_of_ble_eq_true rfl) fl_X5_9 (hF4.at 0 rfl) (hF4.lt 0 (Nat.le_of_ble_eq_true rfl)) rfl ?_
  refine E_iconst (x := 0) dX5_begin_14 (q := 15) rfl (by decide) ?_
  refine E_bipush (x := 6) dX5_begin_15 (q := 17) rfl (by decide) ?_
  refine E_copy dX5_begin_17 (q := 20) rfl lkcp_X5_37 na_cp st_cp in_sys (hF3.at 3 rfl) (hF3.lt 3 (Nat.le_of_ble_eq_true rfl)) (hF4.at 1 rfl) (hF4.lt 1 (Nat.le_of_ble_eq_true rfl)) (by decide) (by decide) (by decide) (by decide) (by decide) (Nat.le_of_ble_eq_true rfl) (Nat.le_of_ble_eq_true rfl) (up_put (i := 1) (cs' := (wtB γ k 0 (va_cpy d_debts w_debts (ci 0) (ci 0) (ci 6)) w_guards w_stood w_served)) (Nat.le_of_ble_eq_true rfl) rfl) ?_
  refine E_aload_n 0 dX5_begin_20 (q := 21) rfl rfl rfl ?_
  have hF6 : Has n k (wtB γ k 0 (va_cpy d_debts w_debts (ci 0) (ci 0) (ci 6)) w_guards w_stood w_served) (put k (wtB γ k 0 (va_cpy d_debts w_debts (ci 0) (ci 0) (ci 6)) w_guards w_stood w_served) h) := (has_put hn_w)
  refine E_get 2 dX5_begin_21 (q := 24) rfl ckX5 (Nat.le_of_ble_eq_true rfl) fl_X5_15 (hF6.at 0 rfl) (hF6.lt 0 (Nat.le_of_ble_eq_true rfl)) rfl ?_
  refine E_bipush (x := (-9)) dX5_begin_24 (q := 26) rfl (by decide) ?_
  refine E_fill (a := k + 2) (len := 5) (x := (-9)) dX5_begin_26 (q := 29) rfl lks_X5_24 (Nat.le_of_ble_eq_true rfl) ⟨Nat.le_refl _, Nat.le_refl _⟩ (Nat.le_of_ble_eq_true rfl) (hF6.at 2 rfl) (hF6.lt 2 (Nat.le_of_ble_eq_true rfl)) (Nat.le_of_ble_eq_true rfl) (up_put (i := 2) (cs' := (wtB γ k 0 (va_cpy d_debts w_debts (ci 0) (ci 0) (ci 6)) (fillF w_guards 5 (-9)) w_stood w_served)) (Nat.le_of_ble_eq_true rfl) rfl) ?_
  refine E_aload_n 0 dX5_begin_29 (q := 30) rfl rfl rfl ?_
  have hF8 : Has n k (wtB γ k 0 (va_cpy d_debts w_debts (ci 0) (ci 0) (ci 6)) (fillF w_guards 5 (-9)) w_stood w_served) (put k (wtB γ k 0 (va_cpy d_debts w_debts (ci 0) (ci 0) (ci 6)) (fillF w_guards 5 (-9)) w_stood w_served) h) := (has_put hn_w)
  refine E_get 3 dX5_begin_30 (q := 33) rfl ckX5 (Nat.le_of_ble_eq_true rfl) fl_X5_18 (hF8.at 0 rfl) (hF8.lt 0 (Nat.le_of_ble_eq_true rfl)) rfl ?_
  refine E_iconst (x := 0) dX5_begin_33 (q := 34) rfl (by decide) ?_
  refine E_fill (a := k + 3) (len := 5) (x := 0) dX5_begin_34 (q := 37) rfl lks_X5_24 (Nat.le_of_ble_eq_true rfl) ⟨Nat.le_refl _, Nat.le_refl _⟩ (Nat.le_of_ble_eq_true rfl) (hF8.at 3 rfl) (hF8.lt 3 (Nat.le_of_ble_eq_true rfl)) (Nat.le_of_ble_eq_true rfl) (up_put (i := 3) (cs' := (wtB γ k 0 (va_cpy d_debts w_debts (ci 0) (ci 0) (ci 6)) (fillF w_guards 5 (-9)) (fillF w_stood 5 0) w_served)) (Nat.le_of_ble_eq_true rfl) rfl) ?_
  refine E_aload_n 0 dX5_begin_37 (q := 38) rfl rfl rfl ?_
  have hF10 : Has n k (wtB γ k 0 (va_cpy d_debts w_debts (ci 0) (ci 0) (ci 6)) (fillF w_guards 5 (-9)) (fillF w_stood 5 0) w_served) (put k (wtB γ k 0 (va_cpy d_debts w_debts (ci 0) (ci 0) (ci 6)) (fillF w_guards 5 (-9)) (fillF w_stood 5 0) w_served) h) := (has_put hn_w)
  refine E_get 4 dX5_begin_38 (q := 41) rfl ckX5 (Nat.le_of_ble_eq_true rfl) fl_X5_21 (hF10.at 0 rfl) (hF10.lt 0 (Nat.le_of_ble_eq_true rfl)) rfl ?_
  refine E_iconst (x := 0) dX5_begin_41 (q := 42) rfl (by decide) ?_
  refine E_fill (a := k + 4) (len := 30) (x := 0) dX5_begin_42 (q := 45) rfl lks_X5_24 (Nat.le_of_ble_eq_true rfl) ⟨Nat.le_refl _, Nat.le_refl _⟩ (Nat.le_of_ble_eq_true rfl) (hF10.at 4 rfl) (hF10.lt 4 (Nat.le_of_ble_eq_true rfl)) (Nat.le_of_ble_eq_true rfl) (up_put (i := 4) (cs' := (wtB γ k 0 (va_cpy d_debts w_debts (ci 0) (ci 0) (ci 6)) (fillF w_guards 5 (-9)) (fillF w_stood 5 0) (fillF w_served 30 0))) (Nat.le_of_ble_eq_true rfl) rfl) ?_
  obtain rfl := Option.some.inj hf
  exact E_vret dX5_begin_45 rfl ⟨rfl, rfl, rfl⟩

-- PostRelief$Watch.become(LPostRelief$Watch;)V
def f_X5_become (N : Nat) (w_hour : Int32) (w_debts : FN) (w_guards : FN) (w_stood : FN) (w_served : FN) (o_hour : Int32) (o_debts : FN) (o_guards : FN) (o_stood : FN) (o_served : FN) : Option (Int32 × FN × FN × FN × FN) :=
  some (o_hour, (va_cpy o_debts w_debts (ci 0) (ci 0) (ci 6)), (va_cpy o_guards w_guards (ci 0) (ci 0) (ci 5)), (va_cpy o_stood w_stood (ci 0) (ci 0) (ci 5)), (va_cpy o_served w_served (ci 0) (ci 0) (ci 30)))
set_option maxHeartbeats 4000000 in
set_option maxRecDepth 100000 in
theorem m_X5_become {γ : GX} {n : Nat} {N : Nat} {k : Nat} {k2 : Nat} {h : HP} {w_hour : Int32} {w_debts : FN} {w_guards : FN} {w_stood : FN} {w_served : FN} {o_hour : Int32} {o_debts : FN} {o_guards : FN} {o_stood : FN} {o_served : FN} (hk : 11 ≤ k) (hdk : k + 5 ≤ k2 ∨ k2 + 5 ≤ k) (hH_w : Has n k (wtB γ k w_hour w_debts w_guards w_stood w_served) h) (hH_o : Has n k2 (wtB γ k2 o_hour o_debts o_guards o_stood o_served) h) {z : Int32 × FN × FN × FN × FN} (hf : f_X5_become N w_hour w_debts w_guards w_stood w_served o_hour o_debts o_guards o_stood o_served = some z)  : Ct γ M_X5_become n h [.ref (gB γ + k), .ref (gB γ + k2)] (Done none n (put k (wtB γ k z.1 z.2.1 z.2.2.1 z.2.2.2.1 z.2.2.2.2) h)) := by
  have hn_w : k + 5 ≤ n := hH_w.1
  refine Ct.heap (h := (put k (wtB γ k w_hour w_debts w_guards w_stood w_served) h)) (put_self hH_w).symm ?_
  refine Ct_of_Ev (by decide) (fun h => by cases h) (Nat.le_of_ble_eq_true rfl) ?_
  show Ev γ M_X5_become (0, 0) n (put k (wtB γ k w_hour w_debts w_guards w_stood w_served) h) [(0, .ref (gB γ + k)), (1, .ref (gB γ + k2))] 0 [] _
  unfold f_X5_become at hf
  refine E_aload_n 0 dX5_become_0 (q := 1) rfl rfl rfl ?_
  refine E_aload_n 1 dX5_become_1 (q := 2) rfl rfl rfl ?_
  have hF1 : Has n k2 (wtB γ k2 o_hour o_debts o_guards o_stood o_served) (put k (wtB γ k w_hour w_debts w_guards w_stood w_served) h) := (has_out hH_o hdk.symm)
  refine E_get 0 dX5_become_2 (q := 5) rfl ckX5 (Nat.le_of_ble_eq_true rfl) fl_X5_30 (hF1.at 0 rfl) (hF1.lt 0 (Nat.le_of_ble_eq_true rfl)) rfl ?_
  have hF2 : Has n k (wtB γ k w_hour w_debts w_guards w_stood w_served) (put k (wtB γ k w_hour w_debts w_guards w_stood w_served) h) := (has_put hn_w)
  refine E_put 0 dX5_become_5 (q := 8) rfl ckX5 (Nat.le_of_ble_eq_true rfl) fl_X5_30 rfl rfl rfl (hF2.at 0 rfl) (hF2.lt 0 (Nat.le_of_ble_eq_true rfl)) (Nat.le_of_ble_eq_true rfl) (up_put (i := 0) (cs' := (wtB γ k o_hour w_debts w_guards w_stood w_served)) (Nat.le_of_ble_eq_true rfl) rfl) ?_
  refine E_aload_n 1 dX5_become_8 (q := 9) rfl rfl rfl ?_
  have hF4 : Has n k2 (wtB γ k2 o_hour o_debts o_guards o_stood o_served) (put k (wtB γ k o_hour w_debts w_guards w_stood w_served) h) := (has_out hH_o hdk.symm)
  refine E_get 1 dX5_become_9 (q := 12) rfl ckX5 (Nat.le_of_ble_eq_true rfl) fl_X5_9 (hF4.at 0 rfl) (hF4.lt 0 (Nat.le_of_ble_eq_true rfl)) rfl ?_
  refine E_iconst (x := 0) dX5_become_12 (q := 13) rfl (by decide) ?_
  refine E_aload_n 0 dX5_become_13 (q := 14) rfl rfl rfl ?_
  have hF5 : Has n k (wtB γ k o_hour w_debts w_guards w_stood w_served) (put k (wtB γ k o_hour w_debts w_guards w_stood w_served) h) := (has_put hn_w)
  refine E_get 1 dX5_become_14 (q := 17) rfl ckX5 (Nat.le_of_ble_eq_true rfl) fl_X5_9 (hF5.at 0 rfl) (hF5.lt 0 (Nat.le_of_ble_eq_true rfl)) rfl ?_
  refine E_iconst (x := 0) dX5_become_17 (q := 18) rfl (by decide) ?_
  refine E_bipush (x := 6) dX5_become_18 (q := 20) rfl (by decide) ?_
  refine E_copy dX5_become_20 (q := 23) rfl lkcp_X5_37 na_cp st_cp in_sys (hF4.at 1 rfl) (hF4.lt 1 (Nat.le_of_ble_eq_true rfl)) (hF5.at 1 rfl) (hF5.lt 1 (Nat.le_of_ble_eq_true rfl)) (by decide) (by decide) (by decide) (by decide) (by decide) (Nat.le_of_ble_eq_true rfl) (Nat.le_of_ble_eq_true rfl) (up_put (i := 1) (cs' := (wtB γ k o_hour (va_cpy o_debts w_debts (ci 0) (ci 0) (ci 6)) w_guards w_stood w_served)) (Nat.le_of_ble_eq_true rfl) rfl) ?_
  refine E_aload_n 1 dX5_become_23 (q := 24) rfl rfl rfl ?_
  have hF7 : Has n k2 (wtB γ k2 o_hour o_debts o_guards o_stood o_served) (put k (wtB γ k o_hour (va_cpy o_debts w_debts (ci 0) (ci 0) (ci 6)) w_guards w_stood w_served) h) := (has_out hH_o hdk.symm)
  refine E_get 2 dX5_become_24 (q := 27) rfl ckX5 (Nat.le_of_ble_eq_true rfl) fl_X5_15 (hF7.at 0 rfl) (hF7.lt 0 (Nat.le_of_ble_eq_true rfl)) rfl ?_
  refine E_iconst (x := 0) dX5_become_27 (q := 28) rfl (by decide) ?_
  refine E_aload_n 0 dX5_become_28 (q := 29) rfl rfl rfl ?_
  have hF8 : Has n k (wtB γ k o_hour (va_cpy o_debts w_debts (ci 0) (ci 0) (ci 6)) w_guards w_stood w_served) (put k (wtB γ k o_hour (va_cpy o_debts w_debts (ci 0) (ci 0) (ci 6)) w_guards w_stood w_served) h) := (has_put hn_w)
  refine E_get 2 dX5_become_29 (q := 32) rfl ckX5 (Nat.le_of_ble_eq_true rfl) fl_X5_15 (hF8.at 0 rfl) (hF8.lt 0 (Nat.le_of_ble_eq_true rfl)) rfl ?_
  refine E_iconst (x := 0) dX5_become_32 (q := 33) rfl (by decide) ?_
  refine E_iconst (x := 5) dX5_become_33 (q := 34) rfl (by decide) ?_
  refine E_copy dX5_become_34 (q := 37) rfl lkcp_X5_37 na_cp st_cp in_sys (hF7.at 2 rfl) (hF7.lt 2 (Nat.le_of_ble_eq_true rfl)) (hF8.at 2 rfl) (hF8.lt 2 (Nat.le_of_ble_eq_true rfl)) (by decide) (by decide) (by decide) (by decide) (by decide) (Nat.le_of_ble_eq_true rfl) (Nat.le_of_ble_eq_true rfl) (up_put (i := 2) (cs' := (wtB γ k o_hour (va_cpy o_debts w_debts (ci 0) (ci 0) (ci 6)) (va_cpy o_guards w_guards (ci 0) (ci 0) (ci 5)) w_stood w_served)) (Nat.le_of_ble_eq_true rfl) rfl) ?_
  refine E_aload_n 1 dX5_become_37 (q := 38) rfl rfl rfl ?_
  have hF10 : Has n k2 (wtB γ k2 o_hour o_debts o_guards o_stood o_served) (put k (wtB γ k o_hour (va_cpy o_debts w_debts (ci 0) (ci 0) (ci 6)) (va_cpy o_guards w_guards (ci 0) (ci 0) (ci 5)) w_stood w_served) h) := (has_out hH_o hdk.symm)
  refine E_get 3 dX5_become_38 (q := 41) rfl ckX5 (Nat.le_of_ble_eq_true rfl) fl_X5_18 (hF10.at 0 rfl) (hF10.lt 0 (Nat.le_of_ble_eq_true rfl)) rfl ?_
  refine E_iconst (x := 0) dX5_become_41 (q := 42) rfl (by decide) ?_
  refine E_aload_n 0 dX5_become_42 (q := 43) rfl rfl rfl ?_
  have hF11 : Has n k (wtB γ k o_hour (va_cpy o_debts w_debts (ci 0) (ci 0) (ci 6)) (va_cpy o_guards w_guards (ci 0) (ci 0) (ci 5)) w_stood w_served) (put k (wtB γ k o_hour (va_cpy o_debts w_debts (ci 0) (ci 0) (ci 6)) (va_cpy o_guards w_guards (ci 0) (ci 0) (ci 5)) w_stood w_served) h) := (has_put hn_w)
  refine E_get 3 dX5_become_43 (q := 46) rfl ckX5 (Nat.le_of_ble_eq_true rfl) fl_X5_18 (hF11.at 0 rfl) (hF11.lt 0 (Nat.le_of_ble_eq_true rfl)) rfl ?_
  refine E_iconst (x := 0) dX5_become_46 (q := 47) rfl (by decide) ?_
  refine E_iconst (x := 5) dX5_become_47 (q := 48) rfl (by decide) ?_
  refine E_copy dX5_become_48 (q := 51) rfl lkcp_X5_37 na_cp st_cp in_sys (hF10.at 3 rfl) (hF10.lt 3 (Nat.le_of_ble_eq_true rfl)) (hF11.at 3 rfl) (hF11.lt 3 (Nat.le_of_ble_eq_true rfl)) (by decide) (by decide) (by decide) (by decide) (by decide) (Nat.le_of_ble_eq_true rfl) (Nat.le_of_ble_eq_true rfl) (up_put (i := 3) (cs' := (wtB γ k o_hour (va_cpy o_debts w_debts (ci 0) (ci 0) (ci 6)) (va_cpy o_guards w_guards (ci 0) (ci 0) (ci 5)) (va_cpy o_stood w_stood (ci 0) (ci 0) (ci 5)) w_served)) (Nat.le_of_ble_eq_true rfl) rfl) ?_
  refine E_aload_n 1 dX5_become_51 (q := 52) rfl rfl rfl ?_
  have hF13 : Has n k2 (wtB γ k2 o_hour o_debts o_guards o_stood o_served) (put k (wtB γ k o_hour (va_cpy o_debts w_debts (ci 0) (ci 0) (ci 6)) (va_cpy o_guards w_guards (ci 0) (ci 0) (ci 5)) (va_cpy o_stood w_stood (ci 0) (ci 0) (ci 5)) w_served) h) := (has_out hH_o hdk.symm)
  refine E_get 4 dX5_become_52 (q := 55) rfl ckX5 (Nat.le_of_ble_eq_true rfl) fl_X5_21 (hF13.at 0 rfl) (hF13.lt 0 (Nat.le_of_ble_eq_true rfl)) rfl ?_
  refine E_iconst (x := 0) dX5_become_55 (q := 56) rfl (by decide) ?_
  refine E_aload_n 0 dX5_become_56 (q := 57) rfl rfl rfl ?_
  have hF14 : Has n k (wtB γ k o_hour (va_cpy o_debts w_debts (ci 0) (ci 0) (ci 6)) (va_cpy o_guards w_guards (ci 0) (ci 0) (ci 5)) (va_cpy o_stood w_stood (ci 0) (ci 0) (ci 5)) w_served) (put k (wtB γ k o_hour (va_cpy o_debts w_debts (ci 0) (ci 0) (ci 6)) (va_cpy o_guards w_guards (ci 0) (ci 0) (ci 5)) (va_cpy o_stood w_stood (ci 0) (ci 0) (ci 5)) w_served) h) := (has_put hn_w)
  refine E_get 4 dX5_become_57 (q := 60) rfl ckX5 (Nat.le_of_ble_eq_true rfl) fl_X5_21 (hF14.at 0 rfl) (hF14.lt 0 (Nat.le_of_ble_eq_true rfl)) rfl ?_
  refine E_iconst (x := 0) dX5_become_60 (q := 61) rfl (by decide) ?_
  refine E_bipush (x := 30) dX5_become_61 (q := 63) rfl (by decide) ?_
  refine E_copy dX5_become_63 (q := 66) rfl lkcp_X5_37 na_cp st_cp in_sys (hF13.at 4 rfl) (hF13.lt 4 (Nat.le_of_ble_eq_true rfl)) (hF14.at 4 rfl) (hF14.lt 4 (Nat.le_of_ble_eq_true rfl)) (by decide) (by decide) (by decide) (by decide) (by decide) (Nat.le_of_ble_eq_true rfl) (Nat.le_of_ble_eq_true rfl) (up_put (i := 4) (cs' := (wtB γ k o_hour (va_cpy o_debts w_debts (ci 0) (ci 0) (ci 6)) (va_cpy o_guards w_guards (ci 0) (ci 0) (ci 5)) (va_cpy o_stood w_stood (ci 0) (ci 0) (ci 5)) (va_cpy o_served w_served (ci 0) (ci 0) (ci 30)))) (Nat.le_of_ble_eq_true rfl) rfl) ?_
  obtain rfl := Option.some.inj hf
  exact E_vret dX5_become_66 rfl ⟨rfl, rfl, rfl⟩

-- PostRelief$Watch.placeOf(I)I
def b_X5_placeOf_1 (N : Nat) (p1 : Int32) (w_guards : FN) (v2 : Int32) : Option ((Int32) ⊕ ((Unit) ⊕ (Int32))) :=
  (if 5 ≤ v2 then some (.inr (.inl ())) else (if ix v2 5 = true then (if (w_guards (ci v2)) = p1 then some (.inr (.inr v2)) else some (.inl (v2 + 1))) else none))
def f_X5_placeOf (N : Nat) (a1 : Int32) (w_guards : FN) : Option (Int32) :=
  ((lp (fun s => b_X5_placeOf_1 N a1 w_guards s) N 0).bind (Sum.elim (fun t5e => some (-9)) (fun r_ => some r_)))
set_option maxHeartbeats 4000000 in
set_option maxRecDepth 100000 in
theorem L_X5_placeOf_1 {γ : GX} {n : Nat} {k : Nat} {h : HP} {Ψ : PS} {N : Nat} {p1 : Int32} {w_hour : Int32} {w_debts : FN} {w_guards : FN} {w_stood : FN} {w_served : FN} (hk : 11 ≤ k) (hH_w : Has n k (wtB γ k w_hour w_debts w_guards w_stood w_served) h) {s0 : Int32} {t : (Unit) ⊕ (Int32)} (hf : lp (fun s => b_X5_placeOf_1 N p1 w_guards s) N s0 = some t) (K : Sum.elim (fun e_ => Ev γ M_X5_placeOf (0, 0) n h [] 25 [] Ψ) (fun r_ => Ψ (some (.int r_)) n h) t) : Ev γ M_X5_placeOf (0, 0) n h [(0, .ref (gB γ + k)), (1, .int p1), (2, .int s0)] 2 [] Ψ := by
  refine E_lp (P := fun s => Ev γ M_X5_placeOf (0, 0) n h [(0, .ref (gB γ + k)), (1, .int p1), (2, .int s)] 2 [] Ψ) (K := fun t => Sum.elim (fun e_ => Ev γ M_X5_placeOf (0, 0) n h [] 25 [] Ψ) (fun r_ => Ψ (some (.int r_)) n h) t) ?_ N s0 t hf K
  intro s r hf hP hK
  obtain ⟨v2, hs⟩ : ∃ z, z = s := ⟨s, rfl⟩; subst hs
  unfold b_X5_placeOf_1 at hf
  try dsimp only at hf
  show Ev γ M_X5_placeOf (0, 0) n h [(0, .ref (gB γ + k)), (1, .int p1), (2, .int v2)] 2 [] Ψ
  refine E_iload_n 2 dX5_placeOf_2 (q := 3) rfl rfl rfl ?_
  refine E_iconst (x := 5) dX5_placeOf_3 (q := 4) rfl (by decide) ?_
  refine E_icmp_ge dX5_placeOf_4 (t := 25) (by decide) (q := 7) rfl (fun c2 => ?_) (fun c2 => ?_)
  · have hf := if_t c2 hf
    exact E_sub [] rfl (hK _ (Option.some.inj hf).symm)
  · have hf := if_f c2 hf
    refine E_aload_n 0 dX5_placeOf_7 (q := 8) rfl rfl rfl ?_
    refine E_get 2 dX5_placeOf_8 (q := 11) rfl ckX5 (Nat.le_of_ble_eq_true rfl) fl_X5_15 (hH_w.at 0 rfl) (hH_w.lt 0 (Nat.le_of_ble_eq_true rfl)) rfl ?_
    refine E_iload_n 2 dX5_placeOf_11 (q := 12) rfl rfl rfl ?_
    obtain ⟨g3, hf⟩ := gd hf
    refine E_iald dX5_placeOf_12 (q := 13) rfl (hH_w.at 2 rfl) (hH_w.lt 2 (Nat.le_of_ble_eq_true rfl)) g3 ?_
    refine E_iload_n 1 dX5_placeOf_13 (q := 14) rfl rfl rfl ?_
    refine E_icmp_ne dX5_placeOf_14 (t := 19) (by decide) (q := 17) rfl (fun c4 => ?_) (fun c4 => ?_)
    · have hf := if_f c4 hf
      refine E_iinc 2 [(2, .int (v2 + 1)), (0, .ref (gB γ + k)), (1, .int p1)] dX5_placeOf_19 (q := 22) rfl rfl rfl (Nat.le_of_ble_eq_true rfl) rfl ?_
      refine E_goto (q := 2) dX5_placeOf_22 (by decide) ?_
      exact E_sub [1, 2, 0] rfl (hP _ (Option.some.inj hf).symm)
    · have hf := if_t c4 hf
      refine E_iload_n 2 dX5_placeOf_17 (q := 18) rfl rfl rfl ?_
      exact E_iret dX5_placeOf_18 rfl (hK _ (Option.some.inj hf).symm)
set_option maxHeartbeats 4000000 in
set_option maxRecDepth 100000 in
theorem m_X5_placeOf {γ : GX} {n : Nat} {N : Nat} {k : Nat} {h : HP} {a1 : Int32} {w_hour : Int32} {w_debts : FN} {w_guards : FN} {w_stood : FN} {w_served : FN} (hk : 11 ≤ k) (hH_w : Has n k (wtB γ k w_hour w_debts w_guards w_stood w_served) h) {z : Int32} (hf : f_X5_placeOf N a1 w_guards = some z)  : Ct γ M_X5_placeOf n h [.ref (gB γ + k), .int a1] (Done (some (.int z)) n h) := by
  refine Ct_of_Ev (by decide) (fun h => by cases h) (Nat.le_of_ble_eq_true rfl) ?_
  show Ev γ M_X5_placeOf (0, 0) n h [(0, .ref (gB γ + k)), (1, .int a1)] 0 [] _
  unfold f_X5_placeOf at hf
  refine E_iconst (x := 0) dX5_placeOf_0 (q := 1) rfl (by decide) ?_
  refine E_istore_n [(2, .int 0), (0, .ref (gB γ + k)), (1, .int a1)] dX5_placeOf_1 (q := 2) rfl rfl (Nat.le_of_ble_eq_true rfl) rfl ?_
  obtain ⟨t5, hxt5, hf⟩ := bnd hf
  rcases t5 with t5e | t5r
  · dsimp only [Sum.elim_inl] at hf
    refine E_sub [1, 2, 0] rfl ?_
    refine L_X5_placeOf_1 hk hH_w hxt5 ?_
    show Ev γ M_X5_placeOf _ n h [] 25 [] _
    refine E_bipush (x := (-9)) dX5_placeOf_25 (q := 27) rfl (by decide) ?_
    obtain rfl := Option.some.inj hf
    exact E_iret dX5_placeOf_27 rfl ⟨rfl, rfl, rfl⟩
  · dsimp only [Sum.elim_inr] at hf
    obtain rfl := Option.some.inj hf
    refine E_sub [1, 2, 0] rfl ?_
    refine L_X5_placeOf_1 hk hH_w hxt5 ?_
    exact ⟨rfl, rfl, rfl⟩

-- PostRelief$Watch.place(II)V
def f_X5_place (N : Nat) (a1 : Int32) (a2 : Int32) (w_guards : FN) (w_stood : FN) : Option (FN × FN) :=
  (if ix a2 5 = true then some ((upd w_guards (ci a2) a1), (upd w_stood (ci a2) 0)) else none)
set_option maxHeartbeats 4000000 in
set_option maxRecDepth 100000 in
theorem m_X5_place {γ : GX} {n : Nat} {N : Nat} {k : Nat} {h : HP} {a1 : Int32} {a2 : Int32} {w_hour : Int32} {w_debts : FN} {w_guards : FN} {w_stood : FN} {w_served : FN} (hk : 11 ≤ k) (hH_w : Has n k (wtB γ k w_hour w_debts w_guards w_stood w_served) h) {z : FN × FN} (hf : f_X5_place N a1 a2 w_guards w_stood = some z)  : Ct γ M_X5_place n h [.ref (gB γ + k), .int a1, .int a2] (Done none n (put k (wtB γ k w_hour w_debts z.1 z.2 w_served) h)) := by
  have hn_w : k + 5 ≤ n := hH_w.1
  refine Ct.heap (h := (put k (wtB γ k w_hour w_debts w_guards w_stood w_served) h)) (put_self hH_w).symm ?_
  refine Ct_of_Ev (by decide) (fun h => by cases h) (Nat.le_of_ble_eq_true rfl) ?_
  show Ev γ M_X5_place (0, 0) n (put k (wtB γ k w_hour w_debts w_guards w_stood w_served) h) [(0, .ref (gB γ + k)), (1, .int a1), (2, .int a2)] 0 [] _
  unfold f_X5_place at hf
  refine E_aload_n 0 dX5_place_0 (q := 1) rfl rfl rfl ?_
  have hF1 : Has n k (wtB γ k w_hour w_debts w_guards w_stood w_served) (put k (wtB γ k w_hour w_debts w_guards w_stood w_served) h) := (has_put hn_w)
  refine E_get 2 dX5_place_1 (q := 4) rfl ckX5 (Nat.le_of_ble_eq_true rfl) fl_X5_15 (hF1.at 0 rfl) (hF1.lt 0 (Nat.le_of_ble_eq_true rfl)) rfl ?_
  refine E_iload_n 2 dX5_place_4 (q := 5) rfl rfl rfl ?_
  refine E_iload_n 1 dX5_place_5 (q := 6) rfl rfl rfl ?_
  obtain ⟨g2, hf⟩ := gd hf
  refine E_iast dX5_place_6 (q := 7) rfl (hF1.at 2 rfl) (hF1.lt 2 (Nat.le_of_ble_eq_true rfl)) g2 (up_put (i := 2) (cs' := (wtB γ k w_hour w_debts (upd w_guards (ci a2) a1) w_stood w_served)) (Nat.le_of_ble_eq_true rfl) rfl) ?_
  refine E_aload_n 0 dX5_place_7 (q := 8) rfl rfl rfl ?_
  have hF4 : Has n k (wtB γ k w_hour w_debts (upd w_guards (ci a2) a1) w_stood w_served) (put k (wtB γ k w_hour w_debts (upd w_guards (ci a2) a1) w_stood w_served) h) := (has_put hn_w)
  refine E_get 3 dX5_place_8 (q := 11) rfl ckX5 (Nat.le_of_ble_eq_true rfl) fl_X5_18 (hF4.at 0 rfl) (hF4.lt 0 (Nat.le_of_ble_eq_true rfl)) rfl ?_
  refine E_iload_n 2 dX5_place_11 (q := 12) rfl rfl rfl ?_
  refine E_iconst (x := 0) dX5_place_12 (q := 13) rfl (by decide) ?_
  refine E_iast dX5_place_13 (q := 14) rfl (hF4.at 3 rfl) (hF4.lt 3 (Nat.le_of_ble_eq_true rfl)) g2 (up_put (i := 3) (cs' := (wtB γ k w_hour w_debts (upd w_guards (ci a2) a1) (upd w_stood (ci a2) 0) w_served)) (Nat.le_of_ble_eq_true rfl) rfl) ?_
  obtain rfl := Option.some.inj hf
  exact E_vret dX5_place_14 rfl ⟨rfl, rfl, rfl⟩

-- PostRelief$Watch.sleepsAt(I)Z
def f_X5_sleepsAt (N : Nat) (a1 : Int32) (w_debts : FN) (w_guards : FN) : Option (Int32) :=
  (if ix a1 5 = true then (if (w_guards (ci a1)) = (-9) then some 0 else (if ix (w_guards (ci a1)) 6 = true then (if (w_debts (ci (w_guards (ci a1)))) < 40 then some 0 else some 1) else none)) else none)
set_option maxHeartbeats 4000000 in
set_option maxRecDepth 100000 in
theorem m_X5_sleepsAt {γ : GX} {n : Nat} {N : Nat} {k : Nat} {h : HP} {a1 : Int32} {w_hour : Int32} {w_debts : FN} {w_guards : FN} {w_stood : FN} {w_served : FN} (hk : 11 ≤ k) (hH_w : Has n k (wtB γ k w_hour w_debts w_guards w_stood w_served) h) {z : Int32} (hf : f_X5_sleepsAt N a1 w_debts w_guards = some z)  : Ct γ M_X5_sleepsAt n h [.ref (gB γ + k), .int a1] (Done (some (.int z)) n h) := by
  refine Ct_of_Ev (by decide) (fun h => by cases h) (Nat.le_of_ble_eq_true rfl) ?_
  show Ev γ M_X5_sleepsAt (0, 0) n h [(0, .ref (gB γ + k)), (1, .int a1)] 0 [] _
  unfold f_X5_sleepsAt at hf
  refine E_aload_n 0 dX5_sleepsAt_0 (q := 1) rfl rfl rfl ?_
  refine E_get 2 dX5_sleepsAt_1 (q := 4) rfl ckX5 (Nat.le_of_ble_eq_true rfl) fl_X5_15 (hH_w.at 0 rfl) (hH_w.lt 0 (Nat.le_of_ble_eq_true rfl)) rfl ?_
  refine E_iload_n 1 dX5_sleepsAt_4 (q := 5) rfl rfl rfl ?_
  obtain ⟨g1, hf⟩ := gd hf
  refine E_iald dX5_sleepsAt_5 (q := 6) rfl (hH_w.at 2 rfl) (hH_w.lt 2 (Nat.le_of_ble_eq_true rfl)) g1 ?_
  refine E_istore_n [(2, .int (w_guards (ci a1))), (0, .ref (gB γ + k)), (1, .int a1)] dX5_sleepsAt_6 (q := 7) rfl rfl (Nat.le_of_ble_eq_true rfl) rfl ?_
  refine E_iload_n 0 dX5_sleepsAt_7 (q := 8) rfl rfl rfl ?_
  refine E_bipush (x := (-9)) dX5_sleepsAt_8 (q := 10) rfl (by decide) ?_
  refine E_icmp_eq dX5_sleepsAt_10 (t := 28) (by decide) (q := 13) rfl (fun c2 => ?_) (fun c2 => ?_)
  · have hf := if_t c2 hf
    refine E_iconst (x := 0) dX5_sleepsAt_28 (q := 29) rfl (by decide) ?_
    obtain rfl := Option.some.inj hf
    exact E_zret dX5_sleepsAt_29 rfl rfl ⟨rfl, rfl, rfl⟩
  · have hf := if_f c2 hf
    refine E_aload_n 1 dX5_sleepsAt_13 (q := 14) rfl rfl rfl ?_
    refine E_get 1 dX5_sleepsAt_14 (q := 17) rfl ckX5 (Nat.le_of_ble_eq_true rfl) fl_X5_9 (hH_w.at 0 rfl) (hH_w.lt 0 (Nat.le_of_ble_eq_true rfl)) rfl ?_
    refine E_iload_n 0 dX5_sleepsAt_17 (q := 18) rfl rfl rfl ?_
    obtain ⟨g3, hf⟩ := gd hf
    refine E_iald dX5_sleepsAt_18 (q := 19) rfl (hH_w.at 1 rfl) (hH_w.lt 1 (Nat.le_of_ble_eq_true rfl)) g3 ?_
    refine E_bipush (x := 40) dX5_sleepsAt_19 (q := 21) rfl (by decide) ?_
    refine E_icmp_lt dX5_sleepsAt_21 (t := 28) (by decide) (q := 24) rfl (fun c4 => ?_) (fun c4 => ?_)
    · have hf := if_t c4 hf
      refine E_iconst (x := 0) dX5_sleepsAt_28 (q := 29) rfl (by decide) ?_
      obtain rfl := Option.some.inj hf
      exact E_zret dX5_sleepsAt_29 rfl rfl ⟨rfl, rfl, rfl⟩
    · have hf := if_f c4 hf
      refine E_iconst (x := 1) dX5_sleepsAt_24 (q := 25) rfl (by decide) ?_
      refine E_goto (q := 29) dX5_sleepsAt_25 (by decide) ?_
      obtain rfl := Option.some.inj hf
      exact E_zret dX5_sleepsAt_29 rfl rfl ⟨rfl, rfl, rfl⟩

-- PostRelief$Watch.mannedPosts()I
def b_X5_mannedPosts_1 (N : Nat) (w_guards : FN) (v1 : Int32) (v2 : Int32) : Option ((Int32 × Int32) ⊕ (Int32)) :=
  (if 5 ≤ v2 then some (.inr v1) else (if ix v2 5 = true then (if (w_guards (ci v2)) = (-9) then some (.inl (v1, (v2 + 1))) else some (.inl ((v1 ||| (1 <<< (v2 &&& 31))), (v2 + 1)))) else none))
def f_X5_mannedPosts (N : Nat) (w_guards : FN) : Option (Int32) :=
  ((lp (fun s => b_X5_mannedPosts_1 N w_guards s.1 s.2) N (0, 0)).bind fun t5 => some t5)
set_option maxHeartbeats 4000000 in
set_option maxRecDepth 100000 in
theorem L_X5_mannedPosts_1 {γ : GX} {n : Nat} {k : Nat} {h : HP} {Ψ : PS} {N : Nat} {w_hour : Int32} {w_debts : FN} {w_guards : FN} {w_stood : FN} {w_served : FN} (hk : 11 ≤ k) (hH_w : Has n k (wtB γ k w_hour w_debts w_guards w_stood w_served) h) {s0 : Int32 × Int32} {t : Int32} (hf : lp (fun s => b_X5_mannedPosts_1 N w_guards s.1 s.2) N s0 = some t) (K : Ev γ M_X5_mannedPosts (0, 0) n h [(1, .int t)] 32 [] Ψ) : Ev γ M_X5_mannedPosts (0, 0) n h [(0, .ref (gB γ + k)), (1, .int s0.1), (2, .int s0.2)] 4 [] Ψ := by
  refine E_lp (P := fun s => Ev γ M_X5_mannedPosts (0, 0) n h [(0, .ref (gB γ + k)), (1, .int s.1), (2, .int s.2)] 4 [] Ψ) (K := fun t => Ev γ M_X5_mannedPosts (0, 0) n h [(1, .int t)] 32 [] Ψ) ?_ N s0 t hf K
  intro s r hf hP hK
  obtain ⟨v1, v2⟩ := s
  unfold b_X5_mannedPosts_1 at hf
  try dsimp only at hf
  show Ev γ M_X5_mannedPosts (0, 0) n h [(0, .ref (gB γ + k)), (1, .int v1), (2, .int v2)] 4 [] Ψ
  refine E_iload_n 2 dX5_mannedPosts_4 (q := 5) rfl rfl rfl ?_
  refine E_iconst (x := 5) dX5_mannedPosts_5 (q := 6) rfl (by decide) ?_
  refine E_icmp_ge dX5_mannedPosts_6 (t := 32) (by decide) (q := 9) rfl (fun c2 => ?_) (fun c2 => ?_)
  · have hf := if_t c2 hf
    exact E_sub [1] rfl (hK _ (Option.some.inj hf).symm)
  · have hf := if_f c2 hf
    refine E_aload_n 0 dX5_mannedPosts_9 (q := 10) rfl rfl rfl ?_
    refine E_get 2 dX5_mannedPosts_10 (q := 13) rfl ckX5 (Nat.le_of_ble_eq_true rfl) fl_X5_15 (hH_w.at 0 rfl) (hH_w.lt 0 (Nat.le_of_ble_eq_true rfl)) rfl ?_
    refine E_iload_n 2 dX5_mannedPosts_13 (q := 14) rfl rfl rfl ?_
    obtain ⟨g3, hf⟩ := gd hf
    refine E_iald dX5_mannedPosts_14 (q := 15) rfl (hH_w.at 2 rfl) (hH_w.lt 2 (Nat.le_of_ble_eq_true rfl)) g3 ?_
    refine E_bipush (x := (-9)) dX5_mannedPosts_15 (q := 17) rfl (by decide) ?_
    refine E_icmp_eq dX5_mannedPosts_17 (t := 26) (by decide) (q := 20) rfl (fun c4 => ?_) (fun c4 => ?_)
    · have hf := if_t c4 hf
      refine E_iinc 2 [(2, .int (v2 + 1)), (0, .ref (gB γ + k)), (1, .int v1)] dX5_mannedPosts_26 (q := 29) rfl rfl rfl (Nat.le_of_ble_eq_true rfl) rfl ?_
      refine E_goto (q := 4) dX5_mannedPosts_29 (by decide) ?_
      exact E_sub [1, 2, 0] rfl (hP _ (Option.some.inj hf).symm)
    · have hf := if_f c4 hf
      refine E_iload_n 1 dX5_mannedPosts_20 (q := 21) rfl rfl rfl ?_
      refine E_iconst (x := 1) dX5_mannedPosts_21 (q := 22) rfl (by decide) ?_
      refine E_iload_n 2 dX5_mannedPosts_22 (q := 23) rfl rfl rfl ?_
      refine E_ishl dX5_mannedPosts_23 (q := 24) rfl ?_
      refine E_ior dX5_mannedPosts_24 (q := 25) rfl ?_
      refine E_istore_n [(1, .int (v1 ||| (1 <<< (v2 &&& 31)))), (0, .ref (gB γ + k)), (2, .int v2)] dX5_mannedPosts_25 (q := 26) rfl rfl (Nat.le_of_ble_eq_true rfl) rfl ?_
      refine E_iinc 2 [(2, .int (v2 + 1)), (1, .int (v1 ||| (1 <<< (v2 &&& 31)))), (0, .ref (gB γ + k))] dX5_mannedPosts_26 (q := 29) rfl rfl rfl (Nat.le_of_ble_eq_true rfl) rfl ?_
      refine E_goto (q := 4) dX5_mannedPosts_29 (by decide) ?_
      exact E_sub [2, 1, 0] rfl (hP _ (Option.some.inj hf).symm)
set_option maxHeartbeats 4000000 in
set_option maxRecDepth 100000 in
theorem m_X5_mannedPosts {γ : GX} {n : Nat} {N : Nat} {k : Nat} {h : HP} {w_hour : Int32} {w_debts : FN} {w_guards : FN} {w_stood : FN} {w_served : FN} (hk : 11 ≤ k) (hH_w : Has n k (wtB γ k w_hour w_debts w_guards w_stood w_served) h) {z : Int32} (hf : f_X5_mannedPosts N w_guards = some z)  : Ct γ M_X5_mannedPosts n h [.ref (gB γ + k)] (Done (some (.int z)) n h) := by
  refine Ct_of_Ev (by decide) (fun h => by cases h) (Nat.le_of_ble_eq_true rfl) ?_
  show Ev γ M_X5_mannedPosts (0, 0) n h [(0, .ref (gB γ + k))] 0 [] _
  unfold f_X5_mannedPosts at hf
  refine E_iconst (x := 0) dX5_mannedPosts_0 (q := 1) rfl (by decide) ?_
  refine E_istore_n [(1, .int 0), (0, .ref (gB γ + k))] dX5_mannedPosts_1 (q := 2) rfl rfl (Nat.le_of_ble_eq_true rfl) rfl ?_
  refine E_iconst (x := 0) dX5_mannedPosts_2 (q := 3) rfl (by decide) ?_
  refine E_istore_n [(2, .int 0), (1, .int 0), (0, .ref (gB γ + k))] dX5_mannedPosts_3 (q := 4) rfl rfl (Nat.le_of_ble_eq_true rfl) rfl ?_
  obtain ⟨t5, hxt5, hf⟩ := bnd hf
  refine E_sub [2, 1, 0] rfl ?_
  refine L_X5_mannedPosts_1 hk hH_w hxt5 ?_
  show Ev γ M_X5_mannedPosts _ n h [(1, .int t5)] 32 [] _
  refine E_iload_n 0 dX5_mannedPosts_32 (q := 33) rfl rfl rfl ?_
  obtain rfl := Option.some.inj hf
  exact E_iret dX5_mannedPosts_33 rfl ⟨rfl, rfl, rfl⟩

-- PostRelief$Watch.sleepingPosts()I
def b_X5_sleepingPosts_1 (N : Nat) (w_debts : FN) (w_guards : FN) (v1 : Int32) (v2 : Int32) : Option ((Int32 × Int32) ⊕ (Int32)) :=
  (if 5 ≤ v2 then some (.inr v1) else ((f_X5_sleepsAt N v2 w_debts w_guards).bind fun z3 => (if z3 = 0 then some (.inl (v1, (v2 + 1))) else some (.inl ((v1 ||| (1 <<< (v2 &&& 31))), (v2 + 1))))))
def f_X5_sleepingPosts (N : Nat) (w_debts : FN) (w_guards : FN) : Option (Int32) :=
  ((lp (fun s => b_X5_sleepingPosts_1 N w_debts w_guards s.1 s.2) N (0, 0)).bind fun t5 => some t5)
set_option maxHeartbeats 4000000 in
set_option maxRecDepth 100000 in
theorem L_X5_sleepingPosts_1 {γ : GX} {n : Nat} {k : Nat} {h : HP} {Ψ : PS} {N : Nat} {w_hour : Int32} {w_debts : FN} {w_guards : FN} {w_stood : FN} {w_served : FN} (hk : 11 ≤ k) (hH_w : Has n k (wtB γ k w_hour w_debts w_guards w_stood w_served) h) {s0 : Int32 × Int32} {t : Int32} (hf : lp (fun s => b_X5_sleepingPosts_1 N w_debts w_guards s.1 s.2) N s0 = some t) (K : Ev γ M_X5_sleepingPosts (0, 0) n h [(1, .int t)] 29 [] Ψ) : Ev γ M_X5_sleepingPosts (0, 0) n h [(0, .ref (gB γ + k)), (1, .int s0.1), (2, .int s0.2)] 4 [] Ψ := by
  refine E_lp (P := fun s => Ev γ M_X5_sleepingPosts (0, 0) n h [(0, .ref (gB γ + k)), (1, .int s.1), (2, .int s.2)] 4 [] Ψ) (K := fun t => Ev γ M_X5_sleepingPosts (0, 0) n h [(1, .int t)] 29 [] Ψ) ?_ N s0 t hf K
  intro s r hf hP hK
  obtain ⟨v1, v2⟩ := s
  unfold b_X5_sleepingPosts_1 at hf
  try dsimp only at hf
  show Ev γ M_X5_sleepingPosts (0, 0) n h [(0, .ref (gB γ + k)), (1, .int v1), (2, .int v2)] 4 [] Ψ
  refine E_iload_n 2 dX5_sleepingPosts_4 (q := 5) rfl rfl rfl ?_
  refine E_iconst (x := 5) dX5_sleepingPosts_5 (q := 6) rfl (by decide) ?_
  refine E_icmp_ge dX5_sleepingPosts_6 (t := 29) (by decide) (q := 9) rfl (fun c2 => ?_) (fun c2 => ?_)
  · have hf := if_t c2 hf
    exact E_sub [1] rfl (hK _ (Option.some.inj hf).symm)
  · have hf := if_f c2 hf
    refine E_aload_n 0 dX5_sleepingPosts_9 (q := 10) rfl rfl rfl ?_
    refine E_iload_n 2 dX5_sleepingPosts_10 (q := 11) rfl rfl rfl ?_
    obtain ⟨z3, hxz3, hf⟩ := bnd hf
    refine E_cV (as := [.int v2]) (k := k) (rest := []) (u' := (0, 0)) (st' := [.int z3]) dX5_sleepingPosts_11 (q := 14) rfl lkm_X5_sleepsAt lkv_X5_43 (Nat.le_of_ble_eq_true rfl) ckX5 (hH_w.at 0 rfl) (hH_w.lt 0 (Nat.le_of_ble_eq_true rfl)) ⟨Nat.le_refl _, Nat.le_refl _⟩ (Nat.le_of_ble_eq_true rfl) rfl rfl (m_X5_sleepsAt (N := N)  hk hH_w hxz3) rfl rfl rfl ?_
    refine E_if_eq dX5_sleepingPosts_14 (t := 23) (by decide) (q := 17) rfl (fun c4 => ?_) (fun c4 => ?_)
    · have hf := if_t c4 hf
      refine E_iinc 2 [(2, .int (v2 + 1)), (0, .ref (gB γ + k)), (1, .int v1)] dX5_sleepingPosts_23 (q := 26) rfl rfl rfl (Nat.le_of_ble_eq_true rfl) rfl ?_
      refine E_goto (q := 4) dX5_sleepingPosts_26 (by decide) ?_
      exact E_sub [1, 2, 0] rfl (hP _ (Option.some.inj hf).symm)
    · have hf := if_f c4 hf
      refine E_iload_n 1 dX5_sleepingPosts_17 (q := 18) rfl rfl rfl ?_
      refine E_iconst (x := 1) dX5_sleepingPosts_18 (q := 19) rfl (by decide) ?_
      refine E_iload_n 2 dX5_sleepingPosts_19 (q := 20) rfl rfl rfl ?_
      refine E_ishl dX5_sleepingPosts_20 (q := 21) rfl ?_
      refine E_ior dX5_sleepingPosts_21 (q := 22) rfl ?_
      refine E_istore_n [(1, .int (v1 ||| (1 <<< (v2 &&& 31)))), (0, .ref (gB γ + k)), (2, .int v2)] dX5_sleepingPosts_22 (q := 23) rfl rfl (Nat.le_of_ble_eq_true rfl) rfl ?_
      refine E_iinc 2 [(2, .int (v2 + 1)), (1, .int (v1 ||| (1 <<< (v2 &&& 31)))), (0, .ref (gB γ + k))] dX5_sleepingPosts_23 (q := 26) rfl rfl rfl (Nat.le_of_ble_eq_true rfl) rfl ?_
      refine E_goto (q := 4) dX5_sleepingPosts_26 (by decide) ?_
      exact E_sub [2, 1, 0] rfl (hP _ (Option.some.inj hf).symm)
set_option maxHeartbeats 4000000 in
set_option maxRecDepth 100000 in
theorem m_X5_sleepingPosts {γ : GX} {n : Nat} {N : Nat} {k : Nat} {h : HP} {w_hour : Int32} {w_debts : FN} {w_guards : FN} {w_stood : FN} {w_served : FN} (hk : 11 ≤ k) (hH_w : Has n k (wtB γ k w_hour w_debts w_guards w_stood w_served) h) {z : Int32} (hf : f_X5_sleepingPosts N w_debts w_guards = some z)  : Ct γ M_X5_sleepingPosts n h [.ref (gB γ + k)] (Done (some (.int z)) n h) := by
  refine Ct_of_Ev (by decide) (fun h => by cases h) (Nat.le_of_ble_eq_true rfl) ?_
  show Ev γ M_X5_sleepingPosts (0, 0) n h [(0, .ref (gB γ + k))] 0 [] _
  unfold f_X5_sleepingPosts at hf
  refine E_iconst (x := 0) dX5_sleepingPosts_0 (q := 1) rfl (by decide) ?_
  refine E_istore_n [(1, .int 0), (0, .ref (gB γ + k))] dX5_sleepingPosts_1 (q := 2) rfl rfl (Nat.le_of_ble_eq_true rfl) rfl ?_
  refine E_iconst (x := 0) dX5_sleepingPosts_2 (q := 3) rfl (by decide) ?_
  refine E_istore_n [(2, .int 0), (1, .int 0), (0, .ref (gB γ + k))] dX5_sleepingPosts_3 (q := 4) rfl rfl (Nat.le_of_ble_eq_true rfl) rfl ?_
  obtain ⟨t5, hxt5, hf⟩ := bnd hf
  refine E_sub [2, 1, 0] rfl ?_
  refine L_X5_sleepingPosts_1 hk hH_w hxt5 ?_
  show Ev γ M_X5_sleepingPosts _ n h [(1, .int t5)] 29 [] _
  refine E_iload_n 0 dX5_sleepingPosts_29 (q := 30) rfl rfl rfl ?_
  obtain rfl := Option.some.inj hf
  exact E_iret dX5_sleepingPosts_30 rfl ⟨rfl, rfl, rfl⟩

-- PostRelief$Watch.watchedPosts(LPostRelief$Depot;)I
def f_X5_watchedPosts (N : Nat) (d_posts : Int32) (d_sees : FN) (w_debts : FN) (w_guards : FN) : Option (Int32) :=
  ((f_X5_mannedPosts N w_guards).bind fun z1 => ((f_X5_sleepingPosts N w_debts w_guards).bind fun z2 => ((f_X0_watchedBy N (z1 &&& (z2 ^^^ (-1))) d_posts d_sees).bind fun z3 => some z3)))
set_option maxHeartbeats 4000000 in
set_option maxRecDepth 100000 in
theorem m_X5_watchedPosts {γ : GX} {n : Nat} {N : Nat} {k : Nat} {h : HP} {d_posts : Int32} {d_sees : FN} {d_cold : FN} {d_men : Int32} {d_debts : FN} {d_on : Int32} {d_stove : Int32} {w_hour : Int32} {w_debts : FN} {w_guards : FN} {w_stood : FN} {w_served : FN} (hk : 11 ≤ k) (hH_d : Has n 3 (dpB γ 3 d_posts d_sees d_cold d_men d_debts d_on d_stove) h) (hH_w : Has n k (wtB γ k w_hour w_debts w_guards w_stood w_served) h) {z : Int32} (hf : f_X5_watchedPosts N d_posts d_sees w_debts w_guards = some z)  : Ct γ M_X5_watchedPosts n h [.ref (gB γ + k), .ref (gB γ + 3)] (Done (some (.int z)) n h) := by
  refine Ct_of_Ev (by decide) (fun h => by cases h) (Nat.le_of_ble_eq_true rfl) ?_
  show Ev γ M_X5_watchedPosts (0, 0) n h [(0, .ref (gB γ + k)), (1, .ref (gB γ + 3))] 0 [] _
  unfold f_X5_watchedPosts at hf
  refine E_aload_n 1 dX5_watchedPosts_0 (q := 1) rfl rfl rfl ?_
  refine E_aload_n 0 dX5_watchedPosts_1 (q := 2) rfl rfl rfl ?_
  obtain ⟨z1, hxz1, hf⟩ := bnd hf
  refine E_cV (as := []) (k := k) (rest := [.ref (gB γ + 3)]) (u' := (0, 0)) (st' := [.int z1, .ref (gB γ + 3)]) dX5_watchedPosts_2 (q := 5) rfl lkm_X5_mannedPosts lkv_X5_47 (Nat.le_of_ble_eq_true rfl) ckX5 (hH_w.at 0 rfl) (hH_w.lt 0 (Nat.le_of_ble_eq_true rfl)) ⟨Nat.le_refl _, Nat.le_refl _⟩ (Nat.le_of_ble_eq_true rfl) rfl rfl (m_X5_mannedPosts (N := N)  hk hH_w hxz1) rfl rfl rfl ?_
  refine E_aload_n 0 dX5_watchedPosts_5 (q := 6) rfl rfl rfl ?_
  obtain ⟨z2, hxz2, hf⟩ := bnd hf
  refine E_cV (as := []) (k := k) (rest := [.int z1, .ref (gB γ + 3)]) (u' := (0, 0)) (st' := [.int z2, .int z1, .ref (gB γ + 3)]) dX5_watchedPosts_6 (q := 9) rfl lkm_X5_sleepingPosts lkv_X5_51 (Nat.le_of_ble_eq_true rfl) ckX5 (hH_w.at 0 rfl) (hH_w.lt 0 (Nat.le_of_ble_eq_true rfl)) ⟨Nat.le_refl _, Nat.le_refl _⟩ (Nat.le_of_ble_eq_true rfl) rfl rfl (m_X5_sleepingPosts (N := N)  hk hH_w hxz2) rfl rfl rfl ?_
  refine E_iconst (x := (-1)) dX5_watchedPosts_9 (q := 10) rfl (by decide) ?_
  refine E_ixor dX5_watchedPosts_10 (q := 11) rfl ?_
  refine E_iand dX5_watchedPosts_11 (q := 12) rfl ?_
  obtain ⟨z3, hxz3, hf⟩ := bnd hf
  refine E_cV (as := [.int (z1 &&& (z2 ^^^ (-1)))]) (k := 3) (rest := []) (u' := (0, 0)) (st' := [.int z3]) dX5_watchedPosts_12 (q := 15) rfl lkm_X0_watchedBy lkv_X5_54 (Nat.le_of_ble_eq_true rfl) ckX0 (hH_d.at 0 rfl) (hH_d.lt 0 (Nat.le_of_ble_eq_true rfl)) ⟨Nat.le_refl _, Nat.le_refl _⟩ (Nat.le_of_ble_eq_true rfl) rfl rfl (m_X0_watchedBy (N := N)  hH_d hxz3) rfl rfl rfl ?_
  obtain rfl := Option.some.inj hf
  exact E_iret dX5_watchedPosts_15 rfl ⟨rfl, rfl, rfl⟩

-- PostRelief$Watch.passHour(LPostRelief$Depot;)V
def b_X5_passHour_1 (N : Nat) (d_cold : FN) (d_men : Int32) (d_stove : Int32) (w_hour : Int32) (w_guards : FN) (v2 : Int32) (w_debts : FN) (w_stood : FN) (w_served : FN) : Option ((Int32 × FN × FN × FN) ⊕ (FN × FN × FN)) :=
  (if d_men ≤ v2 then some (.inr (w_debts, w_stood, w_served)) else ((f_X5_placeOf N v2 w_guards).bind fun z4 => (if z4 = (-9) then (if ix v2 6 = true then some (.inl ((v2 + 1), (upd w_debts (ci v2) (if 0 < ((w_debts (ci v2)) - d_stove) then ((w_debts (ci v2)) - d_stove) else 0)), w_stood, w_served)) else none) else (if ix v2 6 = true then ((f_X0_burden N z4 w_hour d_cold).bind fun z10 => (if ix z4 5 = true then (if ix ((v2 * 5) + z4) 30 = true then some (.inl ((v2 + 1), (upd w_debts (ci v2) (if 60 < ((w_debts (ci v2)) + z10) then 60 else ((w_debts (ci v2)) + z10))), (upd w_stood (ci z4) ((w_stood (ci z4)) + 1)), (upd w_served (ci ((v2 * 5) + z4)) ((w_served (ci ((v2 * 5) + z4))) + 1)))) else none) else none)) else none))))
def f_X5_passHour (N : Nat) (d_cold : FN) (d_men : Int32) (d_stove : Int32) (w_hour : Int32) (w_debts : FN) (w_guards : FN) (w_stood : FN) (w_served : FN) : Option (Int32 × FN × FN × FN) :=
  ((lp (fun s => b_X5_passHour_1 N d_cold d_men d_stove w_hour w_guards s.1 s.2.1 s.2.2.1 s.2.2.2) N (0, w_debts, w_stood, w_served)).bind fun t18 => some ((w_hour + 1), t18.1, t18.2.1, t18.2.2))
set_option maxHeartbeats 4000000 in
set_option maxRecDepth 100000 in
theorem L_X5_passHour_1 {γ : GX} {n : Nat} {k : Nat} {h : HP} {Ψ : PS} {N : Nat} {d_posts : Int32} {d_sees : FN} {d_cold : FN} {d_men : Int32} {d_debts : FN} {d_on : Int32} {d_stove : Int32} {w_hour : Int32} {w_guards : FN} (hk : 11 ≤ k) (hH_d : Has n 3 (dpB γ 3 d_posts d_sees d_cold d_men d_debts d_on d_stove) h) (hn_w : k + 5 ≤ n) {s0 : Int32 × FN × FN × FN} {t : FN × FN × FN} (hf : lp (fun s => b_X5_passHour_1 N d_cold d_men d_stove w_hour w_guards s.1 s.2.1 s.2.2.1 s.2.2.2) N s0 = some t) (K : Ev γ M_X5_passHour (0, 0) n (put k (wtB γ k w_hour t.1 w_guards t.2.1 t.2.2) h) [(0, .ref (gB γ + k))] 103 [] Ψ) : Ev γ M_X5_passHour (0, 0) n (put k (wtB γ k w_hour s0.2.1 w_guards s0.2.2.1 s0.2.2.2) h) [(0, .ref (gB γ + k)), (1, .ref (gB γ + 3)), (2, .int s0.1)] 2 [] Ψ := by
  refine E_lp (P := fun s => Ev γ M_X5_passHour (0, 0) n (put k (wtB γ k w_hour s.2.1 w_guards s.2.2.1 s.2.2.2) h) [(0, .ref (gB γ + k)), (1, .ref (gB γ + 3)), (2, .int s.1)] 2 [] Ψ) (K := fun t => Ev γ M_X5_passHour (0, 0) n (put k (wtB γ k w_hour t.1 w_guards t.2.1 t.2.2) h) [(0, .ref (gB γ + k))] 103 [] Ψ) ?_ N s0 t hf K
  intro s r hf hP hK
  obtain ⟨v2, w_debts, w_stood, w_served⟩ := s
  unfold b_X5_passHour_1 at hf
  try dsimp only at hf
  show Ev γ M_X5_passHour (0, 0) n (put k (wtB γ k w_hour w_debts w_guards w_stood w_served) h) [(0, .ref (gB γ + k)), (1, .ref (gB γ + 3)), (2, .int v2)] 2 [] Ψ
  refine E_iload_n 2 dX5_passHour_2 (q := 3) rfl rfl rfl ?_
  refine E_aload_n 1 dX5_passHour_3 (q := 4) rfl rfl rfl ?_
  have hF2 : Has n 3 (dpB γ 3 d_posts d_sees d_cold d_men d_debts d_on d_stove) (put k (wtB γ k w_hour w_debts w_guards w_stood w_served) h) := (has_out hH_d (Or.inl (by show 3 + 4 ≤ k; omega)))
  refine E_get 3 dX5_passHour_4 (q := 7) rfl ckX0 (Nat.le_of_ble_eq_true rfl) fl_X5_58 (hF2.at 0 rfl) (hF2.lt 0 (Nat.le_of_ble_eq_true rfl)) rfl ?_
  refine E_icmp_ge dX5_passHour_7 (t := 103) (by decide) (q := 10) rfl (fun c3 => ?_) (fun c3 => ?_)
  · have hf := if_t c3 hf
    exact E_sub [0] rfl (hK _ (Option.some.inj hf).symm)
  · have hf := if_f c3 hf
    refine E_aload_n 0 dX5_passHour_10 (q := 11) rfl rfl rfl ?_
    refine E_iload_n 2 dX5_passHour_11 (q := 12) rfl rfl rfl ?_
    obtain ⟨z4, hxz4, hf⟩ := bnd hf
    have hF5 : Has n k (wtB γ k w_hour w_debts w_guards w_stood w_served) (put k (wtB γ k w_hour w_debts w_guards w_stood w_served) h) := (has_put hn_w)
    refine E_cV (as := [.int v2]) (k := k) (rest := []) (u' := (0, 0)) (st' := [.int z4]) dX5_passHour_12 (q := 15) rfl lkm_X5_placeOf lkv_X5_61 (Nat.le_of_ble_eq_true rfl) ckX5 (hF5.at 0 rfl) (hF5.lt 0 (Nat.le_of_ble_eq_true rfl)) ⟨Nat.le_refl _, Nat.le_refl _⟩ (Nat.le_of_ble_eq_true rfl) rfl rfl (m_X5_placeOf (N := N)  hk hF5 hxz4) rfl rfl rfl ?_
    refine E_istore_n [(3, .int z4), (0, .ref (gB γ + k)), (1, .ref (gB γ + 3)), (2, .int v2)] dX5_passHour_15 (q := 16) rfl rfl (Nat.le_of_ble_eq_true rfl) rfl ?_
    refine E_iload_n 0 dX5_passHour_16 (q := 17) rfl rfl rfl ?_
    refine E_bipush (x := (-9)) dX5_passHour_17 (q := 19) rfl (by decide) ?_
    refine E_icmp_ne dX5_passHour_19 (t := 46) (by decide) (q := 22) rfl (fun c6 => ?_) (fun c6 => ?_)
    · have hf := if_f c6 hf
      refine E_aload_n 1 dX5_passHour_46 (q := 47) rfl rfl rfl ?_
      refine E_get 1 dX5_passHour_47 (q := 50) rfl ckX5 (Nat.le_of_ble_eq_true rfl) fl_X5_9 (hF5.at 0 rfl) (hF5.lt 0 (Nat.le_of_ble_eq_true rfl)) rfl ?_
      refine E_iload_n 3 dX5_passHour_50 (q := 51) rfl rfl rfl ?_
      refine E_bipush (x := 60) dX5_passHour_51 (q := 53) rfl (by decide) ?_
      refine E_aload_n 1 dX5_passHour_53 (q := 54) rfl rfl rfl ?_
      refine E_get 1 dX5_passHour_54 (q := 57) rfl ckX5 (Nat.le_of_ble_eq_true rfl) fl_X5_9 (hF5.at 0 rfl) (hF5.lt 0 (Nat.le_of_ble_eq_true rfl)) rfl ?_
      refine E_iload_n 3 dX5_passHour_57 (q := 58) rfl rfl rfl ?_
      obtain ⟨g9, hf⟩ := gd hf
      refine E_iald dX5_passHour_58 (q := 59) rfl (hF5.at 1 rfl) (hF5.lt 1 (Nat.le_of_ble_eq_true rfl)) g9 ?_
      refine E_aload_n 2 dX5_passHour_59 (q := 60) rfl rfl rfl ?_
      refine E_iload_n 0 dX5_passHour_60 (q := 61) rfl rfl rfl ?_
      refine E_aload_n 1 dX5_passHour_61 (q := 62) rfl rfl rfl ?_
      refine E_get 0 dX5_passHour_62 (q := 65) rfl ckX5 (Nat.le_of_ble_eq_true rfl) fl_X5_30 (hF5.at 0 rfl) (hF5.lt 0 (Nat.le_of_ble_eq_true rfl)) rfl ?_
      obtain ⟨z10, hxz10, hf⟩ := bnd hf
      refine E_cV (as := [.int z4, .int w_hour]) (k := 3) (rest := [.int (w_debts (ci v2)), .int 60, .int v2, .ref (gB γ + (k + 1))]) (u' := (0, 0)) (st' := [.int z10, .int (w_debts (ci v2)), .int 60, .int v2, .ref (gB γ + (k + 1))]) dX5_passHour_65 (q := 68) rfl lkm_X0_burden lkv_X5_73 (Nat.le_of_ble_eq_true rfl) ckX0 (hF2.at 0 rfl) (hF2.lt 0 (Nat.le_of_ble_eq_true rfl)) ⟨Nat.le_refl _, Nat.le_refl _⟩ (Nat.le_of_ble_eq_true rfl) rfl rfl (m_X0_burden (N := N)  hF2 hxz10) rfl rfl rfl ?_
      refine E_iadd dX5_passHour_68 (q := 69) rfl ?_
      refine E_min dX5_passHour_69 (q := 72) rfl lkmin_X5_76 st_min in_math co_min (Nat.le_of_ble_eq_true rfl) (Nat.le_of_ble_eq_true rfl) ?_
      refine E_iast dX5_passHour_72 (q := 73) rfl (hF5.at 1 rfl) (hF5.lt 1 (Nat.le_of_ble_eq_true rfl)) g9 (up_put (i := 1) (cs' := (wtB γ k w_hour (upd w_debts (ci v2) (if 60 < ((w_debts (ci v2)) + z10) then 60 else ((w_debts (ci v2)) + z10))) w_guards w_stood w_served)) (Nat.le_of_ble_eq_true rfl) rfl) ?_
      refine E_aload_n 1 dX5_passHour_73 (q := 74) rfl rfl rfl ?_
      have hF12 : Has n k (wtB γ k w_hour (upd w_debts (ci v2) (if 60 < ((w_debts (ci v2)) + z10) then 60 else ((w_debts (ci v2)) + z10))) w_guards w_stood w_served) (put k (wtB γ k w_hour (upd w_debts (ci v2) (if 60 < ((w_debts (ci v2)) + z10) then 60 else ((w_debts (ci v2)) + z10))) w_guards w_stood w_served) h) := (has_put hn_w)
      refine E_get 3 dX5_passHour_74 (q := 77) rfl ckX5 (Nat.le_of_ble_eq_true rfl) fl_X5_18 (hF12.at 0 rfl) (hF12.lt 0 (Nat.le_of_ble_eq_true rfl)) rfl ?_
      refine E_iload_n 0 dX5_passHour_77 (q := 78) rfl rfl rfl ?_
      refine E_dup2 dX5_passHour_78 (q := 79) rfl rfl rfl ?_
      obtain ⟨g13, hf⟩ := gd hf
      refine E_iald dX5_passHour_79 (q := 80) rfl (hF12.at 3 rfl) (hF12.lt 3 (Nat.le_of_ble_eq_true rfl)) g13 ?_
      refine E_iconst (x := 1) dX5_passHour_80 (q := 81) rfl (by decide) ?_
      refine E_iadd dX5_passHour_81 (q := 82) rfl ?_
      refine E_iast dX5_passHour_82 (q := 83) rfl (hF12.at 3 rfl) (hF12.lt 3 (Nat.le_of_ble_eq_true rfl)) g13 (up_put (i := 3) (cs' := (wtB γ k w_hour (upd w_debts (ci v2) (if 60 < ((w_debts (ci v2)) + z10) then 60 else ((w_debts (ci v2)) + z10))) w_guards (upd w_stood (ci z4) ((w_stood (ci z4)) + 1)) w_served)) (Nat.le_of_ble_eq_true rfl) rfl) ?_
      refine E_aload_n 1 dX5_passHour_83 (q := 84) rfl rfl rfl ?_
      have hF15 : Has n k (wtB γ k w_hour (upd w_debts (ci v2) (if 60 < ((w_debts (ci v2)) + z10) then 60 else ((w_debts (ci v2)) + z10))) w_guards (upd w_stood (ci z4) ((w_stood (ci z4)) + 1)) w_served) (put k (wtB γ k w_hour (upd w_debts (ci v2) (if 60 < ((w_debts (ci v2)) + z10) then 60 else ((w_debts (ci v2)) + z10))) w_guards (upd w_stood (ci z4) ((w_stood (ci z4)) + 1)) w_served) h) := (has_put hn_w)
      refine E_get 4 dX5_passHour_84 (q := 87) rfl ckX5 (Nat.le_of_ble_eq_true rfl) fl_X5_21 (hF15.at 0 rfl) (hF15.lt 0 (Nat.le_of_ble_eq_true rfl)) rfl ?_
      refine E_iload_n 3 dX5_passHour_87 (q := 88) rfl rfl rfl ?_
      refine E_iconst (x := 5) dX5_passHour_88 (q := 89) rfl (by decide) ?_
      refine E_imul dX5_passHour_89 (q := 90) rfl ?_
      refine E_iload_n 0 dX5_passHour_90 (q := 91) rfl rfl rfl ?_
      refine E_iadd dX5_passHour_91 (q := 92) rfl ?_
      refine E_dup2 dX5_passHour_92 (q := 93) rfl rfl rfl ?_
      obtain ⟨g16, hf⟩ := gd hf
      refine E_iald dX5_passHour_93 (q := 94) rfl (hF15.at 4 rfl) (hF15.lt 4 (Nat.le_of_ble_eq_true rfl)) g16 ?_
      refine E_iconst (x := 1) dX5_passHour_94 (q := 95) rfl (by decide) ?_
      refine E_iadd dX5_passHour_95 (q := 96) rfl ?_
      refine E_iast dX5_passHour_96 (q := 97) rfl (hF15.at 4 rfl) (hF15.lt 4 (Nat.le_of_ble_eq_true rfl)) g16 (up_put (i := 4) (cs' := (wtB γ k w_hour (upd w_debts (ci v2) (if 60 < ((w_debts (ci v2)) + z10) then 60 else ((w_debts (ci v2)) + z10))) w_guards (upd w_stood (ci z4) ((w_stood (ci z4)) + 1)) (upd w_served (ci ((v2 * 5) + z4)) ((w_served (ci ((v2 * 5) + z4))) + 1)))) (Nat.le_of_ble_eq_true rfl) rfl) ?_
      refine E_iinc 3 [(2, .int (v2 + 1)), (3, .int z4), (0, .ref (gB γ + k)), (1, .ref (gB γ + 3))] dX5_passHour_97 (q := 100) rfl rfl rfl (Nat.le_of_ble_eq_true rfl) rfl ?_
      refine E_goto (q := 2) dX5_passHour_100 (by decide) ?_
      exact E_sub [2, 3, 0] rfl (hP _ (Option.some.inj hf).symm)
    · have hf := if_t c6 hf
      refine E_aload_n 1 dX5_passHour_22 (q := 23) rfl rfl rfl ?_
      refine E_get 1 dX5_passHour_23 (q := 26) rfl ckX5 (Nat.le_of_ble_eq_true rfl) fl_X5_9 (hF5.at 0 rfl) (hF5.lt 0 (Nat.le_of_ble_eq_true rfl)) rfl ?_
      refine E_iload_n 3 dX5_passHour_26 (q := 27) rfl rfl rfl ?_
      refine E_iconst (x := 0) dX5_passHour_27 (q := 28) rfl (by decide) ?_
      refine E_aload_n 1 dX5_passHour_28 (q := 29) rfl rfl rfl ?_
      refine E_get 1 dX5_passHour_29 (q := 32) rfl ckX5 (Nat.le_of_ble_eq_true rfl) fl_X5_9 (hF5.at 0 rfl) (hF5.lt 0 (Nat.le_of_ble_eq_true rfl)) rfl ?_
      refine E_iload_n 3 dX5_passHour_32 (q := 33) rfl rfl rfl ?_
      obtain ⟨g7, hf⟩ := gd hf
      refine E_iald dX5_passHour_33 (q := 34) rfl (hF5.at 1 rfl) (hF5.lt 1 (Nat.le_of_ble_eq_true rfl)) g7 ?_
      refine E_aload_n 2 dX5_passHour_34 (q := 35) rfl rfl rfl ?_
      refine E_get 6 dX5_passHour_35 (q := 38) rfl ckX0 (Nat.le_of_ble_eq_true rfl) fl_X5_64 (hF2.at 0 rfl) (hF2.lt 0 (Nat.le_of_ble_eq_true rfl)) rfl ?_
      refine E_isub dX5_passHour_38 (q := 39) rfl ?_
      refine E_max dX5_passHour_39 (q := 42) rfl lkmax_X5_67 st_max in_math co_max (Nat.le_of_ble_eq_true rfl) (Nat.le_of_ble_eq_true rfl) ?_
      refine E_iast dX5_passHour_42 (q := 43) rfl (hF5.at 1 rfl) (hF5.lt 1 (Nat.le_of_ble_eq_true rfl)) g7 (up_put (i := 1) (cs' := (wtB γ k w_hour (upd w_debts (ci v2) (if 0 < ((w_debts (ci v2)) - d_stove) then ((w_debts (ci v2)) - d_stove) else 0)) w_guards w_stood w_served)) (Nat.le_of_ble_eq_true rfl) rfl) ?_
      refine E_goto (q := 97) dX5_passHour_43 (by decide) ?_
      refine E_iinc 3 [(2, .int (v2 + 1)), (3, .int z4), (0, .ref (gB γ + k)), (1, .ref (gB γ + 3))] dX5_passHour_97 (q := 100) rfl rfl rfl (Nat.le_of_ble_eq_true rfl) rfl ?_
      refine E_goto (q := 2) dX5_passHour_100 (by decide) ?_
      exact E_sub [2, 3, 0] rfl (hP _ (Option.some.inj hf).symm)
set_option maxHeartbeats 4000000 in
set_option maxRecDepth 100000 in
theorem m_X5_passHour {γ : GX} {n : Nat} {N : Nat} {k : Nat} {h : HP} {d_posts : Int32} {d_sees : FN} {d_cold : FN} {d_men : Int32} {d_debts : FN} {d_on : Int32} {d_stove : Int32} {w_hour : Int32} {w_debts : FN} {w_guards : FN} {w_stood : FN} {w_served : FN} (hk : 11 ≤ k) (hH_d : Has n 3 (dpB γ 3 d_posts d_sees d_cold d_men d_debts d_on d_stove) h) (hH_w : Has n k (wtB γ k w_hour w_debts w_guards w_stood w_served) h) {z : Int32 × FN × FN × FN} (hf : f_X5_passHour N d_cold d_men d_stove w_hour w_debts w_guards w_stood w_served = some z)  : Ct γ M_X5_passHour n h [.ref (gB γ + k), .ref (gB γ + 3)] (Done none n (put k (wtB γ k z.1 z.2.1 w_guards z.2.2.1 z.2.2.2) h)) := by
  have hn_w : k + 5 ≤ n := hH_w.1
  refine Ct.heap (h := (put k (wtB γ k w_hour w_debts w_guards w_stood w_served) h)) (put_self hH_w).symm ?_
  refine Ct_of_Ev (by decide) (fun h => by cases h) (Nat.le_of_ble_eq_true rfl) ?_
  show Ev γ M_X5_passHour (0, 0) n (put k (wtB γ k w_hour w_debts w_guards w_stood w_served) h) [(0, .ref (gB γ + k)), (1, .ref (gB γ + 3))] 0 [] _
  unfold f_X5_passHour at hf
  refine E_iconst (x := 0) dX5_passHour_0 (q := 1) rfl (by decide) ?_
  refine E_istore_n [(2, .int 0), (0, .ref (gB γ + k)), (1, .ref (gB γ + 3))] dX5_passHour_1 (q := 2) rfl rfl (Nat.le_of_ble_eq_true rfl) rfl ?_
  obtain ⟨t18, hxt18, hf⟩ := bnd hf
  refine E_sub [1, 2, 0] rfl ?_
  refine L_X5_passHour_1 hk hH_d hn_w hxt18 ?_
  show Ev γ M_X5_passHour _ n (put k (wtB γ k w_hour t18.1 w_guards t18.2.1 t18.2.2) h) [(0, .ref (gB γ + k))] 103 [] _
  refine E_aload_n 0 dX5_passHour_103 (q := 104) rfl rfl rfl ?_
  refine E_dup dX5_passHour_104 (q := 105) rfl rfl ?_
  have hF20 : Has n k (wtB γ k w_hour t18.1 w_guards t18.2.1 t18.2.2) (put k (wtB γ k w_hour t18.1 w_guards t18.2.1 t18.2.2) h) := (has_put hn_w)
  refine E_get 0 dX5_passHour_105 (q := 108) rfl ckX5 (Nat.le_of_ble_eq_true rfl) fl_X5_30 (hF20.at 0 rfl) (hF20.lt 0 (Nat.le_of_ble_eq_true rfl)) rfl ?_
  refine E_iconst (x := 1) dX5_passHour_108 (q := 109) rfl (by decide) ?_
  refine E_iadd dX5_passHour_109 (q := 110) rfl ?_
  refine E_put 0 dX5_passHour_110 (q := 113) rfl ckX5 (Nat.le_of_ble_eq_true rfl) fl_X5_30 rfl rfl rfl (hF20.at 0 rfl) (hF20.lt 0 (Nat.le_of_ble_eq_true rfl)) (Nat.le_of_ble_eq_true rfl) (up_put (i := 0) (cs' := (wtB γ k (w_hour + 1) t18.1 w_guards t18.2.1 t18.2.2)) (Nat.le_of_ble_eq_true rfl) rfl) ?_
  obtain rfl := Option.some.inj hf
  exact E_vret dX5_passHour_113 rfl ⟨rfl, rfl, rfl⟩

-- PostRelief$Watch.freshestMan(LPostRelief$Depot;I)I
def b_X5_freshestMan_1 (N : Nat) (p2 : Int32) (d_men : Int32) (w_debts : FN) (w_guards : FN) (v3 : Int32) (v4 : Int32) : Option ((Int32 × Int32) ⊕ (Int32)) :=
  (if d_men ≤ v4 then some (.inr v3) else (if ((p2 >>> (v4 &&& 31)) &&& 1) = 0 then ((f_X5_placeOf N v4 w_guards).bind fun z4 => (if z4 = (-9) then (if v3 = (-9) then some (.inl (v4, (v4 + 1))) else (if ix v4 6 = true then (if ix v3 6 = true then (if (w_debts (ci v3)) ≤ (w_debts (ci v4)) then some (.inl (v3, (v4 + 1))) else some (.inl (v4, (v4 + 1)))) else none) else none)) else some (.inl (v3, (v4 + 1))))) else some (.inl (v3, (v4 + 1)))))
def f_X5_freshestMan (N : Nat) (a2 : Int32) (d_men : Int32) (w_debts : FN) (w_guards : FN) : Option (Int32) :=
  ((lp (fun s => b_X5_freshestMan_1 N a2 d_men w_debts w_guards s.1 s.2) N ((-9), 0)).bind fun t10 => some t10)
set_option maxHeartbeats 4000000 in
set_option maxRecDepth 100000 in
theorem L_X5_freshestMan_1 {γ : GX} {n : Nat} {k : Nat} {h : HP} {Ψ : PS} {N : Nat} {p2 : Int32} {d_posts : Int32} {d_sees : FN} {d_cold : FN} {d_men : Int32} {d_debts : FN} {d_on : Int32} {d_stove : Int32} {w_hour : Int32} {w_debts : FN} {w_guards : FN} {w_stood : FN} {w_served : FN} (hk : 11 ≤ k) (hH_d : Has n 3 (dpB γ 3 d_posts d_sees d_cold d_men d_debts d_on d_stove) h) (hH_w : Has n k (wtB γ k w_hour w_debts w_guards w_stood w_served) h) {s0 : Int32 × Int32} {t : Int32} (hf : lp (fun s => b_X5_freshestMan_1 N p2 d_men w_debts w_guards s.1 s.2) N s0 = some t) (K : Ev γ M_X5_freshestMan (0, 0) n h [(3, .int t)] 78 [] Ψ) : Ev γ M_X5_freshestMan (0, 0) n h [(0, .ref (gB γ + k)), (1, .ref (gB γ + 3)), (2, .int p2), (3, .int s0.1), (4, .int s0.2)] 6 [] Ψ := by
  refine E_lp (P := fun s => Ev γ M_X5_freshestMan (0, 0) n h [(0, .ref (gB γ + k)), (1, .ref (gB γ + 3)), (2, .int p2), (3, .int s.1), (4, .int s.2)] 6 [] Ψ) (K := fun t => Ev γ M_X5_freshestMan (0, 0) n h [(3, .int t)] 78 [] Ψ) ?_ N s0 t hf K
  intro s r hf hP hK
  obtain ⟨v3, v4⟩ := s
  unfold b_X5_freshestMan_1 at hf
  try dsimp only at hf
  show Ev γ M_X5_freshestMan (0, 0) n h [(0, .ref (gB γ + k)), (1, .ref (gB γ + 3)), (2, .int p2), (3, .int v3), (4, .int v4)] 6 [] Ψ
  refine E_iload 4 dX5_freshestMan_6 (q := 8) rfl rfl ?_
  refine E_aload_n 1 dX5_freshestMan_8 (q := 9) rfl rfl rfl ?_
  refine E_get 3 dX5_freshestMan_9 (q := 12) rfl ckX0 (Nat.le_of_ble_eq_true rfl) fl_X5_58 (hH_d.at 0 rfl) (hH_d.lt 0 (Nat.le_of_ble_eq_true rfl)) rfl ?_
  refine E_icmp_ge dX5_freshestMan_12 (t := 78) (by decide) (q := 15) rfl (fun c2 => ?_) (fun c2 => ?_)
  · have hf := if_t c2 hf
    exact E_sub [3] rfl (hK _ (Option.some.inj hf).symm)
  · have hf := if_f c2 hf
    refine E_iload_n 2 dX5_freshestMan_15 (q := 16) rfl rfl rfl ?_
    refine E_iload 4 dX5_freshestMan_16 (q := 18) rfl rfl ?_
    refine E_ishr dX5_freshestMan_18 (q := 19) rfl ?_
    refine E_iconst (x := 1) dX5_freshestMan_19 (q := 20) rfl (by decide) ?_
    refine E_iand dX5_freshestMan_20 (q := 21) rfl ?_
    refine E_if_ne dX5_freshestMan_21 (t := 39) (by decide) (q := 24) rfl (fun c3 => ?_) (fun c3 => ?_)
    · have hf := if_f c3 hf
      refine E_iconst (x := 0) dX5_freshestMan_39 (q := 40) rfl (by decide) ?_
      refine E_istore [(5, .int 0), (0, .ref (gB γ + k)), (1, .ref (gB γ + 3)), (2, .int p2), (3, .int v3), (4, .int v4)] dX5_freshestMan_40 (q := 42) rfl (Nat.le_of_ble_eq_true rfl) rfl ?_
      refine E_iload 0 dX5_freshestMan_42 (q := 44) rfl rfl ?_
      refine E_if_eq dX5_freshestMan_44 (t := 72) (by decide) (q := 47) rfl (fun _ => ?_) (fun c => absurd c (by decide))
      refine E_iinc 5 [(4, .int (v4 + 1)), (5, .int 0), (0, .ref (gB γ + k)), (1, .ref (gB γ + 3)), (2, .int p2), (3, .int v3)] dX5_freshestMan_72 (q := 75) rfl rfl rfl (Nat.le_of_ble_eq_true rfl) rfl ?_
      refine E_goto (q := 6) dX5_freshestMan_75 (by decide) ?_
      exact E_sub [2, 3, 4, 5, 0] rfl (hP _ (Option.some.inj hf).symm)
    · have hf := if_t c3 hf
      refine E_aload_n 0 dX5_freshestMan_24 (q := 25) rfl rfl rfl ?_
      refine E_iload 4 dX5_freshestMan_25 (q := 27) rfl rfl ?_
      obtain ⟨z4, hxz4, hf⟩ := bnd hf
      refine E_cV (as := [.int v4]) (k := k) (rest := []) (u' := (0, 0)) (st' := [.int z4]) dX5_freshestMan_27 (q := 30) rfl lkm_X5_placeOf lkv_X5_61 (Nat.le_of_ble_eq_true rfl) ckX5 (hH_w.at 0 rfl) (hH_w.lt 0 (Nat.le_of_ble_eq_true rfl)) ⟨Nat.le_refl _, Nat.le_refl _⟩ (Nat.le_of_ble_eq_true rfl) rfl rfl (m_X5_placeOf (N := N)  hk hH_w hxz4) rfl rfl rfl ?_
      refine E_bipush (x := (-9)) dX5_freshestMan_30 (q := 32) rfl (by decide) ?_
      refine E_icmp_ne dX5_freshestMan_32 (t := 39) (by decide) (q := 35) rfl (fun c5 => ?_) (fun c5 => ?_)
      · have hf := if_f c5 hf
        refine E_iconst (x := 0) dX5_freshestMan_39 (q := 40) rfl (by decide) ?_
        refine E_istore [(5, .int 0), (0, .ref (gB γ + k)), (1, .ref (gB γ + 3)), (2, .int p2), (3, .int v3), (4, .int v4)] dX5_freshestMan_40 (q := 42) rfl (Nat.le_of_ble_eq_true rfl) rfl ?_
        refine E_iload 0 dX5_freshestMan_42 (q := 44) rfl rfl ?_
        refine E_if_eq dX5_freshestMan_44 (t := 72) (by decide) (q := 47) rfl (fun _ => ?_) (fun c => absurd c (by decide))
        refine E_iinc 5 [(4, .int (v4 + 1)), (5, .int 0), (0, .ref (gB γ + k)), (1, .ref (gB γ + 3)), (2, .int p2), (3, .int v3)] dX5_freshestMan_72 (q := 75) rfl rfl rfl (Nat.le_of_ble_eq_true rfl) rfl ?_
        refine E_goto (q := 6) dX5_freshestMan_75 (by decide) ?_
        exact E_sub [2, 3, 4, 5, 0] rfl (hP _ (Option.some.inj hf).symm)
      · have hf := if_t c5 hf
        refine E_iconst (x := 1) dX5_freshestMan_35 (q := 36) rfl (by decide) ?_
        refine E_goto (q := 40) dX5_freshestMan_36 (by decide) ?_
        refine E_istore [(5, .int 1), (0, .ref (gB γ + k)), (1, .ref (gB γ + 3)), (2, .int p2), (3, .int v3), (4, .int v4)] dX5_freshestMan_40 (q := 42) rfl (Nat.le_of_ble_eq_true rfl) rfl ?_
        refine E_iload 0 dX5_freshestMan_42 (q := 44) rfl rfl ?_
        refine E_if_eq dX5_freshestMan_44 (t := 72) (by decide) (q := 47) rfl (fun c => absurd c (by decide)) (fun _ => ?_)
        refine E_iload_n 4 dX5_freshestMan_47 (q := 48) rfl rfl rfl ?_
        refine E_bipush (x := (-9)) dX5_freshestMan_48 (q := 50) rfl (by decide) ?_
        refine E_icmp_eq dX5_freshestMan_50 (t := 69) (by decide) (q := 53) rfl (fun c6 => ?_) (fun c6 => ?_)
        · have hf := if_t c6 hf
          refine E_iload 5 dX5_freshestMan_69 (q := 71) rfl rfl ?_
          refine E_istore_n [(3, .int v4), (5, .int 1), (0, .ref (gB γ + k)), (1, .ref (gB γ + 3)), (2, .int p2), (4, .int v4)] dX5_freshestMan_71 (q := 72) rfl rfl (Nat.le_of_ble_eq_true rfl) rfl ?_
          refine E_iinc 5 [(4, .int (v4 + 1)), (3, .int v4), (5, .int 1), (0, .ref (gB γ + k)), (1, .ref (gB γ + 3)), (2, .int p2)] dX5_freshestMan_72 (q := 75) rfl rfl rfl (Nat.le_of_ble_eq_true rfl) rfl ?_
          refine E_goto (q := 6) dX5_freshestMan_75 (by decide) ?_
          exact E_sub [3, 4, 5, 1, 0] rfl (hP _ (Option.some.inj hf).symm)
        · have hf := if_f c6 hf
          refine E_aload_n 1 dX5_freshestMan_53 (q := 54) rfl rfl rfl ?_
          refine E_get 1 dX5_freshestMan_54 (q := 57) rfl ckX5 (Nat.le_of_ble_eq_true rfl) fl_X5_9 (hH_w.at 0 rfl) (hH_w.lt 0 (Nat.le_of_ble_eq_true rfl)) rfl ?_
          refine E_iload 5 dX5_freshestMan_57 (q := 59) rfl rfl ?_
          obtain ⟨g7, hf⟩ := gd hf
          refine E_iald dX5_freshestMan_59 (q := 60) rfl (hH_w.at 1 rfl) (hH_w.lt 1 (Nat.le_of_ble_eq_true rfl)) g7 ?_
          refine E_aload_n 1 dX5_freshestMan_60 (q := 61) rfl rfl rfl ?_
          refine E_get 1 dX5_freshestMan_61 (q := 64) rfl ckX5 (Nat.le_of_ble_eq_true rfl) fl_X5_9 (hH_w.at 0 rfl) (hH_w.lt 0 (Nat.le_of_ble_eq_true rfl)) rfl ?_
          refine E_iload_n 4 dX5_freshestMan_64 (q := 65) rfl rfl rfl ?_
          obtain ⟨g8, hf⟩ := gd hf
          refine E_iald dX5_freshestMan_65 (q := 66) rfl (hH_w.at 1 rfl) (hH_w.lt 1 (Nat.le_of_ble_eq_true rfl)) g8 ?_
          refine E_icmp_ge dX5_freshestMan_66 (t := 72) (by decide) (q := 69) rfl (fun c9 => ?_) (fun c9 => ?_)
          · have hf := if_t c9 hf
            refine E_iinc 5 [(4, .int (v4 + 1)), (5, .int 1), (0, .ref (gB γ + k)), (1, .ref (gB γ + 3)), (2, .int p2), (3, .int v3)] dX5_freshestMan_72 (q := 75) rfl rfl rfl (Nat.le_of_ble_eq_true rfl) rfl ?_
            refine E_goto (q := 6) dX5_freshestMan_75 (by decide) ?_
            exact E_sub [2, 3, 4, 5, 0] rfl (hP _ (Option.some.inj hf).symm)
          · have hf := if_f c9 hf
            refine E_iload 5 dX5_freshestMan_69 (q := 71) rfl rfl ?_
            refine E_istore_n [(3, .int v4), (5, .int 1), (0, .ref (gB γ + k)), (1, .ref (gB γ + 3)), (2, .int p2), (4, .int v4)] dX5_freshestMan_71 (q := 72) rfl rfl (Nat.le_of_ble_eq_true rfl) rfl ?_
            refine E_iinc 5 [(4, .int (v4 + 1)), (3, .int v4), (5, .int 1), (0, .ref (gB γ + k)), (1, .ref (gB γ + 3)), (2, .int p2)] dX5_freshestMan_72 (q := 75) rfl rfl rfl (Nat.le_of_ble_eq_true rfl) rfl ?_
            refine E_goto (q := 6) dX5_freshestMan_75 (by decide) ?_
            exact E_sub [3, 4, 5, 1, 0] rfl (hP _ (Option.some.inj hf).symm)
set_option maxHeartbeats 4000000 in
set_option maxRecDepth 100000 in
theorem m_X5_freshestMan {γ : GX} {n : Nat} {N : Nat} {k : Nat} {h : HP} {a2 : Int32} {d_posts : Int32} {d_sees : FN} {d_cold : FN} {d_men : Int32} {d_debts : FN} {d_on : Int32} {d_stove : Int32} {w_hour : Int32} {w_debts : FN} {w_guards : FN} {w_stood : FN} {w_served : FN} (hk : 11 ≤ k) (hH_d : Has n 3 (dpB γ 3 d_posts d_sees d_cold d_men d_debts d_on d_stove) h) (hH_w : Has n k (wtB γ k w_hour w_debts w_guards w_stood w_served) h) {z : Int32} (hf : f_X5_freshestMan N a2 d_men w_debts w_guards = some z)  : Ct γ M_X5_freshestMan n h [.ref (gB γ + k), .ref (gB γ + 3), .int a2] (Done (some (.int z)) n h) := by
  refine Ct_of_Ev (by decide) (fun h => by cases h) (Nat.le_of_ble_eq_true rfl) ?_
  show Ev γ M_X5_freshestMan (0, 0) n h [(0, .ref (gB γ + k)), (1, .ref (gB γ + 3)), (2, .int a2)] 0 [] _
  unfold f_X5_freshestMan at hf
  refine E_bipush (x := (-9)) dX5_freshestMan_0 (q := 2) rfl (by decide) ?_
  refine E_istore_n [(3, .int (-9)), (0, .ref (gB γ + k)), (1, .ref (gB γ + 3)), (2, .int a2)] dX5_freshestMan_2 (q := 3) rfl rfl (Nat.le_of_ble_eq_true rfl) rfl ?_
  refine E_iconst (x := 0) dX5_freshestMan_3 (q := 4) rfl (by decide) ?_
  refine E_istore [(4, .int 0), (3, .int (-9)), (0, .ref (gB γ + k)), (1, .ref (gB γ + 3)), (2, .int a2)] dX5_freshestMan_4 (q := 6) rfl (Nat.le_of_ble_eq_true rfl) rfl ?_
  obtain ⟨t10, hxt10, hf⟩ := bnd hf
  refine E_sub [2, 3, 4, 1, 0] rfl ?_
  refine L_X5_freshestMan_1 hk hH_d hH_w hxt10 ?_
  show Ev γ M_X5_freshestMan _ n h [(3, .int t10)] 78 [] _
  refine E_iload_n 0 dX5_freshestMan_78 (q := 79) rfl rfl rfl ?_
  obtain rfl := Option.some.inj hf
  exact E_iret dX5_freshestMan_79 rfl ⟨rfl, rfl, rfl⟩

-- PostRelief$Watch.bringRelief(LPostRelief$Depot;II)I
def b_X5_bringRelief_1 (N : Nat) (p3 : Int32) (d_posts : Int32) (d_men : Int32) (d_on : Int32) (w_debts : FN) (v4 : Int32) (v5 : Int32) (v6 : Int32) (v7 : Int32) (w_guards : FN) (w_stood : FN) : Option ((Int32 × Int32 × Int32 × Int32 × FN × FN) ⊕ (Int32 × FN × FN)) :=
  (if d_posts ≤ v7 then some (.inr (v4, w_guards, w_stood)) else (if ix v6 5 = true then (if (w_guards (ci v6)) = (-9) then ((f_X0_nextPost N v6 p3 d_posts).bind fun z7 => some (.inl (v4, v5, z7, (v7 + 1), w_guards, w_stood))) else (if (w_stood (ci v6)) < d_on then ((f_X0_nextPost N v6 p3 d_posts).bind fun z9 => some (.inl (v4, v5, z9, (v7 + 1), w_guards, w_stood))) else ((f_X5_freshestMan N v5 d_men w_debts w_guards).bind fun z10 => (if z10 = (-9) then ((f_X0_nextPost N v6 p3 d_posts).bind fun z12 => some (.inl (v4, v5, z12, (v7 + 1), w_guards, w_stood))) else ((f_X5_place N z10 v6 w_guards w_stood).bind fun z13 => ((f_X0_nextPost N v6 p3 d_posts).bind fun z15 => some (.inl ((v4 + 1), (v5 ||| (1 <<< ((w_guards (ci v6)) &&& 31))), z15, (v7 + 1), z13.1, z13.2)))))))) else none))
def f_X5_bringRelief (N : Nat) (a2 : Int32) (a3 : Int32) (d_posts : Int32) (d_men : Int32) (d_on : Int32) (w_debts : FN) (w_guards : FN) (w_stood : FN) : Option (Int32 × FN × FN) :=
  ((lp (fun s => b_X5_bringRelief_1 N a3 d_posts d_men d_on w_debts s.1 s.2.1 s.2.2.1 s.2.2.2.1 s.2.2.2.2.1 s.2.2.2.2.2) N (0, 0, a2, 0, w_guards, w_stood)).bind fun t17 => some (t17.1, t17.2.1, t17.2.2))
set_option maxHeartbeats 4000000 in
set_option maxRecDepth 100000 in
theorem L_X5_bringRelief_1 {γ : GX} {n : Nat} {k : Nat} {h : HP} {Ψ : PS} {N : Nat} {p3 : Int32} {d_posts : Int32} {d_sees : FN} {d_cold : FN} {d_men : Int32} {d_debts : FN} {d_on : Int32} {d_stove : Int32} {w_hour : Int32} {w_debts : FN} {w_served : FN} (hk : 11 ≤ k) (hH_d : Has n 3 (dpB γ 3 d_posts d_sees d_cold d_men d_debts d_on d_stove) h) (hn_w : k + 5 ≤ n) {s0 : Int32 × Int32 × Int32 × Int32 × FN × FN} {t : Int32 × FN × FN} (hf : lp (fun s => b_X5_bringRelief_1 N p3 d_posts d_men d_on w_debts s.1 s.2.1 s.2.2.1 s.2.2.2.1 s.2.2.2.2.1 s.2.2.2.2.2) N s0 = some t) (K : Ev γ M_X5_bringRelief (0, 0) n (put k (wtB γ k w_hour w_debts t.2.1 t.2.2 w_served) h) [(4, .int t.1)] 107 [] Ψ) : Ev γ M_X5_bringRelief (0, 0) n (put k (wtB γ k w_hour w_debts s0.2.2.2.2.1 s0.2.2.2.2.2 w_served) h) [(0, .ref (gB γ + k)), (1, .ref (gB γ + 3)), (3, .int p3), (4, .int s0.1), (5, .int s0.2.1), (6, .int s0.2.2.1), (7, .int s0.2.2.2.1)] 12 [] Ψ := by
  refine E_lp (P := fun s => Ev γ M_X5_bringRelief (0, 0) n (put k (wtB γ k w_hour w_debts s.2.2.2.2.1 s.2.2.2.2.2 w_served) h) [(0, .ref (gB γ + k)), (1, .ref (gB γ + 3)), (3, .int p3), (4, .int s.1), (5, .int s.2.1), (6, .int s.2.2.1), (7, .int s.2.2.2.1)] 12 [] Ψ) (K := fun t => Ev γ M_X5_bringRelief (0, 0) n (put k (wtB γ k w_hour w_debts t.2.1 t.2.2 w_served) h) [(4, .int t.1)] 107 [] Ψ) ?_ N s0 t hf K
  intro s r hf hP hK
  obtain ⟨v4, v5, v6, v7, w_guards, w_stood⟩ := s
  unfold b_X5_bringRelief_1 at hf
  try dsimp only at hf
  show Ev γ M_X5_bringRelief (0, 0) n (put k (wtB γ k w_hour w_debts w_guards w_stood w_served) h) [(0, .ref (gB γ + k)), (1, .ref (gB γ + 3)), (3, .int p3), (4, .int v4), (5, .int v5), (6, .int v6), (7, .int v7)] 12 [] Ψ
  refine E_iload 6 dX5_bringRelief_12 (q := 14) rfl rfl ?_
  refine E_aload_n 1 dX5_bringRelief_14 (q := 15) rfl rfl rfl ?_
  have hF2 : Has n 3 (dpB γ 3 d_posts d_sees d_cold d_men d_debts d_on d_stove) (put k (wtB γ k w_hour w_debts w_guards w_stood w_served) h) := (has_out hH_d (Or.inl (by show 3 + 4 ≤ k; omega)))
  refine E_get 0 dX5_bringRelief_15 (q := 18) rfl ckX0 (Nat.le_of_ble_eq_true rfl) fl_X5_79 (hF2.at 0 rfl) (hF2.lt 0 (Nat.le_of_ble_eq_true rfl)) rfl ?_
  refine E_icmp_ge dX5_bringRelief_18 (t := 107) (by decide) (q := 21) rfl (fun c3 => ?_) (fun c3 => ?_)
  · have hf := if_t c3 hf
    exact E_sub [3] rfl (hK _ (Option.some.inj hf).symm)
  · have hf := if_f c3 hf
    refine E_aload_n 0 dX5_bringRelief_21 (q := 22) rfl rfl rfl ?_
    have hF4 : Has n k (wtB γ k w_hour w_debts w_guards w_stood w_served) (put k (wtB γ k w_hour w_debts w_guards w_stood w_served) h) := (has_put hn_w)
    refine E_get 2 dX5_bringRelief_22 (q := 25) rfl ckX5 (Nat.le_of_ble_eq_true rfl) fl_X5_15 (hF4.at 0 rfl) (hF4.lt 0 (Nat.le_of_ble_eq_true rfl)) rfl ?_
    refine E_iload 5 dX5_bringRelief_25 (q := 27) rfl rfl ?_
    obtain ⟨g5, hf⟩ := gd hf
    refine E_iald dX5_bringRelief_27 (q := 28) rfl (hF4.at 2 rfl) (hF4.lt 2 (Nat.le_of_ble_eq_true rfl)) g5 ?_
    refine E_istore [(8, .int (w_guards (ci v6))), (0, .ref (gB γ + k)), (1, .ref (gB γ + 3)), (3, .int p3), (4, .int v4), (5, .int v5), (6, .int v6), (7, .int v7)] dX5_bringRelief_28 (q := 30) rfl (Nat.le_of_ble_eq_true rfl) rfl ?_
    refine E_iload 0 dX5_bringRelief_30 (q := 32) rfl rfl ?_
    refine E_bipush (x := (-9)) dX5_bringRelief_32 (q := 34) rfl (by decide) ?_
    refine E_icmp_eq dX5_bringRelief_34 (t := 61) (by decide) (q := 37) rfl (fun c6 => ?_) (fun c6 => ?_)
    · have hf := if_t c6 hf
      refine E_bipush (x := (-9)) dX5_bringRelief_61 (q := 63) rfl (by decide) ?_
      refine E_istore [(9, .int (-9)), (8, .int (w_guards (ci v6))), (0, .ref (gB γ + k)), (1, .ref (gB γ + 3)), (3, .int p3), (4, .int v4), (5, .int v5), (6, .int v6), (7, .int v7)] dX5_bringRelief_63 (q := 65) rfl (Nat.le_of_ble_eq_true rfl) rfl ?_
      refine E_iload 0 dX5_bringRelief_65 (q := 67) rfl rfl ?_
      refine E_bipush (x := (-9)) dX5_bringRelief_67 (q := 69) rfl (by decide) ?_
      refine E_icmp_eq dX5_bringRelief_69 (t := 92) (by decide) (q := 72) rfl (fun _ => ?_) (fun c => absurd c (by decide))
      refine E_aload_n 3 dX5_bringRelief_92 (q := 93) rfl rfl rfl ?_
      refine E_iload 7 dX5_bringRelief_93 (q := 95) rfl rfl ?_
      refine E_iload_n 4 dX5_bringRelief_95 (q := 96) rfl rfl rfl ?_
      obtain ⟨z7, hxz7, hf⟩ := bnd hf
      refine E_cV (as := [.int v6, .int p3]) (k := 3) (rest := []) (u' := (0, 0)) (st' := [.int z7]) dX5_bringRelief_96 (q := 99) rfl lkm_X0_nextPost lkv_X5_93 (Nat.le_of_ble_eq_true rfl) ckX0 (hF2.at 0 rfl) (hF2.lt 0 (Nat.le_of_ble_eq_true rfl)) ⟨Nat.le_refl _, Nat.le_refl _⟩ (Nat.le_of_ble_eq_true rfl) rfl rfl (m_X0_nextPost (N := N)  hF2 hxz7) rfl rfl rfl ?_
      refine E_istore [(6, .int z7), (9, .int (-9)), (8, .int (w_guards (ci v6))), (0, .ref (gB γ + k)), (1, .ref (gB γ + 3)), (3, .int p3), (4, .int v4), (5, .int v5), (7, .int v7)] dX5_bringRelief_99 (q := 101) rfl (Nat.le_of_ble_eq_true rfl) rfl ?_
      refine E_iinc 8 [(7, .int (v7 + 1)), (6, .int z7), (9, .int (-9)), (8, .int (w_guards (ci v6))), (0, .ref (gB γ + k)), (1, .ref (gB γ + 3)), (3, .int p3), (4, .int v4), (5, .int v5)] dX5_bringRelief_101 (q := 104) rfl rfl rfl (Nat.le_of_ble_eq_true rfl) rfl ?_
      refine E_goto (q := 12) dX5_bringRelief_104 (by decide) ?_
      exact E_sub [4, 5, 6, 7, 8, 1, 0] rfl (hP _ (Option.some.inj hf).symm)
    · have hf := if_f c6 hf
      refine E_aload_n 1 dX5_bringRelief_37 (q := 38) rfl rfl rfl ?_
      refine E_get 3 dX5_bringRelief_38 (q := 41) rfl ckX5 (Nat.le_of_ble_eq_true rfl) fl_X5_18 (hF4.at 0 rfl) (hF4.lt 0 (Nat.le_of_ble_eq_true rfl)) rfl ?_
      refine E_iload 6 dX5_bringRelief_41 (q := 43) rfl rfl ?_
      refine E_iald dX5_bringRelief_43 (q := 44) rfl (hF4.at 3 rfl) (hF4.lt 3 (Nat.le_of_ble_eq_true rfl)) g5 ?_
      refine E_aload_n 2 dX5_bringRelief_44 (q := 45) rfl rfl rfl ?_
      refine E_get 5 dX5_bringRelief_45 (q := 48) rfl ckX0 (Nat.le_of_ble_eq_true rfl) fl_X5_82 (hF2.at 0 rfl) (hF2.lt 0 (Nat.le_of_ble_eq_true rfl)) rfl ?_
      refine E_icmp_lt dX5_bringRelief_48 (t := 61) (by decide) (q := 51) rfl (fun c8 => ?_) (fun c8 => ?_)
      · have hf := if_t c8 hf
        refine E_bipush (x := (-9)) dX5_bringRelief_61 (q := 63) rfl (by decide) ?_
        refine E_istore [(9, .int (-9)), (8, .int (w_guards (ci v6))), (0, .ref (gB γ + k)), (1, .ref (gB γ + 3)), (3, .int p3), (4, .int v4), (5, .int v5), (6, .int v6), (7, .int v7)] dX5_bringRelief_63 (q := 65) rfl (Nat.le_of_ble_eq_true rfl) rfl ?_
        refine E_iload 0 dX5_bringRelief_65 (q := 67) rfl rfl ?_
        refine E_bipush (x := (-9)) dX5_bringRelief_67 (q := 69) rfl (by decide) ?_
        refine E_icmp_eq dX5_bringRelief_69 (t := 92) (by decide) (q := 72) rfl (fun _ => ?_) (fun c => absurd c (by decide))
        refine E_aload_n 3 dX5_bringRelief_92 (q := 93) rfl rfl rfl ?_
        refine E_iload 7 dX5_bringRelief_93 (q := 95) rfl rfl ?_
        refine E_iload_n 4 dX5_bringRelief_95 (q := 96) rfl rfl rfl ?_
        obtain ⟨z9, hxz9, hf⟩ := bnd hf
        refine E_cV (as := [.int v6, .int p3]) (k := 3) (rest := []) (u' := (0, 0)) (st' := [.int z9]) dX5_bringRelief_96 (q := 99) rfl lkm_X0_nextPost lkv_X5_93 (Nat.le_of_ble_eq_true rfl) ckX0 (hF2.at 0 rfl) (hF2.lt 0 (Nat.le_of_ble_eq_true rfl)) ⟨Nat.le_refl _, Nat.le_refl _⟩ (Nat.le_of_ble_eq_true rfl) rfl rfl (m_X0_nextPost (N := N)  hF2 hxz9) rfl rfl rfl ?_
        refine E_istore [(6, .int z9), (9, .int (-9)), (8, .int (w_guards (ci v6))), (0, .ref (gB γ + k)), (1, .ref (gB γ + 3)), (3, .int p3), (4, .int v4), (5, .int v5), (7, .int v7)] dX5_bringRelief_99 (q := 101) rfl (Nat.le_of_ble_eq_true rfl) rfl ?_
        refine E_iinc 8 [(7, .int (v7 + 1)), (6, .int z9), (9, .int (-9)), (8, .int (w_guards (ci v6))), (0, .ref (gB γ + k)), (1, .ref (gB γ + 3)), (3, .int p3), (4, .int v4), (5, .int v5)] dX5_bringRelief_101 (q := 104) rfl rfl rfl (Nat.le_of_ble_eq_true rfl) rfl ?_
        refine E_goto (q := 12) dX5_bringRelief_104 (by decide) ?_
        exact E_sub [4, 5, 6, 7, 8, 1, 0] rfl (hP _ (Option.some.inj hf).symm)
      · have hf := if_f c8 hf
        refine E_aload_n 1 dX5_bringRelief_51 (q := 52) rfl rfl rfl ?_
        refine E_aload_n 2 dX5_bringRelief_52 (q := 53) rfl rfl rfl ?_
        refine E_iload 5 dX5_bringRelief_53 (q := 55) rfl rfl ?_
        obtain ⟨z10, hxz10, hf⟩ := bnd hf
        refine E_cV (as := [.ref (gB γ + 3), .int v5]) (k := k) (rest := []) (u' := (0, 0)) (st' := [.int z10]) dX5_bringRelief_55 (q := 58) rfl lkm_X5_freshestMan lkv_X5_85 (Nat.le_of_ble_eq_true rfl) ckX5 (hF4.at 0 rfl) (hF4.lt 0 (Nat.le_of_ble_eq_true rfl)) ⟨Nat.le_refl _, Nat.le_refl _⟩ (Nat.le_of_ble_eq_true rfl) rfl rfl (m_X5_freshestMan (N := N)  hk hF2 hF4 hxz10) rfl rfl rfl ?_
        refine E_goto (q := 63) dX5_bringRelief_58 (by decide) ?_
        refine E_istore [(9, .int z10), (8, .int (w_guards (ci v6))), (0, .ref (gB γ + k)), (1, .ref (gB γ + 3)), (3, .int p3), (4, .int v4), (5, .int v5), (6, .int v6), (7, .int v7)] dX5_bringRelief_63 (q := 65) rfl (Nat.le_of_ble_eq_true rfl) rfl ?_
        refine E_iload 0 dX5_bringRelief_65 (q := 67) rfl rfl ?_
        refine E_bipush (x := (-9)) dX5_bringRelief_67 (q := 69) rfl (by decide) ?_
        refine E_icmp_eq dX5_bringRelief_69 (t := 92) (by decide) (q := 72) rfl (fun c11 => ?_) (fun c11 => ?_)
        · have hf := if_t c11 hf
          refine E_aload_n 3 dX5_bringRelief_92 (q := 93) rfl rfl rfl ?_
          refine E_iload 7 dX5_bringRelief_93 (q := 95) rfl rfl ?_
          refine E_iload_n 4 dX5_bringRelief_95 (q := 96) rfl rfl rfl ?_
          obtain ⟨z12, hxz12, hf⟩ := bnd hf
          refine E_cV (as := [.int v6, .int p3]) (k := 3) (rest := []) (u' := (0, 0)) (st' := [.int z12]) dX5_bringRelief_96 (q := 99) rfl lkm_X0_nextPost lkv_X5_93 (Nat.le_of_ble_eq_true rfl) ckX0 (hF2.at 0 rfl) (hF2.lt 0 (Nat.le_of_ble_eq_true rfl)) ⟨Nat.le_refl _, Nat.le_refl _⟩ (Nat.le_of_ble_eq_true rfl) rfl rfl (m_X0_nextPost (N := N)  hF2 hxz12) rfl rfl rfl ?_
          refine E_istore [(6, .int z12), (9, .int z10), (8, .int (w_guards (ci v6))), (0, .ref (gB γ + k)), (1, .ref (gB γ + 3)), (3, .int p3), (4, .int v4), (5, .int v5), (7, .int v7)] dX5_bringRelief_99 (q := 101) rfl (Nat.le_of_ble_eq_true rfl) rfl ?_
          refine E_iinc 8 [(7, .int (v7 + 1)), (6, .int z12), (9, .int z10), (8, .int (w_guards (ci v6))), (0, .ref (gB γ + k)), (1, .ref (gB γ + 3)), (3, .int p3), (4, .int v4), (5, .int v5)] dX5_bringRelief_101 (q := 104) rfl rfl rfl (Nat.le_of_ble_eq_true rfl) rfl ?_
          refine E_goto (q := 12) dX5_bringRelief_104 (by decide) ?_
          exact E_sub [4, 5, 6, 7, 8, 1, 0] rfl (hP _ (Option.some.inj hf).symm)
        · have hf := if_f c11 hf
          refine E_iload 6 dX5_bringRelief_72 (q := 74) rfl rfl ?_
          refine E_iconst (x := 1) dX5_bringRelief_74 (q := 75) rfl (by decide) ?_
          refine E_iload 1 dX5_bringRelief_75 (q := 77) rfl rfl ?_
          refine E_ishl dX5_bringRelief_77 (q := 78) rfl ?_
          refine E_ior dX5_bringRelief_78 (q := 79) rfl ?_
          refine E_istore [(5, .int (v5 ||| (1 <<< ((w_guards (ci v6)) &&& 31)))), (9, .int z10), (8, .int (w_guards (ci v6))), (0, .ref (gB γ + k)), (1, .ref (gB γ + 3)), (3, .int p3), (4, .int v4), (6, .int v6), (7, .int v7)] dX5_bringRelief_79 (q := 81) rfl (Nat.le_of_ble_eq_true rfl) rfl ?_
          refine E_aload_n 3 dX5_bringRelief_81 (q := 82) rfl rfl rfl ?_
          refine E_iload 1 dX5_bringRelief_82 (q := 84) rfl rfl ?_
          refine E_iload 7 dX5_bringRelief_84 (q := 86) rfl rfl ?_
          obtain ⟨z13, hxz13, hf⟩ := bnd hf
          refine E_cV (as := [.int z10, .int v6]) (k := k) (rest := []) (u' := (0, 0)) (st' := []) dX5_bringRelief_86 (q := 89) rfl lkm_X5_place lkv_X5_89 (Nat.le_of_ble_eq_true rfl) ckX5 (hF4.at 0 rfl) (hF4.lt 0 (Nat.le_of_ble_eq_true rfl)) ⟨Nat.le_refl _, Nat.le_refl _⟩ (Nat.le_of_ble_eq_true rfl) rfl rfl (m_X5_place (N := N)  hk hF4 hxz13) rfl rfl rfl ?_
          refine Ev.heap (put_put (k := k) (cs := (wtB γ k w_hour w_debts w_guards w_stood w_served)) (cs' := (wtB γ k w_hour w_debts z13.1 z13.2 w_served)) rfl) ?_
          refine E_iinc 6 [(4, .int (v4 + 1)), (5, .int (v5 ||| (1 <<< ((w_guards (ci v6)) &&& 31)))), (9, .int z10), (8, .int (w_guards (ci v6))), (0, .ref (gB γ + k)), (1, .ref (gB γ + 3)), (3, .int p3), (6, .int v6), (7, .int v7)] dX5_bringRelief_89 (q := 92) rfl rfl rfl (Nat.le_of_ble_eq_true rfl) rfl ?_
          refine E_aload_n 5 dX5_bringRelief_92 (q := 93) rfl rfl rfl ?_
          refine E_iload 7 dX5_bringRelief_93 (q := 95) rfl rfl ?_
          refine E_iload_n 6 dX5_bringRelief_95 (q := 96) rfl rfl rfl ?_
          obtain ⟨z15, hxz15, hf⟩ := bnd hf
          have hF16 : Has n 3 (dpB γ 3 d_posts d_sees d_cold d_men d_debts d_on d_stove) (put k (wtB γ k w_hour w_debts z13.1 z13.2 w_served) h) := (has_out hH_d (Or.inl (by show 3 + 4 ≤ k; omega)))
          refine E_cV (as := [.int v6, .int p3]) (k := 3) (rest := []) (u' := (0, 0)) (st' := [.int z15]) dX5_bringRelief_96 (q := 99) rfl lkm_X0_nextPost lkv_X5_93 (Nat.le_of_ble_eq_true rfl) ckX0 (hF16.at 0 rfl) (hF16.lt 0 (Nat.le_of_ble_eq_true rfl)) ⟨Nat.le_refl _, Nat.le_refl _⟩ (Nat.le_of_ble_eq_true rfl) rfl rfl (m_X0_nextPost (N := N)  hF16 hxz15) rfl rfl rfl ?_
          refine E_istore [(6, .int z15), (4, .int (v4 + 1)), (5, .int (v5 ||| (1 <<< ((w_guards (ci v6)) &&& 31)))), (9, .int z10), (8, .int (w_guards (ci v6))), (0, .ref (gB γ + k)), (1, .ref (gB γ + 3)), (3, .int p3), (7, .int v7)] dX5_bringRelief_99 (q := 101) rfl (Nat.le_of_ble_eq_true rfl) rfl ?_
          refine E_iinc 8 [(7, .int (v7 + 1)), (6, .int z15), (4, .int (v4 + 1)), (5, .int (v5 ||| (1 <<< ((w_guards (ci v6)) &&& 31)))), (9, .int z10), (8, .int (w_guards (ci v6))), (0, .ref (gB γ + k)), (1, .ref (gB γ + 3)), (3, .int p3)] dX5_bringRelief_101 (q := 104) rfl rfl rfl (Nat.le_of_ble_eq_true rfl) rfl ?_
          refine E_goto (q := 12) dX5_bringRelief_104 (by decide) ?_
          exact E_sub [6, 7, 8, 2, 3, 1, 0] rfl (hP _ (Option.some.inj hf).symm)
set_option maxHeartbeats 4000000 in
set_option maxRecDepth 100000 in
theorem m_X5_bringRelief {γ : GX} {n : Nat} {N : Nat} {k : Nat} {h : HP} {a2 : Int32} {a3 : Int32} {d_posts : Int32} {d_sees : FN} {d_cold : FN} {d_men : Int32} {d_debts : FN} {d_on : Int32} {d_stove : Int32} {w_hour : Int32} {w_debts : FN} {w_guards : FN} {w_stood : FN} {w_served : FN} (hk : 11 ≤ k) (hH_d : Has n 3 (dpB γ 3 d_posts d_sees d_cold d_men d_debts d_on d_stove) h) (hH_w : Has n k (wtB γ k w_hour w_debts w_guards w_stood w_served) h) {z : Int32 × FN × FN} (hf : f_X5_bringRelief N a2 a3 d_posts d_men d_on w_debts w_guards w_stood = some z)  : Ct γ M_X5_bringRelief n h [.ref (gB γ + k), .ref (gB γ + 3), .int a2, .int a3] (Done (some (.int z.1)) n (put k (wtB γ k w_hour w_debts z.2.1 z.2.2 w_served) h)) := by
  have hn_w : k + 5 ≤ n := hH_w.1
  refine Ct.heap (h := (put k (wtB γ k w_hour w_debts w_guards w_stood w_served) h)) (put_self hH_w).symm ?_
  refine Ct_of_Ev (by decide) (fun h => by cases h) (Nat.le_of_ble_eq_true rfl) ?_
  show Ev γ M_X5_bringRelief (0, 0) n (put k (wtB γ k w_hour w_debts w_guards w_stood w_served) h) [(0, .ref (gB γ + k)), (1, .ref (gB γ + 3)), (2, .int a2), (3, .int a3)] 0 [] _
  unfold f_X5_bringRelief at hf
  refine E_iconst (x := 0) dX5_bringRelief_0 (q := 1) rfl (by decide) ?_
  refine E_istore [(4, .int 0), (0, .ref (gB γ + k)), (1, .ref (gB γ + 3)), (2, .int a2), (3, .int a3)] dX5_bringRelief_1 (q := 3) rfl (Nat.le_of_ble_eq_true rfl) rfl ?_
  refine E_iconst (x := 0) dX5_bringRelief_3 (q := 4) rfl (by decide) ?_
  refine E_istore [(5, .int 0), (4, .int 0), (0, .ref (gB γ + k)), (1, .ref (gB γ + 3)), (2, .int a2), (3, .int a3)] dX5_bringRelief_4 (q := 6) rfl (Nat.le_of_ble_eq_true rfl) rfl ?_
  refine E_iload_n 4 dX5_bringRelief_6 (q := 7) rfl rfl rfl ?_
  refine E_istore [(6, .int a2), (5, .int 0), (4, .int 0), (0, .ref (gB γ + k)), (1, .ref (gB γ + 3)), (2, .int a2), (3, .int a3)] dX5_bringRelief_7 (q := 9) rfl (Nat.le_of_ble_eq_true rfl) rfl ?_
  refine E_iconst (x := 0) dX5_bringRelief_9 (q := 10) rfl (by decide) ?_
  refine E_istore [(7, .int 0), (6, .int a2), (5, .int 0), (4, .int 0), (0, .ref (gB γ + k)), (1, .ref (gB γ + 3)), (2, .int a2), (3, .int a3)] dX5_bringRelief_10 (q := 12) rfl (Nat.le_of_ble_eq_true rfl) rfl ?_
  obtain ⟨t17, hxt17, hf⟩ := bnd hf
  refine E_sub [4, 5, 7, 3, 2, 1, 0] rfl ?_
  refine L_X5_bringRelief_1 hk hH_d hn_w hxt17 ?_
  show Ev γ M_X5_bringRelief _ n (put k (wtB γ k w_hour w_debts t17.2.1 t17.2.2 w_served) h) [(4, .int t17.1)] 107 [] _
  refine E_iload 0 dX5_bringRelief_107 (q := 109) rfl rfl ?_
  obtain rfl := Option.some.inj hf
  exact E_iret dX5_bringRelief_109 rfl ⟨rfl, rfl, rfl⟩

-- PostRelief$Watch.advance(LPostRelief$Depot;I)V
def f_X5_advance (N : Nat) (a2 : Int32) (d_posts : Int32) (d_cold : FN) (d_men : Int32) (d_on : Int32) (d_stove : Int32) (w_hour : Int32) (w_debts : FN) (w_guards : FN) (w_stood : FN) (w_served : FN) : Option (Int32 × FN × FN × FN × FN) :=
  ((f_X5_passHour N d_cold d_men d_stove w_hour w_debts w_guards w_stood w_served).bind fun z1 => (if a2 = 1 then ((f_X5_bringRelief N 0 1 d_posts d_men d_on z1.2.1 w_guards z1.2.2.1).bind fun z6 => some (z1.1, z1.2.1, z6.2.1, z6.2.2, z1.2.2.2)) else some (z1.1, z1.2.1, w_guards, z1.2.2.1, z1.2.2.2)))
set_option maxHeartbeats 4000000 in
set_option maxRecDepth 100000 in
theorem m_X5_advance {γ : GX} {n : Nat} {N : Nat} {k : Nat} {h : HP} {a2 : Int32} {d_posts : Int32} {d_sees : FN} {d_cold : FN} {d_men : Int32} {d_debts : FN} {d_on : Int32} {d_stove : Int32} {w_hour : Int32} {w_debts : FN} {w_guards : FN} {w_stood : FN} {w_served : FN} (hk : 11 ≤ k) (hH_d : Has n 3 (dpB γ 3 d_posts d_sees d_cold d_men d_debts d_on d_stove) h) (hH_w : Has n k (wtB γ k w_hour w_debts w_guards w_stood w_served) h) {z : Int32 × FN × FN × FN × FN} (hf : f_X5_advance N a2 d_posts d_cold d_men d_on d_stove w_hour w_debts w_guards w_stood w_served = some z)  : Ct γ M_X5_advance n h [.ref (gB γ + k), .ref (gB γ + 3), .int a2] (Done none n (put k (wtB γ k z.1 z.2.1 z.2.2.1 z.2.2.2.1 z.2.2.2.2) h)) := by
  have hn_w : k + 5 ≤ n := hH_w.1
  refine Ct.heap (h := (put k (wtB γ k w_hour w_debts w_guards w_stood w_served) h)) (put_self hH_w).symm ?_
  refine Ct_of_Ev (by decide) (fun h => by cases h) (Nat.le_of_ble_eq_true rfl) ?_
  show Ev γ M_X5_advance (0, 0) n (put k (wtB γ k w_hour w_debts w_guards w_stood w_served) h) [(0, .ref (gB γ + k)), (1, .ref (gB γ + 3)), (2, .int a2)] 0 [] _
  unfold f_X5_advance at hf
  refine E_aload_n 0 dX5_advance_0 (q := 1) rfl rfl rfl ?_
  refine E_aload_n 1 dX5_advance_1 (q := 2) rfl rfl rfl ?_
  obtain ⟨z1, hxz1, hf⟩ := bnd hf
  have hF2 : Has n 3 (dpB γ 3 d_posts d_sees d_cold d_men d_debts d_on d_stove) (put k (wtB γ k w_hour w_debts w_guards w_stood w_served) h) := (has_out hH_d (Or.inl (by show 3 + 4 ≤ k; omega)))
  have hF3 : Has n k (wtB γ k w_hour w_debts w_guards w_stood w_served) (put k (wtB γ k w_hour w_debts w_guards w_stood w_served) h) := (has_put hn_w)
  refine E_cV (as := [.ref (gB γ + 3)]) (k := k) (rest := []) (u' := (0, 0)) (st' := []) dX5_advance_2 (q := 5) rfl lkm_X5_passHour lkv_X5_96 (Nat.le_of_ble_eq_true rfl) ckX5 (hF3.at 0 rfl) (hF3.lt 0 (Nat.le_of_ble_eq_true rfl)) ⟨Nat.le_refl _, Nat.le_refl _⟩ (Nat.le_of_ble_eq_true rfl) rfl rfl (m_X5_passHour (N := N)  hk hF2 hF3 hxz1) rfl rfl rfl ?_
  refine Ev.heap (put_put (k := k) (cs := (wtB γ k w_hour w_debts w_guards w_stood w_served)) (cs' := (wtB γ k z1.1 z1.2.1 w_guards z1.2.2.1 z1.2.2.2)) rfl) ?_
  refine E_iload_n 2 dX5_advance_5 (q := 6) rfl rfl rfl ?_
  refine E_iconst (x := 1) dX5_advance_6 (q := 7) rfl (by decide) ?_
  refine E_icmp_ne dX5_advance_7 (t := 18) (by decide) (q := 10) rfl (fun c5 => ?_) (fun c5 => ?_)
  · have hf := if_f c5 hf
    obtain rfl := Option.some.inj hf
    exact E_vret dX5_advance_18 rfl ⟨rfl, rfl, rfl⟩
  · have hf := if_t c5 hf
    refine E_aload_n 0 dX5_advance_10 (q := 11) rfl rfl rfl ?_
    refine E_aload_n 1 dX5_advance_11 (q := 12) rfl rfl rfl ?_
    refine E_iconst (x := 0) dX5_advance_12 (q := 13) rfl (by decide) ?_
    refine E_iconst (x := 1) dX5_advance_13 (q := 14) rfl (by decide) ?_
    obtain ⟨z6, hxz6, hf⟩ := bnd hf
    have hF7 : Has n 3 (dpB γ 3 d_posts d_sees d_cold d_men d_debts d_on d_stove) (put k (wtB γ k z1.1 z1.2.1 w_guards z1.2.2.1 z1.2.2.2) h) := (has_out hH_d (Or.inl (by show 3 + 4 ≤ k; omega)))
    have hF8 : Has n k (wtB γ k z1.1 z1.2.1 w_guards z1.2.2.1 z1.2.2.2) (put k (wtB γ k z1.1 z1.2.1 w_guards z1.2.2.1 z1.2.2.2) h) := (has_put hn_w)
    refine E_cV (as := [.ref (gB γ + 3), .int 0, .int 1]) (k := k) (rest := []) (u' := (0, 0)) (st' := [.int z6.1]) dX5_advance_14 (q := 17) rfl lkm_X5_bringRelief lkv_X5_100 (Nat.le_of_ble_eq_true rfl) ckX5 (hF8.at 0 rfl) (hF8.lt 0 (Nat.le_of_ble_eq_true rfl)) ⟨Nat.le_refl _, Nat.le_refl _⟩ (Nat.le_of_ble_eq_true rfl) rfl rfl (m_X5_bringRelief (N := N)  hk hF7 hF8 hxz6) rfl rfl rfl ?_
    refine Ev.heap (put_put (k := k) (cs := (wtB γ k z1.1 z1.2.1 w_guards z1.2.2.1 z1.2.2.2)) (cs' := (wtB γ k z1.1 z1.2.1 z6.2.1 z6.2.2 z1.2.2.2)) rfl) ?_
    refine E_pop dX5_advance_17 (q := 18) rfl rfl ?_
    obtain rfl := Option.some.inj hf
    exact E_vret dX5_advance_18 rfl ⟨rfl, rfl, rfl⟩

-- PostRelief$Watch.greatestDebt(LPostRelief$Depot;)I
def b_X5_greatestDebt_1 (N : Nat) (d_men : Int32) (w_debts : FN) (v2 : Int32) (v3 : Int32) : Option ((Int32 × Int32) ⊕ (Int32)) :=
  (if d_men ≤ v3 then some (.inr v2) else (if ix v3 6 = true then some (.inl ((if v2 < (w_debts (ci v3)) then (w_debts (ci v3)) else v2), (v3 + 1))) else none))
def f_X5_greatestDebt (N : Nat) (d_men : Int32) (w_debts : FN) : Option (Int32) :=
  ((lp (fun s => b_X5_greatestDebt_1 N d_men w_debts s.1 s.2) N (0, 0)).bind fun t4 => some t4)
set_option maxHeartbeats 4000000 in
set_option maxRecDepth 100000 in
theorem L_X5_greatestDebt_1 {γ : GX} {n : Nat} {k : Nat} {h : HP} {Ψ : PS} {N : Nat} {d_posts : Int32} {d_sees : FN} {d_cold : FN} {d_men : Int32} {d_debts : FN} {d_on : Int32} {d_stove : Int32} {w_hour : Int32} {w_debts : FN} {w_guards : FN} {w_stood : FN} {w_served : FN} (hk : 11 ≤ k) (hH_d : Has n 3 (dpB γ 3 d_posts d_sees d_cold d_men d_debts d_on d_stove) h) (hH_w : Has n k (wtB γ k w_hour w_debts w_guards w_stood w_served) h) {s0 : Int32 × Int32} {t : Int32} (hf : lp (fun s => b_X5_greatestDebt_1 N d_men w_debts s.1 s.2) N s0 = some t) (K : Ev γ M_X5_greatestDebt (0, 0) n h [(2, .int t)] 29 [] Ψ) : Ev γ M_X5_greatestDebt (0, 0) n h [(0, .ref (gB γ + k)), (1, .ref (gB γ + 3)), (2, .int s0.1), (3, .int s0.2)] 4 [] Ψ := by
  refine E_lp (P := fun s => Ev γ M_X5_greatestDebt (0, 0) n h [(0, .ref (gB γ + k)), (1, .ref (gB γ + 3)), (2, .int s.1), (3, .int s.2)] 4 [] Ψ) (K := fun t => Ev γ M_X5_greatestDebt (0, 0) n h [(2, .int t)] 29 [] Ψ) ?_ N s0 t hf K
  intro s r hf hP hK
  obtain ⟨v2, v3⟩ := s
  unfold b_X5_greatestDebt_1 at hf
  try dsimp only at hf
  show Ev γ M_X5_greatestDebt (0, 0) n h [(0, .ref (gB γ + k)), (1, .ref (gB γ + 3)), (2, .int v2), (3, .int v3)] 4 [] Ψ
  refine E_iload_n 3 dX5_greatestDebt_4 (q := 5) rfl rfl rfl ?_
  refine E_aload_n 1 dX5_greatestDebt_5 (q := 6) rfl rfl rfl ?_
  refine E_get 3 dX5_greatestDebt_6 (q := 9) rfl ckX0 (Nat.le_of_ble_eq_true rfl) fl_X5_58 (hH_d.at 0 rfl) (hH_d.lt 0 (Nat.le_of_ble_eq_true rfl)) rfl ?_
  refine E_icmp_ge dX5_greatestDebt_9 (t := 29) (by decide) (q := 12) rfl (fun c2 => ?_) (fun c2 => ?_)
  · have hf := if_t c2 hf
    exact E_sub [2] rfl (hK _ (Option.some.inj hf).symm)
  · have hf := if_f c2 hf
    refine E_iload_n 2 dX5_greatestDebt_12 (q := 13) rfl rfl rfl ?_
    refine E_aload_n 0 dX5_greatestDebt_13 (q := 14) rfl rfl rfl ?_
    refine E_get 1 dX5_greatestDebt_14 (q := 17) rfl ckX5 (Nat.le_of_ble_eq_true rfl) fl_X5_9 (hH_w.at 0 rfl) (hH_w.lt 0 (Nat.le_of_ble_eq_true rfl)) rfl ?_
    refine E_iload_n 3 dX5_greatestDebt_17 (q := 18) rfl rfl rfl ?_
    obtain ⟨g3, hf⟩ := gd hf
    refine E_iald dX5_greatestDebt_18 (q := 19) rfl (hH_w.at 1 rfl) (hH_w.lt 1 (Nat.le_of_ble_eq_true rfl)) g3 ?_
    refine E_max dX5_greatestDebt_19 (q := 22) rfl lkmax_X5_67 st_max in_math co_max (Nat.le_of_ble_eq_true rfl) (Nat.le_of_ble_eq_true rfl) ?_
    refine E_istore_n [(2, .int (if v2 < (w_debts (ci v3)) then (w_debts (ci v3)) else v2)), (0, .ref (gB γ + k)), (1, .ref (gB γ + 3)), (3, .int v3)] dX5_greatestDebt_22 (q := 23) rfl rfl (Nat.le_of_ble_eq_true rfl) rfl ?_
    refine E_iinc 3 [(3, .int (v3 + 1)), (2, .int (if v2 < (w_debts (ci v3)) then (w_debts (ci v3)) else v2)), (0, .ref (gB γ + k)), (1, .ref (gB γ + 3))] dX5_greatestDebt_23 (q := 26) rfl rfl rfl (Nat.le_of_ble_eq_true rfl) rfl ?_
    refine E_goto (q := 4) dX5_greatestDebt_26 (by decide) ?_
    exact E_sub [2, 3, 1, 0] rfl (hP _ (Option.some.inj hf).symm)
set_option maxHeartbeats 4000000 in
set_option maxRecDepth 100000 in
theorem m_X5_greatestDebt {γ : GX} {n : Nat} {N : Nat} {k : Nat} {h : HP} {d_posts : Int32} {d_sees : FN} {d_cold : FN} {d_men : Int32} {d_debts : FN} {d_on : Int32} {d_stove : Int32} {w_hour : Int32} {w_debts : FN} {w_guards : FN} {w_stood : FN} {w_served : FN} (hk : 11 ≤ k) (hH_d : Has n 3 (dpB γ 3 d_posts d_sees d_cold d_men d_debts d_on d_stove) h) (hH_w : Has n k (wtB γ k w_hour w_debts w_guards w_stood w_served) h) {z : Int32} (hf : f_X5_greatestDebt N d_men w_debts = some z)  : Ct γ M_X5_greatestDebt n h [.ref (gB γ + k), .ref (gB γ + 3)] (Done (some (.int z)) n h) := by
  refine Ct_of_Ev (by decide) (fun h => by cases h) (Nat.le_of_ble_eq_true rfl) ?_
  show Ev γ M_X5_greatestDebt (0, 0) n h [(0, .ref (gB γ + k)), (1, .ref (gB γ + 3))] 0 [] _
  unfold f_X5_greatestDebt at hf
  refine E_iconst (x := 0) dX5_greatestDebt_0 (q := 1) rfl (by decide) ?_
  refine E_istore_n [(2, .int 0), (0, .ref (gB γ + k)), (1, .ref (gB γ + 3))] dX5_greatestDebt_1 (q := 2) rfl rfl (Nat.le_of_ble_eq_true rfl) rfl ?_
  refine E_iconst (x := 0) dX5_greatestDebt_2 (q := 3) rfl (by decide) ?_
  refine E_istore_n [(3, .int 0), (2, .int 0), (0, .ref (gB γ + k)), (1, .ref (gB γ + 3))] dX5_greatestDebt_3 (q := 4) rfl rfl (Nat.le_of_ble_eq_true rfl) rfl ?_
  obtain ⟨t4, hxt4, hf⟩ := bnd hf
  refine E_sub [2, 3, 1, 0] rfl ?_
  refine L_X5_greatestDebt_1 hk hH_d hH_w hxt4 ?_
  show Ev γ M_X5_greatestDebt _ n h [(2, .int t4)] 29 [] _
  refine E_iload_n 0 dX5_greatestDebt_29 (q := 30) rfl rfl rfl ?_
  obtain rfl := Option.some.inj hf
  exact E_iret dX5_greatestDebt_30 rfl ⟨rfl, rfl, rfl⟩

-- PostRelief$Watch.debtOnPost()I
def b_X5_debtOnPost_1 (N : Nat) (w_debts : FN) (w_guards : FN) (v1 : Int32) (v2 : Int32) : Option ((Int32 × Int32) ⊕ (Int32)) :=
  (if 5 ≤ v2 then some (.inr v1) else (if ix v2 5 = true then (if (w_guards (ci v2)) = (-9) then some (.inl (v1, (v2 + 1))) else (if ix (w_guards (ci v2)) 6 = true then some (.inl ((v1 + (w_debts (ci (w_guards (ci v2))))), (v2 + 1))) else none)) else none))
def f_X5_debtOnPost (N : Nat) (w_debts : FN) (w_guards : FN) : Option (Int32) :=
  ((lp (fun s => b_X5_debtOnPost_1 N w_debts w_guards s.1 s.2) N (0, 0)).bind fun t6 => some t6)
set_option maxHeartbeats 4000000 in
set_option maxRecDepth 100000 in
theorem L_X5_debtOnPost_1 {γ : GX} {n : Nat} {k : Nat} {h : HP} {Ψ : PS} {N : Nat} {w_hour : Int32} {w_debts : FN} {w_guards : FN} {w_stood : FN} {w_served : FN} (hk : 11 ≤ k) (hH_w : Has n k (wtB γ k w_hour w_debts w_guards w_stood w_served) h) {s0 : Int32 × Int32} {t : Int32} (hf : lp (fun s => b_X5_debtOnPost_1 N w_debts w_guards s.1 s.2) N s0 = some t) (K : Ev γ M_X5_debtOnPost (0, 0) n h [(1, .int t)] 40 [] Ψ) : Ev γ M_X5_debtOnPost (0, 0) n h [(0, .ref (gB γ + k)), (1, .int s0.1), (2, .int s0.2)] 4 [] Ψ := by
  refine E_lp (P := fun s => Ev γ M_X5_debtOnPost (0, 0) n h [(0, .ref (gB γ + k)), (1, .int s.1), (2, .int s.2)] 4 [] Ψ) (K := fun t => Ev γ M_X5_debtOnPost (0, 0) n h [(1, .int t)] 40 [] Ψ) ?_ N s0 t hf K
  intro s r hf hP hK
  obtain ⟨v1, v2⟩ := s
  unfold b_X5_debtOnPost_1 at hf
  try dsimp only at hf
  show Ev γ M_X5_debtOnPost (0, 0) n h [(0, .ref (gB γ + k)), (1, .int v1), (2, .int v2)] 4 [] Ψ
  refine E_iload_n 2 dX5_debtOnPost_4 (q := 5) rfl rfl rfl ?_
  refine E_iconst (x := 5) dX5_debtOnPost_5 (q := 6) rfl (by decide) ?_
  refine E_icmp_ge dX5_debtOnPost_6 (t := 40) (by decide) (q := 9) rfl (fun c2 => ?_) (fun c2 => ?_)
  · have hf := if_t c2 hf
    exact E_sub [1] rfl (hK _ (Option.some.inj hf).symm)
  · have hf := if_f c2 hf
    refine E_aload_n 0 dX5_debtOnPost_9 (q := 10) rfl rfl rfl ?_
    refine E_get 2 dX5_debtOnPost_10 (q := 13) rfl ckX5 (Nat.le_of_ble_eq_true rfl) fl_X5_15 (hH_w.at 0 rfl) (hH_w.lt 0 (Nat.le_of_ble_eq_true rfl)) rfl ?_
    refine E_iload_n 2 dX5_debtOnPost_13 (q := 14) rfl rfl rfl ?_
    obtain ⟨g3, hf⟩ := gd hf
    refine E_iald dX5_debtOnPost_14 (q := 15) rfl (hH_w.at 2 rfl) (hH_w.lt 2 (Nat.le_of_ble_eq_true rfl)) g3 ?_
    refine E_bipush (x := (-9)) dX5_debtOnPost_15 (q := 17) rfl (by decide) ?_
    refine E_icmp_eq dX5_debtOnPost_17 (t := 34) (by decide) (q := 20) rfl (fun c4 => ?_) (fun c4 => ?_)
    · have hf := if_t c4 hf
      refine E_iinc 2 [(2, .int (v2 + 1)), (0, .ref (gB γ + k)), (1, .int v1)] dX5_debtOnPost_34 (q := 37) rfl rfl rfl (Nat.le_of_ble_eq_true rfl) rfl ?_
      refine E_goto (q := 4) dX5_debtOnPost_37 (by decide) ?_
      exact E_sub [1, 2, 0] rfl (hP _ (Option.some.inj hf).symm)
    · have hf := if_f c4 hf
      refine E_iload_n 1 dX5_debtOnPost_20 (q := 21) rfl rfl rfl ?_
      refine E_aload_n 0 dX5_debtOnPost_21 (q := 22) rfl rfl rfl ?_
      refine E_get 1 dX5_debtOnPost_22 (q := 25) rfl ckX5 (Nat.le_of_ble_eq_true rfl) fl_X5_9 (hH_w.at 0 rfl) (hH_w.lt 0 (Nat.le_of_ble_eq_true rfl)) rfl ?_
      refine E_aload_n 0 dX5_debtOnPost_25 (q := 26) rfl rfl rfl ?_
      refine E_get 2 dX5_debtOnPost_26 (q := 29) rfl ckX5 (Nat.le_of_ble_eq_true rfl) fl_X5_15 (hH_w.at 0 rfl) (hH_w.lt 0 (Nat.le_of_ble_eq_true rfl)) rfl ?_
      refine E_iload_n 2 dX5_debtOnPost_29 (q := 30) rfl rfl rfl ?_
      refine E_iald dX5_debtOnPost_30 (q := 31) rfl (hH_w.at 2 rfl) (hH_w.lt 2 (Nat.le_of_ble_eq_true rfl)) g3 ?_
      obtain ⟨g5, hf⟩ := gd hf
      refine E_iald dX5_debtOnPost_31 (q := 32) rfl (hH_w.at 1 rfl) (hH_w.lt 1 (Nat.le_of_ble_eq_true rfl)) g5 ?_
      refine E_iadd dX5_debtOnPost_32 (q := 33) rfl ?_
      refine E_istore_n [(1, .int (v1 + (w_debts (ci (w_guards (ci v2)))))), (0, .ref (gB γ + k)), (2, .int v2)] dX5_debtOnPost_33 (q := 34) rfl rfl (Nat.le_of_ble_eq_true rfl) rfl ?_
      refine E_iinc 2 [(2, .int (v2 + 1)), (1, .int (v1 + (w_debts (ci (w_guards (ci v2)))))), (0, .ref (gB γ + k))] dX5_debtOnPost_34 (q := 37) rfl rfl rfl (Nat.le_of_ble_eq_true rfl) rfl ?_
      refine E_goto (q := 4) dX5_debtOnPost_37 (by decide) ?_
      exact E_sub [2, 1, 0] rfl (hP _ (Option.some.inj hf).symm)
set_option maxHeartbeats 4000000 in
set_option maxRecDepth 100000 in
theorem m_X5_debtOnPost {γ : GX} {n : Nat} {N : Nat} {k : Nat} {h : HP} {w_hour : Int32} {w_debts : FN} {w_guards : FN} {w_stood : FN} {w_served : FN} (hk : 11 ≤ k) (hH_w : Has n k (wtB γ k w_hour w_debts w_guards w_stood w_served) h) {z : Int32} (hf : f_X5_debtOnPost N w_debts w_guards = some z)  : Ct γ M_X5_debtOnPost n h [.ref (gB γ + k)] (Done (some (.int z)) n h) := by
  refine Ct_of_Ev (by decide) (fun h => by cases h) (Nat.le_of_ble_eq_true rfl) ?_
  show Ev γ M_X5_debtOnPost (0, 0) n h [(0, .ref (gB γ + k))] 0 [] _
  unfold f_X5_debtOnPost at hf
  refine E_iconst (x := 0) dX5_debtOnPost_0 (q := 1) rfl (by decide) ?_
  refine E_istore_n [(1, .int 0), (0, .ref (gB γ + k))] dX5_debtOnPost_1 (q := 2) rfl rfl (Nat.le_of_ble_eq_true rfl) rfl ?_
  refine E_iconst (x := 0) dX5_debtOnPost_2 (q := 3) rfl (by decide) ?_
  refine E_istore_n [(2, .int 0), (1, .int 0), (0, .ref (gB γ + k))] dX5_debtOnPost_3 (q := 4) rfl rfl (Nat.le_of_ble_eq_true rfl) rfl ?_
  obtain ⟨t6, hxt6, hf⟩ := bnd hf
  refine E_sub [2, 1, 0] rfl ?_
  refine L_X5_debtOnPost_1 hk hH_w hxt6 ?_
  show Ev γ M_X5_debtOnPost _ n h [(1, .int t6)] 40 [] _
  refine E_iload_n 0 dX5_debtOnPost_40 (q := 41) rfl rfl rfl ?_
  obtain rfl := Option.some.inj hf
  exact E_iret dX5_debtOnPost_41 rfl ⟨rfl, rfl, rfl⟩

-- PostRelief$Watch.coldOf(LPostRelief$Depot;I)I
def b_X5_coldOf_1 (N : Nat) (p2 : Int32) (d_posts : Int32) (d_cold : FN) (w_served : FN) (v3 : Int32) (v4 : Int32) : Option ((Int32 × Int32) ⊕ (Int32)) :=
  (if d_posts ≤ v4 then some (.inr v3) else (if ix ((p2 * 5) + v4) 30 = true then (if ix v4 5 = true then some (.inl ((v3 + ((w_served (ci ((p2 * 5) + v4))) * (d_cold (ci v4)))), (v4 + 1))) else none) else none))
def f_X5_coldOf (N : Nat) (a2 : Int32) (d_posts : Int32) (d_cold : FN) (w_served : FN) : Option (Int32) :=
  ((lp (fun s => b_X5_coldOf_1 N a2 d_posts d_cold w_served s.1 s.2) N (0, 0)).bind fun t5 => some t5)
set_option maxHeartbeats 4000000 in
set_option maxRecDepth 100000 in
theorem L_X5_coldOf_1 {γ : GX} {n : Nat} {k : Nat} {h : HP} {Ψ : PS} {N : Nat} {p2 : Int32} {d_posts : Int32} {d_sees : FN} {d_cold : FN} {d_men : Int32} {d_debts : FN} {d_on : Int32} {d_stove : Int32} {w_hour : Int32} {w_debts : FN} {w_guards : FN} {w_stood : FN} {w_served : FN} (hk : 11 ≤ k) (hH_d : Has n 3 (dpB γ 3 d_posts d_sees d_cold d_men d_debts d_on d_stove) h) (hH_w : Has n k (wtB γ k w_hour w_debts w_guards w_stood w_served) h) {s0 : Int32 × Int32} {t : Int32} (hf : lp (fun s => b_X5_coldOf_1 N p2 d_posts d_cold w_served s.1 s.2) N s0 = some t) (K : Ev γ M_X5_coldOf (0, 0) n h [(3, .int t)] 42 [] Ψ) : Ev γ M_X5_coldOf (0, 0) n h [(0, .ref (gB γ + k)), (1, .ref (gB γ + 3)), (2, .int p2), (3, .int s0.1), (4, .int s0.2)] 5 [] Ψ := by
  refine E_lp (P := fun s => Ev γ M_X5_coldOf (0, 0) n h [(0, .ref (gB γ + k)), (1, .ref (gB γ + 3)), (2, .int p2), (3, .int s.1), (4, .int s.2)] 5 [] Ψ) (K := fun t => Ev γ M_X5_coldOf (0, 0) n h [(3, .int t)] 42 [] Ψ) ?_ N s0 t hf K
  intro s r hf hP hK
  obtain ⟨v3, v4⟩ := s
  unfold b_X5_coldOf_1 at hf
  try dsimp only at hf
  show Ev γ M_X5_coldOf (0, 0) n h [(0, .ref (gB γ + k)), (1, .ref (gB γ + 3)), (2, .int p2), (3, .int v3), (4, .int v4)] 5 [] Ψ
  refine E_iload 4 dX5_coldOf_5 (q := 7) rfl rfl ?_
  refine E_aload_n 1 dX5_coldOf_7 (q := 8) rfl rfl rfl ?_
  refine E_get 0 dX5_coldOf_8 (q := 11) rfl ckX0 (Nat.le_of_ble_eq_true rfl) fl_X5_79 (hH_d.at 0 rfl) (hH_d.lt 0 (Nat.le_of_ble_eq_true rfl)) rfl ?_
  refine E_icmp_ge dX5_coldOf_11 (t := 42) (by decide) (q := 14) rfl (fun c2 => ?_) (fun c2 => ?_)
  · have hf := if_t c2 hf
    exact E_sub [3] rfl (hK _ (Option.some.inj hf).symm)
  · have hf := if_f c2 hf
    refine E_iload_n 3 dX5_coldOf_14 (q := 15) rfl rfl rfl ?_
    refine E_aload_n 0 dX5_coldOf_15 (q := 16) rfl rfl rfl ?_
    refine E_get 4 dX5_coldOf_16 (q := 19) rfl ckX5 (Nat.le_of_ble_eq_true rfl) fl_X5_21 (hH_w.at 0 rfl) (hH_w.lt 0 (Nat.le_of_ble_eq_true rfl)) rfl ?_
    refine E_iload_n 2 dX5_coldOf_19 (q := 20) rfl rfl rfl ?_
    refine E_iconst (x := 5) dX5_coldOf_20 (q := 21) rfl (by decide) ?_
    refine E_imul dX5_coldOf_21 (q := 22) rfl ?_
    refine E_iload 4 dX5_coldOf_22 (q := 24) rfl rfl ?_
    refine E_iadd dX5_coldOf_24 (q := 25) rfl ?_
    obtain ⟨g3, hf⟩ := gd hf
    refine E_iald dX5_coldOf_25 (q := 26) rfl (hH_w.at 4 rfl) (hH_w.lt 4 (Nat.le_of_ble_eq_true rfl)) g3 ?_
    refine E_aload_n 1 dX5_coldOf_26 (q := 27) rfl rfl rfl ?_
    refine E_get 2 dX5_coldOf_27 (q := 30) rfl ckX0 (Nat.le_of_ble_eq_true rfl) fl_X5_104 (hH_d.at 0 rfl) (hH_d.lt 0 (Nat.le_of_ble_eq_true rfl)) rfl ?_
    refine E_iload 4 dX5_coldOf_30 (q := 32) rfl rfl ?_
    obtain ⟨g4, hf⟩ := gd hf
    refine E_iald dX5_coldOf_32 (q := 33) rfl (hH_d.at 2 rfl) (hH_d.lt 2 (Nat.le_of_ble_eq_true rfl)) g4 ?_
    refine E_imul dX5_coldOf_33 (q := 34) rfl ?_
    refine E_iadd dX5_coldOf_34 (q := 35) rfl ?_
    refine E_istore_n [(3, .int (v3 + ((w_served (ci ((p2 * 5) + v4))) * (d_cold (ci v4))))), (0, .ref (gB γ + k)), (1, .ref (gB γ + 3)), (2, .int p2), (4, .int v4)] dX5_coldOf_35 (q := 36) rfl rfl (Nat.le_of_ble_eq_true rfl) rfl ?_
    refine E_iinc 4 [(4, .int (v4 + 1)), (3, .int (v3 + ((w_served (ci ((p2 * 5) + v4))) * (d_cold (ci v4))))), (0, .ref (gB γ + k)), (1, .ref (gB γ + 3)), (2, .int p2)] dX5_coldOf_36 (q := 39) rfl rfl rfl (Nat.le_of_ble_eq_true rfl) rfl ?_
    refine E_goto (q := 5) dX5_coldOf_39 (by decide) ?_
    exact E_sub [2, 3, 4, 1, 0] rfl (hP _ (Option.some.inj hf).symm)
set_option maxHeartbeats 4000000 in
set_option maxRecDepth 100000 in
theorem m_X5_coldOf {γ : GX} {n : Nat} {N : Nat} {k : Nat} {h : HP} {a2 : Int32} {d_posts : Int32} {d_sees : FN} {d_cold : FN} {d_men : Int32} {d_debts : FN} {d_on : Int32} {d_stove : Int32} {w_hour : Int32} {w_debts : FN} {w_guards : FN} {w_stood : FN} {w_served : FN} (hk : 11 ≤ k) (hH_d : Has n 3 (dpB γ 3 d_posts d_sees d_cold d_men d_debts d_on d_stove) h) (hH_w : Has n k (wtB γ k w_hour w_debts w_guards w_stood w_served) h) {z : Int32} (hf : f_X5_coldOf N a2 d_posts d_cold w_served = some z)  : Ct γ M_X5_coldOf n h [.ref (gB γ + k), .ref (gB γ + 3), .int a2] (Done (some (.int z)) n h) := by
  refine Ct_of_Ev (by decide) (fun h => by cases h) (Nat.le_of_ble_eq_true rfl) ?_
  show Ev γ M_X5_coldOf (0, 0) n h [(0, .ref (gB γ + k)), (1, .ref (gB γ + 3)), (2, .int a2)] 0 [] _
  unfold f_X5_coldOf at hf
  refine E_iconst (x := 0) dX5_coldOf_0 (q := 1) rfl (by decide) ?_
  refine E_istore_n [(3, .int 0), (0, .ref (gB γ + k)), (1, .ref (gB γ + 3)), (2, .int a2)] dX5_coldOf_1 (q := 2) rfl rfl (Nat.le_of_ble_eq_true rfl) rfl ?_
  refine E_iconst (x := 0) dX5_coldOf_2 (q := 3) rfl (by decide) ?_
  refine E_istore [(4, .int 0), (3, .int 0), (0, .ref (gB γ + k)), (1, .ref (gB γ + 3)), (2, .int a2)] dX5_coldOf_3 (q := 5) rfl (Nat.le_of_ble_eq_true rfl) rfl ?_
  obtain ⟨t5, hxt5, hf⟩ := bnd hf
  refine E_sub [2, 3, 4, 1, 0] rfl ?_
  refine L_X5_coldOf_1 hk hH_d hH_w hxt5 ?_
  show Ev γ M_X5_coldOf _ n h [(3, .int t5)] 42 [] _
  refine E_iload_n 0 dX5_coldOf_42 (q := 43) rfl rfl rfl ?_
  obtain rfl := Option.some.inj hf
  exact E_iret dX5_coldOf_43 rfl ⟨rfl, rfl, rfl⟩
end
section
def M_X2_remember : MI := (yX2_remember, cX2_remember, 2, none, false, 2, 0, 0)
theorem lkm_X2_remember : LkM M_X2_remember 1 := ⟨(lg_mem 55 (by decide +kernel) rfl), (lg_mem 428 (by decide +kernel) rfl), ⟨by decide, by decide, by decide +kernel⟩, (Nat.le_of_ble_eq_true rfl)⟩
def M_X2_restore : MI := (yX2_restore, cX2_restore, 2, none, false, 2, 0, 0)
theorem lkm_X2_restore : LkM M_X2_restore 1 := ⟨(lg_mem 55 (by decide +kernel) rfl), (lg_mem 489 (by decide +kernel) rfl), ⟨by decide, by decide, by decide +kernel⟩, (Nat.le_of_ble_eq_true rfl)⟩
def M_X3_weighAll : MI := (yX3_weighAll, cX3_weighAll, 6, none, false, 2, 0, 0)
theorem lkm_X3_weighAll : LkM M_X3_weighAll 2 := ⟨(lg_mem 57 (by decide +kernel) rfl), (lg_mem 525 (by decide +kernel) rfl), ⟨by decide, by decide, by decide +kernel⟩, (Nat.le_of_ble_eq_true rfl)⟩
def M_X3_tryFrom (rr : Nat) : MI := (yX3_tryFrom, cX3_tryFrom, 6, none, false, rr + 1, 0, 0)
theorem lkm0_X3_tryFrom : LkM (M_X3_tryFrom 0) 4 := ⟨(lg_mem 57 (by decide +kernel) rfl), (lg_mem 531 (by decide +kernel) rfl), ⟨by decide, by decide, by decide +kernel⟩, (Nat.le_of_ble_eq_true rfl)⟩
theorem lkm_X3_tryFrom (rr : Nat) : LkM (M_X3_tryFrom rr) 4 := lkm0_X3_tryFrom
def M_X3_search : MI := (yX3_search, cX3_search, 3, none, false, 10, 0, 0)
theorem lkm_X3_search : LkM M_X3_search 2 := ⟨(lg_mem 57 (by decide +kernel) rfl), (lg_mem 521 (by decide +kernel) rfl), ⟨by decide, by decide, by decide +kernel⟩, (Nat.le_of_ble_eq_true rfl)⟩
theorem fl_X2_11 : Cond.fieldLink RX2 11 (TX2 0).1 (TX2 0).2.1 (TX2 0).2.2.1 ∈ lw_good := (lg_mem 193 (by decide +kernel) rfl)
theorem fl_X2_18 : Cond.fieldLink RX2 18 (TX2 1).1 (TX2 1).2.1 (TX2 1).2.2.1 ∈ lw_good := (lg_mem 194 (by decide +kernel) rfl)
theorem fl_X2_26 : Cond.fieldLink RX2 26 (TX2 2).1 (TX2 2).2.1 (TX2 2).2.2.1 ∈ lw_good := (lg_mem 195 (by decide +kernel) rfl)
theorem lkmin_X2_29 : Cond.methodLink RX2 29 Lib.Math.min.name ∈ lw_good := (lg_mem 433 (by decide +kernel) rfl)
theorem lkv_X2_22 : LkV RX2 22 M_X5_become := ⟨(lg_mem 429 (by decide +kernel) rfl), (lg_mem 430 (by decide +kernel) rfl), (lg_mem 431 (by decide +kernel) rfl)⟩
theorem fl_X3_33 : Cond.fieldLink RX3 33 (TX0 0).1 (TX0 0).2.1 (TX0 0).2.2.1 ∈ lw_good := (lg_mem 110 (by decide +kernel) rfl)
theorem fl_X3_38 : Cond.fieldLink RX3 38 (TX0 5).1 (TX0 5).2.1 (TX0 5).2.2.1 ∈ lw_good := (lg_mem 129 (by decide +kernel) rfl)
theorem fl_X3_41 : Cond.fieldLink RX3 41 (TX5 0).1 (TX5 0).2.1 (TX5 0).2.2.1 ∈ lw_good := (lg_mem 162 (by decide +kernel) rfl)
theorem fl_X3_50 : Cond.fieldLink RX3 50 (TX0 3).1 (TX0 3).2.1 (TX0 3).2.2.1 ∈ lw_good := (lg_mem 121 (by decide +kernel) rfl)
theorem fl_X3_18 : Cond.fieldLink RX3 18 (TX3 3).1 (TX3 3).2.1 (TX3 3).2.2.1 ∈ lw_good := (lg_mem 236 (by decide +kernel) rfl)
theorem fl_X3_53 : Cond.fieldLink RX3 53 (TX5 1).1 (TX5 1).2.1 (TX5 1).2.2.1 ∈ lw_good := (lg_mem 165 (by decide +kernel) rfl)
theorem lkmin_X3_56 : Cond.methodLink RX3 56 Lib.Math.min.name ∈ lw_good := (lg_mem 527 (by decide +kernel) rfl)
theorem lkv_X3_46 : LkV RX3 46 M_X0_burden := ⟨(lg_mem 526 (by decide +kernel) rfl), (lg_mem 461 (by decide +kernel) rfl), (lg_mem 462 (by decide +kernel) rfl)⟩
theorem fl_X3_25 : Cond.fieldLink RX3 25 (TX3 0).1 (TX3 0).2.1 (TX3 0).2.2.1 ∈ lw_good := (lg_mem 231 (by decide +kernel) rfl)
theorem fl_X3_15 : Cond.fieldLink RX3 15 (TX3 2).1 (TX3 2).2.1 (TX3 2).2.2.1 ∈ lw_good := (lg_mem 235 (by decide +kernel) rfl)
theorem lkmax_X3_67 : Cond.methodLink RX3 67 Lib.Math.max.name ∈ lw_good := (lg_mem 533 (by decide +kernel) rfl)
theorem fl_X3_9 : Cond.fieldLink RX3 9 (TX3 1).1 (TX3 1).2.1 (TX3 1).2.2.1 ∈ lw_good := (lg_mem 233 (by decide +kernel) rfl)
theorem lkcp_X3_61 : Cond.methodLink RX3 61 arraycopyName ∈ lw_good := (lg_mem 532 (by decide +kernel) rfl)
theorem lkv_X3_29 : ∀ rr : Nat, LkV RX3 29 (M_X3_tryFrom rr) := by
  intro rr
  show Cond.methodLink RX3 29 yX3_tryFrom ∈ lw_good ∧ Cond.instanceMethod yX3_tryFrom ∈ lw_good ∧ Cond.selects (yX3_tryFrom).cls yX3_tryFrom yX3_tryFrom ∈ lw_good
  exact ⟨(lg_mem 528 (by decide +kernel) rfl), (lg_mem 530 (by decide +kernel) rfl), (lg_mem 13 (by decide +kernel) rfl)⟩
theorem lkv_X3_21 : LkV RX3 21 M_X3_weighAll := ⟨(lg_mem 522 (by decide +kernel) rfl), (lg_mem 524 (by decide +kernel) rfl), (lg_mem 12 (by decide +kernel) rfl)⟩
-- PostRelief$Past.remember(LPostRelief$Watch;)V
def f_X2_remember (N : Nat) (w_hour : Int32) (w_debts : FN) (w_guards : FN) (w_stood : FN) (w_served : FN) (p_next : Int32) (p_known : Int32) (P_pw : (Nat → WtT)) : Option (Int32 × Int32 × (Nat → WtT)) :=
  (if ix p_next 10 = true then ((f_X5_become N ((P_pw (ci p_next)).1) ((P_pw (ci p_next)).2.1) ((P_pw (ci p_next)).2.2.1) ((P_pw (ci p_next)).2.2.2.1) ((P_pw (ci p_next)).2.2.2.2) w_hour w_debts w_guards w_stood w_served).bind fun z3 => some (((p_next + 1) % 10), (if (p_known + 1) < 10 then (p_known + 1) else 10), (updT P_pw (ci p_next) (z3.1, z3.2.1, z3.2.2.1, z3.2.2.2.1, z3.2.2.2.2)))) else none)
set_option maxHeartbeats 4000000 in
set_option maxRecDepth 100000 in
theorem m_X2_remember {γ : GX} {n : Nat} {N : Nat} {h : HP} {w_hour : Int32} {w_debts : FN} {w_guards : FN} {w_stood : FN} {w_served : FN} {p_next : Int32} {p_known : Int32} {P_pw : (Nat → WtT)} (hH_w : Has n 11 (wtB γ 11 w_hour w_debts w_guards w_stood w_served) h) (hH_p : Has n 21 (paB γ 21 p_next p_known) h) (hH_P : Has n 23 (pwB γ 23 P_pw) h) {z : Int32 × Int32 × (Nat → WtT)} (hf : f_X2_remember N w_hour w_debts w_guards w_stood w_served p_next p_known P_pw = some z)  : Ct γ M_X2_remember n h [.ref (gB γ + 21), .ref (gB γ + 11)] (Done none n (put 21 (paB γ 21 z.1 z.2.1) (put 23 (pwB γ 23 z.2.2) h))) := by
  have hn_p : 21 + 2 ≤ n := hH_p.1
  have hn_P : 23 + 50 ≤ n := hH_P.1
  refine Ct.heap (h := (put 21 (paB γ 21 p_next p_known) (put 23 (pwB γ 23 P_pw) h))) ((congrArg (put 21 (paB γ 21 p_next p_known)) (put_self hH_P)).trans (put_self hH_p)).symm ?_
  refine Ct_of_Ev (by decide) (fun h => by cases h) (Nat.le_of_ble_eq_true rfl) ?_
  show Ev γ M_X2_remember (0, 0) n (put 21 (paB γ 21 p_next p_known) (put 23 (pwB γ 23 P_pw) h)) [(0, .ref (gB γ + 21)), (1, .ref (gB γ + 11))] 0 [] _
  unfold f_X2_remember at hf
  refine E_aload_n 0 dX2_remember_0 (q := 1) rfl rfl rfl ?_
  have hF1 : Has n 21 (paB γ 21 p_next p_known) (put 21 (paB γ 21 p_next p_known) (put 23 (pwB γ 23 P_pw) h)) := (has_put hn_p)
  refine E_get 0 dX2_remember_1 (q := 4) rfl ckX2 (Nat.le_of_ble_eq_true rfl) fl_X2_11 (hF1.at 0 rfl) (hF1.lt 0 (Nat.le_of_ble_eq_true rfl)) rfl ?_
  refine E_aload_n 0 dX2_remember_4 (q := 5) rfl rfl rfl ?_
  refine E_get 1 dX2_remember_5 (q := 8) rfl ckX2 (Nat.le_of_ble_eq_true rfl) fl_X2_18 (hF1.at 0 rfl) (hF1.lt 0 (Nat.le_of_ble_eq_true rfl)) rfl ?_
  obtain ⟨g2, hf⟩ := gd hf
  refine E_wald (v := .ref (gB γ + (23 + 5 * ci p_next))) dX2_remember_8 (q := 9) rfl (hF1.at 1 rfl) (hF1.lt 1 (Nat.le_of_ble_eq_true rfl)) g2 rfl ?_
  refine E_aload_n 1 dX2_remember_9 (q := 10) rfl rfl rfl ?_
  obtain ⟨z3, hxz3, hf⟩ := bnd hf
  have hF4 : Has n 23 (pwB γ 23 P_pw) (put 21 (paB γ 21 p_next p_known) (put 23 (pwB γ 23 P_pw) h)) := (has_out (has_put hn_P) (Or.inr (Nat.le_of_ble_eq_true rfl)))
  have hF5 : Has n 11 (wtB γ 11 w_hour w_debts w_guards w_stood w_served) (put 21 (paB γ 21 p_next p_known) (put 23 (pwB γ 23 P_pw) h)) := (has_out (has_out hH_w (Or.inl (Nat.le_of_ble_eq_true rfl))) (Or.inl (Nat.le_of_ble_eq_true rfl)))
  refine E_cV (as := [.ref (gB γ + 11)]) (k := (23 + 5 * ci p_next)) (rest := []) (u' := (0, 0)) (st' := []) dX2_remember_10 (q := 13) rfl lkm_X5_become lkv_X2_22 (Nat.le_of_ble_eq_true rfl) ckX5 ((fam_has hF4 (ix_lt g2)).at 0 rfl) ((fam_has hF4 (ix_lt g2)).lt 0 (Nat.le_of_ble_eq_true rfl)) ⟨Nat.le_refl _, Nat.le_refl _⟩ (Nat.le_of_ble_eq_true rfl) rfl rfl (m_X5_become (N := N)  (by omega) (by omega) (fam_has hF4 (ix_lt g2)) hF5 hxz3) rfl rfl rfl ?_
  refine Ev.heap ((put_comm (by show _ ∨ _; first | exact Or.inl (by show (23 + 5 * ci p_next) + 5 ≤ 21; omega) | exact Or.inr (by show 21 + 2 ≤ (23 + 5 * ci p_next); omega))).trans (congrArg (put 21 (paB γ 21 p_next p_known)) (fam_put (ix_lt g2)))) ?_
  refine E_aload_n 0 dX2_remember_13 (q := 14) rfl rfl rfl ?_
  refine E_aload_n 0 dX2_remember_14 (q := 15) rfl rfl rfl ?_
  have hF7 : Has n 21 (paB γ 21 p_next p_known) (put 21 (paB γ 21 p_next p_known) (put 23 (pwB γ 23 (updT P_pw (ci p_next) (z3.1, z3.2.1, z3.2.2.1, z3.2.2.2.1, z3.2.2.2.2))) h)) := (has_put hn_p)
  refine E_get 1 dX2_remember_15 (q := 18) rfl ckX2 (Nat.le_of_ble_eq_true rfl) fl_X2_18 (hF7.at 0 rfl) (hF7.lt 0 (Nat.le_of_ble_eq_true rfl)) rfl ?_
  refine E_iconst (x := 1) dX2_remember_18 (q := 19) rfl (by decide) ?_
  refine E_iadd dX2_remember_19 (q := 20) rfl ?_
  refine E_bipush (x := 10) dX2_remember_20 (q := 22) rfl (by decide) ?_
  refine E_irem dX2_remember_22 (q := 23) rfl (by decide) ?_
  refine E_put 1 dX2_remember_23 (q := 26) rfl ckX2 (Nat.le_of_ble_eq_true rfl) fl_X2_18 rfl rfl rfl (hF7.at 0 rfl) (hF7.lt 0 (Nat.le_of_ble_eq_true rfl)) (Nat.le_of_ble_eq_true rfl) (up_put (i := 0) (cs' := (paB γ 21 ((p_next + 1) % 10) p_known)) (Nat.le_of_ble_eq_true rfl) rfl) ?_
  refine E_aload_n 0 dX2_remember_26 (q := 27) rfl rfl rfl ?_
  refine E_aload_n 0 dX2_remember_27 (q := 28) rfl rfl rfl ?_
  have hF9 : Has n 21 (paB γ 21 ((p_next + 1) % 10) p_known) (put 21 (paB γ 21 ((p_next + 1) % 10) p_known) (put 23 (pwB γ 23 (updT P_pw (ci p_next) (z3.1, z3.2.1, z3.2.2.1, z3.2.2.2.1, z3.2.2.2.2))) h)) := (has_put hn_p)
  refine E_get 2 dX2_remember_28 (q := 31) rfl ckX2 (Nat.le_of_ble_eq_true rfl) fl_X2_26 (hF9.at 0 rfl) (hF9.lt 0 (Nat.le_of_ble_eq_true rfl)) rfl ?_
  refine E_iconst (x := 1) dX2_remember_31 (q := 32) rfl (by decide) ?_
  refine E_iadd dX2_remember_32 (q := 33) rfl ?_
  refine E_bipush (x := 10) dX2_remember_33 (q := 35) rfl (by decide) ?_
  refine E_min dX2_remember_35 (q := 38) rfl lkmin_X2_29 st_min in_math co_min (Nat.le_of_ble_eq_true rfl) (Nat.le_of_ble_eq_true rfl) ?_
  refine E_put 2 dX2_remember_38 (q := 41) rfl ckX2 (Nat.le_of_ble_eq_true rfl) fl_X2_26 rfl rfl rfl (hF9.at 0 rfl) (hF9.lt 0 (Nat.le_of_ble_eq_true rfl)) (Nat.le_of_ble_eq_true rfl) (up_put (i := 0) (cs' := (paB γ 21 ((p_next + 1) % 10) (if (p_known + 1) < 10 then (p_known + 1) else 10))) (Nat.le_of_ble_eq_true rfl) rfl) ?_
  obtain rfl := Option.some.inj hf
  exact E_vret dX2_remember_41 rfl ⟨rfl, rfl, rfl⟩

-- PostRelief$Past.restore(LPostRelief$Watch;)V
def f_X2_restore (N : Nat) (w_hour : Int32) (w_debts : FN) (w_guards : FN) (w_stood : FN) (w_served : FN) (p_next : Int32) (p_known : Int32) (P_pw : (Nat → WtT)) : Option (Int32 × FN × FN × FN × FN × Int32 × Int32) :=
  (if ix (((p_next + 10) - 1) % 10) 10 = true then ((f_X5_become N w_hour w_debts w_guards w_stood w_served ((P_pw (ci (((p_next + 10) - 1) % 10))).1) ((P_pw (ci (((p_next + 10) - 1) % 10))).2.1) ((P_pw (ci (((p_next + 10) - 1) % 10))).2.2.1) ((P_pw (ci (((p_next + 10) - 1) % 10))).2.2.2.1) ((P_pw (ci (((p_next + 10) - 1) % 10))).2.2.2.2)).bind fun z5 => some (z5.1, z5.2.1, z5.2.2.1, z5.2.2.2.1, z5.2.2.2.2, (((p_next + 10) - 1) % 10), (p_known - 1))) else none)
set_option maxHeartbeats 4000000 in
set_option maxRecDepth 100000 in
theorem m_X2_restore {γ : GX} {n : Nat} {N : Nat} {h : HP} {w_hour : Int32} {w_debts : FN} {w_guards : FN} {w_stood : FN} {w_served : FN} {p_next : Int32} {p_known : Int32} {P_pw : (Nat → WtT)} (hH_w : Has n 11 (wtB γ 11 w_hour w_debts w_guards w_stood w_served) h) (hH_p : Has n 21 (paB γ 21 p_next p_known) h) (hH_P : Has n 23 (pwB γ 23 P_pw) h) {z : Int32 × FN × FN × FN × FN × Int32 × Int32} (hf : f_X2_restore N w_hour w_debts w_guards w_stood w_served p_next p_known P_pw = some z)  : Ct γ M_X2_restore n h [.ref (gB γ + 21), .ref (gB γ + 11)] (Done none n (put 11 (wtB γ 11 z.1 z.2.1 z.2.2.1 z.2.2.2.1 z.2.2.2.2.1) (put 21 (paB γ 21 z.2.2.2.2.2.1 z.2.2.2.2.2.2) h))) := by
  have hn_w : 11 + 5 ≤ n := hH_w.1
  have hn_p : 21 + 2 ≤ n := hH_p.1
  refine Ct.heap (h := (put 11 (wtB γ 11 w_hour w_debts w_guards w_stood w_served) (put 21 (paB γ 21 p_next p_known) h))) ((congrArg (put 11 (wtB γ 11 w_hour w_debts w_guards w_stood w_served)) (put_self hH_p)).trans (put_self hH_w)).symm ?_
  refine Ct_of_Ev (by decide) (fun h => by cases h) (Nat.le_of_ble_eq_true rfl) ?_
  show Ev γ M_X2_restore (0, 0) n (put 11 (wtB γ 11 w_hour w_debts w_guards w_stood w_served) (put 21 (paB γ 21 p_next p_known) h)) [(0, .ref (gB γ + 21)), (1, .ref (gB γ + 11))] 0 [] _
  unfold f_X2_restore at hf
  refine E_aload_n 0 dX2_restore_0 (q := 1) rfl rfl rfl ?_
  refine E_aload_n 0 dX2_restore_1 (q := 2) rfl rfl rfl ?_
  have hF1 : Has n 21 (paB γ 21 p_next p_known) (put 11 (wtB γ 11 w_hour w_debts w_guards w_stood w_served) (put 21 (paB γ 21 p_next p_known) h)) := (has_out (has_put hn_p) (Or.inr (Nat.le_of_ble_eq_true rfl)))
  refine E_get 1 dX2_restore_2 (q := 5) rfl ckX2 (Nat.le_of_ble_eq_true rfl) fl_X2_18 (hF1.at 0 rfl) (hF1.lt 0 (Nat.le_of_ble_eq_true rfl)) rfl ?_
  refine E_bipush (x := 10) dX2_restore_5 (q := 7) rfl (by decide) ?_
  refine E_iadd dX2_restore_7 (q := 8) rfl ?_
  refine E_iconst (x := 1) dX2_restore_8 (q := 9) rfl (by decide) ?_
  refine E_isub dX2_restore_9 (q := 10) rfl ?_
  refine E_bipush (x := 10) dX2_restore_10 (q := 12) rfl (by decide) ?_
  refine E_irem dX2_restore_12 (q := 13) rfl (by decide) ?_
  refine E_put 1 dX2_restore_13 (q := 16) rfl ckX2 (Nat.le_of_ble_eq_true rfl) fl_X2_18 rfl rfl rfl (hF1.at 0 rfl) (hF1.lt 0 (Nat.le_of_ble_eq_true rfl)) (Nat.le_of_ble_eq_true rfl) ((up_put_out (Or.inr (Nat.le_of_ble_eq_true rfl))).trans (congrArg (put 11 (wtB γ 11 w_hour w_debts w_guards w_stood w_served)) (up_put (i := 0) (cs' := (paB γ 21 (((p_next + 10) - 1) % 10) p_known)) (Nat.le_of_ble_eq_true rfl) rfl))) ?_
  refine E_aload_n 1 dX2_restore_16 (q := 17) rfl rfl rfl ?_
  refine E_aload_n 0 dX2_restore_17 (q := 18) rfl rfl rfl ?_
  have hF3 : Has n 21 (paB γ 21 (((p_next + 10) - 1) % 10) p_known) (put 11 (wtB γ 11 w_hour w_debts w_guards w_stood w_served) (put 21 (paB γ 21 (((p_next + 10) - 1) % 10) p_known) h)) := (has_out (has_put hn_p) (Or.inr (Nat.le_of_ble_eq_true rfl)))
  refine E_get 0 dX2_restore_18 (q := 21) rfl ckX2 (Nat.le_of_ble_eq_true rfl) fl_X2_11 (hF3.at 0 rfl) (hF3.lt 0 (Nat.le_of_ble_eq_true rfl)) rfl ?_
  refine E_aload_n 0 dX2_restore_21 (q := 22) rfl rfl rfl ?_
  refine E_get 1 dX2_restore_22 (q := 25) rfl ckX2 (Nat.le_of_ble_eq_true rfl) fl_X2_18 (hF3.at 0 rfl) (hF3.lt 0 (Nat.le_of_ble_eq_true rfl)) rfl ?_
  obtain ⟨g4, hf⟩ := gd hf
  refine E_wald (v := .ref (gB γ + (23 + 5 * ci (((p_next + 10) - 1) % 10)))) dX2_restore_25 (q := 26) rfl (hF3.at 1 rfl) (hF3.lt 1 (Nat.le_of_ble_eq_true rfl)) g4 rfl ?_
  obtain ⟨z5, hxz5, hf⟩ := bnd hf
  have hF6 : Has n 11 (wtB γ 11 w_hour w_debts w_guards w_stood w_served) (put 11 (wtB γ 11 w_hour w_debts w_guards w_stood w_served) (put 21 (paB γ 21 (((p_next + 10) - 1) % 10) p_known) h)) := (has_put hn_w)
  have hF7 : Has n 23 (pwB γ 23 P_pw) (put 11 (wtB γ 11 w_hour w_debts w_guards w_stood w_served) (put 21 (paB γ 21 (((p_next + 10) - 1) % 10) p_known) h)) := (has_out (has_out hH_P (Or.inr (Nat.le_of_ble_eq_true rfl))) (Or.inr (Nat.le_of_ble_eq_true rfl)))
  refine E_cV (as := [.ref (gB γ + (23 + 5 * ci (((p_next + 10) - 1) % 10)))]) (k := 11) (rest := []) (u' := (0, 0)) (st' := []) dX2_restore_26 (q := 29) rfl lkm_X5_become lkv_X2_22 (Nat.le_of_ble_eq_true rfl) ckX5 (hF6.at 0 rfl) (hF6.lt 0 (Nat.le_of_ble_eq_true rfl)) ⟨Nat.le_refl _, Nat.le_refl _⟩ (Nat.le_of_ble_eq_true rfl) rfl rfl (m_X5_become (N := N)  (Nat.le_of_ble_eq_true rfl) (by omega) hF6 (fam_has hF7 (ix_lt g4)) hxz5) rfl rfl rfl ?_
  refine Ev.heap (put_put (k := 11) (cs := (wtB γ 11 w_hour w_debts w_guards w_stood w_served)) (cs' := (wtB γ 11 z5.1 z5.2.1 z5.2.2.1 z5.2.2.2.1 z5.2.2.2.2)) rfl) ?_
  refine E_aload_n 0 dX2_restore_29 (q := 30) rfl rfl rfl ?_
  refine E_dup dX2_restore_30 (q := 31) rfl rfl ?_
  have hF9 : Has n 21 (paB γ 21 (((p_next + 10) - 1) % 10) p_known) (put 11 (wtB γ 11 z5.1 z5.2.1 z5.2.2.1 z5.2.2.2.1 z5.2.2.2.2) (put 21 (paB γ 21 (((p_next + 10) - 1) % 10) p_known) h)) := (has_out (has_put hn_p) (Or.inr (Nat.le_of_ble_eq_true rfl)))
  refine E_get 2 dX2_restore_31 (q := 34) rfl ckX2 (Nat.le_of_ble_eq_true rfl) fl_X2_26 (hF9.at 0 rfl) (hF9.lt 0 (Nat.le_of_ble_eq_true rfl)) rfl ?_
  refine E_iconst (x := 1) dX2_restore_34 (q := 35) rfl (by decide) ?_
  refine E_isub dX2_restore_35 (q := 36) rfl ?_
  refine E_put 2 dX2_restore_36 (q := 39) rfl ckX2 (Nat.le_of_ble_eq_true rfl) fl_X2_26 rfl rfl rfl (hF9.at 0 rfl) (hF9.lt 0 (Nat.le_of_ble_eq_true rfl)) (Nat.le_of_ble_eq_true rfl) ((up_put_out (Or.inr (Nat.le_of_ble_eq_true rfl))).trans (congrArg (put 11 (wtB γ 11 z5.1 z5.2.1 z5.2.2.1 z5.2.2.2.1 z5.2.2.2.2)) (up_put (i := 0) (cs' := (paB γ 21 (((p_next + 10) - 1) % 10) (p_known - 1))) (Nat.le_of_ble_eq_true rfl) rfl))) ?_
  obtain rfl := Option.some.inj hf
  exact E_vret dX2_restore_39 rfl ⟨rfl, rfl, rfl⟩

-- PostRelief$Plan.weighAll(LPostRelief$Depot;LPostRelief$Watch;)V
def b_X3_weighAll_2 (N : Nat) (p3 : Int32) (d_cold : FN) (d_on : Int32) (w_hour : Int32) (v4 : Int32) (v5 : Int32) : Option ((Int32 × Int32) ⊕ (Int32)) :=
  (if d_on ≤ v5 then some (.inr v4) else ((f_X0_burden N p3 (w_hour + v5) d_cold).bind fun z8 => some (.inl ((v4 + z8), (v5 + 1)))))
def b_X3_weighAll_3 (N : Nat) (p3 : Int32) (p4 : Int32) (d_men : Int32) (w_debts : FN) (v5 : Int32) (l_debtThen : FN) : Option ((Int32 × FN) ⊕ (FN)) :=
  (if d_men ≤ v5 then some (.inr l_debtThen) else (if ix v5 6 = true then (if ix ((v5 * 5) + p3) 30 = true then some (.inl ((v5 + 1), (upd l_debtThen (ci ((v5 * 5) + p3)) (if 60 < ((w_debts (ci v5)) + p4) then 60 else ((w_debts (ci v5)) + p4))))) else none) else none))
def b_X3_weighAll_1 (N : Nat) (d_posts : Int32) (d_cold : FN) (d_men : Int32) (d_on : Int32) (w_hour : Int32) (w_debts : FN) (v3 : Int32) (l_debtThen : FN) : Option ((Int32 × FN) ⊕ (FN)) :=
  (if d_posts ≤ v3 then some (.inr l_debtThen) else ((lp (fun s => b_X3_weighAll_2 N v3 d_cold d_on w_hour s.1 s.2) N (0, 0)).bind fun t9 => ((lp (fun s => b_X3_weighAll_3 N v3 t9 d_men w_debts s.1 s.2) N (0, l_debtThen)).bind fun t19 => some (.inl ((v3 + 1), t19)))))
def f_X3_weighAll (N : Nat) (d_posts : Int32) (d_cold : FN) (d_men : Int32) (d_on : Int32) (w_hour : Int32) (w_debts : FN) (l_debtThen : FN) : Option (FN) :=
  ((lp (fun s => b_X3_weighAll_1 N d_posts d_cold d_men d_on w_hour w_debts s.1 s.2) N (0, l_debtThen)).bind fun t21 => some t21)
set_option maxHeartbeats 4000000 in
set_option maxRecDepth 100000 in
theorem L_X3_weighAll_2 {γ : GX} {n : Nat} {h : HP} {Ψ : PS} {N : Nat} {p3 : Int32} {d_posts : Int32} {d_sees : FN} {d_cold : FN} {d_men : Int32} {d_debts : FN} {d_on : Int32} {d_stove : Int32} {w_hour : Int32} {w_debts : FN} {w_guards : FN} {w_stood : FN} {w_served : FN} {l_least : Int32} {l_chosen : FN} {l_trial : FN} {l_debtThen : FN} (hH_d : Has n 3 (dpB γ 3 d_posts d_sees d_cold d_men d_debts d_on d_stove) h) (hH_w : Has n 11 (wtB γ 11 w_hour w_debts w_guards w_stood w_served) h) (hn_l : 79 + 4 ≤ n) {s0 : Int32 × Int32} {t : Int32} (hf : lp (fun s => b_X3_weighAll_2 N p3 d_cold d_on w_hour s.1 s.2) N s0 = some t) (K : Ev γ M_X3_weighAll (0, 0) n (put 79 (plB γ 79 l_least l_chosen l_trial l_debtThen) h) [(0, .ref (gB γ + 79)), (1, .ref (gB γ + 3)), (2, .ref (gB γ + 11)), (3, .int p3), (4, .int t)] 48 [] Ψ) : Ev γ M_X3_weighAll (0, 0) n (put 79 (plB γ 79 l_least l_chosen l_trial l_debtThen) h) [(0, .ref (gB γ + 79)), (1, .ref (gB γ + 3)), (2, .ref (gB γ + 11)), (3, .int p3), (4, .int s0.1), (5, .int s0.2)] 16 [] Ψ := by
  refine E_lp (P := fun s => Ev γ M_X3_weighAll (0, 0) n (put 79 (plB γ 79 l_least l_chosen l_trial l_debtThen) h) [(0, .ref (gB γ + 79)), (1, .ref (gB γ + 3)), (2, .ref (gB γ + 11)), (3, .int p3), (4, .int s.1), (5, .int s.2)] 16 [] Ψ) (K := fun t => Ev γ M_X3_weighAll (0, 0) n (put 79 (plB γ 79 l_least l_chosen l_trial l_debtThen) h) [(0, .ref (gB γ + 79)), (1, .ref (gB γ + 3)), (2, .ref (gB γ + 11)), (3, .int p3), (4, .int t)] 48 [] Ψ) ?_ N s0 t hf K
  intro s r hf hP hK
  obtain ⟨v4, v5⟩ := s
  unfold b_X3_weighAll_2 at hf
  try dsimp only at hf
  show Ev γ M_X3_weighAll (0, 0) n (put 79 (plB γ 79 l_least l_chosen l_trial l_debtThen) h) [(0, .ref (gB γ + 79)), (1, .ref (gB γ + 3)), (2, .ref (gB γ + 11)), (3, .int p3), (4, .int v4), (5, .int v5)] 16 [] Ψ
  refine E_iload 5 dX3_weighAll_16 (q := 18) rfl rfl ?_
  refine E_aload_n 1 dX3_weighAll_18 (q := 19) rfl rfl rfl ?_
  have hF5 : Has n 3 (dpB γ 3 d_posts d_sees d_cold d_men d_debts d_on d_stove) (put 79 (plB γ 79 l_least l_chosen l_trial l_debtThen) h) := (has_out hH_d (Or.inl (Nat.le_of_ble_eq_true rfl)))
  refine E_get 5 dX3_weighAll_19 (q := 22) rfl ckX0 (Nat.le_of_ble_eq_true rfl) fl_X3_38 (hF5.at 0 rfl) (hF5.lt 0 (Nat.le_of_ble_eq_true rfl)) rfl ?_
  refine E_icmp_ge dX3_weighAll_22 (t := 48) (by decide) (q := 25) rfl (fun c6 => ?_) (fun c6 => ?_)
  · have hf := if_t c6 hf
    exact E_sub [0, 1, 2, 3, 4] rfl (hK _ (Option.some.inj hf).symm)
  · have hf := if_f c6 hf
    refine E_iload 4 dX3_weighAll_25 (q := 27) rfl rfl ?_
    refine E_aload_n 1 dX3_weighAll_27 (q := 28) rfl rfl rfl ?_
    refine E_iload_n 3 dX3_weighAll_28 (q := 29) rfl rfl rfl ?_
    refine E_aload_n 2 dX3_weighAll_29 (q := 30) rfl rfl rfl ?_
    have hF7 : Has n 11 (wtB γ 11 w_hour w_debts w_guards w_stood w_served) (put 79 (plB γ 79 l_least l_chosen l_trial l_debtThen) h) := (has_out hH_w (Or.inl (Nat.le_of_ble_eq_true rfl)))
    refine E_get 0 dX3_weighAll_30 (q := 33) rfl ckX5 (Nat.le_of_ble_eq_true rfl) fl_X3_41 (hF7.at 0 rfl) (hF7.lt 0 (Nat.le_of_ble_eq_true rfl)) rfl ?_
    refine E_iload 5 dX3_weighAll_33 (q := 35) rfl rfl ?_
    refine E_iadd dX3_weighAll_35 (q := 36) rfl ?_
    obtain ⟨z8, hxz8, hf⟩ := bnd hf
    refine E_cV (as := [.int p3, .int (w_hour + v5)]) (k := 3) (rest := [.int v4]) (u' := (0, 0)) (st' := [.int z8, .int v4]) dX3_weighAll_36 (q := 39) rfl lkm_X0_burden lkv_X3_46 (Nat.le_of_ble_eq_true rfl) ckX0 (hF5.at 0 rfl) (hF5.lt 0 (Nat.le_of_ble_eq_true rfl)) ⟨Nat.le_refl _, Nat.le_refl _⟩ (Nat.le_of_ble_eq_true rfl) rfl rfl (m_X0_burden (N := N)  hF5 hxz8) rfl rfl rfl ?_
    refine E_iadd dX3_weighAll_39 (q := 40) rfl ?_
    refine E_istore [(4, .int (v4 + z8)), (0, .ref (gB γ + 79)), (1, .ref (gB γ + 3)), (2, .ref (gB γ + 11)), (3, .int p3), (5, .int v5)] dX3_weighAll_40 (q := 42) rfl (Nat.le_of_ble_eq_true rfl) rfl ?_
    refine E_iinc 5 [(5, .int (v5 + 1)), (4, .int (v4 + z8)), (0, .ref (gB γ + 79)), (1, .ref (gB γ + 3)), (2, .ref (gB γ + 11)), (3, .int p3)] dX3_weighAll_42 (q := 45) rfl rfl rfl (Nat.le_of_ble_eq_true rfl) rfl ?_
    refine E_goto (q := 16) dX3_weighAll_45 (by decide) ?_
    exact E_sub [2, 3, 4, 5, 1, 0] rfl (hP _ (Option.some.inj hf).symm)
set_option maxHeartbeats 4000000 in
set_option maxRecDepth 100000 in
theorem L_X3_weighAll_3 {γ : GX} {n : Nat} {h : HP} {Ψ : PS} {N : Nat} {p3 : Int32} {p4 : Int32} {d_posts : Int32} {d_sees : FN} {d_cold : FN} {d_men : Int32} {d_debts : FN} {d_on : Int32} {d_stove : Int32} {w_hour : Int32} {w_debts : FN} {w_guards : FN} {w_stood : FN} {w_served : FN} {l_least : Int32} {l_chosen : FN} {l_trial : FN} (hH_d : Has n 3 (dpB γ 3 d_posts d_sees d_cold d_men d_debts d_on d_stove) h) (hH_w : Has n 11 (wtB γ 11 w_hour w_debts w_guards w_stood w_served) h) (hn_l : 79 + 4 ≤ n) {s0 : Int32 × FN} {t : FN} (hf : lp (fun s => b_X3_weighAll_3 N p3 p4 d_men w_debts s.1 s.2) N s0 = some t) (K : Ev γ M_X3_weighAll (0, 0) n (put 79 (plB γ 79 l_least l_chosen l_trial t) h) [(0, .ref (gB γ + 79)), (1, .ref (gB γ + 3)), (2, .ref (gB γ + 11)), (3, .int p3)] 92 [] Ψ) : Ev γ M_X3_weighAll (0, 0) n (put 79 (plB γ 79 l_least l_chosen l_trial s0.2) h) [(0, .ref (gB γ + 79)), (1, .ref (gB γ + 3)), (2, .ref (gB γ + 11)), (3, .int p3), (4, .int p4), (5, .int s0.1)] 51 [] Ψ := by
  refine E_lp (P := fun s => Ev γ M_X3_weighAll (0, 0) n (put 79 (plB γ 79 l_least l_chosen l_trial s.2) h) [(0, .ref (gB γ + 79)), (1, .ref (gB γ + 3)), (2, .ref (gB γ + 11)), (3, .int p3), (4, .int p4), (5, .int s.1)] 51 [] Ψ) (K := fun t => Ev γ M_X3_weighAll (0, 0) n (put 79 (plB γ 79 l_least l_chosen l_trial t) h) [(0, .ref (gB γ + 79)), (1, .ref (gB γ + 3)), (2, .ref (gB γ + 11)), (3, .int p3)] 92 [] Ψ) ?_ N s0 t hf K
  intro s r hf hP hK
  obtain ⟨v5, l_debtThen⟩ := s
  unfold b_X3_weighAll_3 at hf
  try dsimp only at hf
  show Ev γ M_X3_weighAll (0, 0) n (put 79 (plB γ 79 l_least l_chosen l_trial l_debtThen) h) [(0, .ref (gB γ + 79)), (1, .ref (gB γ + 3)), (2, .ref (gB γ + 11)), (3, .int p3), (4, .int p4), (5, .int v5)] 51 [] Ψ
  refine E_iload 5 dX3_weighAll_51 (q := 53) rfl rfl ?_
  refine E_aload_n 1 dX3_weighAll_53 (q := 54) rfl rfl rfl ?_
  have hF12 : Has n 3 (dpB γ 3 d_posts d_sees d_cold d_men d_debts d_on d_stove) (put 79 (plB γ 79 l_least l_chosen l_trial l_debtThen) h) := (has_out hH_d (Or.inl (Nat.le_of_ble_eq_true rfl)))
  refine E_get 3 dX3_weighAll_54 (q := 57) rfl ckX0 (Nat.le_of_ble_eq_true rfl) fl_X3_50 (hF12.at 0 rfl) (hF12.lt 0 (Nat.le_of_ble_eq_true rfl)) rfl ?_
  refine E_icmp_ge dX3_weighAll_57 (t := 92) (by decide) (q := 60) rfl (fun c13 => ?_) (fun c13 => ?_)
  · have hf := if_t c13 hf
    exact E_sub [0, 1, 2, 3] rfl (hK _ (Option.some.inj hf).symm)
  · have hf := if_f c13 hf
    refine E_aload_n 0 dX3_weighAll_60 (q := 61) rfl rfl rfl ?_
    have hF14 : Has n 79 (plB γ 79 l_least l_chosen l_trial l_debtThen) (put 79 (plB γ 79 l_least l_chosen l_trial l_debtThen) h) := (has_put hn_l)
    refine E_get 3 dX3_weighAll_61 (q := 64) rfl ckX3 (Nat.le_of_ble_eq_true rfl) fl_X3_18 (hF14.at 0 rfl) (hF14.lt 0 (Nat.le_of_ble_eq_true rfl)) rfl ?_
    refine E_iload 5 dX3_weighAll_64 (q := 66) rfl rfl ?_
    refine E_iconst (x := 5) dX3_weighAll_66 (q := 67) rfl (by decide) ?_
    refine E_imul dX3_weighAll_67 (q := 68) rfl ?_
    refine E_iload_n 3 dX3_weighAll_68 (q := 69) rfl rfl rfl ?_
    refine E_iadd dX3_weighAll_69 (q := 70) rfl ?_
    refine E_bipush (x := 60) dX3_weighAll_70 (q := 72) rfl (by decide) ?_
    refine E_aload_n 2 dX3_weighAll_72 (q := 73) rfl rfl rfl ?_
    have hF15 : Has n 11 (wtB γ 11 w_hour w_debts w_guards w_stood w_served) (put 79 (plB γ 79 l_least l_chosen l_trial l_debtThen) h) := (has_out hH_w (Or.inl (Nat.le_of_ble_eq_true rfl)))
    refine E_get 1 dX3_weighAll_73 (q := 76) rfl ckX5 (Nat.le_of_ble_eq_true rfl) fl_X3_53 (hF15.at 0 rfl) (hF15.lt 0 (Nat.le_of_ble_eq_true rfl)) rfl ?_
    refine E_iload 5 dX3_weighAll_76 (q := 78) rfl rfl ?_
    obtain ⟨g16, hf⟩ := gd hf
    refine E_iald dX3_weighAll_78 (q := 79) rfl (hF15.at 1 rfl) (hF15.lt 1 (Nat.le_of_ble_eq_true rfl)) g16 ?_
    refine E_iload 4 dX3_weighAll_79 (q := 81) rfl rfl ?_
    refine E_iadd dX3_weighAll_81 (q := 82) rfl ?_
    refine E_min dX3_weighAll_82 (q := 85) rfl lkmin_X3_56 st_min in_math co_min (Nat.le_of_ble_eq_true rfl) (Nat.le_of_ble_eq_true rfl) ?_
    obtain ⟨g17, hf⟩ := gd hf
    refine E_iast dX3_weighAll_85 (q := 86) rfl (hF14.at 3 rfl) (hF14.lt 3 (Nat.le_of_ble_eq_true rfl)) g17 (up_put (i := 3) (cs' := (plB γ 79 l_least l_chosen l_trial (upd l_debtThen (ci ((v5 * 5) + p3)) (if 60 < ((w_debts (ci v5)) + p4) then 60 else ((w_debts (ci v5)) + p4))))) (Nat.le_of_ble_eq_true rfl) rfl) ?_
    refine E_iinc 5 [(5, .int (v5 + 1)), (0, .ref (gB γ + 79)), (1, .ref (gB γ + 3)), (2, .ref (gB γ + 11)), (3, .int p3), (4, .int p4)] dX3_weighAll_86 (q := 89) rfl rfl rfl (Nat.le_of_ble_eq_true rfl) rfl ?_
    refine E_goto (q := 51) dX3_weighAll_89 (by decide) ?_
    exact E_sub [1, 2, 3, 4, 5, 0] rfl (hP _ (Option.some.inj hf).symm)
set_option maxHeartbeats 4000000 in
set_option maxRecDepth 100000 in
theorem L_X3_weighAll_1 {γ : GX} {n : Nat} {h : HP} {Ψ : PS} {N : Nat} {d_posts : Int32} {d_sees : FN} {d_cold : FN} {d_men : Int32} {d_debts : FN} {d_on : Int32} {d_stove : Int32} {w_hour : Int32} {w_debts : FN} {w_guards : FN} {w_stood : FN} {w_served : FN} {l_least : Int32} {l_chosen : FN} {l_trial : FN} (hH_d : Has n 3 (dpB γ 3 d_posts d_sees d_cold d_men d_debts d_on d_stove) h) (hH_w : Has n 11 (wtB γ 11 w_hour w_debts w_guards w_stood w_served) h) (hn_l : 79 + 4 ≤ n) {s0 : Int32 × FN} {t : FN} (hf : lp (fun s => b_X3_weighAll_1 N d_posts d_cold d_men d_on w_hour w_debts s.1 s.2) N s0 = some t) (K : Ev γ M_X3_weighAll (0, 0) n (put 79 (plB γ 79 l_least l_chosen l_trial t) h) [] 98 [] Ψ) : Ev γ M_X3_weighAll (0, 0) n (put 79 (plB γ 79 l_least l_chosen l_trial s0.2) h) [(0, .ref (gB γ + 79)), (1, .ref (gB γ + 3)), (2, .ref (gB γ + 11)), (3, .int s0.1)] 2 [] Ψ := by
  refine E_lp (P := fun s => Ev γ M_X3_weighAll (0, 0) n (put 79 (plB γ 79 l_least l_chosen l_trial s.2) h) [(0, .ref (gB γ + 79)), (1, .ref (gB γ + 3)), (2, .ref (gB γ + 11)), (3, .int s.1)] 2 [] Ψ) (K := fun t => Ev γ M_X3_weighAll (0, 0) n (put 79 (plB γ 79 l_least l_chosen l_trial t) h) [] 98 [] Ψ) ?_ N s0 t hf K
  intro s r hf hP hK
  obtain ⟨v3, l_debtThen⟩ := s
  unfold b_X3_weighAll_1 at hf
  try dsimp only at hf
  show Ev γ M_X3_weighAll (0, 0) n (put 79 (plB γ 79 l_least l_chosen l_trial l_debtThen) h) [(0, .ref (gB γ + 79)), (1, .ref (gB γ + 3)), (2, .ref (gB γ + 11)), (3, .int v3)] 2 [] Ψ
  refine E_iload_n 3 dX3_weighAll_2 (q := 3) rfl rfl rfl ?_
  refine E_aload_n 1 dX3_weighAll_3 (q := 4) rfl rfl rfl ?_
  have hF2 : Has n 3 (dpB γ 3 d_posts d_sees d_cold d_men d_debts d_on d_stove) (put 79 (plB γ 79 l_least l_chosen l_trial l_debtThen) h) := (has_out hH_d (Or.inl (Nat.le_of_ble_eq_true rfl)))
  refine E_get 0 dX3_weighAll_4 (q := 7) rfl ckX0 (Nat.le_of_ble_eq_true rfl) fl_X3_33 (hF2.at 0 rfl) (hF2.lt 0 (Nat.le_of_ble_eq_true rfl)) rfl ?_
  refine E_icmp_ge dX3_weighAll_7 (t := 98) (by decide) (q := 10) rfl (fun c3 => ?_) (fun c3 => ?_)
  · have hf := if_t c3 hf
    exact E_sub [] rfl (hK _ (Option.some.inj hf).symm)
  · have hf := if_f c3 hf
    refine E_iconst (x := 0) dX3_weighAll_10 (q := 11) rfl (by decide) ?_
    refine E_istore [(4, .int 0), (0, .ref (gB γ + 79)), (1, .ref (gB γ + 3)), (2, .ref (gB γ + 11)), (3, .int v3)] dX3_weighAll_11 (q := 13) rfl (Nat.le_of_ble_eq_true rfl) rfl ?_
    refine E_iconst (x := 0) dX3_weighAll_13 (q := 14) rfl (by decide) ?_
    refine E_istore [(5, .int 0), (4, .int 0), (0, .ref (gB γ + 79)), (1, .ref (gB γ + 3)), (2, .ref (gB γ + 11)), (3, .int v3)] dX3_weighAll_14 (q := 16) rfl (Nat.le_of_ble_eq_true rfl) rfl ?_
    obtain ⟨t9, hxt9, hf⟩ := bnd hf
    refine E_sub [2, 3, 4, 5, 1, 0] rfl ?_
    refine L_X3_weighAll_2 hH_d hH_w hn_l hxt9 ?_
    show Ev γ M_X3_weighAll _ n (put 79 (plB γ 79 l_least l_chosen l_trial l_debtThen) h) [(0, .ref (gB γ + 79)), (1, .ref (gB γ + 3)), (2, .ref (gB γ + 11)), (3, .int v3), (4, .int t9)] 48 [] _
    refine E_iconst (x := 0) dX3_weighAll_48 (q := 49) rfl (by decide) ?_
    refine E_istore [(5, .int 0), (0, .ref (gB γ + 79)), (1, .ref (gB γ + 3)), (2, .ref (gB γ + 11)), (3, .int v3), (4, .int t9)] dX3_weighAll_49 (q := 51) rfl (Nat.le_of_ble_eq_true rfl) rfl ?_
    obtain ⟨t19, hxt19, hf⟩ := bnd hf
    refine E_sub [1, 2, 3, 4, 5, 0] rfl ?_
    refine L_X3_weighAll_3 hH_d hH_w hn_l hxt19 ?_
    show Ev γ M_X3_weighAll _ n (put 79 (plB γ 79 l_least l_chosen l_trial t19) h) [(0, .ref (gB γ + 79)), (1, .ref (gB γ + 3)), (2, .ref (gB γ + 11)), (3, .int v3)] 92 [] _
    refine E_iinc 3 [(3, .int (v3 + 1)), (0, .ref (gB γ + 79)), (1, .ref (gB γ + 3)), (2, .ref (gB γ + 11))] dX3_weighAll_92 (q := 95) rfl rfl rfl (Nat.le_of_ble_eq_true rfl) rfl ?_
    refine E_goto (q := 2) dX3_weighAll_95 (by decide) ?_
    exact E_sub [1, 2, 3, 0] rfl (hP _ (Option.some.inj hf).symm)
set_option maxHeartbeats 4000000 in
set_option maxRecDepth 100000 in
theorem m_X3_weighAll {γ : GX} {n : Nat} {N : Nat} {h : HP} {d_posts : Int32} {d_sees : FN} {d_cold : FN} {d_men : Int32} {d_debts : FN} {d_on : Int32} {d_stove : Int32} {w_hour : Int32} {w_debts : FN} {w_guards : FN} {w_stood : FN} {w_served : FN} {l_least : Int32} {l_chosen : FN} {l_trial : FN} {l_debtThen : FN} (hH_d : Has n 3 (dpB γ 3 d_posts d_sees d_cold d_men d_debts d_on d_stove) h) (hH_w : Has n 11 (wtB γ 11 w_hour w_debts w_guards w_stood w_served) h) (hH_l : Has n 79 (plB γ 79 l_least l_chosen l_trial l_debtThen) h) {z : FN} (hf : f_X3_weighAll N d_posts d_cold d_men d_on w_hour w_debts l_debtThen = some z)  : Ct γ M_X3_weighAll n h [.ref (gB γ + 79), .ref (gB γ + 3), .ref (gB γ + 11)] (Done none n (put 79 (plB γ 79 l_least l_chosen l_trial z) h)) := by
  have hn_l : 79 + 4 ≤ n := hH_l.1
  refine Ct.heap (h := (put 79 (plB γ 79 l_least l_chosen l_trial l_debtThen) h)) (put_self hH_l).symm ?_
  refine Ct_of_Ev (by decide) (fun h => by cases h) (Nat.le_of_ble_eq_true rfl) ?_
  show Ev γ M_X3_weighAll (0, 0) n (put 79 (plB γ 79 l_least l_chosen l_trial l_debtThen) h) [(0, .ref (gB γ + 79)), (1, .ref (gB γ + 3)), (2, .ref (gB γ + 11))] 0 [] _
  unfold f_X3_weighAll at hf
  refine E_iconst (x := 0) dX3_weighAll_0 (q := 1) rfl (by decide) ?_
  refine E_istore_n [(3, .int 0), (0, .ref (gB γ + 79)), (1, .ref (gB γ + 3)), (2, .ref (gB γ + 11))] dX3_weighAll_1 (q := 2) rfl rfl (Nat.le_of_ble_eq_true rfl) rfl ?_
  obtain ⟨t21, hxt21, hf⟩ := bnd hf
  refine E_sub [1, 2, 3, 0] rfl ?_
  refine L_X3_weighAll_1 hH_d hH_w hn_l hxt21 ?_
  show Ev γ M_X3_weighAll _ n (put 79 (plB γ 79 l_least l_chosen l_trial t21) h) [] 98 [] _
  obtain rfl := Option.some.inj hf
  exact E_vret dX3_weighAll_98 rfl ⟨rfl, rfl, rfl⟩

-- PostRelief$Plan.tryFrom(LPostRelief$Depot;III)V
def b_X3_tryFrom_1 (N : Nat) (F : Int32 → Int32 → Int32 → (Int32) → (Int32) → (Int32) → (FN) → (FN) → (FN) → Option (Int32 × FN × FN)) (p2 : Int32) (p3 : Int32) (p4 : Int32) (d_posts : Int32) (d_men : Int32) (l_debtThen : FN) (v5 : Int32) (l_least : Int32) (l_chosen : FN) (l_trial : FN) : Option ((Int32 × Int32 × FN × FN) ⊕ (Int32 × FN × FN)) :=
  (if d_men ≤ v5 then some (.inr (l_least, l_chosen, l_trial)) else (if ((p3 >>> (v5 &&& 31)) &&& 1) = 0 then (if ix p2 5 = true then (if ix ((v5 * 5) + p2) 30 = true then ((F (p2 + 1) (p3 ||| (1 <<< (v5 &&& 31))) (if p4 < (l_debtThen (ci ((v5 * 5) + p2))) then (l_debtThen (ci ((v5 * 5) + p2))) else p4) d_posts d_men l_least l_chosen (upd l_trial (ci p2) v5) l_debtThen).bind fun z14 => some (.inl ((v5 + 1), z14.1, z14.2.1, z14.2.2))) else none) else none) else some (.inl ((v5 + 1), l_least, l_chosen, l_trial))))
def g_X3_tryFrom (N : Nat) (F : Int32 → Int32 → Int32 → (Int32) → (Int32) → (Int32) → (FN) → (FN) → (FN) → Option (Int32 × FN × FN)) (a2 : Int32) (a3 : Int32) (a4 : Int32) (d_posts : Int32) (d_men : Int32) (l_least : Int32) (l_chosen : FN) (l_trial : FN) (l_debtThen : FN) : Option (Int32 × FN × FN) :=
  (if a4 < l_least then (if a2 < d_posts then ((lp (fun s => b_X3_tryFrom_1 N F a2 a3 a4 d_posts d_men l_debtThen s.1 s.2.1 s.2.2.1 s.2.2.2) N (0, l_least, l_chosen, l_trial)).bind fun t17 => some (t17.1, t17.2.1, t17.2.2)) else some (a4, (va_cpy l_trial l_chosen (ci 0) (ci 0) (ci 5)), l_trial)) else some (l_least, l_chosen, l_trial))
def f_X3_tryFrom (N : Nat) : Nat → Int32 → Int32 → Int32 → (Int32) → (Int32) → (Int32) → (FN) → (FN) → (FN) → Option (Int32 × FN × FN)
  | 0 => fun _ _ _ _ _ _ _ _ _ => none
  | rr + 1 => g_X3_tryFrom N (f_X3_tryFrom N rr)
set_option maxHeartbeats 4000000 in
set_option maxRecDepth 100000 in
theorem L_X3_tryFrom_1 {γ : GX} {n : Nat} {h : HP} {Ψ : PS} {N : Nat} {p2 : Int32} {p3 : Int32} {p4 : Int32} {rr : Nat} {F : Int32 → Int32 → Int32 → (Int32) → (Int32) → (Int32) → (FN) → (FN) → (FN) → Option (Int32 × FN × FN)} {d_posts : Int32} {d_sees : FN} {d_cold : FN} {d_men : Int32} {d_debts : FN} {d_on : Int32} {d_stove : Int32} {l_debtThen : FN} (hH_d : Has n 3 (dpB γ 3 d_posts d_sees d_cold d_men d_debts d_on d_stove) h) (hn_l : 79 + 4 ≤ n) (IH : ∀ {h : HP} {a2 : Int32} {a3 : Int32} {a4 : Int32} {d_posts : Int32} {d_sees : FN} {d_cold : FN} {d_men : Int32} {d_debts : FN} {d_on : Int32} {d_stove : Int32} {l_least : Int32} {l_chosen : FN} {l_trial : FN} {l_debtThen : FN} (hH_d : Has n 3 (dpB γ 3 d_posts d_sees d_cold d_men d_debts d_on d_stove) h) (hH_l : Has n 79 (plB γ 79 l_least l_chosen l_trial l_debtThen) h) {z : Int32 × FN × FN} (hf : F a2 a3 a4 d_posts d_men l_least l_chosen l_trial l_debtThen = some z) , Ct γ (M_X3_tryFrom rr) n h [.ref (gB γ + 79), .ref (gB γ + 3), .int a2, .int a3, .int a4] (Done none n (put 79 (plB γ 79 z.1 z.2.1 z.2.2 l_debtThen) h))) {s0 : Int32 × Int32 × FN × FN} {t : Int32 × FN × FN} (hf : lp (fun s => b_X3_tryFrom_1 N F p2 p3 p4 d_posts d_men l_debtThen s.1 s.2.1 s.2.2.1 s.2.2.2) N s0 = some t) (K : Ev γ (M_X3_tryFrom (rr + 1)) (0, 0) n (put 79 (plB γ 79 t.1 t.2.1 t.2.2 l_debtThen) h) [] 104 [] Ψ) : Ev γ (M_X3_tryFrom (rr + 1)) (0, 0) n (put 79 (plB γ 79 s0.2.1 s0.2.2.1 s0.2.2.2 l_debtThen) h) [(0, .ref (gB γ + 79)), (1, .ref (gB γ + 3)), (2, .int p2), (3, .int p3), (4, .int p4), (5, .int s0.1)] 42 [] Ψ := by
  refine E_lp (P := fun s => Ev γ (M_X3_tryFrom (rr + 1)) (0, 0) n (put 79 (plB γ 79 s.2.1 s.2.2.1 s.2.2.2 l_debtThen) h) [(0, .ref (gB γ + 79)), (1, .ref (gB γ + 3)), (2, .int p2), (3, .int p3), (4, .int p4), (5, .int s.1)] 42 [] Ψ) (K := fun t => Ev γ (M_X3_tryFrom (rr + 1)) (0, 0) n (put 79 (plB γ 79 t.1 t.2.1 t.2.2 l_debtThen) h) [] 104 [] Ψ) ?_ N s0 t hf K
  intro s r hf hP hK
  obtain ⟨v5, l_least, l_chosen, l_trial⟩ := s
  unfold b_X3_tryFrom_1 at hf
  try dsimp only at hf
  show Ev γ (M_X3_tryFrom (rr + 1)) (0, 0) n (put 79 (plB γ 79 l_least l_chosen l_trial l_debtThen) h) [(0, .ref (gB γ + 79)), (1, .ref (gB γ + 3)), (2, .int p2), (3, .int p3), (4, .int p4), (5, .int v5)] 42 [] Ψ
  refine E_iload 5 dX3_tryFrom_42 (q := 44) rfl rfl ?_
  refine E_aload_n 1 dX3_tryFrom_44 (q := 45) rfl rfl rfl ?_
  have hF6 : Has n 3 (dpB γ 3 d_posts d_sees d_cold d_men d_debts d_on d_stove) (put 79 (plB γ 79 l_least l_chosen l_trial l_debtThen) h) := (has_out hH_d (Or.inl (Nat.le_of_ble_eq_true rfl)))
  refine E_get 3 dX3_tryFrom_45 (q := 48) rfl ckX0 (Nat.le_of_ble_eq_true rfl) fl_X3_50 (hF6.at 0 rfl) (hF6.lt 0 (Nat.le_of_ble_eq_true rfl)) rfl ?_
  refine E_icmp_ge dX3_tryFrom_48 (t := 104) (by decide) (q := 51) rfl (fun c7 => ?_) (fun c7 => ?_)
  · have hf := if_t c7 hf
    exact E_sub [] rfl (hK _ (Option.some.inj hf).symm)
  · have hf := if_f c7 hf
    refine E_iload_n 3 dX3_tryFrom_51 (q := 52) rfl rfl rfl ?_
    refine E_iload 5 dX3_tryFrom_52 (q := 54) rfl rfl ?_
    refine E_ishr dX3_tryFrom_54 (q := 55) rfl ?_
    refine E_iconst (x := 1) dX3_tryFrom_55 (q := 56) rfl (by decide) ?_
    refine E_iand dX3_tryFrom_56 (q := 57) rfl ?_
    refine E_if_ne dX3_tryFrom_57 (t := 98) (by decide) (q := 60) rfl (fun c8 => ?_) (fun c8 => ?_)
    · have hf := if_f c8 hf
      refine E_iinc 5 [(5, .int (v5 + 1)), (0, .ref (gB γ + 79)), (1, .ref (gB γ + 3)), (2, .int p2), (3, .int p3), (4, .int p4)] dX3_tryFrom_98 (q := 101) rfl rfl rfl (Nat.le_of_ble_eq_true rfl) rfl ?_
      refine E_goto (q := 42) dX3_tryFrom_101 (by decide) ?_
      exact E_sub [1, 2, 3, 4, 5, 0] rfl (hP _ (Option.some.inj hf).symm)
    · have hf := if_t c8 hf
      refine E_aload_n 0 dX3_tryFrom_60 (q := 61) rfl rfl rfl ?_
      have hF9 : Has n 79 (plB γ 79 l_least l_chosen l_trial l_debtThen) (put 79 (plB γ 79 l_least l_chosen l_trial l_debtThen) h) := (has_put hn_l)
      refine E_get 2 dX3_tryFrom_61 (q := 64) rfl ckX3 (Nat.le_of_ble_eq_true rfl) fl_X3_15 (hF9.at 0 rfl) (hF9.lt 0 (Nat.le_of_ble_eq_true rfl)) rfl ?_
      refine E_iload_n 2 dX3_tryFrom_64 (q := 65) rfl rfl rfl ?_
      refine E_iload 5 dX3_tryFrom_65 (q := 67) rfl rfl ?_
      obtain ⟨g10, hf⟩ := gd hf
      refine E_iast dX3_tryFrom_67 (q := 68) rfl (hF9.at 2 rfl) (hF9.lt 2 (Nat.le_of_ble_eq_true rfl)) g10 (up_put (i := 2) (cs' := (plB γ 79 l_least l_chosen (upd l_trial (ci p2) v5) l_debtThen)) (Nat.le_of_ble_eq_true rfl) rfl) ?_
      refine E_aload_n 0 dX3_tryFrom_68 (q := 69) rfl rfl rfl ?_
      refine E_aload_n 1 dX3_tryFrom_69 (q := 70) rfl rfl rfl ?_
      refine E_iload_n 2 dX3_tryFrom_70 (q := 71) rfl rfl rfl ?_
      refine E_iconst (x := 1) dX3_tryFrom_71 (q := 72) rfl (by decide) ?_
      refine E_iadd dX3_tryFrom_72 (q := 73) rfl ?_
      refine E_iload_n 3 dX3_tryFrom_73 (q := 74) rfl rfl rfl ?_
      refine E_iconst (x := 1) dX3_tryFrom_74 (q := 75) rfl (by decide) ?_
      refine E_iload 5 dX3_tryFrom_75 (q := 77) rfl rfl ?_
      refine E_ishl dX3_tryFrom_77 (q := 78) rfl ?_
      refine E_ior dX3_tryFrom_78 (q := 79) rfl ?_
      refine E_iload 4 dX3_tryFrom_79 (q := 81) rfl rfl ?_
      refine E_aload_n 0 dX3_tryFrom_81 (q := 82) rfl rfl rfl ?_
      have hF12 : Has n 79 (plB γ 79 l_least l_chosen (upd l_trial (ci p2) v5) l_debtThen) (put 79 (plB γ 79 l_least l_chosen (upd l_trial (ci p2) v5) l_debtThen) h) := (has_put hn_l)
      refine E_get 3 dX3_tryFrom_82 (q := 85) rfl ckX3 (Nat.le_of_ble_eq_true rfl) fl_X3_18 (hF12.at 0 rfl) (hF12.lt 0 (Nat.le_of_ble_eq_true rfl)) rfl ?_
      refine E_iload 5 dX3_tryFrom_85 (q := 87) rfl rfl ?_
      refine E_iconst (x := 5) dX3_tryFrom_87 (q := 88) rfl (by decide) ?_
      refine E_imul dX3_tryFrom_88 (q := 89) rfl ?_
      refine E_iload_n 2 dX3_tryFrom_89 (q := 90) rfl rfl rfl ?_
      refine E_iadd dX3_tryFrom_90 (q := 91) rfl ?_
      obtain ⟨g13, hf⟩ := gd hf
      refine E_iald dX3_tryFrom_91 (q := 92) rfl (hF12.at 3 rfl) (hF12.lt 3 (Nat.le_of_ble_eq_true rfl)) g13 ?_
      refine E_max dX3_tryFrom_92 (q := 95) rfl lkmax_X3_67 st_max in_math co_max (Nat.le_of_ble_eq_true rfl) (Nat.le_of_ble_eq_true rfl) ?_
      obtain ⟨z14, hxz14, hf⟩ := bnd hf
      have hF15 : Has n 3 (dpB γ 3 d_posts d_sees d_cold d_men d_debts d_on d_stove) (put 79 (plB γ 79 l_least l_chosen (upd l_trial (ci p2) v5) l_debtThen) h) := (has_out hH_d (Or.inl (Nat.le_of_ble_eq_true rfl)))
      refine E_cV (as := [.ref (gB γ + 3), .int (p2 + 1), .int (p3 ||| (1 <<< (v5 &&& 31))), .int (if p4 < (l_debtThen (ci ((v5 * 5) + p2))) then (l_debtThen (ci ((v5 * 5) + p2))) else p4)]) (k := 79) (rest := []) (u' := (0, 0)) (st' := []) dX3_tryFrom_95 (q := 98) rfl (lkm_X3_tryFrom _) (lkv_X3_29 _) (Nat.le_refl _) ckX3 (hF12.at 0 rfl) (hF12.lt 0 (Nat.le_of_ble_eq_true rfl)) ⟨Nat.le_refl _, Nat.le_refl _⟩ (Nat.le_of_ble_eq_true rfl) rfl rfl (IH  hF15 hF12 hxz14) rfl rfl rfl ?_
      refine Ev.heap (put_put (k := 79) (cs := (plB γ 79 l_least l_chosen (upd l_trial (ci p2) v5) l_debtThen)) (cs' := (plB γ 79 z14.1 z14.2.1 z14.2.2 l_debtThen)) rfl) ?_
      refine E_iinc 5 [(5, .int (v5 + 1)), (0, .ref (gB γ + 79)), (1, .ref (gB γ + 3)), (2, .int p2), (3, .int p3), (4, .int p4)] dX3_tryFrom_98 (q := 101) rfl rfl rfl (Nat.le_of_ble_eq_true rfl) rfl ?_
      refine E_goto (q := 42) dX3_tryFrom_101 (by decide) ?_
      exact E_sub [1, 2, 3, 4, 5, 0] rfl (hP _ (Option.some.inj hf).symm)
set_option maxHeartbeats 4000000 in
set_option maxRecDepth 100000 in
theorem q_X3_tryFrom {γ : GX} {n : Nat} {N : Nat} {rr : Nat} {F : Int32 → Int32 → Int32 → (Int32) → (Int32) → (Int32) → (FN) → (FN) → (FN) → Option (Int32 × FN × FN)}  (IH : ∀ {h : HP} {a2 : Int32} {a3 : Int32} {a4 : Int32} {d_posts : Int32} {d_sees : FN} {d_cold : FN} {d_men : Int32} {d_debts : FN} {d_on : Int32} {d_stove : Int32} {l_least : Int32} {l_chosen : FN} {l_trial : FN} {l_debtThen : FN} (hH_d : Has n 3 (dpB γ 3 d_posts d_sees d_cold d_men d_debts d_on d_stove) h) (hH_l : Has n 79 (plB γ 79 l_least l_chosen l_trial l_debtThen) h) {z : Int32 × FN × FN} (hf : F a2 a3 a4 d_posts d_men l_least l_chosen l_trial l_debtThen = some z) , Ct γ (M_X3_tryFrom rr) n h [.ref (gB γ + 79), .ref (gB γ + 3), .int a2, .int a3, .int a4] (Done none n (put 79 (plB γ 79 z.1 z.2.1 z.2.2 l_debtThen) h))) {h : HP} {a2 : Int32} {a3 : Int32} {a4 : Int32} {d_posts : Int32} {d_sees : FN} {d_cold : FN} {d_men : Int32} {d_debts : FN} {d_on : Int32} {d_stove : Int32} {l_least : Int32} {l_chosen : FN} {l_trial : FN} {l_debtThen : FN} (hH_d : Has n 3 (dpB γ 3 d_posts d_sees d_cold d_men d_debts d_on d_stove) h) (hH_l : Has n 79 (plB γ 79 l_least l_chosen l_trial l_debtThen) h) {z : Int32 × FN × FN} (hf : g_X3_tryFrom N F a2 a3 a4 d_posts d_men l_least l_chosen l_trial l_debtThen = some z)  : Ct γ (M_X3_tryFrom (rr + 1)) n h [.ref (gB γ + 79), .ref (gB γ + 3), .int a2, .int a3, .int a4] (Done none n (put 79 (plB γ 79 z.1 z.2.1 z.2.2 l_debtThen) h)) := by
  have hn_l : 79 + 4 ≤ n := hH_l.1
  refine Ct.heap (h := (put 79 (plB γ 79 l_least l_chosen l_trial l_debtThen) h)) (put_self hH_l).symm ?_
  refine Ct_of_Ev rfl (fun h => by cases h) (Nat.le_of_ble_eq_true rfl) ?_
  show Ev γ (M_X3_tryFrom (rr + 1)) (0, 0) n (put 79 (plB γ 79 l_least l_chosen l_trial l_debtThen) h) [(0, .ref (gB γ + 79)), (1, .ref (gB γ + 3)), (2, .int a2), (3, .int a3), (4, .int a4)] 0 [] _
  unfold g_X3_tryFrom at hf
  refine E_iload 4 dX3_tryFrom_0 (q := 2) rfl rfl ?_
  refine E_aload_n 0 dX3_tryFrom_2 (q := 3) rfl rfl rfl ?_
  have hF1 : Has n 79 (plB γ 79 l_least l_chosen l_trial l_debtThen) (put 79 (plB γ 79 l_least l_chosen l_trial l_debtThen) h) := (has_put hn_l)
  refine E_get 0 dX3_tryFrom_3 (q := 6) rfl ckX3 (Nat.le_of_ble_eq_true rfl) fl_X3_25 (hF1.at 0 rfl) (hF1.lt 0 (Nat.le_of_ble_eq_true rfl)) rfl ?_
  refine E_icmp_lt dX3_tryFrom_6 (t := 10) (by decide) (q := 9) rfl (fun c2 => ?_) (fun c2 => ?_)
  · have hf := if_t c2 hf
    refine E_iload_n 2 dX3_tryFrom_10 (q := 11) rfl rfl rfl ?_
    refine E_aload_n 1 dX3_tryFrom_11 (q := 12) rfl rfl rfl ?_
    have hF3 : Has n 3 (dpB γ 3 d_posts d_sees d_cold d_men d_debts d_on d_stove) (put 79 (plB γ 79 l_least l_chosen l_trial l_debtThen) h) := (has_out hH_d (Or.inl (Nat.le_of_ble_eq_true rfl)))
    refine E_get 0 dX3_tryFrom_12 (q := 15) rfl ckX0 (Nat.le_of_ble_eq_true rfl) fl_X3_33 (hF3.at 0 rfl) (hF3.lt 0 (Nat.le_of_ble_eq_true rfl)) rfl ?_
    refine E_icmp_lt dX3_tryFrom_15 (t := 39) (by decide) (q := 18) rfl (fun c4 => ?_) (fun c4 => ?_)
    · have hf := if_t c4 hf
      refine E_iconst (x := 0) dX3_tryFrom_39 (q := 40) rfl (by decide) ?_
      refine E_istore [(5, .int 0), (0, .ref (gB γ + 79)), (1, .ref (gB γ + 3)), (2, .int a2), (3, .int a3), (4, .int a4)] dX3_tryFrom_40 (q := 42) rfl (Nat.le_of_ble_eq_true rfl) rfl ?_
      obtain ⟨t17, hxt17, hf⟩ := bnd hf
      refine E_sub [1, 2, 3, 4, 5, 0] rfl ?_
      refine L_X3_tryFrom_1 hH_d hn_l IH hxt17 ?_
      show Ev γ (M_X3_tryFrom (rr + 1)) _ n (put 79 (plB γ 79 t17.1 t17.2.1 t17.2.2 l_debtThen) h) [] 104 [] _
      obtain rfl := Option.some.inj hf
      exact E_vret dX3_tryFrom_104 rfl ⟨rfl, rfl, rfl⟩
    · have hf := if_f c4 hf
      refine E_aload_n 0 dX3_tryFrom_18 (q := 19) rfl rfl rfl ?_
      refine E_iload 4 dX3_tryFrom_19 (q := 21) rfl rfl ?_
      refine E_put 0 dX3_tryFrom_21 (q := 24) rfl ckX3 (Nat.le_of_ble_eq_true rfl) fl_X3_25 rfl rfl rfl (hF1.at 0 rfl) (hF1.lt 0 (Nat.le_of_ble_eq_true rfl)) (Nat.le_of_ble_eq_true rfl) (up_put (i := 0) (cs' := (plB γ 79 a4 l_chosen l_trial l_debtThen)) (Nat.le_of_ble_eq_true rfl) rfl) ?_
      refine E_aload_n 0 dX3_tryFrom_24 (q := 25) rfl rfl rfl ?_
      have hF20 : Has n 79 (plB γ 79 a4 l_chosen l_trial l_debtThen) (put 79 (plB γ 79 a4 l_chosen l_trial l_debtThen) h) := (has_put hn_l)
      refine E_get 2 dX3_tryFrom_25 (q := 28) rfl ckX3 (Nat.le_of_ble_eq_true rfl) fl_X3_15 (hF20.at 0 rfl) (hF20.lt 0 (Nat.le_of_ble_eq_true rfl)) rfl ?_
      refine E_iconst (x := 0) dX3_tryFrom_28 (q := 29) rfl (by decide) ?_
      refine E_aload_n 0 dX3_tryFrom_29 (q := 30) rfl rfl rfl ?_
      refine E_get 1 dX3_tryFrom_30 (q := 33) rfl ckX3 (Nat.le_of_ble_eq_true rfl) fl_X3_9 (hF20.at 0 rfl) (hF20.lt 0 (Nat.le_of_ble_eq_true rfl)) rfl ?_
      refine E_iconst (x := 0) dX3_tryFrom_33 (q := 34) rfl (by decide) ?_
      refine E_iconst (x := 5) dX3_tryFrom_34 (q := 35) rfl (by decide) ?_
      refine E_copy dX3_tryFrom_35 (q := 38) rfl lkcp_X3_61 na_cp st_cp in_sys (hF20.at 2 rfl) (hF20.lt 2 (Nat.le_of_ble_eq_true rfl)) (hF20.at 1 rfl) (hF20.lt 1 (Nat.le_of_ble_eq_true rfl)) (by decide) (by decide) (by decide) (by decide) (by decide) (Nat.le_of_ble_eq_true rfl) (Nat.le_of_ble_eq_true rfl) (up_put (i := 1) (cs' := (plB γ 79 a4 (va_cpy l_trial l_chosen (ci 0) (ci 0) (ci 5)) l_trial l_debtThen)) (Nat.le_of_ble_eq_true rfl) rfl) ?_
      obtain rfl := Option.some.inj hf
      exact E_vret dX3_tryFrom_38 rfl ⟨rfl, rfl, rfl⟩
  · have hf := if_f c2 hf
    obtain rfl := Option.some.inj hf
    exact E_vret dX3_tryFrom_9 rfl ⟨rfl, rfl, rfl⟩
theorem r_X3_tryFrom (γ : GX) (n N : Nat) : ∀ (rr : Nat) {h : HP} {a2 : Int32} {a3 : Int32} {a4 : Int32} {d_posts : Int32} {d_sees : FN} {d_cold : FN} {d_men : Int32} {d_debts : FN} {d_on : Int32} {d_stove : Int32} {l_least : Int32} {l_chosen : FN} {l_trial : FN} {l_debtThen : FN} (hH_d : Has n 3 (dpB γ 3 d_posts d_sees d_cold d_men d_debts d_on d_stove) h) (hH_l : Has n 79 (plB γ 79 l_least l_chosen l_trial l_debtThen) h) {z : Int32 × FN × FN} (hf : f_X3_tryFrom N rr a2 a3 a4 d_posts d_men l_least l_chosen l_trial l_debtThen = some z) , Ct γ (M_X3_tryFrom rr) n h [.ref (gB γ + 79), .ref (gB γ + 3), .int a2, .int a3, .int a4] (Done none n (put 79 (plB γ 79 z.1 z.2.1 z.2.2 l_debtThen) h)) := by
  intro rr
  induction rr with
  | zero => intros; rename_i hf; cases hf
  | succ rr ih => intros; rename_i hf; exact q_X3_tryFrom (F := f_X3_tryFrom N rr) ih (by assumption) (by assumption) hf
theorem m_X3_tryFrom {γ : GX} {n : Nat} {N : Nat} {rr : Nat} {h : HP} {a2 : Int32} {a3 : Int32} {a4 : Int32} {d_posts : Int32} {d_sees : FN} {d_cold : FN} {d_men : Int32} {d_debts : FN} {d_on : Int32} {d_stove : Int32} {l_least : Int32} {l_chosen : FN} {l_trial : FN} {l_debtThen : FN} (hH_d : Has n 3 (dpB γ 3 d_posts d_sees d_cold d_men d_debts d_on d_stove) h) (hH_l : Has n 79 (plB γ 79 l_least l_chosen l_trial l_debtThen) h) {z : Int32 × FN × FN} (hf : f_X3_tryFrom N rr a2 a3 a4 d_posts d_men l_least l_chosen l_trial l_debtThen = some z)  : Ct γ (M_X3_tryFrom rr) n h [.ref (gB γ + 79), .ref (gB γ + 3), .int a2, .int a3, .int a4] (Done none n (put 79 (plB γ 79 z.1 z.2.1 z.2.2 l_debtThen) h)) := r_X3_tryFrom γ n N rr hH_d hH_l hf

-- PostRelief$Plan.search(LPostRelief$Depot;LPostRelief$Watch;)V
def f_X3_search (N : Nat) (d_posts : Int32) (d_cold : FN) (d_men : Int32) (d_on : Int32) (w_hour : Int32) (w_debts : FN) (l_least : Int32) (l_chosen : FN) (l_trial : FN) (l_debtThen : FN) : Option (Int32 × FN × FN × FN) :=
  ((f_X3_weighAll N d_posts d_cold d_men d_on w_hour w_debts l_debtThen).bind fun z1 => ((f_X3_tryFrom N 8 0 0 0 d_posts d_men 61 l_chosen l_trial z1).bind fun z8 => some (z8.1, z8.2.1, z8.2.2, z1)))
set_option maxHeartbeats 4000000 in
set_option maxRecDepth 100000 in
theorem m_X3_search {γ : GX} {n : Nat} {N : Nat} {h : HP} {d_posts : Int32} {d_sees : FN} {d_cold : FN} {d_men : Int32} {d_debts : FN} {d_on : Int32} {d_stove : Int32} {w_hour : Int32} {w_debts : FN} {w_guards : FN} {w_stood : FN} {w_served : FN} {l_least : Int32} {l_chosen : FN} {l_trial : FN} {l_debtThen : FN} (hH_d : Has n 3 (dpB γ 3 d_posts d_sees d_cold d_men d_debts d_on d_stove) h) (hH_w : Has n 11 (wtB γ 11 w_hour w_debts w_guards w_stood w_served) h) (hH_l : Has n 79 (plB γ 79 l_least l_chosen l_trial l_debtThen) h) {z : Int32 × FN × FN × FN} (hf : f_X3_search N d_posts d_cold d_men d_on w_hour w_debts l_least l_chosen l_trial l_debtThen = some z)  : Ct γ M_X3_search n h [.ref (gB γ + 79), .ref (gB γ + 3), .ref (gB γ + 11)] (Done none n (put 79 (plB γ 79 z.1 z.2.1 z.2.2.1 z.2.2.2) h)) := by
  have hn_l : 79 + 4 ≤ n := hH_l.1
  refine Ct.heap (h := (put 79 (plB γ 79 l_least l_chosen l_trial l_debtThen) h)) (put_self hH_l).symm ?_
  refine Ct_of_Ev (by decide) (fun h => by cases h) (Nat.le_of_ble_eq_true rfl) ?_
  show Ev γ M_X3_search (0, 0) n (put 79 (plB γ 79 l_least l_chosen l_trial l_debtThen) h) [(0, .ref (gB γ + 79)), (1, .ref (gB γ + 3)), (2, .ref (gB γ + 11))] 0 [] _
  unfold f_X3_search at hf
  refine E_aload_n 0 dX3_search_0 (q := 1) rfl rfl rfl ?_
  refine E_aload_n 1 dX3_search_1 (q := 2) rfl rfl rfl ?_
  refine E_aload_n 2 dX3_search_2 (q := 3) rfl rfl rfl ?_
  obtain ⟨z1, hxz1, hf⟩ := bnd hf
  have hF2 : Has n 3 (dpB γ 3 d_posts d_sees d_cold d_men d_debts d_on d_stove) (put 79 (plB γ 79 l_least l_chosen l_trial l_debtThen) h) := (has_out hH_d (Or.inl (Nat.le_of_ble_eq_true rfl)))
  have hF3 : Has n 11 (wtB γ 11 w_hour w_debts w_guards w_stood w_served) (put 79 (plB γ 79 l_least l_chosen l_trial l_debtThen) h) := (has_out hH_w (Or.inl (Nat.le_of_ble_eq_true rfl)))
  have hF4 : Has n 79 (plB γ 79 l_least l_chosen l_trial l_debtThen) (put 79 (plB γ 79 l_least l_chosen l_trial l_debtThen) h) := (has_put hn_l)
  refine E_cV (as := [.ref (gB γ + 3), .ref (gB γ + 11)]) (k := 79) (rest := []) (u' := (0, 0)) (st' := []) dX3_search_3 (q := 6) rfl lkm_X3_weighAll lkv_X3_21 (Nat.le_of_ble_eq_true rfl) ckX3 (hF4.at 0 rfl) (hF4.lt 0 (Nat.le_of_ble_eq_true rfl)) ⟨Nat.le_refl _, Nat.le_refl _⟩ (Nat.le_of_ble_eq_true rfl) rfl rfl (m_X3_weighAll (N := N)  hF2 hF3 hF4 hxz1) rfl rfl rfl ?_
  refine Ev.heap (put_put (k := 79) (cs := (plB γ 79 l_least l_chosen l_trial l_debtThen)) (cs' := (plB γ 79 l_least l_chosen l_trial z1)) rfl) ?_
  refine E_aload_n 0 dX3_search_6 (q := 7) rfl rfl rfl ?_
  refine E_bipush (x := 61) dX3_search_7 (q := 9) rfl (by decide) ?_
  have hF6 : Has n 79 (plB γ 79 l_least l_chosen l_trial z1) (put 79 (plB γ 79 l_least l_chosen l_trial z1) h) := (has_put hn_l)
  refine E_put 0 dX3_search_9 (q := 12) rfl ckX3 (Nat.le_of_ble_eq_true rfl) fl_X3_25 rfl rfl rfl (hF6.at 0 rfl) (hF6.lt 0 (Nat.le_of_ble_eq_true rfl)) (Nat.le_of_ble_eq_true rfl) (up_put (i := 0) (cs' := (plB γ 79 61 l_chosen l_trial z1)) (Nat.le_of_ble_eq_true rfl) rfl) ?_
  refine E_aload_n 0 dX3_search_12 (q := 13) rfl rfl rfl ?_
  refine E_aload_n 1 dX3_search_13 (q := 14) rfl rfl rfl ?_
  refine E_iconst (x := 0) dX3_search_14 (q := 15) rfl (by decide) ?_
  refine E_iconst (x := 0) dX3_search_15 (q := 16) rfl (by decide) ?_
  refine E_iconst (x := 0) dX3_search_16 (q := 17) rfl (by decide) ?_
  obtain ⟨z8, hxz8, hf⟩ := bnd hf
  have hF9 : Has n 3 (dpB γ 3 d_posts d_sees d_cold d_men d_debts d_on d_stove) (put 79 (plB γ 79 61 l_chosen l_trial z1) h) := (has_out hH_d (Or.inl (Nat.le_of_ble_eq_true rfl)))
  have hF10 : Has n 79 (plB γ 79 61 l_chosen l_trial z1) (put 79 (plB γ 79 61 l_chosen l_trial z1) h) := (has_put hn_l)
  refine E_cV (as := [.ref (gB γ + 3), .int 0, .int 0, .int 0]) (k := 79) (rest := []) (u' := (0, 0)) (st' := []) dX3_search_17 (q := 20) rfl (lkm_X3_tryFrom _) (lkv_X3_29 _) (Nat.le_of_ble_eq_true rfl) ckX3 (hF10.at 0 rfl) (hF10.lt 0 (Nat.le_of_ble_eq_true rfl)) ⟨Nat.le_refl _, Nat.le_refl _⟩ (Nat.le_of_ble_eq_true rfl) rfl rfl (m_X3_tryFrom (N := N) (rr := 8)  hF9 hF10 hxz8) rfl rfl rfl ?_
  refine Ev.heap (put_put (k := 79) (cs := (plB γ 79 61 l_chosen l_trial z1)) (cs' := (plB γ 79 z8.1 z8.2.1 z8.2.2 z1)) rfl) ?_
  obtain rfl := Option.some.inj hf
  exact E_vret dX3_search_20 rfl ⟨rfl, rfl, rfl⟩
end
