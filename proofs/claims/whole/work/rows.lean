section
-- ===== PART A: goes FIRST, ahead of the names: the tables' words, and 'selects' of the private methods out of them =====
/-- a private method of a class that the tables say can be made, by its rows of tables_1 -/
def lw_okq (q : MethodName × Nat) : Prop := (q.1.cls ≠ "java/lang/invoke/MethodHandle" ∧ q.1.cls ≠ "java/lang/invoke/VarHandle") ∧ Cond.instantiable q.1.cls q.2 ∈ tables_1 ∧ Cond.privateMethod q.1 ∈ tables_1 ∧ Cond.instanceMethod q.1 ∈ tables_1
theorem lw_p0 : lw_okq (⟨"WakeSaver$Tape", "sortAt", "(I)I"⟩, 6) := ⟨⟨by decide +kernel, by decide +kernel⟩, List.mem_of_getElem? (i := 27) (by decide +kernel), List.mem_of_getElem? (i := 325) (by decide +kernel), List.mem_of_getElem? (i := 326) (by decide +kernel)⟩
theorem lw_p1 : lw_okq (⟨"WakeSaver$Reader", "line", "(LWakeSaver$Setup;)Z"⟩, 3) := ⟨⟨by decide +kernel, by decide +kernel⟩, List.mem_of_getElem? (i := 21) (by decide +kernel), List.mem_of_getElem? (i := 333) (by decide +kernel), List.mem_of_getElem? (i := 334) (by decide +kernel)⟩
theorem lw_p2 : lw_okq (⟨"WakeSaver$Reader", "classLine", "(LWakeSaver$Setup;)Z"⟩, 3) := ⟨⟨by decide +kernel, by decide +kernel⟩, List.mem_of_getElem? (i := 21) (by decide +kernel), List.mem_of_getElem? (i := 341) (by decide +kernel), List.mem_of_getElem? (i := 342) (by decide +kernel)⟩
theorem lw_p3 : lw_okq (⟨"WakeSaver$Reader", "fails", "(I)Z"⟩, 3) := ⟨⟨by decide +kernel, by decide +kernel⟩, List.mem_of_getElem? (i := 21) (by decide +kernel), List.mem_of_getElem? (i := 349) (by decide +kernel), List.mem_of_getElem? (i := 350) (by decide +kernel)⟩
theorem lw_p4 : lw_okq (⟨"WakeSaver$Reader", "atName", "()Z"⟩, 3) := ⟨⟨by decide +kernel, by decide +kernel⟩, List.mem_of_getElem? (i := 21) (by decide +kernel), List.mem_of_getElem? (i := 358) (by decide +kernel), List.mem_of_getElem? (i := 359) (by decide +kernel)⟩
theorem lw_p5 : lw_okq (⟨"WakeSaver$Reader", "takeKind", "(LWakeSaver$Setup;)I"⟩, 3) := ⟨⟨by decide +kernel, by decide +kernel⟩, List.mem_of_getElem? (i := 21) (by decide +kernel), List.mem_of_getElem? (i := 370) (by decide +kernel), List.mem_of_getElem? (i := 371) (by decide +kernel)⟩
theorem lw_p6 : lw_okq (⟨"WakeSaver$Reader", "takeNumber", "(II)I"⟩, 3) := ⟨⟨by decide +kernel, by decide +kernel⟩, List.mem_of_getElem? (i := 21) (by decide +kernel), List.mem_of_getElem? (i := 375) (by decide +kernel), List.mem_of_getElem? (i := 376) (by decide +kernel)⟩
theorem lw_p7 : lw_okq (⟨"WakeSaver$Reader", "timerLine", "(LWakeSaver$Setup;Z)Z"⟩, 3) := ⟨⟨by decide +kernel, by decide +kernel⟩, List.mem_of_getElem? (i := 21) (by decide +kernel), List.mem_of_getElem? (i := 384) (by decide +kernel), List.mem_of_getElem? (i := 385) (by decide +kernel)⟩
theorem lw_p8 : lw_okq (⟨"WakeSaver$Reader", "settingLine", "(LWakeSaver$Setup;I)Z"⟩, 3) := ⟨⟨by decide +kernel, by decide +kernel⟩, List.mem_of_getElem? (i := 21) (by decide +kernel), List.mem_of_getElem? (i := 396) (by decide +kernel), List.mem_of_getElem? (i := 397) (by decide +kernel)⟩
theorem lw_p9 : lw_okq (⟨"WakeSaver$Reader", "closes", "()Z"⟩, 3) := ⟨⟨by decide +kernel, by decide +kernel⟩, List.mem_of_getElem? (i := 21) (by decide +kernel), List.mem_of_getElem? (i := 414) (by decide +kernel), List.mem_of_getElem? (i := 415) (by decide +kernel)⟩
theorem lw_p10 : lw_okq (⟨"WakeSaver$Setup", "hasTimer", "(I)Z"⟩, 12) := ⟨⟨by decide +kernel, by decide +kernel⟩, List.mem_of_getElem? (i := 67) (by decide +kernel), List.mem_of_getElem? (i := 439) (by decide +kernel), List.mem_of_getElem? (i := 440) (by decide +kernel)⟩
theorem lw_p11 : lw_okq (⟨"WakeSaver", "takeClasses", "()V"⟩, 14) := ⟨⟨by decide +kernel, by decide +kernel⟩, List.mem_of_getElem? (i := 13) (by decide +kernel), List.mem_of_getElem? (i := 451) (by decide +kernel), List.mem_of_getElem? (i := 452) (by decide +kernel)⟩
theorem lw_p12 : lw_okq (⟨"WakeSaver$Setup", "slackGiver", "(I)I"⟩, 12) := ⟨⟨by decide +kernel, by decide +kernel⟩, List.mem_of_getElem? (i := 67) (by decide +kernel), List.mem_of_getElem? (i := 467) (by decide +kernel), List.mem_of_getElem? (i := 468) (by decide +kernel)⟩
theorem lw_p13 : lw_okq (⟨"WakeSaver$Hand", "letCome", "(LWakeSaver$Calls;)V"⟩, 11) := ⟨⟨by decide +kernel, by decide +kernel⟩, List.mem_of_getElem? (i := 172) (by decide +kernel), List.mem_of_getElem? (i := 492) (by decide +kernel), List.mem_of_getElem? (i := 493) (by decide +kernel)⟩
theorem lw_p14 : lw_okq (⟨"WakeSaver", "planOf", "(I)LWakeSaver$Wakes;"⟩, 14) := ⟨⟨by decide +kernel, by decide +kernel⟩, List.mem_of_getElem? (i := 13) (by decide +kernel), List.mem_of_getElem? (i := 602) (by decide +kernel), List.mem_of_getElem? (i := 603) (by decide +kernel)⟩
theorem lw_p15 : lw_okq (⟨"WakeSaver$Planner", "makeFewest", "(LWakeSaver$Calls;LWakeSaver$Wakes;)V"⟩, 3) := ⟨⟨by decide +kernel, by decide +kernel⟩, List.mem_of_getElem? (i := 155) (by decide +kernel), List.mem_of_getElem? (i := 614) (by decide +kernel), List.mem_of_getElem? (i := 615) (by decide +kernel)⟩
def lw_privs_1 : List (MethodName × Nat) := [(⟨"WakeSaver$Tape", "sortAt", "(I)I"⟩, 6), (⟨"WakeSaver$Reader", "line", "(LWakeSaver$Setup;)Z"⟩, 3), (⟨"WakeSaver$Reader", "classLine", "(LWakeSaver$Setup;)Z"⟩, 3), (⟨"WakeSaver$Reader", "fails", "(I)Z"⟩, 3), (⟨"WakeSaver$Reader", "atName", "()Z"⟩, 3), (⟨"WakeSaver$Reader", "takeKind", "(LWakeSaver$Setup;)I"⟩, 3), (⟨"WakeSaver$Reader", "takeNumber", "(II)I"⟩, 3), (⟨"WakeSaver$Reader", "timerLine", "(LWakeSaver$Setup;Z)Z"⟩, 3), (⟨"WakeSaver$Reader", "settingLine", "(LWakeSaver$Setup;I)Z"⟩, 3), (⟨"WakeSaver$Reader", "closes", "()Z"⟩, 3), (⟨"WakeSaver$Setup", "hasTimer", "(I)Z"⟩, 12), (⟨"WakeSaver", "takeClasses", "()V"⟩, 14), (⟨"WakeSaver$Setup", "slackGiver", "(I)I"⟩, 12), (⟨"WakeSaver$Hand", "letCome", "(LWakeSaver$Calls;)V"⟩, 11), (⟨"WakeSaver", "planOf", "(I)LWakeSaver$Wakes;"⟩, 14), (⟨"WakeSaver$Planner", "makeFewest", "(LWakeSaver$Calls;LWakeSaver$Wakes;)V"⟩, 3)]
theorem lw_r1 : ∀ q ∈ lw_privs_1, lw_okq q := List.forall_mem_cons.mpr ⟨lw_p0, List.forall_mem_cons.mpr ⟨lw_p1, List.forall_mem_cons.mpr ⟨lw_p2, List.forall_mem_cons.mpr ⟨lw_p3, List.forall_mem_cons.mpr ⟨lw_p4, List.forall_mem_cons.mpr ⟨lw_p5, List.forall_mem_cons.mpr ⟨lw_p6, List.forall_mem_cons.mpr ⟨lw_p7, List.forall_mem_cons.mpr ⟨lw_p8, List.forall_mem_cons.mpr ⟨lw_p9, List.forall_mem_cons.mpr ⟨lw_p10, List.forall_mem_cons.mpr ⟨lw_p11, List.forall_mem_cons.mpr ⟨lw_p12, List.forall_mem_cons.mpr ⟨lw_p13, List.forall_mem_cons.mpr ⟨lw_p14, List.forall_mem_cons.mpr ⟨lw_p15, fun _ h => absurd h List.not_mem_nil⟩⟩⟩⟩⟩⟩⟩⟩⟩⟩⟩⟩⟩⟩⟩⟩
theorem lw_p16 : lw_okq (⟨"WakeSaver$Planner", "solve", "(LWakeSaver$Calls;LWakeSaver$Setup;Z)V"⟩, 3) := ⟨⟨by decide +kernel, by decide +kernel⟩, List.mem_of_getElem? (i := 155) (by decide +kernel), List.mem_of_getElem? (i := 626) (by decide +kernel), List.mem_of_getElem? (i := 627) (by decide +kernel)⟩
theorem lw_p17 : lw_okq (⟨"WakeSaver$Planner", "setBest", "(IIII)V"⟩, 3) := ⟨⟨by decide +kernel, by decide +kernel⟩, List.mem_of_getElem? (i := 155) (by decide +kernel), List.mem_of_getElem? (i := 633) (by decide +kernel), List.mem_of_getElem? (i := 634) (by decide +kernel)⟩
theorem lw_p18 : lw_okq (⟨"WakeSaver$Planner", "solveEnergy", "(IIIII)V"⟩, 3) := ⟨⟨by decide +kernel, by decide +kernel⟩, List.mem_of_getElem? (i := 155) (by decide +kernel), List.mem_of_getElem? (i := 638) (by decide +kernel), List.mem_of_getElem? (i := 639) (by decide +kernel)⟩
theorem lw_p19 : lw_okq (⟨"WakeSaver$Planner", "tryNext", "(III)V"⟩, 3) := ⟨⟨by decide +kernel, by decide +kernel⟩, List.mem_of_getElem? (i := 155) (by decide +kernel), List.mem_of_getElem? (i := 642) (by decide +kernel), List.mem_of_getElem? (i := 643) (by decide +kernel)⟩
theorem lw_p20 : lw_okq (⟨"WakeSaver$Planner", "solveCost", "(ILWakeSaver$Calls;III)V"⟩, 3) := ⟨⟨by decide +kernel, by decide +kernel⟩, List.mem_of_getElem? (i := 155) (by decide +kernel), List.mem_of_getElem? (i := 646) (by decide +kernel), List.mem_of_getElem? (i := 647) (by decide +kernel)⟩
theorem lw_p21 : lw_okq (⟨"WakeSaver$Planner", "follow", "(LWakeSaver$Wakes;)V"⟩, 3) := ⟨⟨by decide +kernel, by decide +kernel⟩, List.mem_of_getElem? (i := 155) (by decide +kernel), List.mem_of_getElem? (i := 651) (by decide +kernel), List.mem_of_getElem? (i := 652) (by decide +kernel)⟩
theorem lw_p22 : lw_okq (⟨"WakeSaver$Planner", "makeLive", "(ILWakeSaver$Calls;LWakeSaver$Setup;LWakeSaver$Wakes;)V"⟩, 3) := ⟨⟨by decide +kernel, by decide +kernel⟩, List.mem_of_getElem? (i := 155) (by decide +kernel), List.mem_of_getElem? (i := 655) (by decide +kernel), List.mem_of_getElem? (i := 656) (by decide +kernel)⟩
theorem lw_p23 : lw_okq (⟨"WakeSaver$Wakes", "waitOf", "(LWakeSaver$Calls;I)I"⟩, 2) := ⟨⟨by decide +kernel, by decide +kernel⟩, List.mem_of_getElem? (i := 141) (by decide +kernel), List.mem_of_getElem? (i := 701) (by decide +kernel), List.mem_of_getElem? (i := 702) (by decide +kernel)⟩
theorem lw_p24 : lw_okq (⟨"WakeSaver", "handEnded", "()Z"⟩, 14) := ⟨⟨by decide +kernel, by decide +kernel⟩, List.mem_of_getElem? (i := 13) (by decide +kernel), List.mem_of_getElem? (i := 756) (by decide +kernel), List.mem_of_getElem? (i := 757) (by decide +kernel)⟩
theorem lw_p25 : lw_okq (⟨"WakeSaver", "roundMade", "()LWakeSaver$Round;"⟩, 14) := ⟨⟨by decide +kernel, by decide +kernel⟩, List.mem_of_getElem? (i := 13) (by decide +kernel), List.mem_of_getElem? (i := 836) (by decide +kernel), List.mem_of_getElem? (i := 837) (by decide +kernel)⟩
theorem lw_p26 : lw_okq (⟨"WakeSaver$Round", "callsOf", "(LWakeSaver$Setup;)I"⟩, 6) := ⟨⟨by decide +kernel, by decide +kernel⟩, List.mem_of_getElem? (i := 216) (by decide +kernel), List.mem_of_getElem? (i := 852) (by decide +kernel), List.mem_of_getElem? (i := 853) (by decide +kernel)⟩
theorem lw_p27 : lw_okq (⟨"WakeSaver$Round", "fillSlacks", "(LWakeSaver$Setup;)V"⟩, 6) := ⟨⟨by decide +kernel, by decide +kernel⟩, List.mem_of_getElem? (i := 216) (by decide +kernel), List.mem_of_getElem? (i := 856) (by decide +kernel), List.mem_of_getElem? (i := 857) (by decide +kernel)⟩
theorem lw_p28 : lw_okq (⟨"WakeSaver$Round", "fillReach", "()V"⟩, 6) := ⟨⟨by decide +kernel, by decide +kernel⟩, List.mem_of_getElem? (i := 216) (by decide +kernel), List.mem_of_getElem? (i := 866) (by decide +kernel), List.mem_of_getElem? (i := 867) (by decide +kernel)⟩
theorem lw_p29 : lw_okq (⟨"WakeSaver$Round", "choose", "()V"⟩, 6) := ⟨⟨by decide +kernel, by decide +kernel⟩, List.mem_of_getElem? (i := 216) (by decide +kernel), List.mem_of_getElem? (i := 870) (by decide +kernel), List.mem_of_getElem? (i := 871) (by decide +kernel)⟩
theorem lw_p30 : lw_okq (⟨"WakeSaver$Round", "wakesFrom", "(I)I"⟩, 6) := ⟨⟨by decide +kernel, by decide +kernel⟩, List.mem_of_getElem? (i := 216) (by decide +kernel), List.mem_of_getElem? (i := 874) (by decide +kernel), List.mem_of_getElem? (i := 875) (by decide +kernel)⟩
theorem lw_p31 : lw_okq (⟨"WakeSaver", "supposed", "(III)I"⟩, 14) := ⟨⟨by decide +kernel, by decide +kernel⟩, List.mem_of_getElem? (i := 13) (by decide +kernel), List.mem_of_getElem? (i := 910) (by decide +kernel), List.mem_of_getElem? (i := 911) (by decide +kernel)⟩
def lw_privs_2 : List (MethodName × Nat) := [(⟨"WakeSaver$Planner", "solve", "(LWakeSaver$Calls;LWakeSaver$Setup;Z)V"⟩, 3), (⟨"WakeSaver$Planner", "setBest", "(IIII)V"⟩, 3), (⟨"WakeSaver$Planner", "solveEnergy", "(IIIII)V"⟩, 3), (⟨"WakeSaver$Planner", "tryNext", "(III)V"⟩, 3), (⟨"WakeSaver$Planner", "solveCost", "(ILWakeSaver$Calls;III)V"⟩, 3), (⟨"WakeSaver$Planner", "follow", "(LWakeSaver$Wakes;)V"⟩, 3), (⟨"WakeSaver$Planner", "makeLive", "(ILWakeSaver$Calls;LWakeSaver$Setup;LWakeSaver$Wakes;)V"⟩, 3), (⟨"WakeSaver$Wakes", "waitOf", "(LWakeSaver$Calls;I)I"⟩, 2), (⟨"WakeSaver", "handEnded", "()Z"⟩, 14), (⟨"WakeSaver", "roundMade", "()LWakeSaver$Round;"⟩, 14), (⟨"WakeSaver$Round", "callsOf", "(LWakeSaver$Setup;)I"⟩, 6), (⟨"WakeSaver$Round", "fillSlacks", "(LWakeSaver$Setup;)V"⟩, 6), (⟨"WakeSaver$Round", "fillReach", "()V"⟩, 6), (⟨"WakeSaver$Round", "choose", "()V"⟩, 6), (⟨"WakeSaver$Round", "wakesFrom", "(I)I"⟩, 6), (⟨"WakeSaver", "supposed", "(III)I"⟩, 14)]
theorem lw_r2 : ∀ q ∈ lw_privs_2, lw_okq q := List.forall_mem_cons.mpr ⟨lw_p16, List.forall_mem_cons.mpr ⟨lw_p17, List.forall_mem_cons.mpr ⟨lw_p18, List.forall_mem_cons.mpr ⟨lw_p19, List.forall_mem_cons.mpr ⟨lw_p20, List.forall_mem_cons.mpr ⟨lw_p21, List.forall_mem_cons.mpr ⟨lw_p22, List.forall_mem_cons.mpr ⟨lw_p23, List.forall_mem_cons.mpr ⟨lw_p24, List.forall_mem_cons.mpr ⟨lw_p25, List.forall_mem_cons.mpr ⟨lw_p26, List.forall_mem_cons.mpr ⟨lw_p27, List.forall_mem_cons.mpr ⟨lw_p28, List.forall_mem_cons.mpr ⟨lw_p29, List.forall_mem_cons.mpr ⟨lw_p30, List.forall_mem_cons.mpr ⟨lw_p31, fun _ h => absurd h List.not_mem_nil⟩⟩⟩⟩⟩⟩⟩⟩⟩⟩⟩⟩⟩⟩⟩⟩
theorem lw_p32 : lw_okq (⟨"WakeSaverModel", "firsts", "(I)V"⟩, 39) := ⟨⟨by decide +kernel, by decide +kernel⟩, List.mem_of_getElem? (i := 918) (by decide +kernel), List.mem_of_getElem? (i := 924) (by decide +kernel), List.mem_of_getElem? (i := 925) (by decide +kernel)⟩
theorem lw_p33 : lw_okq (⟨"WakeSaverModel", "begins", "()V"⟩, 39) := ⟨⟨by decide +kernel, by decide +kernel⟩, List.mem_of_getElem? (i := 918) (by decide +kernel), List.mem_of_getElem? (i := 928) (by decide +kernel), List.mem_of_getElem? (i := 929) (by decide +kernel)⟩
theorem lw_p34 : lw_okq (⟨"WakeSaverModel", "callsNow", "()V"⟩, 39) := ⟨⟨by decide +kernel, by decide +kernel⟩, List.mem_of_getElem? (i := 918) (by decide +kernel), List.mem_of_getElem? (i := 932) (by decide +kernel), List.mem_of_getElem? (i := 933) (by decide +kernel)⟩
theorem lw_p35 : lw_okq (⟨"WakeSaverModel", "timers", "()I"⟩, 39) := ⟨⟨by decide +kernel, by decide +kernel⟩, List.mem_of_getElem? (i := 918) (by decide +kernel), List.mem_of_getElem? (i := 936) (by decide +kernel), List.mem_of_getElem? (i := 937) (by decide +kernel)⟩
theorem lw_p36 : lw_okq (⟨"WakeSaverModel", "calls", "(II)Z"⟩, 39) := ⟨⟨by decide +kernel, by decide +kernel⟩, List.mem_of_getElem? (i := 918) (by decide +kernel), List.mem_of_getElem? (i := 940) (by decide +kernel), List.mem_of_getElem? (i := 941) (by decide +kernel)⟩
theorem lw_p37 : lw_okq (⟨"WakeSaverModel", "comes", "(I)I"⟩, 39) := ⟨⟨by decide +kernel, by decide +kernel⟩, List.mem_of_getElem? (i := 918) (by decide +kernel), List.mem_of_getElem? (i := 944) (by decide +kernel), List.mem_of_getElem? (i := 945) (by decide +kernel)⟩
theorem lw_p38 : lw_okq (⟨"WakeSaverModel", "slack", "(I)I"⟩, 39) := ⟨⟨by decide +kernel, by decide +kernel⟩, List.mem_of_getElem? (i := 918) (by decide +kernel), List.mem_of_getElem? (i := 948) (by decide +kernel), List.mem_of_getElem? (i := 949) (by decide +kernel)⟩
theorem lw_p39 : lw_okq (⟨"WakeSaverModel", "nearest", "(II)I"⟩, 39) := ⟨⟨by decide +kernel, by decide +kernel⟩, List.mem_of_getElem? (i := 918) (by decide +kernel), List.mem_of_getElem? (i := 952) (by decide +kernel), List.mem_of_getElem? (i := 953) (by decide +kernel)⟩
theorem lw_p40 : lw_okq (⟨"WakeSaverModel", "cut", "(I)I"⟩, 39) := ⟨⟨by decide +kernel, by decide +kernel⟩, List.mem_of_getElem? (i := 918) (by decide +kernel), List.mem_of_getElem? (i := 956) (by decide +kernel), List.mem_of_getElem? (i := 957) (by decide +kernel)⟩
theorem lw_p41 : lw_okq (⟨"WakeSaverModel", "weight", "(I)I"⟩, 39) := ⟨⟨by decide +kernel, by decide +kernel⟩, List.mem_of_getElem? (i := 918) (by decide +kernel), List.mem_of_getElem? (i := 960) (by decide +kernel), List.mem_of_getElem? (i := 961) (by decide +kernel)⟩
theorem lw_p42 : lw_okq (⟨"WakeSaverModel", "isDue", "()Z"⟩, 39) := ⟨⟨by decide +kernel, by decide +kernel⟩, List.mem_of_getElem? (i := 918) (by decide +kernel), List.mem_of_getElem? (i := 1094) (by decide +kernel), List.mem_of_getElem? (i := 1095) (by decide +kernel)⟩
theorem lw_p43 : lw_okq (⟨"WakeSaverModel", "left", "()I"⟩, 39) := ⟨⟨by decide +kernel, by decide +kernel⟩, List.mem_of_getElem? (i := 918) (by decide +kernel), List.mem_of_getElem? (i := 1098) (by decide +kernel), List.mem_of_getElem? (i := 1099) (by decide +kernel)⟩
theorem lw_p44 : lw_okq (⟨"WakeSaverModel", "leftLatest", "()I"⟩, 39) := ⟨⟨by decide +kernel, by decide +kernel⟩, List.mem_of_getElem? (i := 918) (by decide +kernel), List.mem_of_getElem? (i := 1102) (by decide +kernel), List.mem_of_getElem? (i := 1103) (by decide +kernel)⟩
theorem lw_p45 : lw_okq (⟨"WakeSaverModel", "leftWaits", "(I)I"⟩, 39) := ⟨⟨by decide +kernel, by decide +kernel⟩, List.mem_of_getElem? (i := 918) (by decide +kernel), List.mem_of_getElem? (i := 1106) (by decide +kernel), List.mem_of_getElem? (i := 1107) (by decide +kernel)⟩
theorem lw_p46 : lw_okq (⟨"WakeSaverModel", "handWakes", "()V"⟩, 39) := ⟨⟨by decide +kernel, by decide +kernel⟩, List.mem_of_getElem? (i := 918) (by decide +kernel), List.mem_of_getElem? (i := 1110) (by decide +kernel), List.mem_of_getElem? (i := 1111) (by decide +kernel)⟩
theorem lw_p47 : lw_okq (⟨"WakeSaverModel", "isKind", "(I)Z"⟩, 39) := ⟨⟨by decide +kernel, by decide +kernel⟩, List.mem_of_getElem? (i := 918) (by decide +kernel), List.mem_of_getElem? (i := 1118) (by decide +kernel), List.mem_of_getElem? (i := 1119) (by decide +kernel)⟩
def lw_privs_3 : List (MethodName × Nat) := [(⟨"WakeSaverModel", "firsts", "(I)V"⟩, 39), (⟨"WakeSaverModel", "begins", "()V"⟩, 39), (⟨"WakeSaverModel", "callsNow", "()V"⟩, 39), (⟨"WakeSaverModel", "timers", "()I"⟩, 39), (⟨"WakeSaverModel", "calls", "(II)Z"⟩, 39), (⟨"WakeSaverModel", "comes", "(I)I"⟩, 39), (⟨"WakeSaverModel", "slack", "(I)I"⟩, 39), (⟨"WakeSaverModel", "nearest", "(II)I"⟩, 39), (⟨"WakeSaverModel", "cut", "(I)I"⟩, 39), (⟨"WakeSaverModel", "weight", "(I)I"⟩, 39), (⟨"WakeSaverModel", "isDue", "()Z"⟩, 39), (⟨"WakeSaverModel", "left", "()I"⟩, 39), (⟨"WakeSaverModel", "leftLatest", "()I"⟩, 39), (⟨"WakeSaverModel", "leftWaits", "(I)I"⟩, 39), (⟨"WakeSaverModel", "handWakes", "()V"⟩, 39), (⟨"WakeSaverModel", "isKind", "(I)Z"⟩, 39)]
theorem lw_r3 : ∀ q ∈ lw_privs_3, lw_okq q := List.forall_mem_cons.mpr ⟨lw_p32, List.forall_mem_cons.mpr ⟨lw_p33, List.forall_mem_cons.mpr ⟨lw_p34, List.forall_mem_cons.mpr ⟨lw_p35, List.forall_mem_cons.mpr ⟨lw_p36, List.forall_mem_cons.mpr ⟨lw_p37, List.forall_mem_cons.mpr ⟨lw_p38, List.forall_mem_cons.mpr ⟨lw_p39, List.forall_mem_cons.mpr ⟨lw_p40, List.forall_mem_cons.mpr ⟨lw_p41, List.forall_mem_cons.mpr ⟨lw_p42, List.forall_mem_cons.mpr ⟨lw_p43, List.forall_mem_cons.mpr ⟨lw_p44, List.forall_mem_cons.mpr ⟨lw_p45, List.forall_mem_cons.mpr ⟨lw_p46, List.forall_mem_cons.mpr ⟨lw_p47, fun _ h => absurd h List.not_mem_nil⟩⟩⟩⟩⟩⟩⟩⟩⟩⟩⟩⟩⟩⟩⟩⟩
theorem lw_p48 : lw_okq (⟨"WakeSaverModel", "kinds", "()I"⟩, 39) := ⟨⟨by decide +kernel, by decide +kernel⟩, List.mem_of_getElem? (i := 918) (by decide +kernel), List.mem_of_getElem? (i := 1122) (by decide +kernel), List.mem_of_getElem? (i := 1123) (by decide +kernel)⟩
theorem lw_p49 : lw_okq (⟨"WakeSaverModel", "handWaits", "()I"⟩, 39) := ⟨⟨by decide +kernel, by decide +kernel⟩, List.mem_of_getElem? (i := 918) (by decide +kernel), List.mem_of_getElem? (i := 1134) (by decide +kernel), List.mem_of_getElem? (i := 1135) (by decide +kernel)⟩
theorem lw_p50 : lw_okq (⟨"WakeSaverModel", "laysHindsight", "()V"⟩, 39) := ⟨⟨by decide +kernel, by decide +kernel⟩, List.mem_of_getElem? (i := 918) (by decide +kernel), List.mem_of_getElem? (i := 1138) (by decide +kernel), List.mem_of_getElem? (i := 1139) (by decide +kernel)⟩
theorem lw_p51 : lw_okq (⟨"WakeSaverModel", "laysDearest", "(Z)V"⟩, 39) := ⟨⟨by decide +kernel, by decide +kernel⟩, List.mem_of_getElem? (i := 918) (by decide +kernel), List.mem_of_getElem? (i := 1142) (by decide +kernel), List.mem_of_getElem? (i := 1143) (by decide +kernel)⟩
theorem lw_p52 : lw_okq (⟨"WakeSaverModel", "laysBest", "(IZ)V"⟩, 39) := ⟨⟨by decide +kernel, by decide +kernel⟩, List.mem_of_getElem? (i := 918) (by decide +kernel), List.mem_of_getElem? (i := 1146) (by decide +kernel), List.mem_of_getElem? (i := 1147) (by decide +kernel)⟩
theorem lw_p53 : lw_okq (⟨"WakeSaverModel", "leastBehind", "(I)I"⟩, 39) := ⟨⟨by decide +kernel, by decide +kernel⟩, List.mem_of_getElem? (i := 918) (by decide +kernel), List.mem_of_getElem? (i := 1151) (by decide +kernel), List.mem_of_getElem? (i := 1152) (by decide +kernel)⟩
theorem lw_p54 : lw_okq (⟨"WakeSaverModel", "stay", "(II)I"⟩, 39) := ⟨⟨by decide +kernel, by decide +kernel⟩, List.mem_of_getElem? (i := 918) (by decide +kernel), List.mem_of_getElem? (i := 1155) (by decide +kernel), List.mem_of_getElem? (i := 1156) (by decide +kernel)⟩
theorem lw_p55 : lw_okq (⟨"WakeSaverModel", "waits", "(II)I"⟩, 39) := ⟨⟨by decide +kernel, by decide +kernel⟩, List.mem_of_getElem? (i := 918) (by decide +kernel), List.mem_of_getElem? (i := 1159) (by decide +kernel), List.mem_of_getElem? (i := 1160) (by decide +kernel)⟩
theorem lw_p56 : lw_okq (⟨"WakeSaverModel", "wakesAt", "(I)V"⟩, 39) := ⟨⟨by decide +kernel, by decide +kernel⟩, List.mem_of_getElem? (i := 918) (by decide +kernel), List.mem_of_getElem? (i := 1163) (by decide +kernel), List.mem_of_getElem? (i := 1164) (by decide +kernel)⟩
theorem lw_p57 : lw_okq (⟨"WakeSaverModel", "waitsAll", "()I"⟩, 39) := ⟨⟨by decide +kernel, by decide +kernel⟩, List.mem_of_getElem? (i := 918) (by decide +kernel), List.mem_of_getElem? (i := 1167) (by decide +kernel), List.mem_of_getElem? (i := 1168) (by decide +kernel)⟩
theorem lw_p58 : lw_okq (⟨"WakeSaverModel", "answers", "(I)I"⟩, 39) := ⟨⟨by decide +kernel, by decide +kernel⟩, List.mem_of_getElem? (i := 918) (by decide +kernel), List.mem_of_getElem? (i := 1171) (by decide +kernel), List.mem_of_getElem? (i := 1172) (by decide +kernel)⟩
theorem lw_p59 : lw_okq (⟨"WakeSaverModel", "laysCalls", "()V"⟩, 39) := ⟨⟨by decide +kernel, by decide +kernel⟩, List.mem_of_getElem? (i := 918) (by decide +kernel), List.mem_of_getElem? (i := 1179) (by decide +kernel), List.mem_of_getElem? (i := 1180) (by decide +kernel)⟩
theorem lw_p60 : lw_okq (⟨"WakeSaverModel", "timersOf", "(I)I"⟩, 39) := ⟨⟨by decide +kernel, by decide +kernel⟩, List.mem_of_getElem? (i := 918) (by decide +kernel), List.mem_of_getElem? (i := 1187) (by decide +kernel), List.mem_of_getElem? (i := 1188) (by decide +kernel)⟩
theorem lw_p61 : lw_okq (⟨"WakeSaverModel", "heirs", "(I)I"⟩, 39) := ⟨⟨by decide +kernel, by decide +kernel⟩, List.mem_of_getElem? (i := 918) (by decide +kernel), List.mem_of_getElem? (i := 1191) (by decide +kernel), List.mem_of_getElem? (i := 1192) (by decide +kernel)⟩
theorem lw_p62 : lw_okq (⟨"WakeSaverModel", "laysPlan", "(I)Z"⟩, 39) := ⟨⟨by decide +kernel, by decide +kernel⟩, List.mem_of_getElem? (i := 918) (by decide +kernel), List.mem_of_getElem? (i := 1207) (by decide +kernel), List.mem_of_getElem? (i := 1208) (by decide +kernel)⟩
theorem lw_p63 : lw_okq (⟨"WakeSaverModel", "laysFewest", "()V"⟩, 39) := ⟨⟨by decide +kernel, by decide +kernel⟩, List.mem_of_getElem? (i := 918) (by decide +kernel), List.mem_of_getElem? (i := 1211) (by decide +kernel), List.mem_of_getElem? (i := 1212) (by decide +kernel)⟩
def lw_privs_4 : List (MethodName × Nat) := [(⟨"WakeSaverModel", "kinds", "()I"⟩, 39), (⟨"WakeSaverModel", "handWaits", "()I"⟩, 39), (⟨"WakeSaverModel", "laysHindsight", "()V"⟩, 39), (⟨"WakeSaverModel", "laysDearest", "(Z)V"⟩, 39), (⟨"WakeSaverModel", "laysBest", "(IZ)V"⟩, 39), (⟨"WakeSaverModel", "leastBehind", "(I)I"⟩, 39), (⟨"WakeSaverModel", "stay", "(II)I"⟩, 39), (⟨"WakeSaverModel", "waits", "(II)I"⟩, 39), (⟨"WakeSaverModel", "wakesAt", "(I)V"⟩, 39), (⟨"WakeSaverModel", "waitsAll", "()I"⟩, 39), (⟨"WakeSaverModel", "answers", "(I)I"⟩, 39), (⟨"WakeSaverModel", "laysCalls", "()V"⟩, 39), (⟨"WakeSaverModel", "timersOf", "(I)I"⟩, 39), (⟨"WakeSaverModel", "heirs", "(I)I"⟩, 39), (⟨"WakeSaverModel", "laysPlan", "(I)Z"⟩, 39), (⟨"WakeSaverModel", "laysFewest", "()V"⟩, 39)]
theorem lw_r4 : ∀ q ∈ lw_privs_4, lw_okq q := List.forall_mem_cons.mpr ⟨lw_p48, List.forall_mem_cons.mpr ⟨lw_p49, List.forall_mem_cons.mpr ⟨lw_p50, List.forall_mem_cons.mpr ⟨lw_p51, List.forall_mem_cons.mpr ⟨lw_p52, List.forall_mem_cons.mpr ⟨lw_p53, List.forall_mem_cons.mpr ⟨lw_p54, List.forall_mem_cons.mpr ⟨lw_p55, List.forall_mem_cons.mpr ⟨lw_p56, List.forall_mem_cons.mpr ⟨lw_p57, List.forall_mem_cons.mpr ⟨lw_p58, List.forall_mem_cons.mpr ⟨lw_p59, List.forall_mem_cons.mpr ⟨lw_p60, List.forall_mem_cons.mpr ⟨lw_p61, List.forall_mem_cons.mpr ⟨lw_p62, List.forall_mem_cons.mpr ⟨lw_p63, fun _ h => absurd h List.not_mem_nil⟩⟩⟩⟩⟩⟩⟩⟩⟩⟩⟩⟩⟩⟩⟩⟩
theorem lw_p64 : lw_okq (⟨"WakeSaverModel", "laysLive", "(I)V"⟩, 39) := ⟨⟨by decide +kernel, by decide +kernel⟩, List.mem_of_getElem? (i := 918) (by decide +kernel), List.mem_of_getElem? (i := 1215) (by decide +kernel), List.mem_of_getElem? (i := 1216) (by decide +kernel)⟩
theorem lw_p65 : lw_okq (⟨"WakeSaverModel", "wakesBy", "(III)Z"⟩, 39) := ⟨⟨by decide +kernel, by decide +kernel⟩, List.mem_of_getElem? (i := 918) (by decide +kernel), List.mem_of_getElem? (i := 1219) (by decide +kernel), List.mem_of_getElem? (i := 1220) (by decide +kernel)⟩
theorem lw_p66 : lw_okq (⟨"WakeSaverModel", "energy", "()I"⟩, 39) := ⟨⟨by decide +kernel, by decide +kernel⟩, List.mem_of_getElem? (i := 918) (by decide +kernel), List.mem_of_getElem? (i := 1231) (by decide +kernel), List.mem_of_getElem? (i := 1232) (by decide +kernel)⟩
theorem lw_p67 : lw_okq (⟨"WakeSaverModel", "liveEnergy", "()I"⟩, 39) := ⟨⟨by decide +kernel, by decide +kernel⟩, List.mem_of_getElem? (i := 918) (by decide +kernel), List.mem_of_getElem? (i := 1235) (by decide +kernel), List.mem_of_getElem? (i := 1236) (by decide +kernel)⟩
theorem lw_p68 : lw_okq (⟨"WakeSaverModel", "awake", "()I"⟩, 39) := ⟨⟨by decide +kernel, by decide +kernel⟩, List.mem_of_getElem? (i := 918) (by decide +kernel), List.mem_of_getElem? (i := 1239) (by decide +kernel), List.mem_of_getElem? (i := 1240) (by decide +kernel)⟩
theorem lw_p69 : lw_okq (⟨"WakeSaverModel", "mostAnswered", "()I"⟩, 39) := ⟨⟨by decide +kernel, by decide +kernel⟩, List.mem_of_getElem? (i := 918) (by decide +kernel), List.mem_of_getElem? (i := 1243) (by decide +kernel), List.mem_of_getElem? (i := 1244) (by decide +kernel)⟩
theorem lw_p70 : lw_okq (⟨"WakeSaverModel", "longestWait", "()I"⟩, 39) := ⟨⟨by decide +kernel, by decide +kernel⟩, List.mem_of_getElem? (i := 918) (by decide +kernel), List.mem_of_getElem? (i := 1247) (by decide +kernel), List.mem_of_getElem? (i := 1248) (by decide +kernel)⟩
theorem lw_p71 : lw_okq (⟨"WakeSaverModel", "laysRound", "()Z"⟩, 39) := ⟨⟨by decide +kernel, by decide +kernel⟩, List.mem_of_getElem? (i := 918) (by decide +kernel), List.mem_of_getElem? (i := 1263) (by decide +kernel), List.mem_of_getElem? (i := 1264) (by decide +kernel)⟩
theorem lw_p72 : lw_okq (⟨"WakeSaverModel", "laysHyper", "()Z"⟩, 39) := ⟨⟨by decide +kernel, by decide +kernel⟩, List.mem_of_getElem? (i := 918) (by decide +kernel), List.mem_of_getElem? (i := 1267) (by decide +kernel), List.mem_of_getElem? (i := 1268) (by decide +kernel)⟩
theorem lw_p73 : lw_okq (⟨"WakeSaverModel", "nextLatest", "(I)I"⟩, 39) := ⟨⟨by decide +kernel, by decide +kernel⟩, List.mem_of_getElem? (i := 918) (by decide +kernel), List.mem_of_getElem? (i := 1274) (by decide +kernel), List.mem_of_getElem? (i := 1275) (by decide +kernel)⟩
theorem lw_p74 : lw_okq (⟨"WakeSaverModel", "wouldBe", "(I)I"⟩, 39) := ⟨⟨by decide +kernel, by decide +kernel⟩, List.mem_of_getElem? (i := 918) (by decide +kernel), List.mem_of_getElem? (i := 1286) (by decide +kernel), List.mem_of_getElem? (i := 1287) (by decide +kernel)⟩
theorem lw_p75 : lw_okq (⟨"WakeSaverModel", "takes", "()V"⟩, 39) := ⟨⟨by decide +kernel, by decide +kernel⟩, List.mem_of_getElem? (i := 918) (by decide +kernel), List.mem_of_getElem? (i := 1311) (by decide +kernel), List.mem_of_getElem? (i := 1312) (by decide +kernel)⟩
theorem lw_p76 : lw_okq (⟨"WakeSaverModel", "byteAt", "(I)I"⟩, 39) := ⟨⟨by decide +kernel, by decide +kernel⟩, List.mem_of_getElem? (i := 918) (by decide +kernel), List.mem_of_getElem? (i := 1315) (by decide +kernel), List.mem_of_getElem? (i := 1316) (by decide +kernel)⟩
theorem lw_p77 : lw_okq (⟨"WakeSaverModel", "isGood", "()Z"⟩, 39) := ⟨⟨by decide +kernel, by decide +kernel⟩, List.mem_of_getElem? (i := 918) (by decide +kernel), List.mem_of_getElem? (i := 1330) (by decide +kernel), List.mem_of_getElem? (i := 1331) (by decide +kernel)⟩
theorem lw_p78 : lw_okq (⟨"WakeSaverModel", "readsLine", "()V"⟩, 39) := ⟨⟨by decide +kernel, by decide +kernel⟩, List.mem_of_getElem? (i := 918) (by decide +kernel), List.mem_of_getElem? (i := 1334) (by decide +kernel), List.mem_of_getElem? (i := 1335) (by decide +kernel)⟩
theorem lw_p79 : lw_okq (⟨"WakeSaverModel", "hasWord", "(J)Z"⟩, 39) := ⟨⟨by decide +kernel, by decide +kernel⟩, List.mem_of_getElem? (i := 918) (by decide +kernel), List.mem_of_getElem? (i := 1339) (by decide +kernel), List.mem_of_getElem? (i := 1340) (by decide +kernel)⟩
def lw_privs_5 : List (MethodName × Nat) := [(⟨"WakeSaverModel", "laysLive", "(I)V"⟩, 39), (⟨"WakeSaverModel", "wakesBy", "(III)Z"⟩, 39), (⟨"WakeSaverModel", "energy", "()I"⟩, 39), (⟨"WakeSaverModel", "liveEnergy", "()I"⟩, 39), (⟨"WakeSaverModel", "awake", "()I"⟩, 39), (⟨"WakeSaverModel", "mostAnswered", "()I"⟩, 39), (⟨"WakeSaverModel", "longestWait", "()I"⟩, 39), (⟨"WakeSaverModel", "laysRound", "()Z"⟩, 39), (⟨"WakeSaverModel", "laysHyper", "()Z"⟩, 39), (⟨"WakeSaverModel", "nextLatest", "(I)I"⟩, 39), (⟨"WakeSaverModel", "wouldBe", "(I)I"⟩, 39), (⟨"WakeSaverModel", "takes", "()V"⟩, 39), (⟨"WakeSaverModel", "byteAt", "(I)I"⟩, 39), (⟨"WakeSaverModel", "isGood", "()Z"⟩, 39), (⟨"WakeSaverModel", "readsLine", "()V"⟩, 39), (⟨"WakeSaverModel", "hasWord", "(J)Z"⟩, 39)]
theorem lw_r5 : ∀ q ∈ lw_privs_5, lw_okq q := List.forall_mem_cons.mpr ⟨lw_p64, List.forall_mem_cons.mpr ⟨lw_p65, List.forall_mem_cons.mpr ⟨lw_p66, List.forall_mem_cons.mpr ⟨lw_p67, List.forall_mem_cons.mpr ⟨lw_p68, List.forall_mem_cons.mpr ⟨lw_p69, List.forall_mem_cons.mpr ⟨lw_p70, List.forall_mem_cons.mpr ⟨lw_p71, List.forall_mem_cons.mpr ⟨lw_p72, List.forall_mem_cons.mpr ⟨lw_p73, List.forall_mem_cons.mpr ⟨lw_p74, List.forall_mem_cons.mpr ⟨lw_p75, List.forall_mem_cons.mpr ⟨lw_p76, List.forall_mem_cons.mpr ⟨lw_p77, List.forall_mem_cons.mpr ⟨lw_p78, List.forall_mem_cons.mpr ⟨lw_p79, fun _ h => absurd h List.not_mem_nil⟩⟩⟩⟩⟩⟩⟩⟩⟩⟩⟩⟩⟩⟩⟩⟩
theorem lw_p80 : lw_okq (⟨"WakeSaverModel", "isWord", "(J)Z"⟩, 39) := ⟨⟨by decide +kernel, by decide +kernel⟩, List.mem_of_getElem? (i := 918) (by decide +kernel), List.mem_of_getElem? (i := 1343) (by decide +kernel), List.mem_of_getElem? (i := 1344) (by decide +kernel)⟩
theorem lw_p81 : lw_okq (⟨"WakeSaverModel", "readsClass", "(I)V"⟩, 39) := ⟨⟨by decide +kernel, by decide +kernel⟩, List.mem_of_getElem? (i := 918) (by decide +kernel), List.mem_of_getElem? (i := 1347) (by decide +kernel), List.mem_of_getElem? (i := 1348) (by decide +kernel)⟩
theorem lw_p82 : lw_okq (⟨"WakeSaverModel", "fails", "(II)V"⟩, 39) := ⟨⟨by decide +kernel, by decide +kernel⟩, List.mem_of_getElem? (i := 918) (by decide +kernel), List.mem_of_getElem? (i := 1351) (by decide +kernel), List.mem_of_getElem? (i := 1352) (by decide +kernel)⟩
theorem lw_p83 : lw_okq (⟨"WakeSaverModel", "named", "()I"⟩, 39) := ⟨⟨by decide +kernel, by decide +kernel⟩, List.mem_of_getElem? (i := 918) (by decide +kernel), List.mem_of_getElem? (i := 1355) (by decide +kernel), List.mem_of_getElem? (i := 1356) (by decide +kernel)⟩
theorem lw_p84 : lw_okq (⟨"WakeSaverModel", "isQuoted", "()Z"⟩, 39) := ⟨⟨by decide +kernel, by decide +kernel⟩, List.mem_of_getElem? (i := 918) (by decide +kernel), List.mem_of_getElem? (i := 1359) (by decide +kernel), List.mem_of_getElem? (i := 1360) (by decide +kernel)⟩
theorem lw_p85 : lw_okq (⟨"WakeSaverModel", "known", "()I"⟩, 39) := ⟨⟨by decide +kernel, by decide +kernel⟩, List.mem_of_getElem? (i := 918) (by decide +kernel), List.mem_of_getElem? (i := 1366) (by decide +kernel), List.mem_of_getElem? (i := 1367) (by decide +kernel)⟩
theorem lw_p86 : lw_okq (⟨"WakeSaverModel", "numeral", "(II)I"⟩, 39) := ⟨⟨by decide +kernel, by decide +kernel⟩, List.mem_of_getElem? (i := 918) (by decide +kernel), List.mem_of_getElem? (i := 1371) (by decide +kernel), List.mem_of_getElem? (i := 1372) (by decide +kernel)⟩
theorem lw_p87 : lw_okq (⟨"WakeSaverModel", "readsTimer", "(IZ)V"⟩, 39) := ⟨⟨by decide +kernel, by decide +kernel⟩, List.mem_of_getElem? (i := 918) (by decide +kernel), List.mem_of_getElem? (i := 1377) (by decide +kernel), List.mem_of_getElem? (i := 1378) (by decide +kernel)⟩
theorem lw_p88 : lw_okq (⟨"WakeSaverModel", "readCalls", "()I"⟩, 39) := ⟨⟨by decide +kernel, by decide +kernel⟩, List.mem_of_getElem? (i := 918) (by decide +kernel), List.mem_of_getElem? (i := 1385) (by decide +kernel), List.mem_of_getElem? (i := 1386) (by decide +kernel)⟩
def lw_privs_6 : List (MethodName × Nat) := [(⟨"WakeSaverModel", "isWord", "(J)Z"⟩, 39), (⟨"WakeSaverModel", "readsClass", "(I)V"⟩, 39), (⟨"WakeSaverModel", "fails", "(II)V"⟩, 39), (⟨"WakeSaverModel", "named", "()I"⟩, 39), (⟨"WakeSaverModel", "isQuoted", "()Z"⟩, 39), (⟨"WakeSaverModel", "known", "()I"⟩, 39), (⟨"WakeSaverModel", "numeral", "(II)I"⟩, 39), (⟨"WakeSaverModel", "readsTimer", "(IZ)V"⟩, 39), (⟨"WakeSaverModel", "readCalls", "()I"⟩, 39)]
theorem lw_r6 : ∀ q ∈ lw_privs_6, lw_okq q := List.forall_mem_cons.mpr ⟨lw_p80, List.forall_mem_cons.mpr ⟨lw_p81, List.forall_mem_cons.mpr ⟨lw_p82, List.forall_mem_cons.mpr ⟨lw_p83, List.forall_mem_cons.mpr ⟨lw_p84, List.forall_mem_cons.mpr ⟨lw_p85, List.forall_mem_cons.mpr ⟨lw_p86, List.forall_mem_cons.mpr ⟨lw_p87, List.forall_mem_cons.mpr ⟨lw_p88, fun _ h => absurd h List.not_mem_nil⟩⟩⟩⟩⟩⟩⟩⟩⟩
def lw_privs : List (MethodName × Nat) := lw_privs_1 ++ (lw_privs_2 ++ (lw_privs_3 ++ (lw_privs_4 ++ (lw_privs_5 ++ (lw_privs_6)))))
def lw_tbl : List Cond := k2_sels lw_privs ++ tables_1
theorem lw_privs_ok : ∀ q ∈ lw_privs, lw_okq q := by
  show ∀ q ∈ lw_privs_1 ++ (lw_privs_2 ++ (lw_privs_3 ++ (lw_privs_4 ++ (lw_privs_5 ++ (lw_privs_6))))), lw_okq q
  exact List.forall_mem_append.mpr ⟨lw_r1, List.forall_mem_append.mpr ⟨lw_r2, List.forall_mem_append.mpr ⟨lw_r3, List.forall_mem_append.mpr ⟨lw_r4, List.forall_mem_append.mpr ⟨lw_r5, lw_r6⟩⟩⟩⟩⟩
end
section
def RX0 : String := "WakeSaver$Calls"
def TX0 : u_T := fun k => match k with
  | 0 => ("WakeSaver$Calls", "froms", "[I", true)
  | 1 => ("WakeSaver$Calls", "latests", "[I", true)
  | 2 => ("WakeSaver$Calls", "weights", "[I", true)
  | 3 => ("WakeSaver$Calls", "timers", "[I", true)
  | _ => ("WakeSaver$Calls", "size", "I", false)
def tyX0 : Nat → FieldType := fun k => match k with
  | 0 => .array .int
  | 1 => .array .int
  | 2 => .array .int
  | 3 => .array .int
  | _ => .int
abbrev wsX00 : List Cond := u_ws RX0 TX0 5
theorem nmX0 : ∀ a, a < 5 → ∀ b, b < 5 → a ≠ b → (TX0 a).2.1 ≠ (TX0 b).2.1 := by decide +kernel
theorem tyX0_ok : ∀ k, k < 5 → parseFieldDescriptor (TX0 k).2.2.1 = some (tyX0 k) := by decide +kernel
abbrev cX0_init : ByteArray := prog_2_method_1_code
def yX0_init : MethodName := ⟨RX0, "<init>", "(I)V"⟩
abbrev cX0_clear : ByteArray := prog_2_method_2_code
def yX0_clear : MethodName := ⟨RX0, "clear", "()V"⟩
abbrev cX0_size : ByteArray := prog_2_method_3_code
def yX0_size : MethodName := ⟨RX0, "size", "()I"⟩
abbrev cX0_has : ByteArray := prog_2_method_4_code
def yX0_has : MethodName := ⟨RX0, "has", "(I)Z"⟩
abbrev cX0_fromOf : ByteArray := prog_2_method_5_code
def yX0_fromOf : MethodName := ⟨RX0, "fromOf", "(I)I"⟩
abbrev cX0_latestOf : ByteArray := prog_2_method_6_code
def yX0_latestOf : MethodName := ⟨RX0, "latestOf", "(I)I"⟩
abbrev cX0_weightOf : ByteArray := prog_2_method_7_code
def yX0_weightOf : MethodName := ⟨RX0, "weightOf", "(I)I"⟩
abbrev cX0_timerOf : ByteArray := prog_2_method_8_code
def yX0_timerOf : MethodName := ⟨RX0, "timerOf", "(I)I"⟩
abbrev cX0_add : ByteArray := prog_2_method_9_code
def yX0_add : MethodName := ⟨RX0, "add", "(IIII)V"⟩
abbrev cX0_gather : ByteArray := prog_2_method_10_code
def yX0_gather : MethodName := ⟨RX0, "gather", "(LWakeSaver$Setup;)V"⟩
abbrev cX0_layOut : ByteArray := prog_2_method_11_code
def yX0_layOut : MethodName := ⟨RX0, "layOut", "(LWakeSaver$Setup;)V"⟩
abbrev cX0_firstDueAt : ByteArray := prog_2_method_12_code
def yX0_firstDueAt : MethodName := ⟨RX0, "firstDueAt", "(II)I"⟩
abbrev cX0_waitsAt : ByteArray := prog_2_method_13_code
def yX0_waitsAt : MethodName := ⟨RX0, "waitsAt", "(III)I"⟩
abbrev cX0_leastLatest : ByteArray := prog_2_method_14_code
def yX0_leastLatest : MethodName := ⟨RX0, "leastLatest", "(II)I"⟩
abbrev cX0_wantWake : ByteArray := prog_2_method_15_code
def yX0_wantWake : MethodName := ⟨RX0, "wantWake", "(IIIII)Z"⟩
def RX1 : String := "WakeSaver$Hand"
def TX1 : u_T := fun k => match k with
  | 0 => ("WakeSaver$Hand", "came", "LWakeSaver$Calls;", true)
  | 1 => ("WakeSaver$Hand", "hindsight", "LWakeSaver$Wakes;", true)
  | 2 => ("WakeSaver$Hand", "hindsightKnown", "Z", false)
  | 3 => ("WakeSaver$Hand", "plannedCame", "I", false)
  | 4 => ("WakeSaver$Hand", "rung", "I", false)
  | 5 => ("WakeSaver$Hand", "open", "I", false)
  | 6 => ("WakeSaver$Hand", "wakeups", "I", false)
  | 7 => ("WakeSaver$Hand", "waits", "I", false)
  | 8 => ("WakeSaver$Hand", "last", "I", false)
  | 9 => ("WakeSaver$Hand", "tick", "I", false)
  | _ => ("WakeSaver$Hand", "rule", "I", false)
def tyX1 : Nat → FieldType := fun k => match k with
  | 0 => .object "WakeSaver$Calls"
  | 1 => .object "WakeSaver$Wakes"
  | 2 => .boolean
  | 3 => .int
  | 4 => .int
  | 5 => .int
  | 6 => .int
  | 7 => .int
  | 8 => .int
  | 9 => .int
  | _ => .int
abbrev wsX10 : List Cond := u_ws RX1 TX1 11
theorem nmX1 : ∀ a, a < 11 → ∀ b, b < 11 → a ≠ b → (TX1 a).2.1 ≠ (TX1 b).2.1 := by decide +kernel
theorem tyX1_ok : ∀ k, k < 11 → parseFieldDescriptor (TX1 k).2.2.1 = some (tyX1 k) := by decide +kernel
abbrev cX1_init : ByteArray := prog_3_method_1_code
def yX1_init : MethodName := ⟨RX1, "<init>", "()V"⟩
abbrev cX1_begin : ByteArray := prog_3_method_2_code
def yX1_begin : MethodName := ⟨RX1, "begin", "(LWakeSaver$Calls;)V"⟩
abbrev cX1_letCome : ByteArray := prog_3_method_3_code
def yX1_letCome : MethodName := ⟨RX1, "letCome", "(LWakeSaver$Calls;)V"⟩
abbrev cX1_passTick : ByteArray := prog_3_method_4_code
def yX1_passTick : MethodName := ⟨RX1, "passTick", "(LWakeSaver$Calls;I)Z"⟩
abbrev cX1_wakeHere : ByteArray := prog_3_method_5_code
def yX1_wakeHere : MethodName := ⟨RX1, "wakeHere", "()V"⟩
abbrev cX1_addRung : ByteArray := prog_3_method_6_code
def yX1_addRung : MethodName := ⟨RX1, "addRung", "(II)V"⟩
abbrev cX1_setRule : ByteArray := prog_3_method_7_code
def yX1_setRule : MethodName := ⟨RX1, "setRule", "(I)V"⟩
abbrev cX1_ruleNow : ByteArray := prog_3_method_8_code
def yX1_ruleNow : MethodName := ⟨RX1, "ruleNow", "()I"⟩
abbrev cX1_tick : ByteArray := prog_3_method_9_code
def yX1_tick : MethodName := ⟨RX1, "tick", "()I"⟩
abbrev cX1_rungCalls : ByteArray := prog_3_method_10_code
def yX1_rungCalls : MethodName := ⟨RX1, "rungCalls", "()I"⟩
abbrev cX1_callsCame : ByteArray := prog_3_method_11_code
def yX1_callsCame : MethodName := ⟨RX1, "callsCame", "()I"⟩
abbrev cX1_openCalls : ByteArray := prog_3_method_12_code
def yX1_openCalls : MethodName := ⟨RX1, "openCalls", "()I"⟩
abbrev cX1_wakeups : ByteArray := prog_3_method_13_code
def yX1_wakeups : MethodName := ⟨RX1, "wakeups", "()I"⟩
abbrev cX1_latestWake : ByteArray := prog_3_method_14_code
def yX1_latestWake : MethodName := ⟨RX1, "latestWake", "()I"⟩
abbrev cX1_costSoFar : ByteArray := prog_3_method_15_code
def yX1_costSoFar : MethodName := ⟨RX1, "costSoFar", "(I)I"⟩
abbrev cX1_openWaits : ByteArray := prog_3_method_16_code
def yX1_openWaits : MethodName := ⟨RX1, "openWaits", "()I"⟩
abbrev cX1_openLatest : ByteArray := prog_3_method_17_code
def yX1_openLatest : MethodName := ⟨RX1, "openLatest", "()I"⟩
abbrev cX1_hindsight : ByteArray := prog_3_method_18_code
def yX1_hindsight : MethodName := ⟨RX1, "hindsight", "(LWakeSaver$Planner;LWakeSaver$Setup;)LWakeSaver$Wakes;"⟩
abbrev cX1_costOf : ByteArray := prog_3_method_19_code
def yX1_costOf : MethodName := ⟨RX1, "costOf", "(LWakeSaver$Wakes;I)I"⟩
def RX2 : String := "WakeSaver$Planner"
def TX2 : u_T := fun k => match k with
  | 0 => ("WakeSaver$Planner", "costs", "[I", true)
  | 1 => ("WakeSaver$Planner", "wakesLeft", "[I", true)
  | _ => ("WakeSaver$Planner", "nexts", "[I", true)
def tyX2 : Nat → FieldType := fun k => match k with
  | 0 => .array .int
  | 1 => .array .int
  | _ => .array .int
abbrev wsX20 : List Cond := u_ws RX2 TX2 3
theorem nmX2 : ∀ a, a < 3 → ∀ b, b < 3 → a ≠ b → (TX2 a).2.1 ≠ (TX2 b).2.1 := by decide +kernel
theorem tyX2_ok : ∀ k, k < 3 → parseFieldDescriptor (TX2 k).2.2.1 = some (tyX2 k) := by decide +kernel
abbrev cX2_init : ByteArray := prog_4_method_1_code
def yX2_init : MethodName := ⟨RX2, "<init>", "()V"⟩
abbrev cX2_make : ByteArray := prog_4_method_2_code
def yX2_make : MethodName := ⟨RX2, "make", "(ILWakeSaver$Calls;LWakeSaver$Setup;LWakeSaver$Wakes;)V"⟩
abbrev cX2_makeFewest : ByteArray := prog_4_method_3_code
def yX2_makeFewest : MethodName := ⟨RX2, "makeFewest", "(LWakeSaver$Calls;LWakeSaver$Wakes;)V"⟩
abbrev cX2_makeLive : ByteArray := prog_4_method_4_code
def yX2_makeLive : MethodName := ⟨RX2, "makeLive", "(ILWakeSaver$Calls;LWakeSaver$Setup;LWakeSaver$Wakes;)V"⟩
abbrev cX2_solve : ByteArray := prog_4_method_5_code
def yX2_solve : MethodName := ⟨RX2, "solve", "(LWakeSaver$Calls;LWakeSaver$Setup;Z)V"⟩
abbrev cX2_setBest : ByteArray := prog_4_method_6_code
def yX2_setBest : MethodName := ⟨RX2, "setBest", "(IIII)V"⟩
abbrev cX2_solveEnergy : ByteArray := prog_4_method_7_code
def yX2_solveEnergy : MethodName := ⟨RX2, "solveEnergy", "(IIIII)V"⟩
abbrev cX2_solveCost : ByteArray := prog_4_method_8_code
def yX2_solveCost : MethodName := ⟨RX2, "solveCost", "(ILWakeSaver$Calls;III)V"⟩
abbrev cX2_tryNext : ByteArray := prog_4_method_9_code
def yX2_tryNext : MethodName := ⟨RX2, "tryNext", "(III)V"⟩
abbrev cX2_follow : ByteArray := prog_4_method_10_code
def yX2_follow : MethodName := ⟨RX2, "follow", "(LWakeSaver$Wakes;)V"⟩
def RX3 : String := "WakeSaver$Reader"
def TX3 : u_T := fun k => match k with
  | 0 => ("WakeSaver$Reader", "tape", "LWakeSaver$Tape;", true)
  | 1 => ("WakeSaver$Reader", "fault", "I", false)
  | _ => ("WakeSaver$Reader", "place", "I", false)
def tyX3 : Nat → FieldType := fun k => match k with
  | 0 => .object "WakeSaver$Tape"
  | 1 => .int
  | _ => .int
abbrev wsX30 : List Cond := u_ws RX3 TX3 3
theorem nmX3 : ∀ a, a < 3 → ∀ b, b < 3 → a ≠ b → (TX3 a).2.1 ≠ (TX3 b).2.1 := by decide +kernel
theorem tyX3_ok : ∀ k, k < 3 → parseFieldDescriptor (TX3 k).2.2.1 = some (tyX3 k) := by decide +kernel
abbrev cX3_init : ByteArray := prog_5_method_1_code
def yX3_init : MethodName := ⟨RX3, "<init>", "()V"⟩
abbrev cX3_tape : ByteArray := prog_5_method_2_code
def yX3_tape : MethodName := ⟨RX3, "tape", "()LWakeSaver$Tape;"⟩
abbrev cX3_latestFault : ByteArray := prog_5_method_3_code
def yX3_latestFault : MethodName := ⟨RX3, "latestFault", "()I"⟩
abbrev cX3_faultPlace : ByteArray := prog_5_method_4_code
def yX3_faultPlace : MethodName := ⟨RX3, "faultPlace", "()I"⟩
abbrev cX3_read : ByteArray := prog_5_method_5_code
def yX3_read : MethodName := ⟨RX3, "read", "(LWakeSaver$Setup;)Z"⟩
abbrev cX3_fails : ByteArray := prog_5_method_6_code
def yX3_fails : MethodName := ⟨RX3, "fails", "(I)Z"⟩
abbrev cX3_line : ByteArray := prog_5_method_7_code
def yX3_line : MethodName := ⟨RX3, "line", "(LWakeSaver$Setup;)Z"⟩
abbrev cX3_closes : ByteArray := prog_5_method_8_code
def yX3_closes : MethodName := ⟨RX3, "closes", "()Z"⟩
abbrev cX3_classLine : ByteArray := prog_5_method_9_code
def yX3_classLine : MethodName := ⟨RX3, "classLine", "(LWakeSaver$Setup;)Z"⟩
abbrev cX3_timerLine : ByteArray := prog_5_method_10_code
def yX3_timerLine : MethodName := ⟨RX3, "timerLine", "(LWakeSaver$Setup;Z)Z"⟩
abbrev cX3_settingLine : ByteArray := prog_5_method_11_code
def yX3_settingLine : MethodName := ⟨RX3, "settingLine", "(LWakeSaver$Setup;I)Z"⟩
abbrev cX3_takeKind : ByteArray := prog_5_method_12_code
def yX3_takeKind : MethodName := ⟨RX3, "takeKind", "(LWakeSaver$Setup;)I"⟩
abbrev cX3_takeNumber : ByteArray := prog_5_method_13_code
def yX3_takeNumber : MethodName := ⟨RX3, "takeNumber", "(II)I"⟩
abbrev cX3_atName : ByteArray := prog_5_method_14_code
def yX3_atName : MethodName := ⟨RX3, "atName", "()Z"⟩
def RX4 : String := "WakeSaver$Round"
def TX4 : u_T := fun k => match k with
  | 0 => ("WakeSaver$Round", "slackAt", "[I", true)
  | 1 => ("WakeSaver$Round", "reach", "[I", true)
  | 2 => ("WakeSaver$Round", "hyper", "I", false)
  | 3 => ("WakeSaver$Round", "calls", "I", false)
  | 4 => ("WakeSaver$Round", "size", "I", false)
  | _ => ("WakeSaver$Round", "start", "I", false)
def tyX4 : Nat → FieldType := fun k => match k with
  | 0 => .array .int
  | 1 => .array .int
  | 2 => .int
  | 3 => .int
  | 4 => .int
  | _ => .int
abbrev wsX40 : List Cond := u_ws RX4 TX4 6
theorem nmX4 : ∀ a, a < 6 → ∀ b, b < 6 → a ≠ b → (TX4 a).2.1 ≠ (TX4 b).2.1 := by decide +kernel
theorem tyX4_ok : ∀ k, k < 6 → parseFieldDescriptor (TX4 k).2.2.1 = some (tyX4 k) := by decide +kernel
abbrev cX4_init : ByteArray := prog_6_method_1_code
def yX4_init : MethodName := ⟨RX4, "<init>", "()V"⟩
abbrev cX4_exists : ByteArray := prog_6_method_2_code
def yX4_exists : MethodName := ⟨RX4, "exists", "()Z"⟩
abbrev cX4_hyper : ByteArray := prog_6_method_3_code
def yX4_hyper : MethodName := ⟨RX4, "hyper", "()I"⟩
abbrev cX4_callsByHyper : ByteArray := prog_6_method_4_code
def yX4_callsByHyper : MethodName := ⟨RX4, "callsByHyper", "()I"⟩
abbrev cX4_size : ByteArray := prog_6_method_5_code
def yX4_size : MethodName := ⟨RX4, "size", "()I"⟩
abbrev cX4_start : ByteArray := prog_6_method_6_code
def yX4_start : MethodName := ⟨RX4, "start", "()I"⟩
abbrev cX4_make : ByteArray := prog_6_method_7_code
def yX4_make : MethodName := ⟨RX4, "make", "(LWakeSaver$Setup;)V"⟩
abbrev cX4_hyperOf : ByteArray := prog_6_method_8_code
def yX4_hyperOf : MethodName := ⟨RX4, "hyperOf", "(LWakeSaver$Setup;)I"⟩
abbrev cX4_leastShared : ByteArray := prog_6_method_9_code
def yX4_leastShared : MethodName := ⟨RX4, "leastShared", "(II)I"⟩
abbrev cX4_callsOf : ByteArray := prog_6_method_10_code
def yX4_callsOf : MethodName := ⟨RX4, "callsOf", "(LWakeSaver$Setup;)I"⟩
abbrev cX4_fillSlacks : ByteArray := prog_6_method_11_code
def yX4_fillSlacks : MethodName := ⟨RX4, "fillSlacks", "(LWakeSaver$Setup;)V"⟩
abbrev cX4_fillReach : ByteArray := prog_6_method_12_code
def yX4_fillReach : MethodName := ⟨RX4, "fillReach", "()V"⟩
abbrev cX4_choose : ByteArray := prog_6_method_13_code
def yX4_choose : MethodName := ⟨RX4, "choose", "()V"⟩
abbrev cX4_wakesFrom : ByteArray := prog_6_method_14_code
def yX4_wakesFrom : MethodName := ⟨RX4, "wakesFrom", "(I)I"⟩
abbrev cX4_tickAt : ByteArray := prog_6_method_15_code
def yX4_tickAt : MethodName := ⟨RX4, "tickAt", "(I)I"⟩
def RX5 : String := "WakeSaver$Setup"
def TX5 : u_T := fun k => match k with
  | 0 => ("WakeSaver$Setup", "names", "[I", true)
  | 1 => ("WakeSaver$Setup", "parents", "[I", true)
  | 2 => ("WakeSaver$Setup", "slacks", "[I", true)
  | 3 => ("WakeSaver$Setup", "weights", "[I", true)
  | 4 => ("WakeSaver$Setup", "kinds", "I", false)
  | 5 => ("WakeSaver$Setup", "timerKinds", "[I", true)
  | 6 => ("WakeSaver$Setup", "periods", "[I", true)
  | 7 => ("WakeSaver$Setup", "ticks", "[I", true)
  | 8 => ("WakeSaver$Setup", "timers", "I", false)
  | 9 => ("WakeSaver$Setup", "length", "I", false)
  | 10 => ("WakeSaver$Setup", "price", "I", false)
  | _ => ("WakeSaver$Setup", "stay", "I", false)
def tyX5 : Nat → FieldType := fun k => match k with
  | 0 => .array .int
  | 1 => .array .int
  | 2 => .array .int
  | 3 => .array .int
  | 4 => .int
  | 5 => .array .int
  | 6 => .array .int
  | 7 => .array .int
  | 8 => .int
  | 9 => .int
  | 10 => .int
  | _ => .int
abbrev wsX50 : List Cond := u_ws RX5 TX5 12
theorem nmX5 : ∀ a, a < 12 → ∀ b, b < 12 → a ≠ b → (TX5 a).2.1 ≠ (TX5 b).2.1 := by decide +kernel
theorem tyX5_ok : ∀ k, k < 12 → parseFieldDescriptor (TX5 k).2.2.1 = some (tyX5 k) := by decide +kernel
abbrev cX5_init : ByteArray := prog_7_method_1_code
def yX5_init : MethodName := ⟨RX5, "<init>", "()V"⟩
abbrev cX5_clear : ByteArray := prog_7_method_2_code
def yX5_clear : MethodName := ⟨RX5, "clear", "()V"⟩
abbrev cX5_kinds : ByteArray := prog_7_method_3_code
def yX5_kinds : MethodName := ⟨RX5, "kinds", "()I"⟩
abbrev cX5_timers : ByteArray := prog_7_method_4_code
def yX5_timers : MethodName := ⟨RX5, "timers", "()I"⟩
abbrev cX5_length : ByteArray := prog_7_method_5_code
def yX5_length : MethodName := ⟨RX5, "length", "()I"⟩
abbrev cX5_wakePrice : ByteArray := prog_7_method_6_code
def yX5_wakePrice : MethodName := ⟨RX5, "wakePrice", "()I"⟩
abbrev cX5_stay : ByteArray := prog_7_method_7_code
def yX5_stay : MethodName := ⟨RX5, "stay", "()I"⟩
abbrev cX5_setLength : ByteArray := prog_7_method_8_code
def yX5_setLength : MethodName := ⟨RX5, "setLength", "(I)V"⟩
abbrev cX5_setPrice : ByteArray := prog_7_method_9_code
def yX5_setPrice : MethodName := ⟨RX5, "setPrice", "(I)V"⟩
abbrev cX5_setStay : ByteArray := prog_7_method_10_code
def yX5_setStay : MethodName := ⟨RX5, "setStay", "(I)V"⟩
abbrev cX5_addKind : ByteArray := prog_7_method_11_code
def yX5_addKind : MethodName := ⟨RX5, "addKind", "(IIII)V"⟩
abbrev cX5_addTimer : ByteArray := prog_7_method_12_code
def yX5_addTimer : MethodName := ⟨RX5, "addTimer", "(III)V"⟩
abbrev cX5_hasKind : ByteArray := prog_7_method_13_code
def yX5_hasKind : MethodName := ⟨RX5, "hasKind", "(I)Z"⟩
abbrev cX5_hasTimer : ByteArray := prog_7_method_14_code
def yX5_hasTimer : MethodName := ⟨RX5, "hasTimer", "(I)Z"⟩
abbrev cX5_kindNamed : ByteArray := prog_7_method_15_code
def yX5_kindNamed : MethodName := ⟨RX5, "kindNamed", "(I)I"⟩
abbrev cX5_parentOf : ByteArray := prog_7_method_16_code
def yX5_parentOf : MethodName := ⟨RX5, "parentOf", "(I)I"⟩
abbrev cX5_ownSlack : ByteArray := prog_7_method_17_code
def yX5_ownSlack : MethodName := ⟨RX5, "ownSlack", "(I)I"⟩
abbrev cX5_ownWeight : ByteArray := prog_7_method_18_code
def yX5_ownWeight : MethodName := ⟨RX5, "ownWeight", "(I)I"⟩
abbrev cX5_setSlack : ByteArray := prog_7_method_19_code
def yX5_setSlack : MethodName := ⟨RX5, "setSlack", "(II)V"⟩
abbrev cX5_slackGiver : ByteArray := prog_7_method_20_code
def yX5_slackGiver : MethodName := ⟨RX5, "slackGiver", "(I)I"⟩
abbrev cX5_slackOf : ByteArray := prog_7_method_21_code
def yX5_slackOf : MethodName := ⟨RX5, "slackOf", "(I)I"⟩
abbrev cX5_weightOf : ByteArray := prog_7_method_22_code
def yX5_weightOf : MethodName := ⟨RX5, "weightOf", "(I)I"⟩
abbrev cX5_timersOf : ByteArray := prog_7_method_23_code
def yX5_timersOf : MethodName := ⟨RX5, "timersOf", "(I)I"⟩
abbrev cX5_heirsOf : ByteArray := prog_7_method_24_code
def yX5_heirsOf : MethodName := ⟨RX5, "heirsOf", "(I)I"⟩
abbrev cX5_kindOfTimer : ByteArray := prog_7_method_25_code
def yX5_kindOfTimer : MethodName := ⟨RX5, "kindOfTimer", "(I)I"⟩
abbrev cX5_periodOf : ByteArray := prog_7_method_26_code
def yX5_periodOf : MethodName := ⟨RX5, "periodOf", "(I)I"⟩
abbrev cX5_tickOf : ByteArray := prog_7_method_27_code
def yX5_tickOf : MethodName := ⟨RX5, "tickOf", "(I)I"⟩
abbrev cX5_callsAt : ByteArray := prog_7_method_28_code
def yX5_callsAt : MethodName := ⟨RX5, "callsAt", "(II)Z"⟩
abbrev cX5_callsInAll : ByteArray := prog_7_method_29_code
def yX5_callsInAll : MethodName := ⟨RX5, "callsInAll", "()I"⟩
def RX6 : String := "WakeSaver$Tape"
def TX6 : u_T := fun k => match k with
  | 0 => ("WakeSaver$Tape", "bytes", "[B", true)
  | 1 => ("WakeSaver$Tape", "size", "I", false)
  | 2 => ("WakeSaver$Tape", "start", "I", false)
  | 3 => ("WakeSaver$Tape", "next", "I", false)
  | 4 => ("WakeSaver$Tape", "type", "I", false)
  | _ => ("WakeSaver$Tape", "value", "I", false)
def tyX6 : Nat → FieldType := fun k => match k with
  | 0 => .array .byte
  | 1 => .int
  | 2 => .int
  | 3 => .int
  | 4 => .int
  | _ => .int
abbrev wsX60 : List Cond := u_ws RX6 TX6 6
theorem nmX6 : ∀ a, a < 6 → ∀ b, b < 6 → a ≠ b → (TX6 a).2.1 ≠ (TX6 b).2.1 := by decide +kernel
theorem tyX6_ok : ∀ k, k < 6 → parseFieldDescriptor (TX6 k).2.2.1 = some (tyX6 k) := by decide +kernel
abbrev cX6_init : ByteArray := prog_8_method_1_code
def yX6_init : MethodName := ⟨RX6, "<init>", "()V"⟩
abbrev cX6_size : ByteArray := prog_8_method_2_code
def yX6_size : MethodName := ⟨RX6, "size", "()I"⟩
abbrev cX6_addNumber : ByteArray := prog_8_method_3_code
def yX6_addNumber : MethodName := ⟨RX6, "addNumber", "(I)V"⟩
abbrev cX6_cut : ByteArray := prog_8_method_4_code
def yX6_cut : MethodName := ⟨RX6, "cut", "(I)V"⟩
abbrev cX6_rewind : ByteArray := prog_8_method_5_code
def yX6_rewind : MethodName := ⟨RX6, "rewind", "()V"⟩
abbrev cX6_advance : ByteArray := prog_8_method_6_code
def yX6_advance : MethodName := ⟨RX6, "advance", "()V"⟩
abbrev cX6_sortAt : ByteArray := prog_8_method_7_code
def yX6_sortAt : MethodName := ⟨RX6, "sortAt", "(I)I"⟩
abbrev cX6_type : ByteArray := prog_8_method_8_code
def yX6_type : MethodName := ⟨RX6, "type", "()I"⟩
abbrev cX6_value : ByteArray := prog_8_method_9_code
def yX6_value : MethodName := ⟨RX6, "value", "()I"⟩
abbrev cX6_start : ByteArray := prog_8_method_10_code
def yX6_start : MethodName := ⟨RX6, "start", "()I"⟩
abbrev cX6_reads : ByteArray := prog_8_method_11_code
def yX6_reads : MethodName := ⟨RX6, "reads", "(I)Z"⟩
def RX7 : String := "WakeSaver$Wakes"
def TX7 : u_T := fun k => match k with
  | 0 => ("WakeSaver$Wakes", "ticks", "[I", true)
  | _ => ("WakeSaver$Wakes", "size", "I", false)
def tyX7 : Nat → FieldType := fun k => match k with
  | 0 => .array .int
  | _ => .int
abbrev wsX70 : List Cond := u_ws RX7 TX7 2
theorem nmX7 : ∀ a, a < 2 → ∀ b, b < 2 → a ≠ b → (TX7 a).2.1 ≠ (TX7 b).2.1 := by decide +kernel
theorem tyX7_ok : ∀ k, k < 2 → parseFieldDescriptor (TX7 k).2.2.1 = some (tyX7 k) := by decide +kernel
abbrev cX7_init : ByteArray := prog_9_method_1_code
def yX7_init : MethodName := ⟨RX7, "<init>", "(I)V"⟩
abbrev cX7_clear : ByteArray := prog_9_method_2_code
def yX7_clear : MethodName := ⟨RX7, "clear", "()V"⟩
abbrev cX7_add : ByteArray := prog_9_method_3_code
def yX7_add : MethodName := ⟨RX7, "add", "(I)V"⟩
abbrev cX7_size : ByteArray := prog_9_method_4_code
def yX7_size : MethodName := ⟨RX7, "size", "()I"⟩
abbrev cX7_has : ByteArray := prog_9_method_5_code
def yX7_has : MethodName := ⟨RX7, "has", "(I)Z"⟩
abbrev cX7_tickAt : ByteArray := prog_9_method_6_code
def yX7_tickAt : MethodName := ⟨RX7, "tickAt", "(I)I"⟩
abbrev cX7_firstFrom : ByteArray := prog_9_method_7_code
def yX7_firstFrom : MethodName := ⟨RX7, "firstFrom", "(I)I"⟩
abbrev cX7_costFor : ByteArray := prog_9_method_8_code
def yX7_costFor : MethodName := ⟨RX7, "costFor", "(LWakeSaver$Calls;I)I"⟩
abbrev cX7_waitsOf : ByteArray := prog_9_method_9_code
def yX7_waitsOf : MethodName := ⟨RX7, "waitsOf", "(LWakeSaver$Calls;)I"⟩
abbrev cX7_waitOf : ByteArray := prog_9_method_10_code
def yX7_waitOf : MethodName := ⟨RX7, "waitOf", "(LWakeSaver$Calls;I)I"⟩
abbrev cX7_longestWait : ByteArray := prog_9_method_11_code
def yX7_longestWait : MethodName := ⟨RX7, "longestWait", "(LWakeSaver$Calls;)I"⟩
abbrev cX7_mostAnswered : ByteArray := prog_9_method_12_code
def yX7_mostAnswered : MethodName := ⟨RX7, "mostAnswered", "(LWakeSaver$Calls;)I"⟩
abbrev cX7_energy : ByteArray := prog_9_method_13_code
def yX7_energy : MethodName := ⟨RX7, "energy", "(II)I"⟩
abbrev cX7_liveEnergy : ByteArray := prog_9_method_14_code
def yX7_liveEnergy : MethodName := ⟨RX7, "liveEnergy", "(III)I"⟩
def RX8 : String := "WakeSaver"
def TX8 : u_T := fun k => match k with
  | 0 => ("WakeSaver", "tape", "LWakeSaver$Tape;", true)
  | 1 => ("WakeSaver", "reader", "LWakeSaver$Reader;", true)
  | 2 => ("WakeSaver", "setup", "LWakeSaver$Setup;", false)
  | 3 => ("WakeSaver", "spare", "LWakeSaver$Setup;", false)
  | 4 => ("WakeSaver", "calls", "LWakeSaver$Calls;", true)
  | 5 => ("WakeSaver", "plans", "[LWakeSaver$Wakes;", true)
  | 6 => ("WakeSaver", "planned", "[Z", true)
  | 7 => ("WakeSaver", "planner", "LWakeSaver$Planner;", true)
  | 8 => ("WakeSaver", "byHand", "LWakeSaver$Hand;", true)
  | 9 => ("WakeSaver", "forEver", "LWakeSaver$Round;", true)
  | 10 => ("WakeSaver", "roundKnown", "Z", false)
  | 11 => ("WakeSaver", "otherCalls", "LWakeSaver$Calls;", true)
  | 12 => ("WakeSaver", "otherWakes", "LWakeSaver$Wakes;", true)
  | _ => ("WakeSaver", "otherRound", "LWakeSaver$Round;", true)
def tyX8 : Nat → FieldType := fun k => match k with
  | 0 => .object "WakeSaver$Tape"
  | 1 => .object "WakeSaver$Reader"
  | 2 => .object "WakeSaver$Setup"
  | 3 => .object "WakeSaver$Setup"
  | 4 => .object "WakeSaver$Calls"
  | 5 => .array (.object "WakeSaver$Wakes")
  | 6 => .array .boolean
  | 7 => .object "WakeSaver$Planner"
  | 8 => .object "WakeSaver$Hand"
  | 9 => .object "WakeSaver$Round"
  | 10 => .boolean
  | 11 => .object "WakeSaver$Calls"
  | 12 => .object "WakeSaver$Wakes"
  | _ => .object "WakeSaver$Round"
abbrev wsX80 : List Cond := u_ws RX8 TX8 14
theorem nmX8 : ∀ a, a < 14 → ∀ b, b < 14 → a ≠ b → (TX8 a).2.1 ≠ (TX8 b).2.1 := by decide +kernel
theorem tyX8_ok : ∀ k, k < 14 → parseFieldDescriptor (TX8 k).2.2.1 = some (tyX8 k) := by decide +kernel
abbrev cX8_init : ByteArray := prog_1_method_1_code
def yX8_init : MethodName := ⟨RX8, "<init>", "()V"⟩
abbrev cX8_feed : ByteArray := prog_1_method_2_code
def yX8_feed : MethodName := ⟨RX8, "feed", "(IIIII)I"⟩
abbrev cX8_end : ByteArray := prog_1_method_3_code
def yX8_end : MethodName := ⟨RX8, "end", "(I)I"⟩
abbrev cX8_text : ByteArray := prog_1_method_4_code
def yX8_text : MethodName := ⟨RX8, "text", "()I"⟩
abbrev cX8_fault : ByteArray := prog_1_method_5_code
def yX8_fault : MethodName := ⟨RX8, "fault", "(I)I"⟩
abbrev cX8_count : ByteArray := prog_1_method_6_code
def yX8_count : MethodName := ⟨RX8, "count", "(I)I"⟩
abbrev cX8_kind : ByteArray := prog_1_method_7_code
def yX8_kind : MethodName := ⟨RX8, "kind", "(II)I"⟩
abbrev cX8_slacken : ByteArray := prog_1_method_8_code
def yX8_slacken : MethodName := ⟨RX8, "slacken", "(II)Z"⟩
abbrev cX8_call : ByteArray := prog_1_method_9_code
def yX8_call : MethodName := ⟨RX8, "call", "(II)I"⟩
abbrev cX8_wakes : ByteArray := prog_1_method_10_code
def yX8_wakes : MethodName := ⟨RX8, "wakes", "(I)I"⟩
abbrev cX8_wake : ByteArray := prog_1_method_11_code
def yX8_wake : MethodName := ⟨RX8, "wake", "(II)I"⟩
abbrev cX8_price : ByteArray := prog_1_method_12_code
def yX8_price : MethodName := ⟨RX8, "price", "(II)I"⟩
abbrev cX8_proof : ByteArray := prog_1_method_13_code
def yX8_proof : MethodName := ⟨RX8, "proof", "(I)I"⟩
abbrev cX8_answer : ByteArray := prog_1_method_14_code
def yX8_answer : MethodName := ⟨RX8, "answer", "(II)I"⟩
abbrev cX8_rule : ByteArray := prog_1_method_15_code
def yX8_rule : MethodName := ⟨RX8, "rule", "(I)Z"⟩
abbrev cX8_go : ByteArray := prog_1_method_16_code
def yX8_go : MethodName := ⟨RX8, "go", "(I)I"⟩
abbrev cX8_ring : ByteArray := prog_1_method_17_code
def yX8_ring : MethodName := ⟨RX8, "ring", "(I)I"⟩
abbrev cX8_now : ByteArray := prog_1_method_18_code
def yX8_now : MethodName := ⟨RX8, "now", "()I"⟩
abbrev cX8_hand : ByteArray := prog_1_method_19_code
def yX8_hand : MethodName := ⟨RX8, "hand", "(I)I"⟩
abbrev cX8_round : ByteArray := prog_1_method_20_code
def yX8_round : MethodName := ⟨RX8, "round", "(I)I"⟩
abbrev cX8_roundAt : ByteArray := prog_1_method_21_code
def yX8_roundAt : MethodName := ⟨RX8, "roundAt", "(I)I"⟩
abbrev cX8_would : ByteArray := prog_1_method_22_code
def yX8_would : MethodName := ⟨RX8, "would", "(III)I"⟩
abbrev cX8_enough : ByteArray := prog_1_method_23_code
def yX8_enough : MethodName := ⟨RX8, "enough", "(II)I"⟩
abbrev cX8_takeClasses : ByteArray := prog_1_method_24_code
def yX8_takeClasses : MethodName := ⟨RX8, "takeClasses", "()V"⟩
abbrev cX8_planOf : ByteArray := prog_1_method_25_code
def yX8_planOf : MethodName := ⟨RX8, "planOf", "(I)LWakeSaver$Wakes;"⟩
abbrev cX8_roundMade : ByteArray := prog_1_method_26_code
def yX8_roundMade : MethodName := ⟨RX8, "roundMade", "()LWakeSaver$Round;"⟩
abbrev cX8_supposed : ByteArray := prog_1_method_27_code
def yX8_supposed : MethodName := ⟨RX8, "supposed", "(III)I"⟩
abbrev cX8_handEnded : ByteArray := prog_1_method_28_code
def yX8_handEnded : MethodName := ⟨RX8, "handEnded", "()Z"⟩
def RX9 : String := "WakeSaverModel"
def TX9 : u_T := fun k => match k with
  | 0 => ("WakeSaverModel", "all", "[I", true)
  | 1 => ("WakeSaverModel", "tape", "[I", true)
  | 2 => ("WakeSaverModel", "names", "[J", true)
  | 3 => ("WakeSaverModel", "taped", "I", false)
  | 4 => ("WakeSaverModel", "faultKind", "I", false)
  | 5 => ("WakeSaverModel", "faultPlace", "I", false)
  | 6 => ("WakeSaverModel", "from", "[I", true)
  | 7 => ("WakeSaverModel", "latest", "[I", true)
  | 8 => ("WakeSaverModel", "heavy", "[I", true)
  | 9 => ("WakeSaverModel", "timerOf", "[I", true)
  | 10 => ("WakeSaverModel", "many", "I", false)
  | 11 => ("WakeSaverModel", "wake", "[I", true)
  | 12 => ("WakeSaverModel", "wakes", "I", false)
  | 13 => ("WakeSaverModel", "bestCost", "[J", true)
  | 14 => ("WakeSaverModel", "bestMany", "[I", true)
  | 15 => ("WakeSaverModel", "bestNext", "[I", true)
  | 16 => ("WakeSaverModel", "handFrom", "[I", true)
  | 17 => ("WakeSaverModel", "handLatest", "[I", true)
  | 18 => ("WakeSaverModel", "handHeavy", "[I", true)
  | 19 => ("WakeSaverModel", "handAt", "[I", true)
  | 20 => ("WakeSaverModel", "handMany", "I", false)
  | 21 => ("WakeSaverModel", "handWakes", "I", false)
  | 22 => ("WakeSaverModel", "handLast", "I", false)
  | 23 => ("WakeSaverModel", "now", "I", false)
  | 24 => ("WakeSaverModel", "rule", "I", false)
  | 25 => ("WakeSaverModel", "rung", "I", false)
  | 26 => ("WakeSaverModel", "hyper", "I", false)
  | 27 => ("WakeSaverModel", "hyperCalls", "I", false)
  | 28 => ("WakeSaverModel", "around", "[I", true)
  | 29 => ("WakeSaverModel", "bestAround", "[I", true)
  | 30 => ("WakeSaverModel", "aroundMany", "I", false)
  | 31 => ("WakeSaverModel", "bestAroundMany", "I", false)
  | 32 => ("WakeSaverModel", "bestP", "I", false)
  | 33 => ("WakeSaverModel", "size0", "I", false)
  | 34 => ("WakeSaverModel", "next", "I", false)
  | 35 => ("WakeSaverModel", "token", "I", false)
  | 36 => ("WakeSaverModel", "place", "I", false)
  | 37 => ("WakeSaverModel", "tokenLong", "I", false)
  | _ => ("WakeSaverModel", "value", "J", false)
def tyX9 : Nat → FieldType := fun k => match k with
  | 0 => .array .int
  | 1 => .array .int
  | 2 => .array .long
  | 3 => .int
  | 4 => .int
  | 5 => .int
  | 6 => .array .int
  | 7 => .array .int
  | 8 => .array .int
  | 9 => .array .int
  | 10 => .int
  | 11 => .array .int
  | 12 => .int
  | 13 => .array .long
  | 14 => .array .int
  | 15 => .array .int
  | 16 => .array .int
  | 17 => .array .int
  | 18 => .array .int
  | 19 => .array .int
  | 20 => .int
  | 21 => .int
  | 22 => .int
  | 23 => .int
  | 24 => .int
  | 25 => .int
  | 26 => .int
  | 27 => .int
  | 28 => .array .int
  | 29 => .array .int
  | 30 => .int
  | 31 => .int
  | 32 => .int
  | 33 => .int
  | 34 => .int
  | 35 => .int
  | 36 => .int
  | 37 => .int
  | _ => .long
abbrev wsX90 : List Cond := u_ws RX9 TX9 39
theorem nmX9 : ∀ a, a < 39 → ∀ b, b < 39 → a ≠ b → (TX9 a).2.1 ≠ (TX9 b).2.1 := by decide +kernel
theorem tyX9_ok : ∀ k, k < 39 → parseFieldDescriptor (TX9 k).2.2.1 = some (tyX9 k) := by decide +kernel
abbrev cX9_init : ByteArray := prog_11_method_1_code
def yX9_init : MethodName := ⟨RX9, "<init>", "()V"⟩
abbrev cX9_firsts : ByteArray := prog_11_method_2_code
def yX9_firsts : MethodName := ⟨RX9, "firsts", "(I)V"⟩
abbrev cX9_isIn : ByteArray := prog_11_method_3_code
def yX9_isIn : MethodName := ⟨RX9, "isIn", "(III)Z"⟩
abbrev cX9_kinds : ByteArray := prog_11_method_4_code
def yX9_kinds : MethodName := ⟨RX9, "kinds", "()I"⟩
abbrev cX9_timers : ByteArray := prog_11_method_5_code
def yX9_timers : MethodName := ⟨RX9, "timers", "()I"⟩
abbrev cX9_isKind : ByteArray := prog_11_method_6_code
def yX9_isKind : MethodName := ⟨RX9, "isKind", "(I)Z"⟩
abbrev cX9_nearest : ByteArray := prog_11_method_7_code
def yX9_nearest : MethodName := ⟨RX9, "nearest", "(II)I"⟩
abbrev cX9_slack : ByteArray := prog_11_method_8_code
def yX9_slack : MethodName := ⟨RX9, "slack", "(I)I"⟩
abbrev cX9_weight : ByteArray := prog_11_method_9_code
def yX9_weight : MethodName := ⟨RX9, "weight", "(I)I"⟩
abbrev cX9_calls : ByteArray := prog_11_method_10_code
def yX9_calls : MethodName := ⟨RX9, "calls", "(II)Z"⟩
abbrev cX9_cut : ByteArray := prog_11_method_11_code
def yX9_cut : MethodName := ⟨RX9, "cut", "(I)I"⟩
abbrev cX9_laysCalls : ByteArray := prog_11_method_12_code
def yX9_laysCalls : MethodName := ⟨RX9, "laysCalls", "()V"⟩
abbrev cX9_wakesAt : ByteArray := prog_11_method_13_code
def yX9_wakesAt : MethodName := ⟨RX9, "wakesAt", "(I)V"⟩
abbrev cX9_leastBehind : ByteArray := prog_11_method_14_code
def yX9_leastBehind : MethodName := ⟨RX9, "leastBehind", "(I)I"⟩
abbrev cX9_laysFewest : ByteArray := prog_11_method_15_code
def yX9_laysFewest : MethodName := ⟨RX9, "laysFewest", "()V"⟩
abbrev cX9_laysBest : ByteArray := prog_11_method_16_code
def yX9_laysBest : MethodName := ⟨RX9, "laysBest", "(IZ)V"⟩
abbrev cX9_stay : ByteArray := prog_11_method_17_code
def yX9_stay : MethodName := ⟨RX9, "stay", "(II)I"⟩
abbrev cX9_waits : ByteArray := prog_11_method_18_code
def yX9_waits : MethodName := ⟨RX9, "waits", "(II)I"⟩
abbrev cX9_laysDearest : ByteArray := prog_11_method_19_code
def yX9_laysDearest : MethodName := ⟨RX9, "laysDearest", "(Z)V"⟩
abbrev cX9_wakesBy : ByteArray := prog_11_method_20_code
def yX9_wakesBy : MethodName := ⟨RX9, "wakesBy", "(III)Z"⟩
abbrev cX9_laysLive : ByteArray := prog_11_method_21_code
def yX9_laysLive : MethodName := ⟨RX9, "laysLive", "(I)V"⟩
abbrev cX9_laysPlan : ByteArray := prog_11_method_22_code
def yX9_laysPlan : MethodName := ⟨RX9, "laysPlan", "(I)Z"⟩
abbrev cX9_answers : ByteArray := prog_11_method_23_code
def yX9_answers : MethodName := ⟨RX9, "answers", "(I)I"⟩
abbrev cX9_waitsAll : ByteArray := prog_11_method_24_code
def yX9_waitsAll : MethodName := ⟨RX9, "waitsAll", "()I"⟩
abbrev cX9_energy : ByteArray := prog_11_method_25_code
def yX9_energy : MethodName := ⟨RX9, "energy", "()I"⟩
abbrev cX9_awake : ByteArray := prog_11_method_26_code
def yX9_awake : MethodName := ⟨RX9, "awake", "()I"⟩
abbrev cX9_liveEnergy : ByteArray := prog_11_method_27_code
def yX9_liveEnergy : MethodName := ⟨RX9, "liveEnergy", "()I"⟩
abbrev cX9_mostAnswered : ByteArray := prog_11_method_28_code
def yX9_mostAnswered : MethodName := ⟨RX9, "mostAnswered", "()I"⟩
abbrev cX9_longestWait : ByteArray := prog_11_method_29_code
def yX9_longestWait : MethodName := ⟨RX9, "longestWait", "()I"⟩
abbrev cX9_comes : ByteArray := prog_11_method_30_code
def yX9_comes : MethodName := ⟨RX9, "comes", "(I)I"⟩
abbrev cX9_callsNow : ByteArray := prog_11_method_31_code
def yX9_callsNow : MethodName := ⟨RX9, "callsNow", "()V"⟩
abbrev cX9_begins : ByteArray := prog_11_method_32_code
def yX9_begins : MethodName := ⟨RX9, "begins", "()V"⟩
abbrev cX9_left : ByteArray := prog_11_method_33_code
def yX9_left : MethodName := ⟨RX9, "left", "()I"⟩
abbrev cX9_leftWaits : ByteArray := prog_11_method_34_code
def yX9_leftWaits : MethodName := ⟨RX9, "leftWaits", "(I)I"⟩
abbrev cX9_leftLatest : ByteArray := prog_11_method_35_code
def yX9_leftLatest : MethodName := ⟨RX9, "leftLatest", "()I"⟩
abbrev cX9_handWakes : ByteArray := prog_11_method_36_code
def yX9_handWakes : MethodName := ⟨RX9, "handWakes", "()V"⟩
abbrev cX9_isDue : ByteArray := prog_11_method_37_code
def yX9_isDue : MethodName := ⟨RX9, "isDue", "()Z"⟩
abbrev cX9_rule : ByteArray := prog_11_method_38_code
def yX9_rule : MethodName := ⟨RX9, "rule", "(I)Z"⟩
abbrev cX9_go : ByteArray := prog_11_method_39_code
def yX9_go : MethodName := ⟨RX9, "go", "(I)I"⟩
abbrev cX9_ring : ByteArray := prog_11_method_40_code
def yX9_ring : MethodName := ⟨RX9, "ring", "(I)I"⟩
abbrev cX9_now : ByteArray := prog_11_method_41_code
def yX9_now : MethodName := ⟨RX9, "now", "()I"⟩
abbrev cX9_handWaits : ByteArray := prog_11_method_42_code
def yX9_handWaits : MethodName := ⟨RX9, "handWaits", "()I"⟩
abbrev cX9_laysHindsight : ByteArray := prog_11_method_43_code
def yX9_laysHindsight : MethodName := ⟨RX9, "laysHindsight", "()V"⟩
abbrev cX9_hand : ByteArray := prog_11_method_44_code
def yX9_hand : MethodName := ⟨RX9, "hand", "(I)I"⟩
abbrev cX9_count : ByteArray := prog_11_method_45_code
def yX9_count : MethodName := ⟨RX9, "count", "(I)I"⟩
abbrev cX9_timersOf : ByteArray := prog_11_method_46_code
def yX9_timersOf : MethodName := ⟨RX9, "timersOf", "(I)I"⟩
abbrev cX9_heirs : ByteArray := prog_11_method_47_code
def yX9_heirs : MethodName := ⟨RX9, "heirs", "(I)I"⟩
abbrev cX9_kind : ByteArray := prog_11_method_48_code
def yX9_kind : MethodName := ⟨RX9, "kind", "(II)I"⟩
abbrev cX9_slacken : ByteArray := prog_11_method_49_code
def yX9_slacken : MethodName := ⟨RX9, "slacken", "(II)Z"⟩
abbrev cX9_call : ByteArray := prog_11_method_50_code
def yX9_call : MethodName := ⟨RX9, "call", "(II)I"⟩
abbrev cX9_wakes : ByteArray := prog_11_method_51_code
def yX9_wakes : MethodName := ⟨RX9, "wakes", "(I)I"⟩
abbrev cX9_wake : ByteArray := prog_11_method_52_code
def yX9_wake : MethodName := ⟨RX9, "wake", "(II)I"⟩
abbrev cX9_price : ByteArray := prog_11_method_53_code
def yX9_price : MethodName := ⟨RX9, "price", "(II)I"⟩
abbrev cX9_proof : ByteArray := prog_11_method_54_code
def yX9_proof : MethodName := ⟨RX9, "proof", "(I)I"⟩
abbrev cX9_answer : ByteArray := prog_11_method_55_code
def yX9_answer : MethodName := ⟨RX9, "answer", "(II)I"⟩
abbrev cX9_common : ByteArray := prog_11_method_56_code
def yX9_common : MethodName := ⟨RX9, "common", "(II)I"⟩
abbrev cX9_laysHyper : ByteArray := prog_11_method_57_code
def yX9_laysHyper : MethodName := ⟨RX9, "laysHyper", "()Z"⟩
abbrev cX9_nextLatest : ByteArray := prog_11_method_58_code
def yX9_nextLatest : MethodName := ⟨RX9, "nextLatest", "(I)I"⟩
abbrev cX9_laysRound : ByteArray := prog_11_method_59_code
def yX9_laysRound : MethodName := ⟨RX9, "laysRound", "()Z"⟩
abbrev cX9_round : ByteArray := prog_11_method_60_code
def yX9_round : MethodName := ⟨RX9, "round", "(I)I"⟩
abbrev cX9_roundAt : ByteArray := prog_11_method_61_code
def yX9_roundAt : MethodName := ⟨RX9, "roundAt", "(I)I"⟩
abbrev cX9_wouldBe : ByteArray := prog_11_method_62_code
def yX9_wouldBe : MethodName := ⟨RX9, "wouldBe", "(I)I"⟩
abbrev cX9_would : ByteArray := prog_11_method_63_code
def yX9_would : MethodName := ⟨RX9, "would", "(III)I"⟩
abbrev cX9_enough : ByteArray := prog_11_method_64_code
def yX9_enough : MethodName := ⟨RX9, "enough", "(II)I"⟩
abbrev cX9_feed : ByteArray := prog_11_method_65_code
def yX9_feed : MethodName := ⟨RX9, "feed", "(IIIII)I"⟩
abbrev cX9_end : ByteArray := prog_11_method_66_code
def yX9_end : MethodName := ⟨RX9, "end", "(I)I"⟩
abbrev cX9_fault : ByteArray := prog_11_method_67_code
def yX9_fault : MethodName := ⟨RX9, "fault", "(I)I"⟩
abbrev cX9_byteAt : ByteArray := prog_11_method_68_code
def yX9_byteAt : MethodName := ⟨RX9, "byteAt", "(I)I"⟩
abbrev cX9_isLetter : ByteArray := prog_11_method_69_code
def yX9_isLetter : MethodName := ⟨RX9, "isLetter", "(I)Z"⟩
abbrev cX9_isDigit : ByteArray := prog_11_method_70_code
def yX9_isDigit : MethodName := ⟨RX9, "isDigit", "(I)Z"⟩
abbrev cX9_takes : ByteArray := prog_11_method_71_code
def yX9_takes : MethodName := ⟨RX9, "takes", "()V"⟩
abbrev cX9_fails : ByteArray := prog_11_method_72_code
def yX9_fails : MethodName := ⟨RX9, "fails", "(II)V"⟩
abbrev cX9_isGood : ByteArray := prog_11_method_73_code
def yX9_isGood : MethodName := ⟨RX9, "isGood", "()Z"⟩
abbrev cX9_isWord : ByteArray := prog_11_method_74_code
def yX9_isWord : MethodName := ⟨RX9, "isWord", "(J)Z"⟩
abbrev cX9_hasWord : ByteArray := prog_11_method_75_code
def yX9_hasWord : MethodName := ⟨RX9, "hasWord", "(J)Z"⟩
abbrev cX9_numeral : ByteArray := prog_11_method_76_code
def yX9_numeral : MethodName := ⟨RX9, "numeral", "(II)I"⟩
abbrev cX9_isQuoted : ByteArray := prog_11_method_77_code
def yX9_isQuoted : MethodName := ⟨RX9, "isQuoted", "()Z"⟩
abbrev cX9_named : ByteArray := prog_11_method_78_code
def yX9_named : MethodName := ⟨RX9, "named", "()I"⟩
abbrev cX9_known : ByteArray := prog_11_method_79_code
def yX9_known : MethodName := ⟨RX9, "known", "()I"⟩
abbrev cX9_readsClass : ByteArray := prog_11_method_80_code
def yX9_readsClass : MethodName := ⟨RX9, "readsClass", "(I)V"⟩
abbrev cX9_readsTimer : ByteArray := prog_11_method_81_code
def yX9_readsTimer : MethodName := ⟨RX9, "readsTimer", "(IZ)V"⟩
abbrev cX9_readsLine : ByteArray := prog_11_method_82_code
def yX9_readsLine : MethodName := ⟨RX9, "readsLine", "()V"⟩
abbrev cX9_readCalls : ByteArray := prog_11_method_83_code
def yX9_readCalls : MethodName := ⟨RX9, "readCalls", "()I"⟩
abbrev cX9_text : ByteArray := prog_11_method_84_code
def yX9_text : MethodName := ⟨RX9, "text", "()I"⟩
def RL : String := "WakeSaverLaw"
abbrev cL_law : ByteArray := code
abbrev vwCl : List vw_C := [(RX0, TX0, 5), (RX1, TX1, 11), (RX2, TX2, 3), (RX3, TX3, 3), (RX4, TX4, 6), (RX5, TX5, 12), (RX6, TX6, 6), (RX7, TX7, 2), (RX8, TX8, 14), (RX9, TX9, 39)]
end
section
/-! ===== the abstract machine: whole numbers for ints and longs, numbers of cells for references ===== -/
abbrev AV : Type := Int ⊕ Int ⊕ Int
abbrev vI (x : Int) : AV := Sum.inl x
abbrev vR (a : Int) : AV := Sum.inr (Sum.inl a)
abbrev vL (x : Int) : AV := Sum.inr (Sum.inr x)
abbrev AH : Type := Int → Int → Int
/-- a world's shape: how many cells; each one's kind and length; its final references -/
abbrev WS : Type := Nat × (Int → Nat × Nat) × (Int → Int → Int)
def wt (w : WS) (a : Int) : Nat := (w.2.1 a).1
def wn (w : WS) (a : Int) : Nat := (w.2.1 a).2
def wl (w : WS) (a : Int) : Int := (wn w a : Int)
def wf (w : WS) (a i : Int) : Int := w.2.2 a i
/-- where things lie: our first cell; the script; the quoted words; the classes' numbers; the heap at the start -/
abbrev EV : Type := Nat × Nat × Nat × va_G × Heap
abbrev eB (E : EV) : Nat := E.1
abbrev eS (E : EV) : Nat := E.2.1
abbrev eQ (E : EV) : Nat := E.2.2.1
abbrev eD (E : EV) : va_G := E.2.2.2.1
abbrev eH (E : EV) : Heap := E.2.2.2.2
def ad (E : EV) (a : Int) : Nat := if a = -1 then eS E else if a = -2 then eQ E else eB E + (a - 1).toNat
def rf (E : EV) (a : Int) : Value := if a = 0 then .null else .ref (ad E a)
def tr (E : EV) (v : AV) : Value := match v with
  | .inl x => .int (Int32.ofInt x)
  | .inr (.inl a) => rf E a
  | .inr (.inr x) => .long (Int64.ofInt x)
def TC : Nat → u_T := fun k => match k with
  | 0 => TX0
  | 1 => TX1
  | 2 => TX2
  | 3 => TX3
  | 4 => TX4
  | 5 => TX5
  | 6 => TX6
  | 7 => TX7
  | 8 => TX8
  | _ => TX9
def tyC : Nat → Nat → FieldType := fun k => match k with
  | 0 => tyX0
  | 1 => tyX1
  | 2 => tyX2
  | 3 => tyX3
  | 4 => tyX4
  | 5 => tyX5
  | 6 => tyX6
  | 7 => tyX7
  | 8 => tyX8
  | _ => tyX9
def fvv (E : EV) (t : FieldType) (fin : Bool) (x y : Int) : Value := match t with
  | .long => .long (Int64.ofInt x)
  | .object _ => rf E (bif fin then y else x)
  | .array _ => rf E (bif fin then y else x)
  | _ => .int (Int32.ofInt x)
def fv (E : EV) (w : WS) (h : AH) (k : Nat) (a : Int) (i : Nat) : Value := fvv E (tyC k i) (TC k i).2.2.2 (h a i) (wf w a i)
def arrAt (s : State) (E : EV) (w : WS) (H : Heap) (a : Int) (ty : FieldType) (f : Nat → Value) : Prop :=
  ∃ cell : Cell, H[ad E a]? = some cell ∧ s.isArrayOf cell ty ∧ cell.vm ≠ .unknown ∧ cell.slots.size = wn w a ∧ ∀ j : Nat, j < wn w a → cell.slots[j]? = some (f j)
def cellAt (s : State) (E : EV) (w : WS) (h : AH) (H : Heap) (a : Int) : Prop :=
  (wt w a = 1 → arrAt s E w H a .int (fun j => .int (Int32.ofInt (h a j)))) ∧
  (wt w a = 2 → arrAt s E w H a .byte (fun j => .int (Int32.ofInt (h a j)))) ∧
  (wt w a = 3 → arrAt s E w H a .boolean (fun j => .int (Int32.ofInt (h a j)))) ∧
  (wt w a = 4 → arrAt s E w H a .long (fun j => .long (Int64.ofInt (h a j)))) ∧
  (wt w a = 6 → arrAt s E w H a .int (fun j => .int (Int32.ofInt (h a j)))) ∧
  (wt w a = 7 → arrAt s E w H a .long (fun j => .long (Int64.ofInt (h a j)))) ∧
  (wt w a = 5 → arrAt s E w H a (.object RX7) (fun j => rf E (h a j)) ∧ ∃ (cell : Cell) (kA : Class) (comp : ClassId), H[ad E a]? = some cell ∧ s.vm.classes[cell.cls]? = some kA ∧ kA.kind = .array comp (.object RX7) ∧ s.vm.findClass RX7 = some comp) ∧
  ∀ k : Nat, wt w a = 10 + k → ∃ q : vw_C, vwCl[k]? = some q ∧ t_OB (ad E a) ((eD E).1 k) q.2.2 ((eD E).2 k) H (fun i => fv E w h k a i)
def Fix (s : State) (E : EV) : Prop := va_K (eD E) vwCl [] s ∧ eS E < eB E ∧ eQ E < eB E ∧ va_Z RX9 "QUOTED" "[J" (.ref (eQ E)) (fun q => eB E ≤ q) s (eH E) ∧ (eH E).size = eB E
def Rep (s : State) (E : EV) (w : WS) (h : AH) (H : Heap) : Prop :=
  H.size = eB E + w.1 ∧ (∀ q : Nat, q < eB E → H[q]? = (eH E)[q]?) ∧ (∀ a : Int, wt w a ≠ 0 → ((a = -1 ∧ wt w a = 6) ∨ (a = -2 ∧ wt w a = 7) ∨ (1 ≤ a ∧ a ≤ w.1 ∧ wt w a ≠ 6 ∧ wt w a ≠ 7)) ∧ wn w a ≤ 2147483647) ∧ (∀ a : Int, cellAt s E w h H a) ∧ Fix s E
/-- one value of one cell is another -/
def st (h : AH) (a i v : Int) : AH := fun b j => if b = a ∧ j = i then v else h b j
theorem st_same (h : AH) (a i v : Int) : st h a i v a i = v := by simp [st]
theorem st_cell (h : AH) {a b : Int} (i v j : Int) (hb : b ≠ a) : st h a i v b j = h b j := by simp [st, hb]
theorem st_slot (h : AH) (a b : Int) {i j : Int} (v : Int) (hj : j ≠ i) : st h a i v b j = h b j := by simp [st, hj]
theorem st_row (h : AH) {a b : Int} (i v : Int) (hb : b ≠ a) : st h a i v b = h b := by funext j; simp [st, hb]
/-- a method: its name, bytes, locals, answer, class, and how deep it calls -/
abbrev MI : Type := MethodName × ByteArray × Nat × Option FieldType × String × Nat
abbrev mY (M : MI) : MethodName := M.1
abbrev mC (M : MI) : ByteArray := M.2.1
abbrev mL (M : MI) : Nat := M.2.2.1
abbrev mR (M : MI) : Option FieldType := M.2.2.2.1
abbrev mO (M : MI) : String := M.2.2.2.2.1
abbrev mK (M : MI) : Nat := M.2.2.2.2.2
/-- the tables' words that hold in every callee, too -/
def lw_g : List Cond := lw_tbl.filter goodWord
theorem mem_g {w : Cond} (i : Nat) (h : lw_tbl[i]? = some w) (hg : goodWord w = true) : w ∈ lw_g := List.mem_filter.mpr ⟨List.mem_of_getElem? h, hg⟩
def wsM (M : MI) : List Cond := Cond.code (mY M) (mC M) (mL M) (mR M) :: lw_g
/-- the words of locals that a method so deep has room for (the law itself: 9) -/
def rl (k : Nat) : Nat := if k = 9 then 366 else 40 * k
theorem rl_ge {k : Nat} (h : 1 ≤ k) : 40 ≤ rl k := by unfold rl; split <;> omega
def rmM (M : MI) (mc ms : Nat) : Room := { frames := mK M, cells := mc, slots := ms, locals := rl (mK M) }
/-- what a constructor asks of the tables beside these: the links to nest mates, the array over Wakes -/
def nests : List (String × Nat × MethodName × String) := [(RX8, 9, yX3_init, RX8), (RX3, 11, yX6_init, RX8), (RX8, 55, yX2_init, RX8), (RX8, 62, yX1_init, RX8), (RX8, 69, yX4_init, RX8)]
def Nst (s : State) : Prop := (∀ q ∈ nests, va_Nw (.methodLinkNest q.1 q.2.1 q.2.2.1 q.2.2.2) s) ∧ va_AO RX7 s
def Ctx (M : MI) (p : Program) (s : State) (m : MethodId) (args : Array Value) (meth : Method) (c : Code) : Prop :=
  p.tables.exec = Jvm.exec ∧ c.code = mC M ∧ meth.sig.returnType = mR M ∧ c.maxLocals = mL M ∧ s.vm.findClass (mO M) = some m.cls ∧ (∀ w ∈ lw_g, w.before args s = true) ∧ meth.locks = false ∧ meth.name = (mY M).name ∧ Nst s
/-- the locals, by their places -/
def lvl (E : EV) : Nat → List (Option AV) → List (Nat × Value)
  | _, [] => []
  | i, none :: t => lvl E (i + 1) t
  | i, some v :: t => (i, tr E v) :: lvl E (i + 1) t
def Qc (E : EV) (Q : Option AV → WS → AH → Prop) : Array Value → State → Outcome → State → Prop := fun _ _ o t => ∃ (r : Option AV) (w : WS) (h : AH), o = .returned (r.map (tr E)) ∧ Rep t E w h t.heap ∧ Q r w h
/-- from this frame, with this world, and room for k cells of n slots more, the method comes to its end with Q -/
def XA (M : MI) (pc : Nat) (ls : List (Option AV)) (sk : List AV) (w : WS) (h : AH) (k n : Nat) (Q : Option AV → WS → AH → Prop) : Prop :=
  ∀ (p : Program) (l : Launch) (e : Env) (s : State) (m : MethodId) (args : Array Value) (below : List Frame) (meth : Method) (c : Code) (H : Heap) (locs : List Loc) (cells slots mc ms : Nat) (E : EV) (lsM : Array Slot),
    Ctx M p s m args meth c → cells + k ≤ mc → slots + n ≤ ms → Rep s E w h H → (∀ q ∈ locs, eB E ≤ q.base) → lv_has lsM (mL M) (lvl E 0 ls) →
    W p l e (rmM M mc ms) s m args below meth c H locs cells slots (MQ below (Qc E Q) args s mc ms (fun q => eB E ≤ q)) (F0 m pc lsM (sk.map (tr E)))
def Pc (E : EV) (av : List AV) (w : WS) (h : AH) : Array Value → State → Prop := fun v U => v = (av.map (tr E)).toArray ∧ Rep U E w h U.heap ∧ Nst U
/-- the method's contract: called with these it comes back with Q -/
def CA (M : MI) (av : List AV) (w : WS) (h : AH) (k n : Nat) (Q : Option AV → WS → AH → Prop) : Prop :=
  ∀ (l : Launch) (E : EV), Met l (mY M) (wsM M) (rmM M k n) (Pc E av w h) (Qc E Q) k n (fun q => eB E ≤ q)
abbrev inR (x : Int) : Prop := -2147483648 ≤ x ∧ x ≤ 2147483647
abbrev inL (x : Int) : Prop := -9223372036854775808 ≤ x ∧ x ≤ 9223372036854775807
theorem i32_t {x : Int} (h : inR x) : (Int32.ofInt x).toInt = x := Int32.toInt_ofInt_of_le (by have := h.1; omega) (by have := h.2; omega)
theorem i32_eq {x y : Int} (hx : inR x) (hy : inR y) : Int32.ofInt x = Int32.ofInt y ↔ x = y := by rw [← Int32.toInt_inj, i32_t hx, i32_t hy]
theorem i32_lt {x y : Int} (hx : inR x) (hy : inR y) : Int32.ofInt x < Int32.ofInt y ↔ x < y := by rw [Int32.lt_iff_toInt_lt, i32_t hx, i32_t hy]
theorem i32_le {x y : Int} (hx : inR x) (hy : inR y) : Int32.ofInt x ≤ Int32.ofInt y ↔ x ≤ y := by rw [Int32.le_iff_toInt_le, i32_t hx, i32_t hy]
theorem i64_t {x : Int} (h : inL x) : (Int64.ofInt x).toInt = x := Int64.toInt_ofInt_of_le (by have := h.1; omega) (by have := h.2; omega)
theorem i64_eq {x y : Int} (hx : inL x) (hy : inL y) : Int64.ofInt x = Int64.ofInt y ↔ x = y := by rw [← Int64.toInt_inj, i64_t hx, i64_t hy]
theorem i64_lt {x y : Int} (hx : inL x) (hy : inL y) : Int64.ofInt x < Int64.ofInt y ↔ x < y := by rw [Int64.lt_iff_toInt_lt, i64_t hx, i64_t hy]
theorem i32_0 : (0 : Int32) = Int32.ofInt 0 := rfl
theorem i32_in {i : Int} {N : Nat} (h0 : 0 ≤ i) (h1 : i < N) (hr : inR i) : ¬ (Int32.ofInt i < 0 ∨ N ≤ (Int32.ofInt i).toNatClampNeg) := by
  have e : (Int32.ofInt i).toNatClampNeg = i.toNat := by
    show (Int32.ofInt i).toInt.toNat = _
    rw [i32_t hr]
  rintro (a | a)
  · rw [i32_0, i32_lt hr (by decide)] at a; omega
  · rw [e] at a; omega
theorem i32_ix {i : Int} (hr : inR i) : (Int32.ofInt i).toNatClampNeg = i.toNat := by
  show (Int32.ofInt i).toInt.toNat = _
  rw [i32_t hr]
theorem i32_ne0 {y : Int} (h : 0 < y ∧ y ≤ 2147483647) : ¬ Int32.ofInt y = 0 := by
  rw [i32_0, i32_eq ⟨by omega, h.2⟩ (by decide)]; omega
theorem i32_div {x y : Int} (hx : 0 ≤ x ∧ x ≤ 2147483647) (hy : 0 < y ∧ y ≤ 2147483647) : Int32.ofInt (x / y) = Int32.ofInt x / Int32.ofInt y := by
  rw [← Int32.ofInt_tdiv (show _ ≤ x by show (-2147483648 : Int) ≤ x; omega) hx.2 (show _ ≤ y by show (-2147483648 : Int) ≤ y; omega) hy.2, Int.tdiv_eq_ediv_of_nonneg hx.1]
theorem i32_rem {x y : Int} (hx : 0 ≤ x ∧ x ≤ 2147483647) (hy : 0 < y ∧ y ≤ 2147483647) : Int32.ofInt (x % y) = Int32.ofInt x - Int32.ofInt x / Int32.ofInt y * Int32.ofInt y := by
  rw [← i32_div hx hy, ← Int32.ofInt_mul, ← Int32.ofInt_sub, Int.emod_def, Int.mul_comm]
theorem i32_remT {x y : Int} (hx : inR x) (hy : 0 < y ∧ y ≤ 2147483647) : Int32.ofInt (x.tmod y) = Int32.ofInt x - Int32.ofInt x / Int32.ofInt y * Int32.ofInt y := by
  rw [← Int32.ofInt_tdiv hx.1 hx.2 (show _ ≤ y by show (-2147483648 : Int) ≤ y; omega) hy.2, ← Int32.ofInt_mul, ← Int32.ofInt_sub, Int.tmod_def, Int.mul_comm]
theorem lvl_mem {E : EV} : ∀ (ls : List (Option AV)) (i : Nat) (q : Nat × Value), q ∈ lvl E i ls ↔ ∃ (k : Nat) (v : AV), ls[k]? = some (some v) ∧ q = (i + k, tr E v) := by
  intro ls
  induction ls with
  | nil => intro i q; simp [lvl]
  | cons a t ih =>
    intro i q
    cases a with
    | none =>
      rw [lvl, ih]
      constructor
      · rintro ⟨k, v, h1, rfl⟩
        exact ⟨k + 1, v, by simpa using h1, by simp; omega⟩
      · rintro ⟨k, v, h1, rfl⟩
        cases k with
        | zero => simp at h1
        | succ k => exact ⟨k, v, by simpa using h1, by simp; omega⟩
    | some u =>
      rw [lvl, List.mem_cons, ih]
      constructor
      · rintro (rfl | ⟨k, v, h1, rfl⟩)
        · exact ⟨0, u, by simp, by simp⟩
        · exact ⟨k + 1, v, by simpa using h1, by simp; omega⟩
      · rintro ⟨k, v, h1, rfl⟩
        cases k with
        | zero =>
          simp at h1
          subst h1
          exact Or.inl (by simp)
        | succ k => exact Or.inr ⟨k, v, by simpa using h1, by simp; omega⟩
theorem lvl_at {E : EV} {ls : List (Option AV)} {lsM : Array Slot} {nL i : Nat} {v : AV} (h : lv_has lsM nL (lvl E 0 ls)) (hi : ls[i]? = some (some v)) : lsM[i]? = some (.val (tr E v)) :=
  h.2.2 (i, tr E v) ((lvl_mem ls 0 _).mpr ⟨i, v, hi, by simp⟩)
/-- a local of one word: a long that reached into its place is gone -/
def killL (ls : List (Option AV)) (i : Nat) : List (Option AV) := match i with
  | 0 => ls
  | j + 1 => match ls[j]? with
    | some (some (Sum.inr (Sum.inr _))) => ls.set j none
    | _ => ls
def setL (ls : List (Option AV)) (i : Nat) (v : AV) : List (Option AV) := (killL ls i).set i (some v)
/-- a long -/
def setL2 (ls : List (Option AV)) (i : Nat) (v : AV) : List (Option AV) := setL (ls.set (i + 1) none) i v
theorem tr_cat (E : EV) (v : AV) : (tr E v).category = 2 → ∃ x, v = vL x := by
  intro h
  match v, h with
  | .inl x, h => simp [tr, Value.category] at h
  | .inr (.inl a), h =>
    simp only [tr, rf] at h
    split at h <;> simp [Value.category] at h
  | .inr (.inr x), _ => exact ⟨x, rfl⟩
theorem tr_cat1 (E : EV) {v : AV} (h : ∀ x, v ≠ vL x) : (tr E v).category = 1 := by
  rcases lv_cat (tr E v) with e | e
  · exact e
  · obtain ⟨x, rfl⟩ := tr_cat E v e; exact absurd rfl (h x)
theorem setL_get {ls : List (Option AV)} {i j : Nat} {v u : AV} (h : (setL ls i v)[j]? = some (some u)) : (j = i ∧ u = v) ∨ (j ≠ i ∧ ls[j]? = some (some u) ∧ ¬ (j + 1 = i ∧ ∃ x, u = vL x)) := by
  unfold setL at h
  by_cases hj : j = i
  · subst hj
    left
    refine ⟨rfl, ?_⟩
    generalize killL ls j = L at h
    rw [List.getElem?_set] at h
    by_cases hl : j < L.length
    · simp [hl] at h; exact h.symm
    · simp [hl] at h
  · right
    refine ⟨hj, ?_⟩
    rw [List.getElem?_set_ne (Ne.symm hj)] at h
    cases i with
    | zero => exact ⟨h, by omega⟩
    | succ i =>
      unfold killL at h
      dsimp only at h
      split at h
      · next x hx =>
        by_cases hji : j = i
        · subst hji
          rw [List.getElem?_set] at h
          simp at h
        · rw [List.getElem?_set_ne (Ne.symm hji)] at h
          exact ⟨h, by omega⟩
      · next hx =>
        refine ⟨h, ?_⟩
        rintro ⟨e, x, rfl⟩
        have : j = i := by omega
        subst this
        exact hx x h
theorem setL_lv {E : EV} {ls : List (Option AV)} {i : Nat} {v : AV} : ∀ q ∈ lvl E 0 (setL ls i v), q ∈ (i, tr E v) :: (lvl E 0 ls).filter (fun q => !(q.1 == i) && !(q.1 + 1 == i && q.2.category == 2)) := by
  intro q hq
  obtain ⟨j, u, h1, rfl⟩ := (lvl_mem _ 0 _).mp hq
  rcases setL_get h1 with ⟨rfl, rfl⟩ | ⟨hj, h2, h3⟩
  · simp
  · refine List.mem_cons_of_mem _ (List.mem_filter.mpr ⟨(lvl_mem _ 0 _).mpr ⟨j, u, h2, rfl⟩, ?_⟩)
    simp only [Nat.zero_add, Bool.and_eq_true, Bool.not_eq_true', beq_eq_false_iff_ne, ne_eq, Bool.and_eq_false_iff]
    refine ⟨hj, ?_⟩
    by_cases e : j + 1 = i
    · exact Or.inr (fun hc => h3 ⟨e, tr_cat E u hc⟩)
    · exact Or.inl e
theorem setL2_lv {E : EV} {ls : List (Option AV)} {i : Nat} {v : AV} : ∀ q ∈ lvl E 0 (setL2 ls i v), q ∈ (i, tr E v) :: (lvl E 0 ls).filter (fun q => !(q.1 == i) && (!(q.1 == i + 1) && !(q.1 + 1 == i && q.2.category == 2))) := by
  intro q hq
  obtain ⟨j, u, h1, rfl⟩ := (lvl_mem _ 0 _).mp hq
  rcases setL_get h1 with ⟨rfl, rfl⟩ | ⟨hj, h2, h3⟩
  · simp
  · rw [List.getElem?_set] at h2
    split at h2
    · split at h2 <;> cases h2
    · next hne =>
      refine List.mem_cons_of_mem _ (List.mem_filter.mpr ⟨(lvl_mem _ 0 _).mpr ⟨j, u, h2, rfl⟩, ?_⟩)
      simp only [Nat.zero_add, Bool.and_eq_true, Bool.not_eq_true', beq_eq_false_iff_ne, ne_eq, Bool.and_eq_false_iff]
      refine ⟨hj, fun e => hne e.symm, ?_⟩
      by_cases e : j + 1 = i
      · exact Or.inr (fun hc => h3 ⟨e, tr_cat E u hc⟩)
      · exact Or.inl e
theorem lv_less {ls : Array Slot} {nL : Nat} {l l' : List (Nat × Value)} (h : lv_has ls nL l) (hs : ∀ q ∈ l', q ∈ l) : lv_has ls nL l' := ⟨h.1, h.2.1, fun q hq => h.2.2 q (hs q hq)⟩
/-! worlds -/
theorem ad_own {E : EV} {a : Int} (h : 1 ≤ a) : ad E a = eB E + (a - 1).toNat := by unfold ad; rw [if_neg (by omega), if_neg (by omega)]
theorem rf_own {E : EV} {a : Int} (h : a ≠ 0) : rf E a = .ref (ad E a) := by unfold rf; rw [if_neg h]
theorem Rep.id {s : State} {E : EV} {w : WS} {h : AH} {H : Heap} (R : Rep s E w h H) {a : Int} (ha : wt w a ≠ 0) : a ≠ 0 := by
  rcases (R.2.2.1 a ha).1 with h | h | h <;> omega
theorem Rep.own {s : State} {E : EV} {w : WS} {h : AH} {H : Heap} (R : Rep s E w h H) {a : Int} (ha : wt w a ≠ 0) (h6 : wt w a ≠ 6) (h7 : wt w a ≠ 7) : 1 ≤ a := by
  rcases (R.2.2.1 a ha).1 with h | h | h <;> omega
theorem Rep.len {s : State} {E : EV} {w : WS} {h : AH} {H : Heap} (R : Rep s E w h H) {a i : Int} (ha : wt w a ≠ 0) (h0 : 0 ≤ i) (h1 : i < wl w a) : inR i := by
  have := (R.2.2.1 a ha).2
  unfold wl at h1
  constructor <;> omega
theorem Rep.apart {s : State} {E : EV} {w : WS} {h : AH} {H : Heap} (R : Rep s E w h H) {a b : Int} (ha : 1 ≤ a) (hb : wt w b ≠ 0) (hn : b ≠ a) : ad E b ≠ ad E a := by
  obtain ⟨-, hs, hq, -⟩ := R.2.2.2.2
  rw [ad_own ha]
  rcases (R.2.2.1 b hb).1 with ⟨rfl, -⟩ | ⟨rfl, -⟩ | h
  · unfold ad; rw [if_pos rfl]; omega
  · unfold ad; rw [if_neg (by omega), if_pos rfl]; omega
  · rw [ad_own h.1]; omega
theorem arrAt.kept {s : State} {E : EV} {w : WS} {H H1 : Heap} {a : Int} {ty : FieldType} {f : Nat → Value} (h : arrAt s E w H a ty f) (hq : H1[ad E a]? = H[ad E a]?) : arrAt s E w H1 a ty f := by
  obtain ⟨cell, h1, h2⟩ := h
  exact ⟨cell, by rw [hq]; exact h1, h2⟩
theorem arrAt.moved {s U : State} {E : EV} {w : WS} {H : Heap} {a : Int} {ty : FieldType} {f : Nat → Value} (hvm : s.vm.Alike U.vm) (h : arrAt s E w H a ty f) : arrAt U E w H a ty f := by
  obtain ⟨cell, h1, h2, h3⟩ := h
  exact ⟨cell, h1, State.isArrayOf_alike hvm h2, h3⟩
theorem cellAt.kept {s : State} {E : EV} {w : WS} {h h1 : AH} {H H1 : Heap} {a : Int} (C : cellAt s E w h H a) (hq : wt w a ≠ 0 → H1[ad E a]? = H[ad E a]?) (hh : h1 a = h a) : cellAt s E w h1 H1 a := by
  obtain ⟨c1, c2, c3, c4, d1, d2, c5, c6⟩ := C
  refine ⟨fun e => ?_, fun e => ?_, fun e => ?_, fun e => ?_, fun e => ?_, fun e => ?_, fun e => ?_, fun k e => ?_⟩
  · rw [hh]; exact (c1 e).kept (hq (by omega))
  · rw [hh]; exact (c2 e).kept (hq (by omega))
  · rw [hh]; exact (c3 e).kept (hq (by omega))
  · rw [hh]; exact (c4 e).kept (hq (by omega))
  · rw [hh]; exact (d1 e).kept (hq (by omega))
  · rw [hh]; exact (d2 e).kept (hq (by omega))
  · rw [hh]
    obtain ⟨d, cell, kA, comp, e1, e2⟩ := c5 e
    exact ⟨d.kept (hq (by omega)), cell, kA, comp, by rw [hq (by omega)]; exact e1, e2⟩
  · obtain ⟨q, e1, e2⟩ := c6 k e
    refine ⟨q, e1, (e2.kept (hq (by omega))).to fun i _ => ?_⟩
    unfold fv
    rw [hh]
theorem cellAt.moved {s U : State} {E : EV} {w : WS} {h : AH} {H : Heap} {a : Int} (hvm : s.vm.Alike U.vm) (C : cellAt s E w h H a) : cellAt U E w h H a := by
  obtain ⟨c1, c2, c3, c4, d1, d2, c5, c6⟩ := C
  refine ⟨fun e => (c1 e).moved hvm, fun e => (c2 e).moved hvm, fun e => (c3 e).moved hvm, fun e => (c4 e).moved hvm, fun e => (d1 e).moved hvm, fun e => (d2 e).moved hvm, fun e => ?_, c6⟩
  obtain ⟨d, cell, kA, comp, e1, e2, e3, e4⟩ := c5 e
  obtain ⟨k', hk', he⟩ := hvm.2.2 _ _ e2
  exact ⟨d.moved hvm, cell, k', comp, e1, hk', by rw [he]; exact e3, by rw [hvm.findClass]; exact e4⟩
theorem Fix.moved {s U : State} {E : EV} (hvm : s.vm.Alike U.vm) (F : Fix s E) : Fix U E := ⟨va_K.moved hvm F.1, F.2.1, F.2.2.1, F.2.2.2.1.moved hvm, F.2.2.2.2⟩
theorem Rep.moved {s U : State} {E : EV} {w : WS} {h : AH} {H : Heap} (hvm : s.vm.Alike U.vm) (R : Rep s E w h H) : Rep U E w h H := ⟨R.1, R.2.1, R.2.2.1, fun a => (R.2.2.2.1 a).moved hvm, R.2.2.2.2.moved hvm⟩
/-- one cell has changed -/
theorem Rep.set {s : State} {E : EV} {w : WS} {h h1 : AH} {H H1 : Heap} (R : Rep s E w h H) {a : Int} (ha : 1 ≤ a) (hz : H1.size = H.size) (ho : ∀ q : Nat, q ≠ ad E a → H1[q]? = H[q]?) (hc : cellAt s E w h1 H1 a) (hh : ∀ b, b ≠ a → h1 b = h b) : Rep s E w h1 H1 := by
  refine ⟨hz.trans R.1, fun q hq => ?_, R.2.2.1, fun b => ?_, R.2.2.2.2⟩
  · rw [ho q (by rw [ad_own ha]; omega)]; exact R.2.1 q hq
  · by_cases e : b = a
    · subst e; exact hc
    · exact (R.2.2.2.1 b).kept (fun hw => ho _ (R.apart ha hw e)) (hh b e)
end
section
theorem rf_or (E : EV) (x : Int) : tr E (vR x) = .null ∨ ∃ a, tr E (vR x) = .ref a := by
  by_cases z : x = 0
  · exact Or.inl (by show rf E x = _; unfold rf; rw [if_pos z])
  · exact Or.inr ⟨ad E x, by show rf E x = _; unfold rf; rw [if_neg z]⟩
def cmpZ (x y : Int) : Int := if x > y then 1 else if x = y then 0 else -1
theorem cmpZ_in (x y : Int) : inR (cmpZ x y) := by unfold cmpZ; split; decide; split <;> decide
theorem cmpZ_lg {x y : Int} (hx : inL x) (hy : inL y) : lg_cmp (Int64.ofInt x) (Int64.ofInt y) = Int32.ofInt (cmpZ x y) := by
  unfold lg_cmp cmpZ
  simp only [gt_iff_lt, i64_lt hy hx, i64_eq hx hy]
  split
  · rfl
  · split <;> rfl
theorem cmpZ_eq (x y : Int) : cmpZ x y = 0 ↔ x = y := by unfold cmpZ; split; omega; split <;> omega
theorem cmpZ_lt (x y : Int) : cmpZ x y < 0 ↔ x < y := by unfold cmpZ; split; omega; split <;> omega
theorem cmpZ_le (x y : Int) : cmpZ x y ≤ 0 ↔ x ≤ y := by unfold cmpZ; split; omega; split <;> omega
theorem cmpZ_gt (x y : Int) : 0 < cmpZ x y ↔ y < x := by unfold cmpZ; split; omega; split <;> omega
theorem cmpZ_ge (x y : Int) : 0 ≤ cmpZ x y ↔ y ≤ x := by unfold cmpZ; split; omega; split <;> omega
section SA
variable {M : MI} {pc pc' : Nat} {ls ls' : List (Option AV)} {sk : List AV} {w : WS} {h : AH} {k n : Nat} {Q : Option AV → WS → AH → Prop}
theorem s_iconst {c0 : Int} (hd : decode (mC M) pc = .ok (.iconst c0, 1)) (hp : pc + 1 = pc') (K : XA M pc' ls (vI c0 :: sk) w h k n Q) : XA M pc ls sk w h k n Q := by
  intro p l e s m args below meth c H locs cells slots mc ms E lsM C hk hn hR hL hls
  subst hp
  exact lv_iconst C.1 C.2.1 hd rfl (K p l e s m args below meth c H locs cells slots mc ms E lsM C hk hn hR hL hls)
theorem s_bipush {c0 : Int} (hd : decode (mC M) pc = .ok (.bipush c0, 2)) (hv : (Int8.ofInt c0).toInt32 = Int32.ofInt c0) (hp : pc + 2 = pc') (K : XA M pc' ls (vI c0 :: sk) w h k n Q) : XA M pc ls sk w h k n Q := by
  intro p l e s m args below meth c H locs cells slots mc ms E lsM C hk hn hR hL hls
  subst hp
  exact lv_bipush C.1 C.2.1 hd hv (K p l e s m args below meth c H locs cells slots mc ms E lsM C hk hn hR hL hls)
theorem s_sipush {c0 : Int} (hd : decode (mC M) pc = .ok (.sipush c0, 3)) (hv : (Int16.ofInt c0).toInt32 = Int32.ofInt c0) (hp : pc + 3 = pc') (K : XA M pc' ls (vI c0 :: sk) w h k n Q) : XA M pc ls sk w h k n Q := by
  intro p l e s m args below meth c H locs cells slots mc ms E lsM C hk hn hR hL hls
  subst hp
  exact lv_sipush C.1 C.2.1 hd hv (K p l e s m args below meth c H locs cells slots mc ms E lsM C hk hn hR hL hls)
theorem s_lconst {c0 : Fin 2} {x : Int} (hd : decode (mC M) pc = .ok (.lconst c0, 1)) (hv : Int64.ofNat (c0 : Nat) = Int64.ofInt x) (hp : pc + 1 = pc') (K : XA M pc' ls (vL x :: sk) w h k n Q) : XA M pc ls sk w h k n Q := by
  intro p l e s m args below meth c H locs cells slots mc ms E lsM C hk hn hR hL hls
  subst hp
  exact lv_lconst C.1 C.2.1 hd hv (K p l e s m args below meth c H locs cells slots mc ms E lsM C hk hn hR hL hls)
theorem s_ldc {x : Int} {idx : Nat} {v : Int32} (hd : decode (mC M) pc = .ok (.ldc idx, 2)) (hl : Cond.constant (mO M) idx v ∈ lw_g) (hv : v = Int32.ofInt x) (hp : pc + 2 = pc') (K : XA M pc' ls (vI x :: sk) w h k n Q) : XA M pc ls sk w h k n Q := by
  intro p l e s m args below meth c H locs cells slots mc ms E lsM C hk hn hR hL hls
  subst hp
  subst hv
  exact lv_ldc C.1 C.2.1 C.2.2.2.2.1 (C.2.2.2.2.2.1 _ hl) hd (K p l e s m args below meth c H locs cells slots mc ms E lsM C hk hn hR hL hls)
theorem s_ldc2 {x : Int} {idx : Nat} {v : Int64} (hd : decode (mC M) pc = .ok (.ldc2_w idx, 3)) (hl : Cond.constantLong (mO M) idx v ∈ lw_g) (hv : v = Int64.ofInt x) (hp : pc + 3 = pc') (K : XA M pc' ls (vL x :: sk) w h k n Q) : XA M pc ls sk w h k n Q := by
  intro p l e s m args below meth c H locs cells slots mc ms E lsM C hk hn hR hL hls
  subst hp
  subst hv
  exact lv_ldc2 C.1 C.2.1 C.2.2.2.2.1 (C.2.2.2.2.2.1 _ hl) hd (K p l e s m args below meth c H locs cells slots mc ms E lsM C hk hn hR hL hls)
theorem s_null  (hd : decode (mC M) pc = .ok (.aconst_null, 1)) (hp : pc + 1 = pc') (K : XA M pc' ls (vR 0 :: sk) w h k n Q) : XA M pc ls sk w h k n Q := by
  intro p l e s m args below meth c H locs cells slots mc ms E lsM C hk hn hR hL hls
  subst hp
  exact lv_null C.1 C.2.1 hd (K p l e s m args below meth c H locs cells slots mc ms E lsM C hk hn hR hL hls)
theorem s_iload_n {i : Fin 4} {x : Int} (hd : decode (mC M) pc = .ok (.iload_n i, 1)) (hl : ls[(i : Nat)]? = some (some (vI x))) (hp : pc + 1 = pc') (K : XA M pc' ls (vI x :: sk) w h k n Q) : XA M pc ls sk w h k n Q := by
  intro p l e s m args below meth c H locs cells slots mc ms E lsM C hk hn hR hL hls
  subst hp
  exact lv_iload_n C.1 C.2.1 hd rfl (lvl_at hls hl) (K p l e s m args below meth c H locs cells slots mc ms E lsM C hk hn hR hL hls)
theorem s_iload {i : Nat} {x : Int} (hd : decode (mC M) pc = .ok (.iload i, 2)) (hl : ls[i]? = some (some (vI x))) (hp : pc + 2 = pc') (K : XA M pc' ls (vI x :: sk) w h k n Q) : XA M pc ls sk w h k n Q := by
  intro p l e s m args below meth c H locs cells slots mc ms E lsM C hk hn hR hL hls
  subst hp
  exact lv_iload C.1 C.2.1 hd (lvl_at hls hl) (K p l e s m args below meth c H locs cells slots mc ms E lsM C hk hn hR hL hls)
theorem s_lload_n {i : Fin 4} {x : Int} (hd : decode (mC M) pc = .ok (.lload_n i, 1)) (hl : ls[(i : Nat)]? = some (some (vL x))) (hp : pc + 1 = pc') (K : XA M pc' ls (vL x :: sk) w h k n Q) : XA M pc ls sk w h k n Q := by
  intro p l e s m args below meth c H locs cells slots mc ms E lsM C hk hn hR hL hls
  subst hp
  exact lv_lload_n C.1 C.2.1 hd rfl (lvl_at hls hl) (K p l e s m args below meth c H locs cells slots mc ms E lsM C hk hn hR hL hls)
theorem s_lload {i : Nat} {x : Int} (hd : decode (mC M) pc = .ok (.lload i, 2)) (hl : ls[i]? = some (some (vL x))) (hp : pc + 2 = pc') (K : XA M pc' ls (vL x :: sk) w h k n Q) : XA M pc ls sk w h k n Q := by
  intro p l e s m args below meth c H locs cells slots mc ms E lsM C hk hn hR hL hls
  subst hp
  exact lv_lload C.1 C.2.1 hd (lvl_at hls hl) (K p l e s m args below meth c H locs cells slots mc ms E lsM C hk hn hR hL hls)
theorem s_aload_n {i : Fin 4} {x : Int} (hd : decode (mC M) pc = .ok (.aload_n i, 1)) (hl : ls[(i : Nat)]? = some (some (vR x))) (hp : pc + 1 = pc') (K : XA M pc' ls (vR x :: sk) w h k n Q) : XA M pc ls sk w h k n Q := by
  intro p l e s m args below meth c H locs cells slots mc ms E lsM C hk hn hR hL hls
  subst hp
  have hv := lvl_at hls hl
  have K1 := K p l e s m args below meth c H locs cells slots mc ms E lsM C hk hn hR hL hls
  intro T hT X
  obtain ⟨t, a, b⟩ := K1 T hT X
  refine ⟨t, ?_, b⟩
  have e : tr E (vR x) = rf E x := rfl
  rw [e] at hv
  rw [List.map_cons, e] at a
  unfold rf at hv a
  split at hv
  · next z =>
    rw [if_pos z] at a
    jvm_step X.here [X.here.top, C.1, C.2.1, hd, hv, Value.isRef]
    exact a
  · next z =>
    rw [if_neg z] at a
    jvm_step X.here [X.here.top, C.1, C.2.1, hd, hv, Value.isRef]
    exact a
theorem s_aload {i : Nat} {x : Int} (hd : decode (mC M) pc = .ok (.aload i, 2)) (hl : ls[i]? = some (some (vR x))) (hp : pc + 2 = pc') (K : XA M pc' ls (vR x :: sk) w h k n Q) : XA M pc ls sk w h k n Q := by
  intro p l e s m args below meth c H locs cells slots mc ms E lsM C hk hn hR hL hls
  subst hp
  have hv := lvl_at hls hl
  have K1 := K p l e s m args below meth c H locs cells slots mc ms E lsM C hk hn hR hL hls
  intro T hT X
  obtain ⟨t, a, b⟩ := K1 T hT X
  refine ⟨t, ?_, b⟩
  have e : tr E (vR x) = rf E x := rfl
  rw [e] at hv
  rw [List.map_cons, e] at a
  unfold rf at hv a
  split at hv
  · next z =>
    rw [if_pos z] at a
    jvm_step X.here [X.here.top, C.1, C.2.1, hd, hv, Value.isRef]
    exact a
  · next z =>
    rw [if_neg z] at a
    jvm_step X.here [X.here.top, C.1, C.2.1, hd, hv, Value.isRef]
    exact a
theorem s_istore_n {i : Fin 4} {x : Int} (hd : decode (mC M) pc = .ok (.istore_n i, 1)) (hi : (i : Nat) < mL M) (hs : setL ls i (vI x) = ls') (hp : pc + 1 = pc') (K : XA M pc' ls' sk w h k n Q) : XA M pc ls (vI x :: sk) w h k n Q := by
  intro p l e s m args below meth c H locs cells slots mc ms E lsM C hk hn hR hL hls
  subst hp
  subst hs
  exact lv_istore_n C.1 C.2.1 hd rfl hls hi rfl (fun ls1 h1 => K p l e s m args below meth c H locs cells slots mc ms E ls1 C hk hn hR hL (lv_less h1 setL_lv))
theorem s_istore {i : Nat} {x : Int} (hd : decode (mC M) pc = .ok (.istore i, 2)) (hi : i < mL M) (hs : setL ls i (vI x) = ls') (hp : pc + 2 = pc') (K : XA M pc' ls' sk w h k n Q) : XA M pc ls (vI x :: sk) w h k n Q := by
  intro p l e s m args below meth c H locs cells slots mc ms E lsM C hk hn hR hL hls
  subst hp
  subst hs
  exact lv_istore C.1 C.2.1 hd hls hi rfl (fun ls1 h1 => K p l e s m args below meth c H locs cells slots mc ms E ls1 C hk hn hR hL (lv_less h1 setL_lv))
theorem s_lstore_n {i : Fin 4} {x : Int} (hd : decode (mC M) pc = .ok (.lstore_n i, 1)) (hi : (i : Nat) + 1 < mL M) (hs : setL2 ls i (vL x) = ls') (hp : pc + 1 = pc') (K : XA M pc' ls' sk w h k n Q) : XA M pc ls (vL x :: sk) w h k n Q := by
  intro p l e s m args below meth c H locs cells slots mc ms E lsM C hk hn hR hL hls
  subst hp
  subst hs
  exact lv_lstore_n C.1 C.2.1 hd rfl hls hi rfl (fun ls1 h1 => K p l e s m args below meth c H locs cells slots mc ms E ls1 C hk hn hR hL (lv_less h1 setL2_lv))
theorem s_lstore {i : Nat} {x : Int} (hd : decode (mC M) pc = .ok (.lstore i, 2)) (hi : i + 1 < mL M) (hs : setL2 ls i (vL x) = ls') (hp : pc + 2 = pc') (K : XA M pc' ls' sk w h k n Q) : XA M pc ls (vL x :: sk) w h k n Q := by
  intro p l e s m args below meth c H locs cells slots mc ms E lsM C hk hn hR hL hls
  subst hp
  subst hs
  exact lv_lstore C.1 C.2.1 hd hls hi rfl (fun ls1 h1 => K p l e s m args below meth c H locs cells slots mc ms E ls1 C hk hn hR hL (lv_less h1 setL2_lv))
theorem s_astore_n {i : Fin 4} {x : Int} (hd : decode (mC M) pc = .ok (.astore_n i, 1)) (hi : (i : Nat) < mL M) (hs : setL ls i (vR x) = ls') (hp : pc + 1 = pc') (K : XA M pc' ls' sk w h k n Q) : XA M pc ls (vR x :: sk) w h k n Q := by
  intro p l e s m args below meth c H locs cells slots mc ms E lsM C hk hn hR hL hls
  subst hp
  subst hs
  have hcat : (tr E (vR x)).category = 1 := by
    show (rf E x).category = 1
    unfold rf; split <;> rfl
  obtain ⟨ls1, e', h'⟩ := lv_store1 (v := tr E (vR x)) (i := (i : Nat)) hls hi hcat
  have K1 := K p l e s m args below meth c H locs cells slots mc ms E ls1 C hk hn hR hL (lv_less h' setL_lv)
  intro T hT X
  obtain ⟨t, a, b⟩ := K1 T hT X
  refine ⟨t, ?_, b⟩
  rw [List.map_cons]
  have e : tr E (vR x) = rf E x := rfl
  rw [e] at e' ⊢
  unfold rf at e' ⊢
  split
  · next z =>
    rw [if_pos z] at e'
    jvm_step X.here [X.here.top, ↓top_set X.here.top, C.1, C.2.1, hd, e', Value.isRef]
    exact a
  · next z =>
    rw [if_neg z] at e'
    jvm_step X.here [X.here.top, ↓top_set X.here.top, C.1, C.2.1, hd, e', Value.isRef]
    exact a
theorem s_astore {i : Nat} {x : Int} (hd : decode (mC M) pc = .ok (.astore i, 2)) (hi : i < mL M) (hs : setL ls i (vR x) = ls') (hp : pc + 2 = pc') (K : XA M pc' ls' sk w h k n Q) : XA M pc ls (vR x :: sk) w h k n Q := by
  intro p l e s m args below meth c H locs cells slots mc ms E lsM C hk hn hR hL hls
  subst hp
  subst hs
  have hcat : (tr E (vR x)).category = 1 := by
    show (rf E x).category = 1
    unfold rf; split <;> rfl
  obtain ⟨ls1, e', h'⟩ := lv_store1 (v := tr E (vR x)) (i := i) hls hi hcat
  have K1 := K p l e s m args below meth c H locs cells slots mc ms E ls1 C hk hn hR hL (lv_less h' setL_lv)
  intro T hT X
  obtain ⟨t, a, b⟩ := K1 T hT X
  refine ⟨t, ?_, b⟩
  rw [List.map_cons]
  have e : tr E (vR x) = rf E x := rfl
  rw [e] at e' ⊢
  unfold rf at e' ⊢
  split
  · next z =>
    rw [if_pos z] at e'
    jvm_step X.here [X.here.top, ↓top_set X.here.top, C.1, C.2.1, hd, e', Value.isRef]
    exact a
  · next z =>
    rw [if_neg z] at e'
    jvm_step X.here [X.here.top, ↓top_set X.here.top, C.1, C.2.1, hd, e', Value.isRef]
    exact a
theorem s_iinc {i : Nat} {c0 x : Int} (hd : decode (mC M) pc = .ok (.iinc i c0, 3)) (hl : ls[i]? = some (some (vI x))) (hi : i < mL M) (hs : setL ls i (vI (x + c0)) = ls') (hp : pc + 3 = pc') (K : XA M pc' ls' sk w h k n Q) : XA M pc ls sk w h k n Q := by
  intro p l e s m args below meth c H locs cells slots mc ms E lsM C hk hn hR hL hls
  subst hp; subst hs
  obtain ⟨j, hj⟩ := List.getElem?_of_mem ((lvl_mem (E := E) ls 0 (i, tr E (vI x))).mpr ⟨i, vI x, hl, by simp⟩)
  exact lv_iinc C.1 C.2.1 hd hls hj (Int32.ofInt_add x c0).symm hi rfl (fun ls1 h1 => K p l e s m args below meth c H locs cells slots mc ms E ls1 C hk hn hR hL (lv_less h1 setL_lv))
theorem s_iadd {x y : Int} (hd : decode (mC M) pc = .ok (.iadd, 1)) (hp : pc + 1 = pc') (K : XA M pc' ls (vI (x + y) :: sk) w h k n Q) : XA M pc ls (vI y :: vI x :: sk) w h k n Q := by
  intro p l e s m args below meth c H locs cells slots mc ms E lsM C hk hn hR hL hls
  subst hp
  have K1 := K p l e s m args below meth c H locs cells slots mc ms E lsM C hk hn hR hL hls
  rw [List.map_cons, show tr E (vI (x + y)) = .int (Int32.ofInt (x + y)) from rfl, Int32.ofInt_add] at K1
  exact lv_iadd C.1 C.2.1 hd K1
theorem s_isub {x y : Int} (hd : decode (mC M) pc = .ok (.isub, 1)) (hp : pc + 1 = pc') (K : XA M pc' ls (vI (x - y) :: sk) w h k n Q) : XA M pc ls (vI y :: vI x :: sk) w h k n Q := by
  intro p l e s m args below meth c H locs cells slots mc ms E lsM C hk hn hR hL hls
  subst hp
  have K1 := K p l e s m args below meth c H locs cells slots mc ms E lsM C hk hn hR hL hls
  rw [List.map_cons, show tr E (vI (x - y)) = .int (Int32.ofInt (x - y)) from rfl, Int32.ofInt_sub] at K1
  exact lv_isub C.1 C.2.1 hd K1
theorem s_imul {x y : Int} (hd : decode (mC M) pc = .ok (.imul, 1)) (hp : pc + 1 = pc') (K : XA M pc' ls (vI (x * y) :: sk) w h k n Q) : XA M pc ls (vI y :: vI x :: sk) w h k n Q := by
  intro p l e s m args below meth c H locs cells slots mc ms E lsM C hk hn hR hL hls
  subst hp
  have K1 := K p l e s m args below meth c H locs cells slots mc ms E lsM C hk hn hR hL hls
  rw [List.map_cons, show tr E (vI (x * y)) = .int (Int32.ofInt (x * y)) from rfl, Int32.ofInt_mul] at K1
  exact lv_imul C.1 C.2.1 hd K1
theorem s_ladd {x y : Int} (hd : decode (mC M) pc = .ok (.ladd, 1)) (hp : pc + 1 = pc') (K : XA M pc' ls (vL (x + y) :: sk) w h k n Q) : XA M pc ls (vL y :: vL x :: sk) w h k n Q := by
  intro p l e s m args below meth c H locs cells slots mc ms E lsM C hk hn hR hL hls
  subst hp
  have K1 := K p l e s m args below meth c H locs cells slots mc ms E lsM C hk hn hR hL hls
  rw [List.map_cons, show tr E (vL (x + y)) = .long (Int64.ofInt (x + y)) from rfl, Int64.ofInt_add] at K1
  exact lv_ladd C.1 C.2.1 hd K1
theorem s_lsub {x y : Int} (hd : decode (mC M) pc = .ok (.lsub, 1)) (hp : pc + 1 = pc') (K : XA M pc' ls (vL (x - y) :: sk) w h k n Q) : XA M pc ls (vL y :: vL x :: sk) w h k n Q := by
  intro p l e s m args below meth c H locs cells slots mc ms E lsM C hk hn hR hL hls
  subst hp
  have K1 := K p l e s m args below meth c H locs cells slots mc ms E lsM C hk hn hR hL hls
  rw [List.map_cons, show tr E (vL (x - y)) = .long (Int64.ofInt (x - y)) from rfl, Int64.ofInt_sub] at K1
  exact lv_lsub C.1 C.2.1 hd K1
theorem s_lmul {x y : Int} (hd : decode (mC M) pc = .ok (.lmul, 1)) (hp : pc + 1 = pc') (K : XA M pc' ls (vL (x * y) :: sk) w h k n Q) : XA M pc ls (vL y :: vL x :: sk) w h k n Q := by
  intro p l e s m args below meth c H locs cells slots mc ms E lsM C hk hn hR hL hls
  subst hp
  have K1 := K p l e s m args below meth c H locs cells slots mc ms E lsM C hk hn hR hL hls
  rw [List.map_cons, show tr E (vL (x * y)) = .long (Int64.ofInt (x * y)) from rfl, Int64.ofInt_mul] at K1
  exact lv_lmul C.1 C.2.1 hd K1
theorem s_idiv {x y : Int} (hd : decode (mC M) pc = .ok (.idiv, 1)) (hx : 0 ≤ x ∧ x ≤ 2147483647) (hy : 0 < y ∧ y ≤ 2147483647) (hp : pc + 1 = pc') (K : XA M pc' ls (vI (x / y) :: sk) w h k n Q) : XA M pc ls (vI y :: vI x :: sk) w h k n Q := by
  intro p l e s m args below meth c H locs cells slots mc ms E lsM C hk hn hR hL hls
  subst hp
  have K1 := K p l e s m args below meth c H locs cells slots mc ms E lsM C hk hn hR hL hls
  rw [List.map_cons, show tr E (vI (x / y)) = .int (Int32.ofInt (x / y)) from rfl, i32_div hx hy] at K1
  exact lv_idiv C.1 C.2.1 hd (i32_ne0 hy) K1
theorem s_irem {x y : Int} (hd : decode (mC M) pc = .ok (.irem, 1)) (hx : 0 ≤ x ∧ x ≤ 2147483647) (hy : 0 < y ∧ y ≤ 2147483647) (hp : pc + 1 = pc') (K : XA M pc' ls (vI (x % y) :: sk) w h k n Q) : XA M pc ls (vI y :: vI x :: sk) w h k n Q := by
  intro p l e s m args below meth c H locs cells slots mc ms E lsM C hk hn hR hL hls
  subst hp
  have K1 := K p l e s m args below meth c H locs cells slots mc ms E lsM C hk hn hR hL hls
  rw [List.map_cons, show tr E (vI (x % y)) = .int (Int32.ofInt (x % y)) from rfl, i32_rem hx hy] at K1
  exact lv_irem C.1 C.2.1 hd (i32_ne0 hy) K1
theorem s_iremT {x y : Int} (hd : decode (mC M) pc = .ok (.irem, 1)) (hx : inR x) (hy : 0 < y ∧ y ≤ 2147483647) (hp : pc + 1 = pc') (K : XA M pc' ls (vI (x.tmod y) :: sk) w h k n Q) : XA M pc ls (vI y :: vI x :: sk) w h k n Q := by
  intro p l e s m args below meth c H locs cells slots mc ms E lsM C hk hn hR hL hls
  subst hp
  have K1 := K p l e s m args below meth c H locs cells slots mc ms E lsM C hk hn hR hL hls
  rw [List.map_cons, show tr E (vI (x.tmod y)) = .int (Int32.ofInt (x.tmod y)) from rfl, i32_remT hx hy] at K1
  exact lv_irem C.1 C.2.1 hd (i32_ne0 hy) K1
theorem s_i2l {x : Int} (hd : decode (mC M) pc = .ok (.i2l, 1)) (hx : inR x) (hp : pc + 1 = pc') (K : XA M pc' ls (vL x :: sk) w h k n Q) : XA M pc ls (vI x :: sk) w h k n Q := by
  intro p l e s m args below meth c H locs cells slots mc ms E lsM C hk hn hR hL hls
  subst hp
  exact lv_i2l C.1 C.2.1 hd (Int32.toInt64_ofInt hx.1 hx.2) (K p l e s m args below meth c H locs cells slots mc ms E lsM C hk hn hR hL hls)
theorem s_l2i {x : Int} (hd : decode (mC M) pc = .ok (.l2i, 1)) (hp : pc + 1 = pc') (K : XA M pc' ls (vI x :: sk) w h k n Q) : XA M pc ls (vL x :: sk) w h k n Q := by
  intro p l e s m args below meth c H locs cells slots mc ms E lsM C hk hn hR hL hls
  subst hp
  exact lv_l2i C.1 C.2.1 hd Int64.toInt32_ofInt (K p l e s m args below meth c H locs cells slots mc ms E lsM C hk hn hR hL hls)
theorem s_i2b {x y : Int} (hd : decode (mC M) pc = .ok (.i2b, 1)) (hv : (Int32.ofInt x).toInt8.toInt32 = Int32.ofInt y) (hp : pc + 1 = pc') (K : XA M pc' ls (vI y :: sk) w h k n Q) : XA M pc ls (vI x :: sk) w h k n Q := by
  intro p l e s m args below meth c H locs cells slots mc ms E lsM C hk hn hR hL hls
  subst hp
  exact lv_i2b C.1 C.2.1 hd hv (K p l e s m args below meth c H locs cells slots mc ms E lsM C hk hn hR hL hls)
theorem s_iand {x y z : Int} (hd : decode (mC M) pc = .ok (.iand, 1)) (hv : Int32.ofInt x &&& Int32.ofInt y = Int32.ofInt z) (hp : pc + 1 = pc') (K : XA M pc' ls (vI z :: sk) w h k n Q) : XA M pc ls (vI y :: vI x :: sk) w h k n Q := by
  intro p l e s m args below meth c H locs cells slots mc ms E lsM C hk hn hR hL hls
  subst hp
  have K1 := K p l e s m args below meth c H locs cells slots mc ms E lsM C hk hn hR hL hls
  rw [List.map_cons, show tr E (vI z) = .int (Int32.ofInt z) from rfl, ← hv] at K1
  exact lv_iand C.1 C.2.1 hd K1
theorem s_ior {x y z : Int} (hd : decode (mC M) pc = .ok (.ior, 1)) (hv : Int32.ofInt x ||| Int32.ofInt y = Int32.ofInt z) (hp : pc + 1 = pc') (K : XA M pc' ls (vI z :: sk) w h k n Q) : XA M pc ls (vI y :: vI x :: sk) w h k n Q := by
  intro p l e s m args below meth c H locs cells slots mc ms E lsM C hk hn hR hL hls
  subst hp
  have K1 := K p l e s m args below meth c H locs cells slots mc ms E lsM C hk hn hR hL hls
  rw [List.map_cons, show tr E (vI z) = .int (Int32.ofInt z) from rfl, ← hv] at K1
  exact lv_ior C.1 C.2.1 hd K1
theorem s_ishl {x y z : Int} (hd : decode (mC M) pc = .ok (.ishl, 1)) (hv : Int32.ofInt x <<< (Int32.ofInt y &&& 31) = Int32.ofInt z) (hp : pc + 1 = pc') (K : XA M pc' ls (vI z :: sk) w h k n Q) : XA M pc ls (vI y :: vI x :: sk) w h k n Q := by
  intro p l e s m args below meth c H locs cells slots mc ms E lsM C hk hn hR hL hls
  subst hp
  have K1 := K p l e s m args below meth c H locs cells slots mc ms E lsM C hk hn hR hL hls
  rw [List.map_cons, show tr E (vI z) = .int (Int32.ofInt z) from rfl, ← hv] at K1
  exact lv_ishl C.1 C.2.1 hd K1
theorem s_ishr {x y z : Int} (hd : decode (mC M) pc = .ok (.ishr, 1)) (hv : Int32.ofInt x >>> (Int32.ofInt y &&& 31) = Int32.ofInt z) (hp : pc + 1 = pc') (K : XA M pc' ls (vI z :: sk) w h k n Q) : XA M pc ls (vI y :: vI x :: sk) w h k n Q := by
  intro p l e s m args below meth c H locs cells slots mc ms E lsM C hk hn hR hL hls
  subst hp
  have K1 := K p l e s m args below meth c H locs cells slots mc ms E lsM C hk hn hR hL hls
  rw [List.map_cons, show tr E (vI z) = .int (Int32.ofInt z) from rfl, ← hv] at K1
  exact lv_ishr C.1 C.2.1 hd K1
theorem s_iushr {x y z : Int} (hd : decode (mC M) pc = .ok (.iushr, 1)) (hv : ((Int32.ofInt x).toUInt32 >>> ((Int32.ofInt y).toUInt32 &&& Int32.toUInt32 31)).toInt32 = Int32.ofInt z) (hp : pc + 1 = pc') (K : XA M pc' ls (vI z :: sk) w h k n Q) : XA M pc ls (vI y :: vI x :: sk) w h k n Q := by
  intro p l e s m args below meth c H locs cells slots mc ms E lsM C hk hn hR hL hls
  subst hp
  exact lv_iushr C.1 C.2.1 hd hv (K p l e s m args below meth c H locs cells slots mc ms E lsM C hk hn hR hL hls)
theorem s_dup {v : AV} (hd : decode (mC M) pc = .ok (.dup, 1)) (hv : ∀ x, v ≠ vL x) (hp : pc + 1 = pc') (K : XA M pc' ls (v :: v :: sk) w h k n Q) : XA M pc ls (v :: sk) w h k n Q := by
  intro p l e s m args below meth c H locs cells slots mc ms E lsM C hk hn hR hL hls
  subst hp
  exact lv_dup C.1 C.2.1 hd (tr_cat1 E hv) (K p l e s m args below meth c H locs cells slots mc ms E lsM C hk hn hR hL hls)
theorem s_pop {v : AV} (hd : decode (mC M) pc = .ok (.pop, 1)) (hv : ∀ x, v ≠ vL x) (hp : pc + 1 = pc') (K : XA M pc' ls sk w h k n Q) : XA M pc ls (v :: sk) w h k n Q := by
  intro p l e s m args below meth c H locs cells slots mc ms E lsM C hk hn hR hL hls
  subst hp
  exact lv_pop C.1 C.2.1 hd (tr_cat1 E hv) (K p l e s m args below meth c H locs cells slots mc ms E lsM C hk hn hR hL hls)
theorem s_if_eq {x off : Int} {tgt : Nat} (hd : decode (mC M) pc = .ok (.ifCond .eq off, 3)) (ht : (pc : Int) + off = (tgt : Int)) (hp : pc + 3 = pc') (hx : inR x) (K1 : x = 0 → XA M tgt ls sk w h k n Q) (K2 : ¬ x = 0 → XA M pc' ls sk w h k n Q) : XA M pc ls (vI x :: sk) w h k n Q := by
  intro p l e s m args below meth c H locs cells slots mc ms E lsM C hk hn hR hL hls
  subst hp
  exact lv_if_eq C.1 C.2.1 hd ht (fun q => K1 (by rw [show (0 : Int32) = Int32.ofInt 0 from rfl] at q; exact (((i32_eq hx (by decide : inR 0))).mp q)) p l e s m args below meth c H locs cells slots mc ms E lsM C hk hn hR hL hls) (fun q => K2 (by rw [show (0 : Int32) = Int32.ofInt 0 from rfl] at q; exact (fun z => q (((i32_eq hx (by decide : inR 0))).mpr z))) p l e s m args below meth c H locs cells slots mc ms E lsM C hk hn hR hL hls)
theorem s_icmp_eq {x y off : Int} {tgt : Nat} (hd : decode (mC M) pc = .ok (.if_icmp .eq off, 3)) (ht : (pc : Int) + off = (tgt : Int)) (hp : pc + 3 = pc') (hx : inR x) (hy : inR y) (K1 : x = y → XA M tgt ls sk w h k n Q) (K2 : ¬ x = y → XA M pc' ls sk w h k n Q) : XA M pc ls (vI y :: vI x :: sk) w h k n Q := by
  intro p l e s m args below meth c H locs cells slots mc ms E lsM C hk hn hR hL hls
  subst hp
  exact lv_icmp_eq C.1 C.2.1 hd ht (fun q => K1 (by exact (((i32_eq hx hy)).mp q)) p l e s m args below meth c H locs cells slots mc ms E lsM C hk hn hR hL hls) (fun q => K2 (by exact (fun z => q (((i32_eq hx hy)).mpr z))) p l e s m args below meth c H locs cells slots mc ms E lsM C hk hn hR hL hls)
theorem s_if_ne {x off : Int} {tgt : Nat} (hd : decode (mC M) pc = .ok (.ifCond .ne off, 3)) (ht : (pc : Int) + off = (tgt : Int)) (hp : pc + 3 = pc') (hx : inR x) (K1 : ¬ x = 0 → XA M tgt ls sk w h k n Q) (K2 : x = 0 → XA M pc' ls sk w h k n Q) : XA M pc ls (vI x :: sk) w h k n Q := by
  intro p l e s m args below meth c H locs cells slots mc ms E lsM C hk hn hR hL hls
  subst hp
  exact lv_if_ne C.1 C.2.1 hd ht (fun q => K1 (by rw [show (0 : Int32) = Int32.ofInt 0 from rfl] at q; exact (fun z => q (((i32_eq hx (by decide : inR 0))).mpr z))) p l e s m args below meth c H locs cells slots mc ms E lsM C hk hn hR hL hls) (fun q => K2 (by rw [show (0 : Int32) = Int32.ofInt 0 from rfl] at q; exact (((i32_eq hx (by decide : inR 0))).mp q)) p l e s m args below meth c H locs cells slots mc ms E lsM C hk hn hR hL hls)
theorem s_icmp_ne {x y off : Int} {tgt : Nat} (hd : decode (mC M) pc = .ok (.if_icmp .ne off, 3)) (ht : (pc : Int) + off = (tgt : Int)) (hp : pc + 3 = pc') (hx : inR x) (hy : inR y) (K1 : ¬ x = y → XA M tgt ls sk w h k n Q) (K2 : x = y → XA M pc' ls sk w h k n Q) : XA M pc ls (vI y :: vI x :: sk) w h k n Q := by
  intro p l e s m args below meth c H locs cells slots mc ms E lsM C hk hn hR hL hls
  subst hp
  exact lv_icmp_ne C.1 C.2.1 hd ht (fun q => K1 (by exact (fun z => q (((i32_eq hx hy)).mpr z))) p l e s m args below meth c H locs cells slots mc ms E lsM C hk hn hR hL hls) (fun q => K2 (by exact (((i32_eq hx hy)).mp q)) p l e s m args below meth c H locs cells slots mc ms E lsM C hk hn hR hL hls)
theorem s_if_lt {x off : Int} {tgt : Nat} (hd : decode (mC M) pc = .ok (.ifCond .lt off, 3)) (ht : (pc : Int) + off = (tgt : Int)) (hp : pc + 3 = pc') (hx : inR x) (K1 : x < 0 → XA M tgt ls sk w h k n Q) (K2 : ¬ x < 0 → XA M pc' ls sk w h k n Q) : XA M pc ls (vI x :: sk) w h k n Q := by
  intro p l e s m args below meth c H locs cells slots mc ms E lsM C hk hn hR hL hls
  subst hp
  exact lv_if_lt C.1 C.2.1 hd ht (fun q => K1 (by rw [show (0 : Int32) = Int32.ofInt 0 from rfl] at q; exact (((i32_lt hx (by decide : inR 0))).mp q)) p l e s m args below meth c H locs cells slots mc ms E lsM C hk hn hR hL hls) (fun q => K2 (by rw [show (0 : Int32) = Int32.ofInt 0 from rfl] at q; exact (fun z => q (((i32_lt hx (by decide : inR 0))).mpr z))) p l e s m args below meth c H locs cells slots mc ms E lsM C hk hn hR hL hls)
theorem s_icmp_lt {x y off : Int} {tgt : Nat} (hd : decode (mC M) pc = .ok (.if_icmp .lt off, 3)) (ht : (pc : Int) + off = (tgt : Int)) (hp : pc + 3 = pc') (hx : inR x) (hy : inR y) (K1 : x < y → XA M tgt ls sk w h k n Q) (K2 : ¬ x < y → XA M pc' ls sk w h k n Q) : XA M pc ls (vI y :: vI x :: sk) w h k n Q := by
  intro p l e s m args below meth c H locs cells slots mc ms E lsM C hk hn hR hL hls
  subst hp
  exact lv_icmp_lt C.1 C.2.1 hd ht (fun q => K1 (by exact (((i32_lt hx hy)).mp q)) p l e s m args below meth c H locs cells slots mc ms E lsM C hk hn hR hL hls) (fun q => K2 (by exact (fun z => q (((i32_lt hx hy)).mpr z))) p l e s m args below meth c H locs cells slots mc ms E lsM C hk hn hR hL hls)
theorem s_if_ge {x off : Int} {tgt : Nat} (hd : decode (mC M) pc = .ok (.ifCond .ge off, 3)) (ht : (pc : Int) + off = (tgt : Int)) (hp : pc + 3 = pc') (hx : inR x) (K1 : 0 ≤ x → XA M tgt ls sk w h k n Q) (K2 : ¬ 0 ≤ x → XA M pc' ls sk w h k n Q) : XA M pc ls (vI x :: sk) w h k n Q := by
  intro p l e s m args below meth c H locs cells slots mc ms E lsM C hk hn hR hL hls
  subst hp
  exact lv_if_ge C.1 C.2.1 hd ht (fun q => K1 (by rw [show (0 : Int32) = Int32.ofInt 0 from rfl] at q; exact (((i32_le (by decide : inR 0) hx)).mp q)) p l e s m args below meth c H locs cells slots mc ms E lsM C hk hn hR hL hls) (fun q => K2 (by rw [show (0 : Int32) = Int32.ofInt 0 from rfl] at q; exact (fun z => q (((i32_le (by decide : inR 0) hx)).mpr z))) p l e s m args below meth c H locs cells slots mc ms E lsM C hk hn hR hL hls)
theorem s_icmp_ge {x y off : Int} {tgt : Nat} (hd : decode (mC M) pc = .ok (.if_icmp .ge off, 3)) (ht : (pc : Int) + off = (tgt : Int)) (hp : pc + 3 = pc') (hx : inR x) (hy : inR y) (K1 : y ≤ x → XA M tgt ls sk w h k n Q) (K2 : ¬ y ≤ x → XA M pc' ls sk w h k n Q) : XA M pc ls (vI y :: vI x :: sk) w h k n Q := by
  intro p l e s m args below meth c H locs cells slots mc ms E lsM C hk hn hR hL hls
  subst hp
  exact lv_icmp_ge C.1 C.2.1 hd ht (fun q => K1 (by exact (((i32_le hy hx)).mp q)) p l e s m args below meth c H locs cells slots mc ms E lsM C hk hn hR hL hls) (fun q => K2 (by exact (fun z => q (((i32_le hy hx)).mpr z))) p l e s m args below meth c H locs cells slots mc ms E lsM C hk hn hR hL hls)
theorem s_if_gt {x off : Int} {tgt : Nat} (hd : decode (mC M) pc = .ok (.ifCond .gt off, 3)) (ht : (pc : Int) + off = (tgt : Int)) (hp : pc + 3 = pc') (hx : inR x) (K1 : 0 < x → XA M tgt ls sk w h k n Q) (K2 : ¬ 0 < x → XA M pc' ls sk w h k n Q) : XA M pc ls (vI x :: sk) w h k n Q := by
  intro p l e s m args below meth c H locs cells slots mc ms E lsM C hk hn hR hL hls
  subst hp
  exact lv_if_gt C.1 C.2.1 hd ht (fun q => K1 (by rw [show (0 : Int32) = Int32.ofInt 0 from rfl] at q; exact (((i32_lt (by decide : inR 0) hx)).mp q)) p l e s m args below meth c H locs cells slots mc ms E lsM C hk hn hR hL hls) (fun q => K2 (by rw [show (0 : Int32) = Int32.ofInt 0 from rfl] at q; exact (fun z => q (((i32_lt (by decide : inR 0) hx)).mpr z))) p l e s m args below meth c H locs cells slots mc ms E lsM C hk hn hR hL hls)
theorem s_icmp_gt {x y off : Int} {tgt : Nat} (hd : decode (mC M) pc = .ok (.if_icmp .gt off, 3)) (ht : (pc : Int) + off = (tgt : Int)) (hp : pc + 3 = pc') (hx : inR x) (hy : inR y) (K1 : y < x → XA M tgt ls sk w h k n Q) (K2 : ¬ y < x → XA M pc' ls sk w h k n Q) : XA M pc ls (vI y :: vI x :: sk) w h k n Q := by
  intro p l e s m args below meth c H locs cells slots mc ms E lsM C hk hn hR hL hls
  subst hp
  exact lv_icmp_gt C.1 C.2.1 hd ht (fun q => K1 (by exact (((i32_lt hy hx)).mp q)) p l e s m args below meth c H locs cells slots mc ms E lsM C hk hn hR hL hls) (fun q => K2 (by exact (fun z => q (((i32_lt hy hx)).mpr z))) p l e s m args below meth c H locs cells slots mc ms E lsM C hk hn hR hL hls)
theorem s_if_le {x off : Int} {tgt : Nat} (hd : decode (mC M) pc = .ok (.ifCond .le off, 3)) (ht : (pc : Int) + off = (tgt : Int)) (hp : pc + 3 = pc') (hx : inR x) (K1 : x ≤ 0 → XA M tgt ls sk w h k n Q) (K2 : ¬ x ≤ 0 → XA M pc' ls sk w h k n Q) : XA M pc ls (vI x :: sk) w h k n Q := by
  intro p l e s m args below meth c H locs cells slots mc ms E lsM C hk hn hR hL hls
  subst hp
  exact lv_if_le C.1 C.2.1 hd ht (fun q => K1 (by rw [show (0 : Int32) = Int32.ofInt 0 from rfl] at q; exact (((i32_le hx (by decide : inR 0))).mp q)) p l e s m args below meth c H locs cells slots mc ms E lsM C hk hn hR hL hls) (fun q => K2 (by rw [show (0 : Int32) = Int32.ofInt 0 from rfl] at q; exact (fun z => q (((i32_le hx (by decide : inR 0))).mpr z))) p l e s m args below meth c H locs cells slots mc ms E lsM C hk hn hR hL hls)
theorem s_icmp_le {x y off : Int} {tgt : Nat} (hd : decode (mC M) pc = .ok (.if_icmp .le off, 3)) (ht : (pc : Int) + off = (tgt : Int)) (hp : pc + 3 = pc') (hx : inR x) (hy : inR y) (K1 : x ≤ y → XA M tgt ls sk w h k n Q) (K2 : ¬ x ≤ y → XA M pc' ls sk w h k n Q) : XA M pc ls (vI y :: vI x :: sk) w h k n Q := by
  intro p l e s m args below meth c H locs cells slots mc ms E lsM C hk hn hR hL hls
  subst hp
  exact lv_icmp_le C.1 C.2.1 hd ht (fun q => K1 (by exact (((i32_le hx hy)).mp q)) p l e s m args below meth c H locs cells slots mc ms E lsM C hk hn hR hL hls) (fun q => K2 (by exact (fun z => q (((i32_le hx hy)).mpr z))) p l e s m args below meth c H locs cells slots mc ms E lsM C hk hn hR hL hls)
theorem s_goto {off : Int} {tgt : Nat} (hd : decode (mC M) pc = .ok (.goto off, 3)) (ht : (pc : Int) + off = (tgt : Int)) (K : XA M tgt ls sk w h k n Q) : XA M pc ls sk w h k n Q := by
  intro p l e s m args below meth c H locs cells slots mc ms E lsM C hk hn hR hL hls
  exact lv_goto C.1 C.2.1 hd ht (K p l e s m args below meth c H locs cells slots mc ms E lsM C hk hn hR hL hls)
theorem s_ifnull {x off : Int} {tgt : Nat} (hd : decode (mC M) pc = .ok (.ifnull off, 3)) (ht : (pc : Int) + off = (tgt : Int)) (hp : pc + 3 = pc') (K1 : x = 0 → XA M tgt ls sk w h k n Q) (K2 : ¬ x = 0 → XA M pc' ls sk w h k n Q) : XA M pc ls (vR x :: sk) w h k n Q := by
  intro p l e s m args below meth c H locs cells slots mc ms E lsM C hk hn hR hL hls
  subst hp
  rw [List.map_cons, show tr E (vR x) = rf E x from rfl]
  unfold rf
  split
  · next z => exact lv_ifnullN C.1 C.2.1 hd ht (K1 z p l e s m args below meth c H locs cells slots mc ms E lsM C hk hn hR hL hls)
  · next z => exact lv_ifnull C.1 C.2.1 hd (K2 z p l e s m args below meth c H locs cells slots mc ms E lsM C hk hn hR hL hls)
theorem s_ifnonnull {x off : Int} {tgt : Nat} (hd : decode (mC M) pc = .ok (.ifnonnull off, 3)) (ht : (pc : Int) + off = (tgt : Int)) (hp : pc + 3 = pc') (K1 : ¬ x = 0 → XA M tgt ls sk w h k n Q) (K2 : x = 0 → XA M pc' ls sk w h k n Q) : XA M pc ls (vR x :: sk) w h k n Q := by
  intro p l e s m args below meth c H locs cells slots mc ms E lsM C hk hn hR hL hls
  subst hp
  rw [List.map_cons, show tr E (vR x) = rf E x from rfl]
  unfold rf
  split
  · next z => exact lv_ifnonnullN C.1 C.2.1 hd (K2 z p l e s m args below meth c H locs cells slots mc ms E lsM C hk hn hR hL hls)
  · next z => exact lv_ifnonnull C.1 C.2.1 hd ht (K1 z p l e s m args below meth c H locs cells slots mc ms E lsM C hk hn hR hL hls)
theorem s_tableIn {x v dflt lo hi off : Int} {offs : Array Int} {len tgt : Nat} (hd : decode (mC M) pc = .ok (.tableswitch dflt lo hi offs, len)) (hx : x = v) (hv : inR v) (h1 : ¬ v < lo) (h2 : ¬ hi < v) (ho : offs[(v - lo).toNat]? = some off) (ht : (pc : Int) + off = (tgt : Int)) (K : XA M tgt ls sk w h k n Q) : XA M pc ls (vI x :: sk) w h k n Q := by
  intro p l e s m args below meth c H locs cells slots mc ms E lsM C hk hn hR hL hls
  subst hx
  exact lv_tableIn C.1 C.2.1 hd (by rw [i32_t hv]; exact h1) (by rw [i32_t hv]; exact h2) (by rw [i32_t hv]; exact ho) ht (K p l e s m args below meth c H locs cells slots mc ms E lsM C hk hn hR hL hls)
theorem s_tableOut {x dflt lo hi : Int} {offs : Array Int} {len tgt : Nat} (hd : decode (mC M) pc = .ok (.tableswitch dflt lo hi offs, len)) (hv : inR x) (h1 : x < lo ∨ hi < x) (ht : (pc : Int) + dflt = (tgt : Int)) (K : XA M tgt ls sk w h k n Q) : XA M pc ls (vI x :: sk) w h k n Q := by
  intro p l e s m args below meth c H locs cells slots mc ms E lsM C hk hn hR hL hls
  exact lv_tableOut C.1 C.2.1 hd (by rw [i32_t hv]; exact h1) ht (K p l e s m args below meth c H locs cells slots mc ms E lsM C hk hn hR hL hls)
theorem s_lookup {x dflt off : Int} {ps : Array (Int × Int)} {len tgt : Nat} (hd : decode (mC M) pc = .ok (.lookupswitch dflt ps, len)) (hp : (ps.toList.zip (ps.toList.drop 1)).all (fun (a, next) => a.1 < next.1) = true) (hv : inR x) (ho : Op.lookupswitch.offset ps.toList dflt x = off) (ht : (pc : Int) + off = (tgt : Int)) (K : XA M tgt ls sk w h k n Q) : XA M pc ls (vI x :: sk) w h k n Q := by
  intro p l e s m args below meth c H locs cells slots mc ms E lsM C hk hn hR hL hls
  exact lv_lookup C.1 C.2.1 hd hp (by rw [i32_t hv]; exact ho) ht (K p l e s m args below meth c H locs cells slots mc ms E lsM C hk hn hR hL hls)
theorem s_lcmp {x y : Int} (hd : decode (mC M) pc = .ok (.lcmp, 1)) (hx : inL x) (hy : inL y) (hp : pc + 1 = pc') (K : XA M pc' ls (vI (cmpZ x y) :: sk) w h k n Q) : XA M pc ls (vL y :: vL x :: sk) w h k n Q := by
  intro p l e s m args below meth c H locs cells slots mc ms E lsM C hk hn hR hL hls
  subst hp
  have K1 := K p l e s m args below meth c H locs cells slots mc ms E lsM C hk hn hR hL hls
  rw [List.map_cons, show tr E (vI (cmpZ x y)) = .int (Int32.ofInt (cmpZ x y)) from rfl, ← cmpZ_lg hx hy] at K1
  exact W.lcmp C.1 C.2.1 hd K1
theorem s_dup2 {u v : AV} (hd : decode (mC M) pc = .ok (.dup2, 1)) (hu : ∀ x, u ≠ vL x) (hv : ∀ x, v ≠ vL x) (hp : pc + 1 = pc') (K : XA M pc' ls (u :: v :: u :: v :: sk) w h k n Q) : XA M pc ls (u :: v :: sk) w h k n Q := by
  intro p l e s m args below meth c H locs cells slots mc ms E lsM C hk hn hR hL hls
  subst hp
  exact lv_dup2_11 C.1 C.2.1 hd (tr_cat1 E hu) (tr_cat1 E hv) (K p l e s m args below meth c H locs cells slots mc ms E lsM C hk hn hR hL hls)
theorem s_iret {x : Int} (hd : decode (mC M) pc = .ok (.ireturn, 1)) (hr : mR M = some .int) (hq : Q (some (vI x)) w h) : XA M pc ls [vI x] w h k n Q := by
  intro p l e s m args below meth c H locs cells slots mc ms E lsM C hk hn hR hL hls
  refine W.widen (k := mc) (n := ms) (by omega) (by omega) ?_
  exact W.iret C.1 C.2.1 (C.2.2.1.trans hr) (fun t ht hW => ⟨some (vI x), w, h, rfl, by rw [ht]; exact hR.moved hW.alike, hq⟩) hL hd C.2.2.2.2.2.2.1
theorem s_zret {x : Int} (hd : decode (mC M) pc = .ok (.ireturn, 1)) (hr : mR M = some .boolean) (hx : x = 0 ∨ x = 1) (hq : Q (some (vI x)) w h) : XA M pc ls [vI x] w h k n Q := by
  intro p l e s m args below meth c H locs cells slots mc ms E lsM C hk hn hR hL hls
  refine W.widen (k := mc) (n := ms) (by omega) (by omega) ?_
  exact W.zret C.1 C.2.1 (C.2.2.1.trans hr) (by rcases hx with rfl | rfl <;> decide) (fun t ht hW => ⟨some (vI x), w, h, rfl, by rw [ht]; exact hR.moved hW.alike, hq⟩) hL hd C.2.2.2.2.2.2.1
theorem s_vret (hd : decode (mC M) pc = .ok (.return_, 1)) (hr : mR M = none) (hq : Q none w h) : XA M pc ls [] w h k n Q := by
  intro p l e s m args below meth c H locs cells slots mc ms E lsM C hk hn hR hL hls
  refine W.widen (k := mc) (n := ms) (by omega) (by omega) ?_
  exact W.vret C.1 C.2.1 (C.2.2.1.trans hr) (fun t ht hW => ⟨none, w, h, rfl, by rw [ht]; exact hR.moved hW.alike, hq⟩) hL hd C.2.2.2.2.2.2.1
theorem s_aret {x : Int} {rt : FieldType} (hd : decode (mC M) pc = .ok (.areturn, 1)) (hr : mR M = some rt) (hrt : ∃ nm, rt = .object nm) (hq : Q (some (vR x)) w h) : XA M pc ls [vR x] w h k n Q := by
  intro p l e s m args below meth c H locs cells slots mc ms E lsM C hk hn hR hL hls
  refine W.widen (k := mc) (n := ms) (by omega) (by omega) ?_
  exact W.aret C.1 C.2.1 (C.2.2.1.trans hr) (Or.inl hrt) (rf_or E x) (fun t ht hW => ⟨some (vR x), w, h, rfl, by rw [ht]; exact hR.moved hW.alike, hq⟩) hL hd C.2.2.2.2.2.2.1
end SA
end
section
theorem mem_pl (ws : List Cond) (ps : List Nat) (hp : ws = ps.filterMap (fun i => lw_tbl[i]?)) (hg : ws.all goodWord = true) : ∀ w ∈ ws, w ∈ lw_g := by
  intro w hw
  have h1 := List.all_eq_true.mp hg w hw
  rw [hp] at hw
  obtain ⟨i, -, hi⟩ := List.mem_filterMap.mp hw
  exact mem_g i hi h1
theorem inX0 : ∀ w ∈ wsX00, w ∈ lw_g := mem_pl _ [217, 219, 221, 223, 225] (by decide +kernel) (by decide +kernel)
theorem inX1 : ∀ w ∈ wsX10, w ∈ lw_g := mem_pl _ [281, 283, 285, 287, 289, 291, 293, 295, 297, 299, 301] (by decide +kernel) (by decide +kernel)
theorem inX2 : ∀ w ∈ wsX20, w ∈ lw_g := mem_pl _ [252, 254, 256] (by decide +kernel) (by decide +kernel)
theorem inX3 : ∀ w ∈ wsX30, w ∈ lw_g := mem_pl _ [144, 146, 148] (by decide +kernel) (by decide +kernel)
theorem inX4 : ∀ w ∈ wsX40, w ∈ lw_g := mem_pl _ [316, 318, 320, 322, 324, 326] (by decide +kernel) (by decide +kernel)
theorem inX5 : ∀ w ∈ wsX50, w ∈ lw_g := mem_pl _ [177, 179, 181, 183, 185, 187, 189, 191, 193, 195, 197, 199] (by decide +kernel) (by decide +kernel)
theorem inX6 : ∀ w ∈ wsX60, w ∈ lw_g := mem_pl _ [127, 129, 131, 133, 135, 137] (by decide +kernel) (by decide +kernel)
theorem inX7 : ∀ w ∈ wsX70, w ∈ lw_g := mem_pl _ [238, 240] (by decide +kernel) (by decide +kernel)
theorem inX8 : ∀ w ∈ wsX80, w ∈ lw_g := mem_pl _ [343, 345, 347, 349, 351, 353, 355, 357, 359, 361, 363, 365, 367, 369] (by decide +kernel) (by decide +kernel)
theorem inX9 : ∀ w ∈ wsX90, w ∈ lw_g := mem_pl _ [1091, 1093, 1095, 1097, 1099, 1101, 1103, 1105, 1107, 1109, 1111, 1113, 1115, 1117, 1119, 1121, 1123, 1125, 1127, 1129, 1131, 1133, 1135, 1137, 1139, 1141, 1143, 1145, 1147, 1149, 1151, 1153, 1155, 1157, 1159, 1161, 1163, 1165, 1167] (by decide +kernel) (by decide +kernel)
/-- a class of ours: its number, its fields' words, types and names -/
def clsI (k : Nat) (C : String) (N : Nat) : Prop := vwCl[k]? = some (C, TC k, N) ∧ (∀ w ∈ u_ws C (TC k) N, w ∈ lw_g) ∧ (∀ i, i < N → parseFieldDescriptor (TC k i).2.2.1 = some (tyC k i)) ∧ ∀ a, a < N → ∀ b, b < N → a ≠ b → (TC k a).2.1 ≠ (TC k b).2.1
theorem clX0 : clsI 0 RX0 5 := ⟨rfl, inX0, tyX0_ok, nmX0⟩
theorem clX1 : clsI 1 RX1 11 := ⟨rfl, inX1, tyX1_ok, nmX1⟩
theorem clX2 : clsI 2 RX2 3 := ⟨rfl, inX2, tyX2_ok, nmX2⟩
theorem clX3 : clsI 3 RX3 3 := ⟨rfl, inX3, tyX3_ok, nmX3⟩
theorem clX4 : clsI 4 RX4 6 := ⟨rfl, inX4, tyX4_ok, nmX4⟩
theorem clX5 : clsI 5 RX5 12 := ⟨rfl, inX5, tyX5_ok, nmX5⟩
theorem clX6 : clsI 6 RX6 6 := ⟨rfl, inX6, tyX6_ok, nmX6⟩
theorem clX7 : clsI 7 RX7 2 := ⟨rfl, inX7, tyX7_ok, nmX7⟩
theorem clX8 : clsI 8 RX8 14 := ⟨rfl, inX8, tyX8_ok, nmX8⟩
theorem clX9 : clsI 9 RX9 39 := ⟨rfl, inX9, tyX9_ok, nmX9⟩
section SB
variable {M : MI} {pc pc' : Nat} {ls ls' : List (Option AV)} {sk : List AV} {w : WS} {h : AH} {k n : Nat} {Q : Option AV → WS → AH → Prop}
theorem s_get {kc i N idx : Nat} {a : Int} {v : AV} (hd : decode (mC M) pc = .ok (.getfield idx, 3)) (hc : clsI kc (mO M) N) (hi : i < N) (hl : Cond.fieldLink (mO M) idx (TC kc i).1 (TC kc i).2.1 (TC kc i).2.2.1 ∈ lw_g) (ha : wt w a = 10 + kc) (hv : ∀ E, fv E w h kc a i = tr E v) (hp : pc + 3 = pc') (K : XA M pc' ls (v :: sk) w h k n Q) : XA M pc ls (vR a :: sk) w h k n Q := by
  intro p l e s m args below meth c H locs cells slots mc ms E lsM C hk hn hR hL hls
  subst hp
  obtain ⟨q, hq, hob⟩ := (hR.2.2.2.1 a).2.2.2.2.2.2.2 kc ha
  have hq2 : q = (mO M, TC kc, N) := Option.some.inj (hq.symm.trans hc.1)
  subst hq2
  have er : tr E (vR a) = .ref (ad E a) := rf_own (hR.id (by omega))
  rw [List.map_cons, er]
  have hF := hR.2.2.2.2.1
  refine va_get (D := eD E) (cl := vwCl) (tys := []) (ws := [(ad E a, .inr (kc, (List.range N).map (fun i => fv E w h kc a i)))]) (ci := kc) C.1 C.2.1 (Ts := lw_g) C.2.2.2.2.2.1 hc.2.1 C.2.2.2.2.1 hF ?_ 0 rfl hc.1 i hi (C.2.2.2.2.2.1 _ hl) (fun _ h => h) (v := tr E v) ?_ hd (K p l e s m args below meth c H locs cells slots mc ms E lsM C hk hn hR hL hls)
  · intro j x hx
    cases j with
    | zero =>
      simp only [List.getElem?_cons_zero, Option.some.injEq] at hx
      subst hx
      exact ⟨_, hq, hob.to fun i hi => by simp only [vp_V, List.getD_eq_getElem?_getD]; rw [List.getElem?_map, List.getElem?_range hi]; rfl⟩
    | succ j => simp at hx
  · rw [List.getElem?_map, List.getElem?_range hi, ← hv E]; rfl
theorem s_put {kc i N idx : Nat} {a x : Int} {v : AV} (hd : decode (mC M) pc = .ok (.putfield idx, 3)) (hc : clsI kc (mO M) N) (hi : i < N) (hl : Cond.fieldLink (mO M) idx (TC kc i).1 (TC kc i).2.1 (TC kc i).2.2.1 ∈ lw_g) (hf : (TC kc i).2.2.2 = false) (ha : wt w a = 10 + kc) (hn1 : ∀ E, narrow (tyC kc i) (tr E v) = tr E v ∧ fits (tyC kc i) (tr E v) = true) (hv : ∀ E y, fvv E (tyC kc i) false x y = tr E v) (hp : pc + 3 = pc') (K : XA M pc' ls sk w (st h a i x) k n Q) : XA M pc ls (v :: vR a :: sk) w h k n Q := by
  intro p l e s m args below meth c H locs cells slots mc ms E lsM C hk hn hR hL hls
  subst hp
  obtain ⟨q, hq, cell, q1, q2, q3, q4⟩ := (hR.2.2.2.1 a).2.2.2.2.2.2.2 kc ha
  have hq2 : q = (mO M, TC kc, N) := Option.some.inj (hq.symm.trans hc.1)
  subst hq2
  have er : tr E (vR a) = .ref (ad E a) := rf_own (hR.id (by omega))
  rw [List.map_cons, List.map_cons, er]
  have hK := hR.2.2.2.2.1
  have hap := va_apart (own := mO M) C.2.2.2.2.2.1 hc.2.1 (tyC kc) hc.2.2.1 hc.2.2.2 hK hc.1
  obtain ⟨hS, hfc, kC, hkC, hkind⟩ := hK.1 kc _ hc.1
  obtain ⟨cf, kf, fi, f, hfi, hsl⟩ := hS i hi
  have hlay := C.2.2.2.2.2.1 _ (hc.2.1 _ (u_in_lay hi))
  unfold u_lay at hlay
  rw [if_neg (by rw [hf]; decide)] at hlay
  have hst := (u_facts hfc hkC (u_lays C.2.2.2.2.2.1 hc.2.1 hi) hfi).1
  have h6 := u_store hfc hkC hkind hlay hfi (hc.2.2.1 i hi) (hn1 E).1 (hn1 E).2
  refine W.putK C.1 C.2.1 (f := f) ⟨C.2.2.2.2.1, C.2.2.2.2.2.1 _ hl, ⟨_, _, _, hfi⟩, hst⟩ (by rw [q2]; exact h6) q1 q3 (by rw [hsl]; exact k2_hasslot (q4 i hi)) rfl rfl hd fun H' e1 e2 e3 => ?_
  rw [hsl] at e1
  have ho : 1 ≤ a := hR.own (by omega) (by omega) (by omega)
  refine K p l e s m args below meth c H' _ cells slots mc ms E lsM C hk hn (hR.set ho e2 e3 ?_ (fun b hb => st_row h _ _ hb)) ?_ hls
  · refine ⟨fun z => by omega, fun z => by omega, fun z => by omega, fun z => by omega, fun z => by omega, fun z => by omega, fun z => by omega, fun k1 z => ?_⟩
    have hk1 : k1 = kc := by omega
    subst hk1
    refine ⟨_, hq, t_OB.to ⟨_, e1, q2, q3, t_set q4 hap hi (tr E v)⟩ fun j hj => ?_⟩
    unfold updV
    by_cases hji : j = i
    · subst hji
      rw [if_pos rfl]
      unfold fv
      rw [st_same, hf, hv]
    · rw [if_neg hji]
      unfold fv
      rw [st_slot h a a x (show (j : Int) ≠ (i : Int) by omega)]
  · intro z hz
    rcases List.mem_append.mp hz with z1 | z1
    · exact hL z z1
    · rw [List.mem_singleton.mp z1]
      show eB E ≤ ad E a
      rw [ad_own ho]; omega
theorem s_iald {a i : Int} (hd : decode (mC M) pc = .ok (.iaload, 1)) (ha : wt w a = 1) (h0 : 0 ≤ i) (h1 : i < wl w a) (hp : pc + 1 = pc') (K : XA M pc' ls (vI (h a i) :: sk) w h k n Q) : XA M pc ls (vI i :: vR a :: sk) w h k n Q := by
  intro p l e s m args below meth c H locs cells slots mc ms E lsM C hk hn hR hL hls
  subst hp
  obtain ⟨cell, c1, c2, c3, c4, c5⟩ := (hR.2.2.2.1 a).1 ha
  have hr := hR.len (by omega) h0 h1
  have hi : i.toNat < wn w a := by unfold wl at h1; omega
  have er : tr E (vR a) = .ref (ad E a) := rf_own (hR.id (by omega))
  rw [List.map_cons, List.map_cons, er]
  refine W.iald C.1 C.2.1 c1 c2 c3 (by rw [c4]; exact i32_in h0 (by unfold wl at h1; exact h1) hr) (v := tr E (vI (h a i))) ?_ rfl rfl hd (K p l e s m args below meth c H locs cells slots mc ms E lsM C hk hn hR hL hls)
  rw [i32_ix hr, c5 _ hi]
  have : ((i.toNat : Nat) : Int) = i := by omega
  dsimp only; rw [this]; rfl
theorem s_iald6 {a i : Int} (hd : decode (mC M) pc = .ok (.iaload, 1)) (ha : wt w a = 6) (h0 : 0 ≤ i) (h1 : i < wl w a) (hp : pc + 1 = pc') (K : XA M pc' ls (vI (h a i) :: sk) w h k n Q) : XA M pc ls (vI i :: vR a :: sk) w h k n Q := by
  intro p l e s m args below meth c H locs cells slots mc ms E lsM C hk hn hR hL hls
  subst hp
  obtain ⟨cell, c1, c2, c3, c4, c5⟩ := (hR.2.2.2.1 a).2.2.2.2.1 ha
  have hr := hR.len (by omega) h0 h1
  have hi : i.toNat < wn w a := by unfold wl at h1; omega
  have er : tr E (vR a) = .ref (ad E a) := rf_own (hR.id (by omega))
  rw [List.map_cons, List.map_cons, er]
  refine W.iald C.1 C.2.1 c1 c2 c3 (by rw [c4]; exact i32_in h0 (by unfold wl at h1; exact h1) hr) (v := tr E (vI (h a i))) ?_ rfl rfl hd (K p l e s m args below meth c H locs cells slots mc ms E lsM C hk hn hR hL hls)
  rw [i32_ix hr, c5 _ hi]
  have : ((i.toNat : Nat) : Int) = i := by omega
  dsimp only; rw [this]; rfl
theorem s_bald {a i : Int} (hd : decode (mC M) pc = .ok (.baload, 1)) (ha : wt w a = 2) (h0 : 0 ≤ i) (h1 : i < wl w a) (hp : pc + 1 = pc') (K : XA M pc' ls (vI (h a i) :: sk) w h k n Q) : XA M pc ls (vI i :: vR a :: sk) w h k n Q := by
  intro p l e s m args below meth c H locs cells slots mc ms E lsM C hk hn hR hL hls
  subst hp
  obtain ⟨cell, c1, c2, c3, c4, c5⟩ := (hR.2.2.2.1 a).2.1 ha
  have hr := hR.len (by omega) h0 h1
  have hi : i.toNat < wn w a := by unfold wl at h1; omega
  have er : tr E (vR a) = .ref (ad E a) := rf_own (hR.id (by omega))
  rw [List.map_cons, List.map_cons, er]
  refine W.bald C.1 C.2.1 c1 c2 c3 (by rw [c4]; exact i32_in h0 (by unfold wl at h1; exact h1) hr) (v := tr E (vI (h a i))) ?_ rfl rfl hd (K p l e s m args below meth c H locs cells slots mc ms E lsM C hk hn hR hL hls)
  rw [i32_ix hr, c5 _ hi]
  have : ((i.toNat : Nat) : Int) = i := by omega
  dsimp only; rw [this]; rfl
theorem s_zald {a i : Int} (hd : decode (mC M) pc = .ok (.baload, 1)) (ha : wt w a = 3) (h0 : 0 ≤ i) (h1 : i < wl w a) (hp : pc + 1 = pc') (K : XA M pc' ls (vI (h a i) :: sk) w h k n Q) : XA M pc ls (vI i :: vR a :: sk) w h k n Q := by
  intro p l e s m args below meth c H locs cells slots mc ms E lsM C hk hn hR hL hls
  subst hp
  obtain ⟨cell, c1, c2, c3, c4, c5⟩ := (hR.2.2.2.1 a).2.2.1 ha
  have hr := hR.len (by omega) h0 h1
  have hi : i.toNat < wn w a := by unfold wl at h1; omega
  have er : tr E (vR a) = .ref (ad E a) := rf_own (hR.id (by omega))
  rw [List.map_cons, List.map_cons, er]
  refine W.zald C.1 C.2.1 c1 c2 c3 (by rw [c4]; exact i32_in h0 (by unfold wl at h1; exact h1) hr) (v := tr E (vI (h a i))) ?_ rfl rfl hd (K p l e s m args below meth c H locs cells slots mc ms E lsM C hk hn hR hL hls)
  rw [i32_ix hr, c5 _ hi]
  have : ((i.toNat : Nat) : Int) = i := by omega
  dsimp only; rw [this]; rfl
theorem s_lald {a i : Int} (hd : decode (mC M) pc = .ok (.laload, 1)) (ha : wt w a = 4) (h0 : 0 ≤ i) (h1 : i < wl w a) (hp : pc + 1 = pc') (K : XA M pc' ls (vL (h a i) :: sk) w h k n Q) : XA M pc ls (vI i :: vR a :: sk) w h k n Q := by
  intro p l e s m args below meth c H locs cells slots mc ms E lsM C hk hn hR hL hls
  subst hp
  obtain ⟨cell, c1, c2, c3, c4, c5⟩ := (hR.2.2.2.1 a).2.2.2.1 ha
  have hr := hR.len (by omega) h0 h1
  have hi : i.toNat < wn w a := by unfold wl at h1; omega
  have er : tr E (vR a) = .ref (ad E a) := rf_own (hR.id (by omega))
  rw [List.map_cons, List.map_cons, er]
  refine W.lald C.1 C.2.1 c1 c2 c3 (by rw [c4]; exact i32_in h0 (by unfold wl at h1; exact h1) hr) (v := tr E (vL (h a i))) ?_ rfl rfl hd (K p l e s m args below meth c H locs cells slots mc ms E lsM C hk hn hR hL hls)
  rw [i32_ix hr, c5 _ hi]
  have : ((i.toNat : Nat) : Int) = i := by omega
  dsimp only; rw [this]; rfl
theorem s_lald7 {a i : Int} (hd : decode (mC M) pc = .ok (.laload, 1)) (ha : wt w a = 7) (h0 : 0 ≤ i) (h1 : i < wl w a) (hp : pc + 1 = pc') (K : XA M pc' ls (vL (h a i) :: sk) w h k n Q) : XA M pc ls (vI i :: vR a :: sk) w h k n Q := by
  intro p l e s m args below meth c H locs cells slots mc ms E lsM C hk hn hR hL hls
  subst hp
  obtain ⟨cell, c1, c2, c3, c4, c5⟩ := (hR.2.2.2.1 a).2.2.2.2.2.1 ha
  have hr := hR.len (by omega) h0 h1
  have hi : i.toNat < wn w a := by unfold wl at h1; omega
  have er : tr E (vR a) = .ref (ad E a) := rf_own (hR.id (by omega))
  rw [List.map_cons, List.map_cons, er]
  refine W.lald C.1 C.2.1 c1 c2 c3 (by rw [c4]; exact i32_in h0 (by unfold wl at h1; exact h1) hr) (v := tr E (vL (h a i))) ?_ rfl rfl hd (K p l e s m args below meth c H locs cells slots mc ms E lsM C hk hn hR hL hls)
  rw [i32_ix hr, c5 _ hi]
  have : ((i.toNat : Nat) : Int) = i := by omega
  dsimp only; rw [this]; rfl
theorem s_aald {a i : Int} (hd : decode (mC M) pc = .ok (.aaload, 1)) (ha : wt w a = 5) (h0 : 0 ≤ i) (h1 : i < wl w a) (hp : pc + 1 = pc') (K : XA M pc' ls (vR (h a i) :: sk) w h k n Q) : XA M pc ls (vI i :: vR a :: sk) w h k n Q := by
  intro p l e s m args below meth c H locs cells slots mc ms E lsM C hk hn hR hL hls
  subst hp
  obtain ⟨⟨cell, c1, c2, c3, c4, c5⟩, -⟩ := (hR.2.2.2.1 a).2.2.2.2.2.2.1 ha
  have hr := hR.len (by omega) h0 h1
  have hi : i.toNat < wn w a := by unfold wl at h1; omega
  have er : tr E (vR a) = .ref (ad E a) := rf_own (hR.id (by omega))
  rw [List.map_cons, List.map_cons, er]
  refine W.aald C.1 C.2.1 c1 c2 rfl c3 (by rw [c4]; exact i32_in h0 (by unfold wl at h1; exact h1) hr) (v := tr E (vR (h a i))) ?_ rfl rfl hd (K p l e s m args below meth c H locs cells slots mc ms E lsM C hk hn hR hL hls)
  rw [i32_ix hr, c5 _ hi]
  have : ((i.toNat : Nat) : Int) = i := by omega
  dsimp only; rw [this]; rfl
theorem s_iast {a i x : Int} (hd : decode (mC M) pc = .ok (.iastore, 1)) (ha : wt w a = 1) (h0 : 0 ≤ i) (h1 : i < wl w a) (hp : pc + 1 = pc') (K : XA M pc' ls sk w (st h a i x) k n Q) : XA M pc ls (vI x :: vI i :: vR a :: sk) w h k n Q := by
  intro p l e s m args below meth c H locs cells slots mc ms E lsM C hk hn hR hL hls
  subst hp
  obtain ⟨cell, c1, c2, c3, c4, c5⟩ := (hR.2.2.2.1 a).1 ha
  have hr := hR.len (by omega) h0 h1
  have hi : i.toNat < wn w a := by unfold wl at h1; omega
  have er : tr E (vR a) = .ref (ad E a) := rf_own (hR.id (by omega))
  have ho : 1 ≤ a := hR.own (by omega) (by omega) (by omega)
  rw [List.map_cons, List.map_cons, List.map_cons, er]
  refine W.iast C.1 C.2.1 c1 c2 c3 (by rw [c4]; exact i32_in h0 (by unfold wl at h1; exact h1) hr) rfl rfl hd fun H' e1 e2 e3 => ?_
  rw [i32_ix hr] at e1
  refine K p l e s m args below meth c H' _ cells slots mc ms E lsM C hk hn (hR.set ho e2 e3 ?_ (fun b hb => st_row h _ _ hb)) ?_ hls
  · have key : arrAt s E w H' a .int (fun j => .int (Int32.ofInt (st h a i x a j))) := by
      refine ⟨_, e1, ⟨c2.1, c2.2⟩, c3, by rw [← c4]; simp [Cell.setSlot], fun j hj => ?_⟩
      show (cell.setSlot i.toNat _).slots[j]? = _
      unfold Cell.setSlot
      rw [Array.getElem?_setIfInBounds]
      by_cases hji : i.toNat = j
      · rw [if_pos hji, if_pos (by rw [c4]; omega)]
        have : (j : Int) = i := by omega
        dsimp only; rw [this, st_same]
      · rw [if_neg hji, c5 j hj]; dsimp only; rw [st_slot h a a x (show (j : Int) ≠ i by omega)]
    refine ⟨fun z => key, fun z => by omega, fun z => by omega, fun z => by omega, fun z => by omega, fun z => by omega, fun z => by omega, fun k1 z => by omega⟩
  · intro z hz
    rcases List.mem_append.mp hz with z1 | z1
    · exact hL z z1
    · rw [List.mem_singleton.mp z1]
      show eB E ≤ ad E a
      rw [ad_own ho]; omega
theorem s_bast {a i x : Int} (hd : decode (mC M) pc = .ok (.bastore, 1)) (ha : wt w a = 2) (h0 : 0 ≤ i) (h1 : i < wl w a) (hx : narrow .byte (.int (Int32.ofInt x)) = .int (Int32.ofInt x)) (hp : pc + 1 = pc') (K : XA M pc' ls sk w (st h a i x) k n Q) : XA M pc ls (vI x :: vI i :: vR a :: sk) w h k n Q := by
  intro p l e s m args below meth c H locs cells slots mc ms E lsM C hk hn hR hL hls
  subst hp
  obtain ⟨cell, c1, c2, c3, c4, c5⟩ := (hR.2.2.2.1 a).2.1 ha
  have hr := hR.len (by omega) h0 h1
  have hi : i.toNat < wn w a := by unfold wl at h1; omega
  have er : tr E (vR a) = .ref (ad E a) := rf_own (hR.id (by omega))
  have ho : 1 ≤ a := hR.own (by omega) (by omega) (by omega)
  rw [List.map_cons, List.map_cons, List.map_cons, er]
  refine W.bast C.1 C.2.1 c1 c2 c3 (by rw [c4]; exact i32_in h0 (by unfold wl at h1; exact h1) hr) rfl rfl hd fun H' e1 e2 e3 => ?_
  rw [i32_ix hr, hx] at e1
  refine K p l e s m args below meth c H' _ cells slots mc ms E lsM C hk hn (hR.set ho e2 e3 ?_ (fun b hb => st_row h _ _ hb)) ?_ hls
  · have key : arrAt s E w H' a .byte (fun j => .int (Int32.ofInt (st h a i x a j))) := by
      refine ⟨_, e1, ⟨c2.1, c2.2⟩, c3, by rw [← c4]; simp [Cell.setSlot], fun j hj => ?_⟩
      show (cell.setSlot i.toNat _).slots[j]? = _
      unfold Cell.setSlot
      rw [Array.getElem?_setIfInBounds]
      by_cases hji : i.toNat = j
      · rw [if_pos hji, if_pos (by rw [c4]; omega)]
        have : (j : Int) = i := by omega
        dsimp only; rw [this, st_same]
      · rw [if_neg hji, c5 j hj]; dsimp only; rw [st_slot h a a x (show (j : Int) ≠ i by omega)]
    refine ⟨fun z => by omega, fun z => key, fun z => by omega, fun z => by omega, fun z => by omega, fun z => by omega, fun z => by omega, fun k1 z => by omega⟩
  · intro z hz
    rcases List.mem_append.mp hz with z1 | z1
    · exact hL z z1
    · rw [List.mem_singleton.mp z1]
      show eB E ≤ ad E a
      rw [ad_own ho]; omega
theorem s_zast {a i x : Int} (hd : decode (mC M) pc = .ok (.bastore, 1)) (ha : wt w a = 3) (h0 : 0 ≤ i) (h1 : i < wl w a) (hx : narrow .boolean (.int (Int32.ofInt x)) = .int (Int32.ofInt x)) (hp : pc + 1 = pc') (K : XA M pc' ls sk w (st h a i x) k n Q) : XA M pc ls (vI x :: vI i :: vR a :: sk) w h k n Q := by
  intro p l e s m args below meth c H locs cells slots mc ms E lsM C hk hn hR hL hls
  subst hp
  obtain ⟨cell, c1, c2, c3, c4, c5⟩ := (hR.2.2.2.1 a).2.2.1 ha
  have hr := hR.len (by omega) h0 h1
  have hi : i.toNat < wn w a := by unfold wl at h1; omega
  have er : tr E (vR a) = .ref (ad E a) := rf_own (hR.id (by omega))
  have ho : 1 ≤ a := hR.own (by omega) (by omega) (by omega)
  rw [List.map_cons, List.map_cons, List.map_cons, er]
  refine W.zast C.1 C.2.1 c1 c2 c3 (by rw [c4]; exact i32_in h0 (by unfold wl at h1; exact h1) hr) rfl rfl hd fun H' e1 e2 e3 => ?_
  rw [i32_ix hr, hx] at e1
  refine K p l e s m args below meth c H' _ cells slots mc ms E lsM C hk hn (hR.set ho e2 e3 ?_ (fun b hb => st_row h _ _ hb)) ?_ hls
  · have key : arrAt s E w H' a .boolean (fun j => .int (Int32.ofInt (st h a i x a j))) := by
      refine ⟨_, e1, ⟨c2.1, c2.2⟩, c3, by rw [← c4]; simp [Cell.setSlot], fun j hj => ?_⟩
      show (cell.setSlot i.toNat _).slots[j]? = _
      unfold Cell.setSlot
      rw [Array.getElem?_setIfInBounds]
      by_cases hji : i.toNat = j
      · rw [if_pos hji, if_pos (by rw [c4]; omega)]
        have : (j : Int) = i := by omega
        dsimp only; rw [this, st_same]
      · rw [if_neg hji, c5 j hj]; dsimp only; rw [st_slot h a a x (show (j : Int) ≠ i by omega)]
    refine ⟨fun z => by omega, fun z => by omega, fun z => key, fun z => by omega, fun z => by omega, fun z => by omega, fun z => by omega, fun k1 z => by omega⟩
  · intro z hz
    rcases List.mem_append.mp hz with z1 | z1
    · exact hL z z1
    · rw [List.mem_singleton.mp z1]
      show eB E ≤ ad E a
      rw [ad_own ho]; omega
theorem s_last {a i x : Int} (hd : decode (mC M) pc = .ok (.lastore, 1)) (ha : wt w a = 4) (h0 : 0 ≤ i) (h1 : i < wl w a) (hp : pc + 1 = pc') (K : XA M pc' ls sk w (st h a i x) k n Q) : XA M pc ls (vL x :: vI i :: vR a :: sk) w h k n Q := by
  intro p l e s m args below meth c H locs cells slots mc ms E lsM C hk hn hR hL hls
  subst hp
  obtain ⟨cell, c1, c2, c3, c4, c5⟩ := (hR.2.2.2.1 a).2.2.2.1 ha
  have hr := hR.len (by omega) h0 h1
  have hi : i.toNat < wn w a := by unfold wl at h1; omega
  have er : tr E (vR a) = .ref (ad E a) := rf_own (hR.id (by omega))
  have ho : 1 ≤ a := hR.own (by omega) (by omega) (by omega)
  rw [List.map_cons, List.map_cons, List.map_cons, er]
  refine W.last C.1 C.2.1 c1 c2 c3 (by rw [c4]; exact i32_in h0 (by unfold wl at h1; exact h1) hr) rfl rfl hd fun H' e1 e2 e3 => ?_
  rw [i32_ix hr] at e1
  refine K p l e s m args below meth c H' _ cells slots mc ms E lsM C hk hn (hR.set ho e2 e3 ?_ (fun b hb => st_row h _ _ hb)) ?_ hls
  · have key : arrAt s E w H' a .long (fun j => .long (Int64.ofInt (st h a i x a j))) := by
      refine ⟨_, e1, ⟨c2.1, c2.2⟩, c3, by rw [← c4]; simp [Cell.setSlot], fun j hj => ?_⟩
      show (cell.setSlot i.toNat _).slots[j]? = _
      unfold Cell.setSlot
      rw [Array.getElem?_setIfInBounds]
      by_cases hji : i.toNat = j
      · rw [if_pos hji, if_pos (by rw [c4]; omega)]
        have : (j : Int) = i := by omega
        dsimp only; rw [this, st_same]
      · rw [if_neg hji, c5 j hj]; dsimp only; rw [st_slot h a a x (show (j : Int) ≠ i by omega)]
    refine ⟨fun z => by omega, fun z => by omega, fun z => by omega, fun z => key, fun z => by omega, fun z => by omega, fun z => by omega, fun k1 z => by omega⟩
  · intro z hz
    rcases List.mem_append.mp hz with z1 | z1
    · exact hL z z1
    · rw [List.mem_singleton.mp z1]
      show eB E ≤ ad E a
      rw [ad_own ho]; omega
theorem s_alen1 {a : Int} (hd : decode (mC M) pc = .ok (.arraylength, 1)) (ha : wt w a = 1) (hp : pc + 1 = pc') (K : XA M pc' ls (vI (wl w a) :: sk) w h k n Q) : XA M pc ls (vR a :: sk) w h k n Q := by
  intro p l e s m args below meth c H locs cells slots mc ms E lsM C hk hn hR hL hls
  subst hp
  obtain ⟨cell, c1, c2, c3, c4, c5⟩ := (hR.2.2.2.1 a).1 ha
  have er : tr E (vR a) = .ref (ad E a) := rf_own (hR.id (by omega))
  rw [List.map_cons, er]
  exact W.alen (n := Int32.ofInt (wl w a)) C.1 C.2.1 c1 c2 (by rw [c4]; exact Int32.ofInt_eq_ofNat.symm) rfl rfl hd (K p l e s m args below meth c H locs cells slots mc ms E lsM C hk hn hR hL hls)
theorem s_alen2 {a : Int} (hd : decode (mC M) pc = .ok (.arraylength, 1)) (ha : wt w a = 2) (hp : pc + 1 = pc') (K : XA M pc' ls (vI (wl w a) :: sk) w h k n Q) : XA M pc ls (vR a :: sk) w h k n Q := by
  intro p l e s m args below meth c H locs cells slots mc ms E lsM C hk hn hR hL hls
  subst hp
  obtain ⟨cell, c1, c2, c3, c4, c5⟩ := (hR.2.2.2.1 a).2.1 ha
  have er : tr E (vR a) = .ref (ad E a) := rf_own (hR.id (by omega))
  rw [List.map_cons, er]
  exact W.alen (n := Int32.ofInt (wl w a)) C.1 C.2.1 c1 c2 (by rw [c4]; exact Int32.ofInt_eq_ofNat.symm) rfl rfl hd (K p l e s m args below meth c H locs cells slots mc ms E lsM C hk hn hR hL hls)
theorem s_alen3 {a : Int} (hd : decode (mC M) pc = .ok (.arraylength, 1)) (ha : wt w a = 3) (hp : pc + 1 = pc') (K : XA M pc' ls (vI (wl w a) :: sk) w h k n Q) : XA M pc ls (vR a :: sk) w h k n Q := by
  intro p l e s m args below meth c H locs cells slots mc ms E lsM C hk hn hR hL hls
  subst hp
  obtain ⟨cell, c1, c2, c3, c4, c5⟩ := (hR.2.2.2.1 a).2.2.1 ha
  have er : tr E (vR a) = .ref (ad E a) := rf_own (hR.id (by omega))
  rw [List.map_cons, er]
  exact W.alen (n := Int32.ofInt (wl w a)) C.1 C.2.1 c1 c2 (by rw [c4]; exact Int32.ofInt_eq_ofNat.symm) rfl rfl hd (K p l e s m args below meth c H locs cells slots mc ms E lsM C hk hn hR hL hls)
theorem s_alen6 {a : Int} (hd : decode (mC M) pc = .ok (.arraylength, 1)) (ha : wt w a = 6) (hp : pc + 1 = pc') (K : XA M pc' ls (vI (wl w a) :: sk) w h k n Q) : XA M pc ls (vR a :: sk) w h k n Q := by
  intro p l e s m args below meth c H locs cells slots mc ms E lsM C hk hn hR hL hls
  subst hp
  obtain ⟨cell, c1, c2, c3, c4, c5⟩ := (hR.2.2.2.1 a).2.2.2.2.1 ha
  have er : tr E (vR a) = .ref (ad E a) := rf_own (hR.id (by omega))
  rw [List.map_cons, er]
  exact W.alen (n := Int32.ofInt (wl w a)) C.1 C.2.1 c1 c2 (by rw [c4]; exact Int32.ofInt_eq_ofNat.symm) rfl rfl hd (K p l e s m args below meth c H locs cells slots mc ms E lsM C hk hn hR hL hls)
theorem s_alen7 {a : Int} (hd : decode (mC M) pc = .ok (.arraylength, 1)) (ha : wt w a = 7) (hp : pc + 1 = pc') (K : XA M pc' ls (vI (wl w a) :: sk) w h k n Q) : XA M pc ls (vR a :: sk) w h k n Q := by
  intro p l e s m args below meth c H locs cells slots mc ms E lsM C hk hn hR hL hls
  subst hp
  obtain ⟨cell, c1, c2, c3, c4, c5⟩ := (hR.2.2.2.1 a).2.2.2.2.2.1 ha
  have er : tr E (vR a) = .ref (ad E a) := rf_own (hR.id (by omega))
  rw [List.map_cons, er]
  exact W.alen (n := Int32.ofInt (wl w a)) C.1 C.2.1 c1 c2 (by rw [c4]; exact Int32.ofInt_eq_ofNat.symm) rfl rfl hd (K p l e s m args below meth c H locs cells slots mc ms E lsM C hk hn hR hL hls)
theorem s_alen5 {a : Int} (hd : decode (mC M) pc = .ok (.arraylength, 1)) (ha : wt w a = 5) (hp : pc + 1 = pc') (K : XA M pc' ls (vI (wl w a) :: sk) w h k n Q) : XA M pc ls (vR a :: sk) w h k n Q := by
  intro p l e s m args below meth c H locs cells slots mc ms E lsM C hk hn hR hL hls
  subst hp
  obtain ⟨cell, c1, c2, c3, c4, c5⟩ := ((hR.2.2.2.1 a).2.2.2.2.2.2.1 ha).1
  have er : tr E (vR a) = .ref (ad E a) := rf_own (hR.id (by omega))
  rw [List.map_cons, er]
  exact W.alen (n := Int32.ofInt (wl w a)) C.1 C.2.1 c1 c2 (by rw [c4]; exact Int32.ofInt_eq_ofNat.symm) rfl rfl hd (K p l e s m args below meth c H locs cells slots mc ms E lsM C hk hn hR hL hls)
end SB
end
section
def acat (v : AV) : Nat := match v with
  | .inr (.inr _) => 2
  | _ => 1
theorem tr_acat (E : EV) (v : AV) : (tr E v).category = acat v := by
  match v with
  | .inl x => rfl
  | .inr (.inl a) => show (rf E a).category = 1; unfold rf; split <;> rfl
  | .inr (.inr x) => rfl
/-- the locals at a method's entry -/
def ent (L : Nat) (av : List AV) : List (Option AV) := 
  let l := av.flatMap (fun v => match v with | .inr (.inr x) => [some (vL x), none] | v => [some v])
  l ++ List.replicate (L - l.length) none
theorem lvl_app {E : EV} (a b : List (Option AV)) (i : Nat) : lvl E i (a ++ b) = lvl E i a ++ lvl E (i + a.length) b := by
  induction a generalizing i with
  | nil => simp [lvl]
  | cons x t ih =>
    cases x with
    | none => simp only [List.cons_append, lvl, ih, List.length_cons]; rw [show i + 1 + t.length = i + (t.length + 1) by omega]
    | some v => simp only [List.cons_append, lvl, ih, List.length_cons]; rw [show i + 1 + t.length = i + (t.length + 1) by omega]
theorem lvl_none {E : EV} (n i : Nat) : lvl E i (List.replicate n none) = [] := by
  induction n generalizing i with
  | zero => rfl
  | succ n ih => rw [List.replicate_succ, lvl, ih]
theorem lvl_ent {E : EV} (av : List AV) : ∀ i : Nat, lvl E i (av.flatMap (fun v => match v with | .inr (.inr x) => [some (vL x), none] | v => [some v])) = lv_args i (av.map (tr E)) := by
  induction av with
  | nil => intro i; rfl
  | cons v t ih =>
    intro i
    rw [List.flatMap_cons, List.map_cons, lv_args, lvl_app, tr_acat]
    match v with
    | .inl x => rw [ih]; rfl
    | .inr (.inl a) => rw [ih]; rfl
    | .inr (.inr x) => rw [ih]; rfl
theorem lg_len {E : EV} (av : List AV) : (lg_sl (av.map (tr E))).length = (av.flatMap (fun v => match v with | .inr (.inr x) => [some (vL x), none] | v => [some v])).length := by
  induction av with
  | nil => rfl
  | cons v t ih =>
    have e : ∀ (u : Value) (us : List Value), (lg_sl (u :: us)).length = u.category + (lg_sl us).length := by
      intro u us
      rcases lv_cat u with e | e <;> simp [lg_sl, e] <;> omega
    rw [List.map_cons, e, List.flatMap_cons, List.length_append, ← ih, tr_acat]
    match v with
    | .inl x => rfl
    | .inr (.inl a) => rfl
    | .inr (.inr x) => rfl
theorem Nst.same {u U : State} (hv : u.vm = U.vm) (N : Nst u) : Nst U := ⟨fun q hq => (N.1 q hq).same rfl hv, va_AO.moved (hv ▸ Vm.Alike.refl _) N.2⟩
theorem Nst.warm {s U : State} (hW : s.WarmedH U.vm) (N : Nst s) : Nst U := ⟨fun q hq => (N.1 q hq).warmM hW, va_AO.moved hW.alike N.2⟩
theorem Pc_blind (E : EV) (av : List AV) (w : WS) (h : AH) : FrameBlind (Pc E av w h) := fun _ U g mk q => ⟨q.1, Rep.moved (s := U) (U := U.calling g mk _) (Vm.Alike.refl U.vm) q.2.1, q.2.2.same (u := U) (U := U.calling g mk _) rfl⟩
/-- a contract out of a walk from the entry -/
theorem CA.of {M : MI} {av : List AV} {w : WS} {h : AH} {k n : Nat} {Q : Option AV → WS → AH → Prop} (hy : plainName (mY M).cls = true) (hO : (mY M).cls = mO M) (hl : (av.flatMap (fun v => match v with | .inr (.inr x) => [some (vL x), none] | v => [some v])).length ≤ mL M) (X : XA M 0 (ent (mL M) av) [] w h k n Q) : CA M av w h k n Q := by
  intro l E
  refine Met.ofW (cc := mC M) (maxL := mL M) (ret := mR M) hy rfl ?_
  intro p e s m args below meth c s₁ B hml hv
  obtain ⟨rfl, hR, hN⟩ := hv
  have hts := atoms_spec (ws := wsM M) B.pre
  have hown : s.vm.findClass (mO M) = some m.cls := by rw [← hO]; exact findClass_of_methodNamed B.named
  have hin : meth.name = (mY M).name := (name_of_methodNamed B.named B.method).1
  have hent := lv_entry (av.map (tr E)) (n := mL M) (by rw [lg_len]; exact hl)
  rw [lg_entry_eq]
  exact X p l e s m _ below meth c s.heap [] 0 0 k n E _ ⟨B.exec, B.bytes, B.returns, hml, hown, fun w hw => hts w (List.mem_cons_of_mem _ hw), B.notSynchronized, hin, hN⟩ (by omega) (by omega) hR (fun q hq => by cases hq) (by
    refine lv_less hent ?_
    unfold ent
    dsimp only
    rw [lvl_app, lvl_none, List.append_nil, lvl_ent]
    exact fun q hq => hq)
/-- what the tables say of a method -/
def mOK (N : MI) (na : Nat) : Prop := Cond.code (mY N) (mC N) (mL N) (mR N) ∈ lw_g ∧ Cond.initialized (mY N).cls ∈ lw_g ∧ ((mY N).cls ≠ "java/lang/invoke/MethodHandle" ∧ (mY N).cls ≠ "java/lang/invoke/VarHandle" ∧ (parseMethodDescriptor (mY N).desc).map (fun d => d.parameters.length) = some na)
def mOKi (N : MI) : Prop := Cond.instanceMethod (mY N) ∈ lw_g ∧ Cond.selects (mY N).cls (mY N) (mY N) ∈ lw_g
theorem lw_gg {w : Cond} (h : w ∈ lw_g) : (w.onTables && w.keeps) = true ∨ ∃ ty, w = .arrayClass ty := good_of_word (List.mem_filter.mp h).2
theorem good_M {N : MI} (h : Cond.code (mY N) (mC N) (mL N) (mR N) ∈ lw_g) : GoodIn lw_g (wsM N) := fun w hw => (List.mem_cons.mp hw).elim (fun e => by rw [e]; exact ⟨h, lw_gg h⟩) (fun q => ⟨q, lw_gg q⟩)
section SC
variable {M : MI} {pc pc' : Nat} {ls ls' : List (Option AV)} {sk : List AV} {w : WS} {h : AH} {k n : Nat} {Q : Option AV → WS → AH → Prop}
theorem run_on {p : Program} {l : Launch} {e : Env} {s : State} {m : MethodId} {args : Array Value} {below : List Frame} {meth : Method} {c : Code} {H : Heap} {locs : List Loc} {cells slots mc ms k1 n1 : Nat} {E : EV} {lsM : Array Slot} {st0 : List Value} {a : Array Value}
    (hr : va_Run p l e (rmM M mc ms) s m args below meth c H locs cells slots k1 n1 (F0 m pc lsM st0) (sk.map (tr E)) (Qc E (fun r w' h' => XA M (pc + 3) ls (r.toList ++ sk) w' h' (k - k1) (n - n1) Q) a) (fun q => eB E ≤ q)) (hk1 : k1 ≤ k) (hn1 : n1 ≤ n)
    (C : Ctx M p s m args meth c) (hk : cells + k ≤ mc) (hn : slots + n ≤ ms) (hL : ∀ q ∈ locs, eB E ≤ q.base) (hls : lv_has lsM (mL M) (lvl E 0 ls)) :
    W p l e (rmM M mc ms) s m args below meth c H locs cells slots (MQ below (Qc E Q) args s mc ms (fun q => eB E ≤ q)) (F0 m pc lsM st0) := by
  intro T hT X
  obtain ⟨v, st₀, t, T', L, h0, X', hL1, e1, e2, ⟨r, w', h', hv, hR', hX⟩, go⟩ := hr T hT X
  have hv : v = r.map (tr E) := Outcome.returned.inj hv
  subst hv
  have hal : t.vm.Alike s.vm := by
    have h1 : s.vm.Alike T'.vm := X'.warmed.alike
    rw [e2] at h1
    exact h1.symm
  obtain ⟨t2, a1, b1⟩ := hX p l e s m args below meth c T'.heap (locs ++ L) (cells + k1) (slots + n1) mc ms E lsM C (by omega) (by omega) (by rw [e1]; exact hR'.moved hal) (fun q hq => (List.mem_append.mp hq).elim (hL q) (hL1 q)) hls T' rfl X'
  refine ⟨t2, go t2 ?_, b1⟩
  have es : (r.toList ++ sk).map (tr E) = (r.map (tr E)).toList ++ sk.map (tr E) := by cases r <;> simp
  rw [es] at a1
  exact a1
theorem sk_cat {E : EV} (hs : (sk.map acat).sum ≤ 8) : 2 * 0 + ((sk.map (tr E)).map fun v => v.category).sum ≤ 8 := by
  rw [List.map_map, show ((fun v : Value => v.category) ∘ tr E) = acat from funext (fun v => tr_acat E v)]
  omega
theorem s_callV {N : MI} {idx kc NF na k1 n1 : Nat} {a : Int} {av : List AV} (hd : decode (mC M) pc = .ok (.invokevirtual idx, 3)) (hl : Cond.methodLink (mO M) idx (mY N) ∈ lw_g) (hN : mOK N na) (hi : mOKi N) (hrk : mK N + 1 ≤ mK M ∧ 8 + (mL N + 11) + rl (mK N) ≤ rl (mK M)) (hc : vwCl[kc]? = some ((mY N).cls, TC kc, NF)) (ha : wt w a = 10 + kc) (hna : av.length = na) (hs : (sk.map acat).sum ≤ 8) (hk1 : k1 ≤ k) (hn1 : n1 ≤ n) (hp : pc + 3 = pc')
    (K : CA N (vR a :: av) w h k1 n1 (fun r w' h' => XA M pc' ls (r.toList ++ sk) w' h' (k - k1) (n - n1) Q)) : XA M pc ls (av.reverse ++ vR a :: sk) w h k n Q := by
  intro p l e s m args below meth c H locs cells slots mc ms E lsM C hk hn hR hL hls
  subst hp
  have er : tr E (vR a) = .ref (ad E a) := rf_own (hR.id (by omega))
  obtain ⟨q, hq, cell, q1, q2, q3, q4⟩ := (hR.2.2.2.1 a).2.2.2.2.2.2.2 kc ha
  have cw := cwV (R := rmM M mc ms) (own := mO M) (C := (mY N).cls) (index := idx) (rm := rmM N k1 n1) na C.2.2.2.2.2.1 (fun w hw => by
    unfold wsV at hw
    rcases List.mem_append.mp hw with z | z
    · have : w ∈ lw_g := by
        rcases List.mem_cons.mp z with rfl | z
        · exact hl
        rcases List.mem_cons.mp z with rfl | z
        · exact hi.1
        rcases List.mem_cons.mp z with rfl | z
        · exact hi.2
        rcases List.mem_cons.mp z with rfl | z
        · exact hN.2.1
        · cases z
      exact ⟨this, lw_gg this⟩
    · exact good_M hN.1 w z) rfl (mc := k1) (ms := n1) rfl rfl ⟨rfl, hN.2.2⟩ hrk
  have hst : (av.reverse ++ vR a :: sk).map (tr E) = (av.map (tr E)).reverse ++ .ref (ad E a) :: sk.map (tr E) := by
    rw [List.map_append, List.map_cons, er, List.map_reverse]
  rw [hst]
  exact run_on (va_runV (As := av.map (tr E)) (rest := sk.map (tr E)) ⟨C.1, C.2.1, C.2.2.2.1, C.2.2.2.2.1, C.2.2.2.2.2.1⟩ (K l E) cw ⟨Pc_blind E _ w h, ⟨cell, q1, by rw [q3]; rfl, by
    rw [q2]
    have := (hR.2.2.2.2.1.1 kc _ hc).2.1
    exact this⟩, fun U hU hW => ⟨by rw [← er]; rfl, by rw [hU]; exact hR.moved hW.alike, C.2.2.2.2.2.2.2.2.warm hW⟩⟩ rfl (by rw [List.length_map]; exact hna) hls.1 rfl (sk_cat hs) hd ⟨by show cells + k1 ≤ mc; omega, by show slots + n1 ≤ ms; omega⟩) hk1 hn1 C hk hn hL hls
theorem s_callS {N : MI} {idx na k1 n1 : Nat} {av : List AV} (hd : decode (mC M) pc = .ok (.invokestatic idx, 3)) (hl : Cond.methodLink (mO M) idx (mY N) ∈ lw_g) (hN : mOK N na) (hi : Cond.static (mY N) ∈ lw_g) (hrk : mK N + 1 ≤ mK M ∧ 8 + (mL N + 11) + rl (mK N) ≤ rl (mK M)) (hna : av.length = na) (hs : (sk.map acat).sum ≤ 8) (hk1 : k1 ≤ k) (hn1 : n1 ≤ n) (hp : pc + 3 = pc')
    (K : CA N av w h k1 n1 (fun r w' h' => XA M pc' ls (r.toList ++ sk) w' h' (k - k1) (n - n1) Q)) : XA M pc ls (av.reverse ++ sk) w h k n Q := by
  intro p l e s m args below meth c H locs cells slots mc ms E lsM C hk hn hR hL hls
  subst hp
  have cw := va_cwS (R := rmM M mc ms) (own := mO M) (index := idx) (rm := rmM N k1 n1) na C.2.2.2.2.2.1 (fun w hw => by
    unfold va_wsS at hw
    rcases List.mem_append.mp hw with z | z
    · have : w ∈ lw_g := by
        rcases List.mem_cons.mp z with rfl | z
        · exact hl
        rcases List.mem_cons.mp z with rfl | z
        · exact hi
        rcases List.mem_cons.mp z with rfl | z
        · exact hN.2.1
        · cases z
      exact ⟨this, lw_gg this⟩
    · exact good_M hN.1 w z) rfl (mc := k1) (ms := n1) rfl rfl hN.2.2 hrk
  have hst : (av.reverse ++ sk).map (tr E) = (av.map (tr E)).reverse ++ sk.map (tr E) := by
    rw [List.map_append, List.map_reverse]
  rw [hst]
  exact run_on (va_runS (As := av.map (tr E)) (rest := sk.map (tr E)) ⟨C.1, C.2.1, C.2.2.2.1, C.2.2.2.2.1, C.2.2.2.2.2.1⟩ (K l E) cw ⟨Pc_blind E _ w h, fun U hU hW => ⟨rfl, by rw [hU]; exact hR.moved hW.alike, C.2.2.2.2.2.2.2.2.warm hW⟩⟩ rfl (by rw [List.length_map]; exact hna) hls.1 rfl (sk_cat hs) hd ⟨by show cells + k1 ≤ mc; omega, by show slots + n1 ≤ ms; omega⟩) hk1 hn1 C hk hn hL hls
theorem s_callI {N : MI} {idx na k1 n1 : Nat} {a : Int} {av : List AV} (hd : decode (mC M) pc = .ok (.invokespecial idx, 3)) (hl : Cond.methodLink (mO M) idx (mY N) ∈ lw_g) (hN : mOK N na) (hi : Cond.instanceMethod (mY N) ∈ lw_g) (hni : (mY N).name = "<init>") (hrn : mR N = none) (hrk : mK N + 1 ≤ mK M ∧ 8 + (mL N + 11) + rl (mK N) ≤ rl (mK M)) (ha : a ≠ 0) (hna : av.length = na) (hs : (sk.map acat).sum ≤ 8) (hk1 : k1 ≤ k) (hn1 : n1 ≤ n) (hp : pc + 3 = pc')
    (K : CA N (vR a :: av) w h k1 n1 (fun r w' h' => XA M pc' ls (r.toList ++ sk) w' h' (k - k1) (n - n1) Q)) : XA M pc ls (av.reverse ++ vR a :: sk) w h k n Q := by
  intro p l e s m args below meth c H locs cells slots mc ms E lsM C hk hn hR hL hls
  subst hp
  have er : tr E (vR a) = .ref (ad E a) := rf_own ha
  have cw := cwI (R := rmM M mc ms) (own := mO M) (index := idx) (rm := rmM N k1 n1) (y := mY N) (bytes := mC N) (maxL := mL N) (ws := wsM N) (ws' := lw_g) na C.2.2.2.2.2.1 (good_M hN.1) (by unfold wsM; rw [hrn]) (mc := k1) (ms := n1) rfl rfl (C.2.2.2.2.2.1 _ hN.2.1) (C.2.2.2.2.2.1 _ hl) (C.2.2.2.2.2.1 _ hi) hni hN.2.2 hrk
  have hst : (av.reverse ++ vR a :: sk).map (tr E) = (av.map (tr E)).reverse ++ .ref (ad E a) :: sk.map (tr E) := by
    rw [List.map_append, List.map_cons, er, List.map_reverse]
  rw [hst]
  exact run_on (va_runI (As := av.map (tr E)) (rest := sk.map (tr E)) ⟨C.1, C.2.1, C.2.2.2.1, C.2.2.2.2.1, C.2.2.2.2.2.1⟩ (K l E) cw ⟨Pc_blind E _ w h, fun U hU hW => ⟨by rw [← er]; rfl, by rw [hU]; exact hR.moved hW.alike, C.2.2.2.2.2.2.2.2.warm hW⟩⟩ rfl (by rw [List.length_map]; exact hna) hls.1 rfl (sk_cat hs) hd ⟨by show cells + k1 ≤ mc; omega, by show slots + n1 ≤ ms; omega⟩) hk1 hn1 C hk hn hL hls
theorem s_callIN {N : MI} {idx na k1 n1 : Nat} {a : Int} {av : List AV} {host : String} (hd : decode (mC M) pc = .ok (.invokespecial idx, 3)) (hl : (mO M, idx, mY N, host) ∈ nests) (hN : mOK N na) (hi : Cond.instanceMethod (mY N) ∈ lw_g) (hni : (mY N).name = "<init>") (hrn : mR N = none) (hrk : mK N + 1 ≤ mK M ∧ 8 + (mL N + 11) + rl (mK N) ≤ rl (mK M)) (ha : a ≠ 0) (hna : av.length = na) (hs : (sk.map acat).sum ≤ 8) (hk1 : k1 ≤ k) (hn1 : n1 ≤ n) (hp : pc + 3 = pc')
    (K : CA N (vR a :: av) w h k1 n1 (fun r w' h' => XA M pc' ls (r.toList ++ sk) w' h' (k - k1) (n - n1) Q)) : XA M pc ls (av.reverse ++ vR a :: sk) w h k n Q := by
  intro p l e s m args below meth c H locs cells slots mc ms E lsM C hk hn hR hL hls
  subst hp
  have er : tr E (vR a) = .ref (ad E a) := rf_own ha
  have cw := va_cnB (args := args) (R := rmM M mc ms) (own := mO M) (host := host) (index := idx) (rm := rmM N k1 n1) (y := mY N) (bytes := mC N) (maxL := mL N) (ret := none) (ws := wsM N) (ws' := lw_g) na C.2.2.2.2.2.1 (good_M hN.1) (by unfold wsM; rw [hrn]) (mc := k1) (ms := n1) rfl rfl (C.2.2.2.2.2.2.2.2.1 _ hl) (C.2.2.2.2.2.1 _ hN.2.1) hN.2.2 hrk
  have hst : (av.reverse ++ vR a :: sk).map (tr E) = (av.map (tr E)).reverse ++ .ref (ad E a) :: sk.map (tr E) := by
    rw [List.map_append, List.map_cons, er, List.map_reverse]
  rw [hst]
  exact run_on (va_runIN (As := av.map (tr E)) (rest := sk.map (tr E)) ⟨C.1, C.2.1, C.2.2.2.1, C.2.2.2.2.1, C.2.2.2.2.2.1⟩ (K l E) ⟨cw, hni, C.2.2.2.2.2.1 _ hi⟩ ⟨Pc_blind E _ w h, fun U hU hW => ⟨by rw [← er]; rfl, by rw [hU]; exact hR.moved hW.alike, C.2.2.2.2.2.2.2.2.warm hW⟩⟩ rfl (by rw [List.length_map]; exact hna) hls.1 rfl (sk_cat hs) hd ⟨by show cells + k1 ≤ mc; omega, by show slots + n1 ≤ ms; omega⟩) hk1 hn1 C hk hn hL hls
end SC
end
section
/-- a new cell -/
def wNew (w : WS) (kd n : Nat) : WS := (w.1 + 1, fun a => if a = (w.1 : Int) + 1 then (kd, n) else w.2.1 a, fun a i => if a = (w.1 : Int) + 1 then 0 else w.2.2 a i)
def hNew (w : WS) (h : AH) : AH := fun a i => if a = (w.1 : Int) + 1 then 0 else h a i
/-- a final reference is laid -/
def wFin (w : WS) (a i v : Int) : WS := (w.1, w.2.1, st w.2.2 a i v)
theorem cellAt.kept2 {s : State} {E : EV} {w w1 : WS} {h h1 : AH} {H H1 : Heap} {a : Int} (C : cellAt s E w h H a) (hq : wt w a ≠ 0 → H1[ad E a]? = H[ad E a]?) (hh : h1 a = h a) (hw : w1.2.1 a = w.2.1 a) (hf : w1.2.2 a = w.2.2 a) : cellAt s E w1 h1 H1 a := by
  have e1 : wt w1 a = wt w a := by unfold wt; rw [hw]
  have e2 : ∀ ty f, arrAt s E w1 H1 a ty f = arrAt s E w H1 a ty f := fun ty f => by unfold arrAt wn; rw [hw]
  have C1 := C.kept (h1 := h1) (H1 := H1) hq hh
  obtain ⟨c1, c2, c3, c4, d1, d2, c5, c6⟩ := C1
  refine ⟨fun e => ?_, fun e => ?_, fun e => ?_, fun e => ?_, fun e => ?_, fun e => ?_, fun e => ?_, fun k e => ?_⟩
  · rw [e2]; exact c1 (e1 ▸ e)
  · rw [e2]; exact c2 (e1 ▸ e)
  · rw [e2]; exact c3 (e1 ▸ e)
  · rw [e2]; exact c4 (e1 ▸ e)
  · rw [e2]; exact d1 (e1 ▸ e)
  · rw [e2]; exact d2 (e1 ▸ e)
  · rw [e2]; exact c5 (e1 ▸ e)
  · obtain ⟨q, q1, q2⟩ := c6 k (e1 ▸ e)
    refine ⟨q, q1, q2.to fun i _ => ?_⟩
    unfold fv wf
    rw [hf]
theorem wNew_t (w : WS) (kd n : Nat) : wt (wNew w kd n) ((w.1 : Int) + 1) = kd := by simp [wt, wNew]
theorem wNew_n (w : WS) (kd n : Nat) : wn (wNew w kd n) ((w.1 : Int) + 1) = n := by simp [wn, wNew]
theorem Rep.new {s : State} {E : EV} {w : WS} {h : AH} {H H1 : Heap} (R : Rep s E w h H) {kd n : Nat} (h6 : kd ≠ 6) (h7 : kd ≠ 7) (hn : n ≤ 2147483647) (hz : H1.size = H.size + 1) (ho : ∀ q : Nat, q < H.size → H1[q]? = H[q]?) (hc : cellAt s E (wNew w kd n) (hNew w h) H1 ((w.1 : Int) + 1)) : Rep s E (wNew w kd n) (hNew w h) H1 := by
  have hB : H.size = eB E + w.1 := R.1
  refine ⟨?_, fun q hq => ?_, fun a ha => ?_, fun a => ?_, R.2.2.2.2⟩
  · rw [hz, hB]; show _ = eB E + (w.1 + 1); omega
  · rw [ho q (by omega)]; exact R.2.1 q hq
  · by_cases e : a = (w.1 : Int) + 1
    · subst e
      rw [wNew_n]
      refine ⟨Or.inr (Or.inr ⟨by omega, ?_, ?_, ?_⟩), hn⟩
      · show (w.1 : Int) + 1 ≤ ((w.1 + 1 : Nat) : Int); omega
      · rw [wNew_t]; exact h6
      · rw [wNew_t]; exact h7
    · have e1 : wt (wNew w kd n) a = wt w a := by simp [wt, wNew, e]
      have e2 : wn (wNew w kd n) a = wn w a := by simp [wn, wNew, e]
      rw [e1] at ha
      obtain ⟨q1, q2⟩ := R.2.2.1 a ha
      rw [e1, e2]
      refine ⟨?_, q2⟩
      rcases q1 with q | q | q
      · exact Or.inl q
      · exact Or.inr (Or.inl q)
      · refine Or.inr (Or.inr ⟨q.1, ?_, q.2.2⟩)
        have := q.2.1
        show a ≤ ((w.1 + 1 : Nat) : Int)
        omega
  · by_cases e : a = (w.1 : Int) + 1
    · subst e; exact hc
    · refine (R.2.2.2.1 a).kept2 (fun hw => ho _ ?_) (by funext i; simp [hNew, e]) (by simp [wNew, e]) (by funext i; simp [wNew, e])
      obtain ⟨-, hs, hq, -⟩ := R.2.2.2.2
      rcases (R.2.2.1 a hw).1 with ⟨rfl, -⟩ | ⟨rfl, -⟩ | q
      · unfold ad; rw [if_pos rfl]; omega
      · unfold ad; rw [if_neg (by omega), if_pos rfl]; omega
      · rw [ad_own q.1]; omega
theorem ad_new {s : State} {E : EV} {w : WS} {h : AH} {H : Heap} (R : Rep s E w h H) : ad E ((w.1 : Int) + 1) = H.size := by
  rw [ad_own (by omega), R.1]; omega
theorem fvv_0 (E : EV) (t : FieldType) (b : Bool) (h1 : t ≠ .float) (h2 : t ≠ .double) : fvv E t b 0 0 = defaultValue t := by
  cases t <;> first | rfl | (cases b <;> rfl) | exact absurd rfl h1 | exact absurd rfl h2
section SD
variable {M : MI} {pc pc' : Nat} {ls ls' : List (Option AV)} {sk : List AV} {w : WS} {h : AH} {k n : Nat} {Q : Option AV → WS → AH → Prop}
theorem s_new {kc N idx : Nat} {Cn : String} (hd : decode (mC M) pc = .ok (.new idx, 3)) (hc : clsI kc Cn N) (hl : Cond.classLink (mO M) idx Cn ∈ lw_g) (hins : Cond.instantiable Cn N ∈ lw_g) (hini : Cond.initialized Cn ∈ lw_g) (hfd : ∀ i, i < N → tyC kc i ≠ .float ∧ tyC kc i ≠ .double) (hp : pc + 3 = pc') (K : XA M pc' ls (vR ((w.1 : Int) + 1) :: sk) (wNew w (10 + kc) 0) (hNew w h) k n Q) : XA M pc ls sk w h (k + 1) (n + N) Q := by
  intro p l e s m args below meth c H locs cells slots mc ms E lsM C hk hn hR hL hls
  subst hp
  have hKn := hR.2.2.2.2.1.1 kc _ hc.1
  refine W.newcK C.1 C.2.1 C.2.2.2.2.1 (C.2.2.2.2.2.1 _ hl) (C.2.2.2.2.2.1 _ hins) (C.2.2.2.2.2.1 _ hini) rfl hd (by show cells + 1 ≤ mc; omega) (by show slots + N ≤ ms; omega) hKn.2.1 rfl fun H1 kC hkC e1 z1 o1 => ?_
  have er : tr E (vR ((w.1 : Int) + 1)) = .ref H.size := by rw [← ad_new hR]; exact rf_own (by omega)
  have hR1 : Rep s E (wNew w (10 + kc) 0) (hNew w h) H1 := by
    refine hR.new (by omega) (by omega) (by omega) z1 o1 ⟨fun z => ?_, fun z => ?_, fun z => ?_, fun z => ?_, fun z => ?_, fun z => ?_, fun z => ?_, fun k1 z => ?_⟩
    · rw [wNew_t] at z; omega
    · rw [wNew_t] at z; omega
    · rw [wNew_t] at z; omega
    · rw [wNew_t] at z; omega
    · rw [wNew_t] at z; omega
    · rw [wNew_t] at z; omega
    · rw [wNew_t] at z; omega
    · rw [wNew_t] at z
      have : k1 = kc := by omega
      subst this
      rw [ad_new hR]
      refine ⟨_, hc.1, (u_born (tyC k1) C.2.2.2.2.2.1 hc.2.1 hKn hkC e1 hc.2.2.1).to fun i hi => ?_⟩
      have h0 : hNew w h ((w.1 : Int) + 1) i = 0 := by simp [hNew]
      have h1 : wf (wNew w (10 + k1) 0) ((w.1 : Int) + 1) i = 0 := by simp [wf, wNew]
      unfold fv
      rw [h0, h1, fvv_0 E _ _ (hfd i hi).1 (hfd i hi).2]
  have K1 := K p l e s m args below meth c H1 locs (cells + 1) (slots + N) mc ms E lsM C (by omega) (by omega) hR1 hL hls
  rw [List.map_cons, er] at K1
  exact K1
theorem s_newa_int {x : Int} (hd : decode (mC M) pc = .ok (.newarray .int, 2)) (hl : Cond.arrayClass .int ∈ lw_g) (h0 : 0 ≤ x) (h1 : x ≤ 1000000) (hx : x.toNat ≤ n) (hp : pc + 2 = pc') (K : XA M pc' ls (vR ((w.1 : Int) + 1) :: sk) (wNew w 1 x.toNat) (hNew w h) k (n - x.toNat) Q) : XA M pc ls (vI x :: sk) w h (k + 1) n Q := by
  intro p l e s m args below meth c H locs cells slots mc ms E lsM C hk hn hR hL hls
  subst hp
  have hr : inR x := ⟨by omega, by omega⟩
  refine va_newaK (atype := .int) C.1 C.2.1 (C.2.2.2.2.2.1 _ hl) rfl hd (N := x.toNat) rfl (by rw [show (0 : Int32) = Int32.ofInt 0 from rfl, i32_lt hr (by decide)]; omega) (i32_ix hr) (by show x.toNat * _ ≤ _; simp only [newarray.typeOf, componentBytes]; omega) (by show cells + 1 ≤ mc; omega) (by show slots + x.toNat ≤ ms; omega) rfl fun H1 cA e1 z1 o1 hAr hNm => ?_
  have er : tr E (vR ((w.1 : Int) + 1)) = .ref H.size := by rw [← ad_new hR]; exact rf_own (by omega)
  have key : arrAt s E (wNew w 1 x.toNat) H1 ((w.1 : Int) + 1) .int (fun j => .int (Int32.ofInt (hNew w h ((w.1 : Int) + 1) j))) := by
    refine ⟨_, by rw [ad_new hR]; exact e1, hAr _ _, (fun q => by cases q), by rw [arrV_size, wNew_n], fun j hj => ?_⟩
    rw [wNew_n] at hj
    rw [arrV_read _ _ hj]
    have h0 : hNew w h ((w.1 : Int) + 1) j = 0 := by simp [hNew]
    dsimp only; rw [h0]
    rfl
  have hR1 : Rep s E (wNew w 1 x.toNat) (hNew w h) H1 := by
    refine hR.new (by omega) (by omega) (by omega) z1 o1 ⟨fun z => ?_, fun z => ?_, fun z => ?_, fun z => ?_, fun z => ?_, fun z => ?_, fun z => ?_, fun k1 z => ?_⟩
    · exact key
    · rw [wNew_t] at z; omega
    · rw [wNew_t] at z; omega
    · rw [wNew_t] at z; omega
    · rw [wNew_t] at z; omega
    · rw [wNew_t] at z; omega
    · rw [wNew_t] at z; omega
    · rw [wNew_t] at z; omega
  have K1 := K p l e s m args below meth c H1 locs (cells + 1) (slots + x.toNat) mc ms E lsM C (by omega) (by omega) hR1 hL hls
  rw [List.map_cons, er] at K1
  exact K1
theorem s_newa_byte {x : Int} (hd : decode (mC M) pc = .ok (.newarray .byte, 2)) (hl : Cond.arrayClass .byte ∈ lw_g) (h0 : 0 ≤ x) (h1 : x ≤ 1000000) (hx : x.toNat ≤ n) (hp : pc + 2 = pc') (K : XA M pc' ls (vR ((w.1 : Int) + 1) :: sk) (wNew w 2 x.toNat) (hNew w h) k (n - x.toNat) Q) : XA M pc ls (vI x :: sk) w h (k + 1) n Q := by
  intro p l e s m args below meth c H locs cells slots mc ms E lsM C hk hn hR hL hls
  subst hp
  have hr : inR x := ⟨by omega, by omega⟩
  refine va_newaK (atype := .byte) C.1 C.2.1 (C.2.2.2.2.2.1 _ hl) rfl hd (N := x.toNat) rfl (by rw [show (0 : Int32) = Int32.ofInt 0 from rfl, i32_lt hr (by decide)]; omega) (i32_ix hr) (by show x.toNat * _ ≤ _; simp only [newarray.typeOf, componentBytes]; omega) (by show cells + 1 ≤ mc; omega) (by show slots + x.toNat ≤ ms; omega) rfl fun H1 cA e1 z1 o1 hAr hNm => ?_
  have er : tr E (vR ((w.1 : Int) + 1)) = .ref H.size := by rw [← ad_new hR]; exact rf_own (by omega)
  have key : arrAt s E (wNew w 2 x.toNat) H1 ((w.1 : Int) + 1) .byte (fun j => .int (Int32.ofInt (hNew w h ((w.1 : Int) + 1) j))) := by
    refine ⟨_, by rw [ad_new hR]; exact e1, hAr _ _, (fun q => by cases q), by rw [arrV_size, wNew_n], fun j hj => ?_⟩
    rw [wNew_n] at hj
    rw [arrV_read _ _ hj]
    have h0 : hNew w h ((w.1 : Int) + 1) j = 0 := by simp [hNew]
    dsimp only; rw [h0]
    rfl
  have hR1 : Rep s E (wNew w 2 x.toNat) (hNew w h) H1 := by
    refine hR.new (by omega) (by omega) (by omega) z1 o1 ⟨fun z => ?_, fun z => ?_, fun z => ?_, fun z => ?_, fun z => ?_, fun z => ?_, fun z => ?_, fun k1 z => ?_⟩
    · rw [wNew_t] at z; omega
    · exact key
    · rw [wNew_t] at z; omega
    · rw [wNew_t] at z; omega
    · rw [wNew_t] at z; omega
    · rw [wNew_t] at z; omega
    · rw [wNew_t] at z; omega
    · rw [wNew_t] at z; omega
  have K1 := K p l e s m args below meth c H1 locs (cells + 1) (slots + x.toNat) mc ms E lsM C (by omega) (by omega) hR1 hL hls
  rw [List.map_cons, er] at K1
  exact K1
theorem s_newa_bool {x : Int} (hd : decode (mC M) pc = .ok (.newarray .boolean, 2)) (hl : Cond.arrayClass .boolean ∈ lw_g) (h0 : 0 ≤ x) (h1 : x ≤ 1000000) (hx : x.toNat ≤ n) (hp : pc + 2 = pc') (K : XA M pc' ls (vR ((w.1 : Int) + 1) :: sk) (wNew w 3 x.toNat) (hNew w h) k (n - x.toNat) Q) : XA M pc ls (vI x :: sk) w h (k + 1) n Q := by
  intro p l e s m args below meth c H locs cells slots mc ms E lsM C hk hn hR hL hls
  subst hp
  have hr : inR x := ⟨by omega, by omega⟩
  refine va_newaK (atype := .boolean) C.1 C.2.1 (C.2.2.2.2.2.1 _ hl) rfl hd (N := x.toNat) rfl (by rw [show (0 : Int32) = Int32.ofInt 0 from rfl, i32_lt hr (by decide)]; omega) (i32_ix hr) (by show x.toNat * _ ≤ _; simp only [newarray.typeOf, componentBytes]; omega) (by show cells + 1 ≤ mc; omega) (by show slots + x.toNat ≤ ms; omega) rfl fun H1 cA e1 z1 o1 hAr hNm => ?_
  have er : tr E (vR ((w.1 : Int) + 1)) = .ref H.size := by rw [← ad_new hR]; exact rf_own (by omega)
  have key : arrAt s E (wNew w 3 x.toNat) H1 ((w.1 : Int) + 1) .boolean (fun j => .int (Int32.ofInt (hNew w h ((w.1 : Int) + 1) j))) := by
    refine ⟨_, by rw [ad_new hR]; exact e1, hAr _ _, (fun q => by cases q), by rw [arrV_size, wNew_n], fun j hj => ?_⟩
    rw [wNew_n] at hj
    rw [arrV_read _ _ hj]
    have h0 : hNew w h ((w.1 : Int) + 1) j = 0 := by simp [hNew]
    dsimp only; rw [h0]
    rfl
  have hR1 : Rep s E (wNew w 3 x.toNat) (hNew w h) H1 := by
    refine hR.new (by omega) (by omega) (by omega) z1 o1 ⟨fun z => ?_, fun z => ?_, fun z => ?_, fun z => ?_, fun z => ?_, fun z => ?_, fun z => ?_, fun k1 z => ?_⟩
    · rw [wNew_t] at z; omega
    · rw [wNew_t] at z; omega
    · exact key
    · rw [wNew_t] at z; omega
    · rw [wNew_t] at z; omega
    · rw [wNew_t] at z; omega
    · rw [wNew_t] at z; omega
    · rw [wNew_t] at z; omega
  have K1 := K p l e s m args below meth c H1 locs (cells + 1) (slots + x.toNat) mc ms E lsM C (by omega) (by omega) hR1 hL hls
  rw [List.map_cons, er] at K1
  exact K1
theorem s_newa_long {x : Int} (hd : decode (mC M) pc = .ok (.newarray .long, 2)) (hl : Cond.arrayClass .long ∈ lw_g) (h0 : 0 ≤ x) (h1 : x ≤ 1000000) (hx : x.toNat ≤ n) (hp : pc + 2 = pc') (K : XA M pc' ls (vR ((w.1 : Int) + 1) :: sk) (wNew w 4 x.toNat) (hNew w h) k (n - x.toNat) Q) : XA M pc ls (vI x :: sk) w h (k + 1) n Q := by
  intro p l e s m args below meth c H locs cells slots mc ms E lsM C hk hn hR hL hls
  subst hp
  have hr : inR x := ⟨by omega, by omega⟩
  refine va_newaK (atype := .long) C.1 C.2.1 (C.2.2.2.2.2.1 _ hl) rfl hd (N := x.toNat) rfl (by rw [show (0 : Int32) = Int32.ofInt 0 from rfl, i32_lt hr (by decide)]; omega) (i32_ix hr) (by show x.toNat * _ ≤ _; simp only [newarray.typeOf, componentBytes]; omega) (by show cells + 1 ≤ mc; omega) (by show slots + x.toNat ≤ ms; omega) rfl fun H1 cA e1 z1 o1 hAr hNm => ?_
  have er : tr E (vR ((w.1 : Int) + 1)) = .ref H.size := by rw [← ad_new hR]; exact rf_own (by omega)
  have key : arrAt s E (wNew w 4 x.toNat) H1 ((w.1 : Int) + 1) .long (fun j => .long (Int64.ofInt (hNew w h ((w.1 : Int) + 1) j))) := by
    refine ⟨_, by rw [ad_new hR]; exact e1, hAr _ _, (fun q => by cases q), by rw [arrV_size, wNew_n], fun j hj => ?_⟩
    rw [wNew_n] at hj
    rw [arrV_read _ _ hj]
    have h0 : hNew w h ((w.1 : Int) + 1) j = 0 := by simp [hNew]
    dsimp only; rw [h0]
    rfl
  have hR1 : Rep s E (wNew w 4 x.toNat) (hNew w h) H1 := by
    refine hR.new (by omega) (by omega) (by omega) z1 o1 ⟨fun z => ?_, fun z => ?_, fun z => ?_, fun z => ?_, fun z => ?_, fun z => ?_, fun z => ?_, fun k1 z => ?_⟩
    · rw [wNew_t] at z; omega
    · rw [wNew_t] at z; omega
    · rw [wNew_t] at z; omega
    · exact key
    · rw [wNew_t] at z; omega
    · rw [wNew_t] at z; omega
    · rw [wNew_t] at z; omega
    · rw [wNew_t] at z; omega
  have K1 := K p l e s m args below meth c H1 locs (cells + 1) (slots + x.toNat) mc ms E lsM C (by omega) (by omega) hR1 hL hls
  rw [List.map_cons, er] at K1
  exact K1
theorem s_anew {x : Int} {idx : Nat} (hd : decode (mC M) pc = .ok (.anewarray idx, 3)) (hl : Cond.classLink (mO M) idx RX7 ∈ lw_g) (h0 : 0 ≤ x) (h1 : x ≤ 1000000) (hx : x.toNat ≤ n) (hp : pc + 3 = pc') (K : XA M pc' ls (vR ((w.1 : Int) + 1) :: sk) (wNew w 5 x.toNat) (hNew w h) k (n - x.toNat) Q) : XA M pc ls (vI x :: sk) w h (k + 1) n Q := by
  intro p l e s m args below meth c H locs cells slots mc ms E lsM C hk hn hR hL hls
  subst hp
  have hr : inR x := ⟨by omega, by omega⟩
  have ix := i32_ix hr
  refine W.anew C.1 C.2.1 C.2.2.2.2.1 (C.2.2.2.2.2.1 _ hl) (va_AO.use C.2.2.2.2.2.2.2.2.2) rfl hd rfl (by rw [show (0 : Int32) = Int32.ofInt 0 from rfl, i32_lt hr (by decide)]; omega) (by rw [ix]; omega) (by show cells + 1 ≤ mc; omega) (by rw [ix]; show slots + x.toNat ≤ ms; omega) fun cA kA comp f1 f2 f3 f4 => ?_
  rw [ix]
  have er : tr E (vR ((w.1 : Int) + 1)) = .ref H.size := by rw [← ad_new hR]; exact rf_own (by omega)
  have e1 : (H.push { cls := cA, slots := Array.replicate x.toNat Value.null, vm := .none })[H.size]? = some { cls := cA, slots := Array.replicate x.toNat Value.null, vm := .none } := by simp
  have key : arrAt s E (wNew w 5 x.toNat) (H.push { cls := cA, slots := Array.replicate x.toNat Value.null, vm := .none }) ((w.1 : Int) + 1) (.object RX7) (fun j => rf E (hNew w h ((w.1 : Int) + 1) j)) := by
    refine ⟨_, by rw [ad_new hR]; exact e1, ⟨(fun q z => by cases z), kA, f2, comp, f3⟩, (fun q => by cases q), by simp [wNew_n], fun j hj => ?_⟩
    rw [wNew_n] at hj
    have h0 : hNew w h ((w.1 : Int) + 1) j = 0 := by simp [hNew]
    dsimp only; rw [h0]
    simp [hj, rf]
  have hR1 : Rep s E (wNew w 5 x.toNat) (hNew w h) (H.push { cls := cA, slots := Array.replicate x.toNat Value.null, vm := .none }) := by
    refine hR.new (by omega) (by omega) (by omega) (by simp) (fun q hq => by rw [Array.getElem?_push, if_neg (Nat.ne_of_lt hq)]) ⟨fun z => ?_, fun z => ?_, fun z => ?_, fun z => ?_, fun z => ?_, fun z => ?_, fun z => ?_, fun k1 z => ?_⟩
    · rw [wNew_t] at z; omega
    · rw [wNew_t] at z; omega
    · rw [wNew_t] at z; omega
    · rw [wNew_t] at z; omega
    · rw [wNew_t] at z; omega
    · rw [wNew_t] at z; omega
    · exact ⟨key, _, kA, comp, by rw [ad_new hR]; exact e1, f2, f3, f4⟩
    · rw [wNew_t] at z; omega
  have K1 := K p l e s m args below meth c _ locs (cells + 1) (slots + x.toNat) mc ms E lsM C (by omega) (by omega) hR1 hL hls
  rw [List.map_cons, er] at K1
  exact K1
theorem s_aast {a i x : Int} (hd : decode (mC M) pc = .ok (.aastore, 1)) (ha : wt w a = 5) (h0 : 0 ≤ i) (h1 : i < wl w a) (hx : wt w x = 17) (hp : pc + 1 = pc') (K : XA M pc' ls sk w (st h a i x) k n Q) : XA M pc ls (vR x :: vI i :: vR a :: sk) w h k n Q := by
  intro p l e s m args below meth c H locs cells slots mc ms E lsM C hk hn hR hL hls
  subst hp
  obtain ⟨⟨cell, c1, c2, c3, c4, c5⟩, cell2, kA, comp, d1, d2, d3, d4⟩ := (hR.2.2.2.1 a).2.2.2.2.2.2.1 ha
  have ec : cell2 = cell := Option.some.inj (d1.symm.trans c1)
  subst ec
  obtain ⟨q, hq, cv, q1, q2, q3, q4⟩ := (hR.2.2.2.1 x).2.2.2.2.2.2.2 7 hx
  have hr := hR.len (by omega) h0 h1
  have hi : i.toNat < wn w a := by unfold wl at h1; omega
  have er : tr E (vR a) = .ref (ad E a) := rf_own (hR.id (by omega))
  have ex : tr E (vR x) = .ref (ad E x) := rf_own (hR.id (by omega))
  have ho : 1 ≤ a := hR.own (by omega) (by omega) (by omega)
  have hKn := (hR.2.2.2.2.1.1 7 _ (show vwCl[7]? = some (RX7, TX7, 2) from rfl)).2
  have hcomp : comp = (eD E).1 7 := Option.some.inj (d4.symm.trans hKn.1)
  obtain ⟨hfc, kC, hkC, hkind⟩ := hKn
  rw [List.map_cons, List.map_cons, List.map_cons, er, ex]
  refine W.aast C.1 C.2.1 c1 c2.1 c3 d2 d3 rfl (kcomp := kC) (by rw [hcomp]; exact hkC) ⟨by rw [show (0 : Int32) = Int32.ofInt 0 from rfl, i32_lt hr (by decide)]; omega, by rw [i32_ix hr, c4]; exact hi⟩ q1 (by rw [q3]; intro q z; cases z) (kv := kC) (by rw [q2]; exact hkC) (by rw [q2, hcomp]; exact Vm.assignable_self _ _) rfl rfl hd fun H' e1 e2 e3 => ?_
  rw [i32_ix hr] at e1
  refine K p l e s m args below meth c H' _ cells slots mc ms E lsM C hk hn (hR.set ho e2 e3 ?_ (fun b hb => st_row h _ _ hb)) ?_ hls
  · have key : arrAt s E w H' a (.object RX7) (fun j => rf E (st h a i x a j)) := by
      refine ⟨_, e1, ⟨c2.1, c2.2⟩, c3, by rw [← c4]; simp [Cell.setSlot], fun j hj => ?_⟩
      show (cell2.setSlot i.toNat _).slots[j]? = _
      unfold Cell.setSlot
      rw [Array.getElem?_setIfInBounds]
      by_cases hji : i.toNat = j
      · rw [if_pos hji, if_pos (by rw [c4]; omega)]
        have : (j : Int) = i := by omega
        dsimp only; rw [this, st_same]; exact congrArg some ex.symm
      · rw [if_neg hji, c5 j hj]; dsimp only; rw [st_slot h a a x (show (j : Int) ≠ i by omega)]
    exact ⟨fun z => by omega, fun z => by omega, fun z => by omega, fun z => by omega, fun z => by omega, fun z => by omega, fun z => ⟨key, _, kA, comp, e1, d2, d3, d4⟩, fun k1 z => by omega⟩
  · intro z hz
    rcases List.mem_append.mp hz with z1 | z1
    · exact hL z z1
    · rw [List.mem_singleton.mp z1]
      show eB E ≤ ad E a
      rw [ad_own ho]; omega
theorem s_putF {kc i N idx : Nat} {a x : Int} (hd : decode (mC M) pc = .ok (.putfield idx, 3)) (hc : clsI kc (mO M) N) (hi : i < N) (hl : Cond.fieldLink (mO M) idx (TC kc i).1 (TC kc i).2.1 (TC kc i).2.2.1 ∈ lw_g) (hf : (TC kc i).2.2.2 = true) (hin : (mY M).name = "<init>") (hdecl : (TC kc i).1 = mO M) (ha : wt w a = 10 + kc) (hn1 : ∀ E, narrow (tyC kc i) (tr E (vR x)) = tr E (vR x) ∧ fits (tyC kc i) (tr E (vR x)) = true) (hv : ∀ E y, fvv E (tyC kc i) true y x = tr E (vR x)) (hp : pc + 3 = pc') (K : XA M pc' ls sk (wFin w a i x) h k n Q) : XA M pc ls (vR x :: vR a :: sk) w h k n Q := by
  intro p l e s m args below meth c H locs cells slots mc ms E lsM C hk hn hR hL hls
  subst hp
  obtain ⟨q, hq, cell, q1, q2, q3, q4⟩ := (hR.2.2.2.1 a).2.2.2.2.2.2.2 kc ha
  have hq2 : q = (mO M, TC kc, N) := Option.some.inj (hq.symm.trans hc.1)
  subst hq2
  have er : tr E (vR a) = .ref (ad E a) := rf_own (hR.id (by omega))
  rw [List.map_cons, List.map_cons, er]
  have hK := hR.2.2.2.2.1
  have hap := va_apart (own := mO M) C.2.2.2.2.2.1 hc.2.1 (tyC kc) hc.2.2.1 hc.2.2.2 hK hc.1
  obtain ⟨hS, hfc, kC, hkC, hkind⟩ := hK.1 kc _ hc.1
  obtain ⟨cf, kf, fi, f, hfi, hsl⟩ := hS i hi
  have hlay := C.2.2.2.2.2.1 _ (hc.2.1 _ (u_in_lay hi))
  unfold u_lay at hlay
  rw [if_pos hf] at hlay
  have hst := (u_facts hfc hkC (u_lays C.2.2.2.2.2.1 hc.2.1 hi) hfi).1
  have hcf : m.cls = cf := by
    obtain ⟨_, _, c', _, _, _, -, -, hf', -, -, -, hown2, -⟩ := Cond.laysFinal_spec hlay
    have e1 : c' = cf := by have := hfi.symm.trans hf'; simp at this; exact this.1.symm
    rw [hdecl] at hown2
    rw [← e1]; exact Option.some.inj (C.2.2.2.2.1.symm.trans hown2)
  have h6 := u_fits hfc hkC hkind (Or.inr hlay) hfi (hc.2.2.1 i hi) (hn1 E).1 (hn1 E).2
  refine W.putFinK C.1 C.2.1 C.2.2.2.2.1 (C.2.2.2.2.2.1 _ hl) hfi hst hcf (C.2.2.2.2.2.2.2.1.trans hin) (by rw [q2]; exact h6) q1 q3 (by rw [hsl]; exact k2_hasslot (q4 i hi)) rfl rfl hd fun H' e1 e2 e3 => ?_
  rw [hsl] at e1
  have ho : 1 ≤ a := hR.own (by omega) (by omega) (by omega)
  have hR1 : Rep s E (wFin w a i x) h H' := by
    refine ⟨e2.trans hR.1, fun q hq => ?_, hR.2.2.1, fun b => ?_, hR.2.2.2.2⟩
    · rw [e3 q (by rw [ad_own ho]; exact Nat.ne_of_lt (Nat.lt_of_lt_of_le hq (Nat.le_add_right _ _)))]; exact hR.2.1 q hq
    · by_cases eb : b = a
      · subst eb
        have et : ∀ z, wt (wFin w b i x) z = wt w z := fun z => rfl
        refine ⟨fun z => by rw [et] at z; omega, fun z => by rw [et] at z; omega, fun z => by rw [et] at z; omega, fun z => by rw [et] at z; omega, fun z => by rw [et] at z; omega, fun z => by rw [et] at z; omega, fun z => by rw [et] at z; omega, fun k1 z => ?_⟩
        have hk1 : k1 = kc := by rw [et] at z; omega
        subst hk1
        refine ⟨_, hq, t_OB.to ⟨_, e1, q2, q3, t_set q4 hap hi (tr E (vR x))⟩ fun j hj => ?_⟩
        unfold updV
        by_cases hji : j = i
        · subst hji
          rw [if_pos rfl]
          unfold fv
          have : wf (wFin w b j x) b j = x := st_same _ _ _ _
          rw [this, hf, hv]
        · rw [if_neg hji]
          unfold fv
          have : wf (wFin w b i x) b j = wf w b j := st_slot _ _ _ _ (show (j : Int) ≠ (i : Int) by omega)
          rw [this]
      · exact (hR.2.2.2.1 b).kept2 (fun hw => e3 _ (hR.apart ho hw eb)) rfl rfl (st_row _ _ _ eb)
  refine K p l e s m args below meth c H' _ cells slots mc ms E lsM C hk hn hR1 ?_ hls
  intro z hz
  rcases List.mem_append.mp hz with z1 | z1
  · exact hL z z1
  · rw [List.mem_singleton.mp z1]
    show eB E ≤ ad E a
    rw [ad_own ho]; omega
theorem s_obj {a : Int} {idx : Nat} (hd : decode (mC M) pc = .ok (.invokespecial idx, 3)) (hl : Cond.methodLink (mO M) idx Lib.objectInit ∈ lw_g) (hi : Cond.instanceMethod Lib.objectInit ∈ lw_g) (hcode : Cond.code Lib.objectInit ⟨#[0xb1]⟩ 1 none ∈ lw_g) (ha : a ≠ 0) (hrk : 1 ≤ mK M) (hs : (sk.map acat).sum ≤ 8) (hp : pc + 3 = pc') (K : XA M pc' ls sk w h k n Q) : XA M pc ls (vR a :: sk) w h k n Q := by
  intro p l e s m args below meth c H locs cells slots mc ms E lsM C hk hn hR hL hls
  subst hp
  have er : tr E (vR a) = .ref (ad E a) := rf_own ha
  rw [List.map_cons, er]
  have hc8 := sk_cat (E := E) hs; have hrl := rl_ge hrk
  exact W.objInit C.1 C.2.1 C.2.2.2.2.1 (C.2.2.2.2.2.1 _ hl) (C.2.2.2.2.2.1 _ hi) (C.2.2.2.2.2.1 _ hcode) rfl (hls.1.trans C.2.2.2.1.symm) rfl hd hrk (by show 2 * 0 + _ + 12 ≤ rl (mK M); omega) (K p l e s m args below meth c H locs cells slots mc ms E lsM C hk hn hR hL hls)
theorem s_max {x y : Int} {idx : Nat} (hd : decode (mC M) pc = .ok (.invokestatic idx, 3)) (hl : Cond.methodLink (mO M) idx Lib.Math.max.name ∈ lw_g) (hi : Cond.static Lib.Math.max.name ∈ lw_g) (hini : Cond.initialized "java/lang/Math" ∈ lw_g) (hcode : Cond.code Lib.Math.max.name Lib.Math.max.code 2 (some .int) ∈ lw_g) (hrk : 1 ≤ mK M) (hs : (sk.map acat).sum ≤ 8) (hx : inR x) (hy : inR y) (hp : pc + 3 = pc') (K : XA M pc' ls (vI (max x y) :: sk) w h k n Q) : XA M pc ls (vI y :: vI x :: sk) w h k n Q := by
  intro p l e s m args below meth c H locs cells slots mc ms E lsM C hk hn hR hL hls
  subst hp
  have hc8 := sk_cat (E := E) hs; have hrl := rl_ge hrk
  have K1 := K p l e s m args below meth c H locs cells slots mc ms E lsM C hk hn hR hL hls
  have ev : tr E (vI (max x y)) = .int (if Int32.ofInt x < Int32.ofInt y then Int32.ofInt y else Int32.ofInt x) := by
    show Value.int (Int32.ofInt (max x y)) = _
    simp only [i32_lt hx hy]
    split
    · rw [show max x y = y by omega]
    · rw [show max x y = x by omega]
  rw [List.map_cons, ev] at K1
  exact va_mmax C.1 C.2.1 (C.2.2.2.1.trans hls.1.symm) C.2.2.2.2.1 (C.2.2.2.2.2.1 _ hl) (C.2.2.2.2.2.1 _ hi) (C.2.2.2.2.2.1 _ hini) (C.2.2.2.2.2.1 _ hcode) hrk (by show _ + 13 ≤ rl (mK M); omega) (by show cells ≤ mc; omega) (by show slots ≤ ms; omega) hd K1
theorem s_min {x y : Int} {idx : Nat} (hd : decode (mC M) pc = .ok (.invokestatic idx, 3)) (hl : Cond.methodLink (mO M) idx Lib.Math.min.name ∈ lw_g) (hi : Cond.static Lib.Math.min.name ∈ lw_g) (hini : Cond.initialized "java/lang/Math" ∈ lw_g) (hcode : Cond.code Lib.Math.min.name Lib.Math.min.code 2 (some .int) ∈ lw_g) (hrk : 1 ≤ mK M) (hs : (sk.map acat).sum ≤ 8) (hx : inR x) (hy : inR y) (hp : pc + 3 = pc') (K : XA M pc' ls (vI (min x y) :: sk) w h k n Q) : XA M pc ls (vI y :: vI x :: sk) w h k n Q := by
  intro p l e s m args below meth c H locs cells slots mc ms E lsM C hk hn hR hL hls
  subst hp
  have hc8 := sk_cat (E := E) hs; have hrl := rl_ge hrk
  have K1 := K p l e s m args below meth c H locs cells slots mc ms E lsM C hk hn hR hL hls
  have ev : tr E (vI (min x y)) = .int (if Int32.ofInt y < Int32.ofInt x then Int32.ofInt y else Int32.ofInt x) := by
    show Value.int (Int32.ofInt (min x y)) = _
    simp only [i32_lt hy hx]
    split
    · rw [show min x y = y by omega]
    · rw [show min x y = x by omega]
  rw [List.map_cons, ev] at K1
  exact va_mmin C.1 C.2.1 (C.2.2.2.1.trans hls.1.symm) C.2.2.2.2.1 (C.2.2.2.2.2.1 _ hl) (C.2.2.2.2.2.1 _ hi) (C.2.2.2.2.2.1 _ hini) (C.2.2.2.2.2.1 _ hcode) hrk (by show _ + 13 ≤ rl (mK M); omega) (by show cells ≤ mc; omega) (by show slots ≤ ms; omega) hd K1
theorem s_getQ {idx : Nat} (hd : decode (mC M) pc = .ok (.getstatic idx, 3)) (hl : Cond.fieldLink (mO M) idx RX9 "QUOTED" "[J" ∈ lw_g) (hp : pc + 3 = pc') (K : XA M pc' ls (vR (-2) :: sk) w h k n Q) : XA M pc ls sk w h k n Q := by
  intro p l e s m args below meth c H locs cells slots mc ms E lsM C hk hn hR hL hls
  subst hp
  obtain ⟨-, hs, hq, ⟨cf, kf, fi, f, a, cell, h1, h2, h3, h4, h5, h6, h7, h8⟩, hz⟩ := hR.2.2.2.2
  have ha : a < eB E := by rw [← hz]; exact (Array.getElem?_eq_some_iff.mp h5).1
  exact W.gets C.1 C.2.1 C.2.2.2.2.1 (C.2.2.2.2.2.1 _ hl) h1 h2 h3 h4 (by rw [hR.2.1 a ha]; exact h5) (fun e => by rw [e] at h6; cases h6) h7 rfl hd (K p l e s m args below meth c H locs cells slots mc ms E lsM C hk hn hR hL hls)
end SD
end
section
/-! the judgements by what a method answers -/
theorem CA.mono {N : MI} {av : List AV} {w : WS} {h : AH} {k n : Nat} {Q Q' : Option AV → WS → AH → Prop} (H : CA N av w h k n Q) (f : ∀ r w' h', Q r w' h' → Q' r w' h') : CA N av w h k n Q' := by
  intro l E p e h1 h2 h3 s m args below h4 h5 h6 h7
  obtain ⟨j, o, g1, g2, g3, ⟨r, w', h', q1, q2, q3⟩, g5⟩ := H l E p e h1 h2 h3 s m args below h4 h5 h6 h7
  exact ⟨j, o, g1, g2, g3, ⟨r, w', h', q1, q2, f _ _ _ q3⟩, g5⟩
abbrev XI (M : MI) (pc : Nat) (ls : List (Option AV)) (sk : List AV) (w : WS) (h : AH) (Q : Int → AH → Prop) : Prop := XA M pc ls sk w h 0 0 (fun r w' h' => ∃ x, r = some (vI x) ∧ w' = w ∧ Q x h')
abbrev XR (M : MI) (pc : Nat) (ls : List (Option AV)) (sk : List AV) (w : WS) (h : AH) (Q : Int → AH → Prop) : Prop := XA M pc ls sk w h 0 0 (fun r w' h' => ∃ x, r = some (vR x) ∧ w' = w ∧ Q x h')
abbrev XV (M : MI) (pc : Nat) (ls : List (Option AV)) (sk : List AV) (w : WS) (h : AH) (Q : AH → Prop) : Prop := XA M pc ls sk w h 0 0 (fun r w' h' => r = none ∧ w' = w ∧ Q h')
def CI (N : MI) (av : List AV) (w : WS) (h : AH) (Q : Int → AH → Prop) : Prop := CA N av w h 0 0 (fun r w' h' => ∃ x, r = some (vI x) ∧ w' = w ∧ Q x h')
def CR (N : MI) (av : List AV) (w : WS) (h : AH) (Q : Int → AH → Prop) : Prop := CA N av w h 0 0 (fun r w' h' => ∃ x, r = some (vR x) ∧ w' = w ∧ Q x h')
def CV (N : MI) (av : List AV) (w : WS) (h : AH) (Q : AH → Prop) : Prop := CA N av w h 0 0 (fun r w' h' => r = none ∧ w' = w ∧ Q h')
theorem CI.mono {N : MI} {av : List AV} {w : WS} {h : AH} {Q Q' : Int → AH → Prop} (H : CI N av w h Q) (f : ∀ x h', Q x h' → Q' x h') : CI N av w h Q' := CA.mono H (fun _ _ _ ⟨x, e1, e2, q⟩ => ⟨x, e1, e2, f _ _ q⟩)
theorem CR.mono {N : MI} {av : List AV} {w : WS} {h : AH} {Q Q' : Int → AH → Prop} (H : CR N av w h Q) (f : ∀ x h', Q x h' → Q' x h') : CR N av w h Q' := CA.mono H (fun _ _ _ ⟨x, e1, e2, q⟩ => ⟨x, e1, e2, f _ _ q⟩)
theorem CV.mono {N : MI} {av : List AV} {w : WS} {h : AH} {Q Q' : AH → Prop} (H : CV N av w h Q) (f : ∀ h', Q h' → Q' h') : CV N av w h Q' := CA.mono H (fun _ _ _ ⟨e1, e2, q⟩ => ⟨e1, e2, f _ q⟩)
/-- a getter's contract, used: the answer is y, the heap stays -/
theorem CI.eq {N : MI} {av : List AV} {w : WS} {h : AH} {y : Int} {Q : Int → AH → Prop} (H : CI N av w h (fun x h' => x = y ∧ h' = h)) (q : Q y h) : CI N av w h Q := H.mono (fun x h' ⟨e1, e2⟩ => by rw [e1, e2]; exact q)
theorem CR.eq {N : MI} {av : List AV} {w : WS} {h : AH} {y : Int} {Q : Int → AH → Prop} (H : CR N av w h (fun x h' => x = y ∧ h' = h)) (q : Q y h) : CR N av w h Q := H.mono (fun x h' ⟨e1, e2⟩ => by rw [e1, e2]; exact q)
theorem CV.eq {N : MI} {av : List AV} {w : WS} {h h1 : AH} {Q : AH → Prop} (H : CV N av w h (fun h' => h' = h1)) (q : Q h1) : CV N av w h Q := H.mono (fun h' e => by rw [e]; exact q)
theorem CI.on {M N : MI} {pc' : Nat} {ls : List (Option AV)} {sk av : List AV} {w : WS} {h : AH} {Q : Int → AH → Prop} {Q' : Option AV → WS → AH → Prop} (c : CI N av w h Q) (f : ∀ x h', Q x h' → XA M pc' ls (vI x :: sk) w h' 0 0 Q') : CA N av w h 0 0 (fun r w' h' => XA M pc' ls (r.toList ++ sk) w' h' (0 - 0) (0 - 0) Q') := CA.mono c (by rintro r w' h' ⟨x, rfl, rfl, q⟩; exact f x h' q)
theorem CR.on {M N : MI} {pc' : Nat} {ls : List (Option AV)} {sk av : List AV} {w : WS} {h : AH} {Q : Int → AH → Prop} {Q' : Option AV → WS → AH → Prop} (c : CR N av w h Q) (f : ∀ x h', Q x h' → XA M pc' ls (vR x :: sk) w h' 0 0 Q') : CA N av w h 0 0 (fun r w' h' => XA M pc' ls (r.toList ++ sk) w' h' (0 - 0) (0 - 0) Q') := CA.mono c (by rintro r w' h' ⟨x, rfl, rfl, q⟩; exact f x h' q)
theorem CV.on {M N : MI} {pc' : Nat} {ls : List (Option AV)} {sk av : List AV} {w : WS} {h : AH} {Q : AH → Prop} {Q' : Option AV → WS → AH → Prop} (c : CV N av w h Q) (f : ∀ h', Q h' → XA M pc' ls sk w h' 0 0 Q') : CA N av w h 0 0 (fun r w' h' => XA M pc' ls (r.toList ++ sk) w' h' (0 - 0) (0 - 0) Q') := CA.mono c (by rintro r w' h' ⟨rfl, rfl, q⟩; exact f h' q)
theorem CI.eon {M N : MI} {pc' : Nat} {ls : List (Option AV)} {sk av : List AV} {w : WS} {h : AH} {y : Int} {Q' : Option AV → WS → AH → Prop} (c : CI N av w h (fun x h' => x = y ∧ h' = h)) (f : XA M pc' ls (vI y :: sk) w h 0 0 Q') : CA N av w h 0 0 (fun r w' h' => XA M pc' ls (r.toList ++ sk) w' h' (0 - 0) (0 - 0) Q') := CI.on c (by rintro x h' ⟨rfl, rfl⟩; exact f)
theorem CR.eon {M N : MI} {pc' : Nat} {ls : List (Option AV)} {sk av : List AV} {w : WS} {h : AH} {y : Int} {Q' : Option AV → WS → AH → Prop} (c : CR N av w h (fun x h' => x = y ∧ h' = h)) (f : XA M pc' ls (vR y :: sk) w h 0 0 Q') : CA N av w h 0 0 (fun r w' h' => XA M pc' ls (r.toList ++ sk) w' h' (0 - 0) (0 - 0) Q') := CR.on c (by rintro x h' ⟨rfl, rfl⟩; exact f)
theorem CV.eon {M N : MI} {pc' : Nat} {ls : List (Option AV)} {sk av : List AV} {w : WS} {h h1 : AH} {Q' : Option AV → WS → AH → Prop} (c : CV N av w h (fun h' => h' = h1)) (f : XA M pc' ls sk w h1 0 0 Q') : CA N av w h 0 0 (fun r w' h' => XA M pc' ls (r.toList ++ sk) w' h' (0 - 0) (0 - 0) Q') := CV.on c (by rintro h' rfl; exact f)
theorem s_drop {M : MI} {pc : Nat} {ls ls' : List (Option AV)} {sk : List AV} {w : WS} {h : AH} {k n : Nat} {Q : Option AV → WS → AH → Prop} (i : Nat) (hs : ls.set i none = ls') (K : XA M pc ls' sk w h k n Q) : XA M pc ls sk w h k n Q := by
  intro p l e s m args below meth c H locs cells slots mc ms E lsM C hk hn hR hL hls
  subst hs
  refine K p l e s m args below meth c H locs cells slots mc ms E lsM C hk hn hR hL (lv_less hls fun q hq => ?_)
  obtain ⟨j, v, h1, rfl⟩ := (lvl_mem _ 0 _).mp hq
  rw [List.getElem?_set] at h1
  split at h1
  · split at h1 <;> cases h1
  · exact (lvl_mem _ 0 _).mpr ⟨j, v, h1, rfl⟩
section SE
variable {M : MI} {pc pc' tgt : Nat} {off : Int} {ls : List (Option AV)} {sk : List AV} {w : WS} {h : AH} {k n : Nat} {Q : Option AV → WS → AH → Prop}
theorem s_ifeq_b {P : Prop} [Decidable P] (hd : decode (mC M) pc = .ok (.ifCond .eq off, 3)) (ht : (pc : Int) + off = (tgt : Int)) (hp : pc + 3 = pc') (K1 : ¬ P → XA M tgt ls sk w h k n Q) (K2 : P → XA M pc' ls sk w h k n Q) : XA M pc ls (vI (if P then 1 else 0) :: sk) w h k n Q := by
  refine s_if_eq hd ht hp (by split <;> decide) (fun c => K1 fun q => ?_) (fun c => K2 ?_)
  · rw [if_pos q] at c; omega
  · exact Decidable.byContradiction fun q => c (if_neg q)
theorem s_ifne_b {P : Prop} [Decidable P] (hd : decode (mC M) pc = .ok (.ifCond .ne off, 3)) (ht : (pc : Int) + off = (tgt : Int)) (hp : pc + 3 = pc') (K1 : P → XA M tgt ls sk w h k n Q) (K2 : ¬ P → XA M pc' ls sk w h k n Q) : XA M pc ls (vI (if P then 1 else 0) :: sk) w h k n Q := by
  refine s_if_ne hd ht hp (by split <;> decide) (fun c => K1 ?_) (fun c => K2 fun q => ?_)
  · exact Decidable.byContradiction fun q => c (if_neg q)
  · rw [if_pos q] at c; omega
end SE
theorem nar_int (E : EV) (x : Int) : narrow .int (tr E (vI x)) = tr E (vI x) ∧ fits .int (tr E (vI x)) = true := ⟨rfl, rfl⟩
theorem nar_long (E : EV) (x : Int) : narrow .long (tr E (vL x)) = tr E (vL x) ∧ fits .long (tr E (vL x)) = true := ⟨rfl, rfl⟩
theorem nar_bool (E : EV) {x : Int} (h : x = 0 ∨ x = 1) : narrow .boolean (tr E (vI x)) = tr E (vI x) ∧ fits .boolean (tr E (vI x)) = true := by
  show narrow .boolean (.int (Int32.ofInt x)) = .int (Int32.ofInt x) ∧ fits .boolean (.int (Int32.ofInt x)) = true
  rcases h with rfl | rfl <;> decide
theorem nar_ref (E : EV) (t : FieldType) (x : Int) (h : t.isReference = true) : narrow t (tr E (vR x)) = tr E (vR x) ∧ fits t (tr E (vR x)) = true := by
  rcases rf_or E x with q | ⟨a, q⟩ <;> rw [q] <;> cases t <;> first | exact ⟨rfl, rfl⟩ | cases h
theorem nar_byte {x : Int} (h : -128 ≤ x ∧ x ≤ 127) : narrow .byte (.int (Int32.ofInt x)) = .int (Int32.ofInt x) := by
  have e : (Int32.ofInt x).toInt8.toInt32 = Int32.ofInt x := by
    apply Int32.toInt_inj.mp
    rw [Int8.toInt_toInt32, Int32.toInt_toInt8, i32_t ⟨by omega, by omega⟩, Int.bmod_eq_of_le (by omega) (by omega)]
  show Value.int _ = _
  exact congrArg Value.int e
theorem zbool {x : Int} (h : x = 0 ∨ x = 1) : narrow .boolean (.int (Int32.ofInt x)) = .int (Int32.ofInt x) := by rcases h with rfl | rfl <;> decide
end
