section
-- ===== PART A: goes FIRST, ahead of the names: the tables' words, and 'selects' of the private methods out of them =====
/-- a private method of a class that the tables say can be made, by its rows of tables_1 -/
def lw_okq (q : MethodName × Nat) : Prop := (q.1.cls ≠ "java/lang/invoke/MethodHandle" ∧ q.1.cls ≠ "java/lang/invoke/VarHandle") ∧ Cond.instantiable q.1.cls q.2 ∈ tables_1 ∧ Cond.privateMethod q.1 ∈ tables_1 ∧ Cond.instanceMethod q.1 ∈ tables_1
theorem lw_p0 : lw_okq (⟨"ElasticTabs$Script", "skipBlanks", "()V"⟩, 9) := ⟨⟨by decide +kernel, by decide +kernel⟩, List.mem_of_getElem? (i := 80) (by decide +kernel), List.mem_of_getElem? (i := 266) (by decide +kernel), List.mem_of_getElem? (i := 267) (by decide +kernel)⟩
theorem lw_p1 : lw_okq (⟨"ElasticTabs$Script", "readWord", "()Z"⟩, 9) := ⟨⟨by decide +kernel, by decide +kernel⟩, List.mem_of_getElem? (i := 80) (by decide +kernel), List.mem_of_getElem? (i := 270) (by decide +kernel), List.mem_of_getElem? (i := 271) (by decide +kernel)⟩
theorem lw_p2 : lw_okq (⟨"ElasticTabs$Script", "failAt", "(I)Z"⟩, 9) := ⟨⟨by decide +kernel, by decide +kernel⟩, List.mem_of_getElem? (i := 80) (by decide +kernel), List.mem_of_getElem? (i := 280) (by decide +kernel), List.mem_of_getElem? (i := 281) (by decide +kernel)⟩
theorem lw_p3 : lw_okq (⟨"ElasticTabs$Script", "verbOfWord", "()I"⟩, 9) := ⟨⟨by decide +kernel, by decide +kernel⟩, List.mem_of_getElem? (i := 80) (by decide +kernel), List.mem_of_getElem? (i := 284) (by decide +kernel), List.mem_of_getElem? (i := 285) (by decide +kernel)⟩
theorem lw_p4 : lw_okq (⟨"ElasticTabs$Script", "isWord", "(Ljava/lang/String;)Z"⟩, 9) := ⟨⟨by decide +kernel, by decide +kernel⟩, List.mem_of_getElem? (i := 80) (by decide +kernel), List.mem_of_getElem? (i := 300) (by decide +kernel), List.mem_of_getElem? (i := 301) (by decide +kernel)⟩
theorem lw_p5 : lw_okq (⟨"ElasticTabs$Script", "takeWord", "(CI)Z"⟩, 9) := ⟨⟨by decide +kernel, by decide +kernel⟩, List.mem_of_getElem? (i := 80) (by decide +kernel), List.mem_of_getElem? (i := 360) (by decide +kernel), List.mem_of_getElem? (i := 361) (by decide +kernel)⟩
theorem lw_p6 : lw_okq (⟨"ElasticTabs$Script", "takeNumber", "(Z)Z"⟩, 9) := ⟨⟨by decide +kernel, by decide +kernel⟩, List.mem_of_getElem? (i := 80) (by decide +kernel), List.mem_of_getElem? (i := 364) (by decide +kernel), List.mem_of_getElem? (i := 365) (by decide +kernel)⟩
theorem lw_p7 : lw_okq (⟨"ElasticTabs$Script", "takeAlign", "()Z"⟩, 9) := ⟨⟨by decide +kernel, by decide +kernel⟩, List.mem_of_getElem? (i := 80) (by decide +kernel), List.mem_of_getElem? (i := 368) (by decide +kernel), List.mem_of_getElem? (i := 369) (by decide +kernel)⟩
theorem lw_p8 : lw_okq (⟨"ElasticTabs$Script", "readEnd", "()Z"⟩, 9) := ⟨⟨by decide +kernel, by decide +kernel⟩, List.mem_of_getElem? (i := 80) (by decide +kernel), List.mem_of_getElem? (i := 379) (by decide +kernel), List.mem_of_getElem? (i := 380) (by decide +kernel)⟩
theorem lw_p9 : lw_okq (⟨"ElasticTabs", "perform", "()I"⟩, 7) := ⟨⟨by decide +kernel, by decide +kernel⟩, List.mem_of_getElem? (i := 16) (by decide +kernel), List.mem_of_getElem? (i := 385) (by decide +kernel), List.mem_of_getElem? (i := 386) (by decide +kernel)⟩
theorem lw_p10 : lw_okq (⟨"ElasticTabs", "addLine", "(I)I"⟩, 7) := ⟨⟨by decide +kernel, by decide +kernel⟩, List.mem_of_getElem? (i := 16) (by decide +kernel), List.mem_of_getElem? (i := 389) (by decide +kernel), List.mem_of_getElem? (i := 390) (by decide +kernel)⟩
theorem lw_p11 : lw_okq (⟨"ElasticTabs$Past", "slot", "(I)I"⟩, 3) := ⟨⟨by decide +kernel, by decide +kernel⟩, List.mem_of_getElem? (i := 60) (by decide +kernel), List.mem_of_getElem? (i := 397) (by decide +kernel), List.mem_of_getElem? (i := 398) (by decide +kernel)⟩
theorem lw_p12 : lw_okq (⟨"ElasticTabs", "settle", "(II)V"⟩, 7) := ⟨⟨by decide +kernel, by decide +kernel⟩, List.mem_of_getElem? (i := 16) (by decide +kernel), List.mem_of_getElem? (i := 420) (by decide +kernel), List.mem_of_getElem? (i := 421) (by decide +kernel)⟩
theorem lw_p13 : lw_okq (⟨"ElasticTabs$Layout", "partIntoCells", "(LElasticTabs$Page;I)V"⟩, 13) := ⟨⟨by decide +kernel, by decide +kernel⟩, List.mem_of_getElem? (i := 123) (by decide +kernel), List.mem_of_getElem? (i := 428) (by decide +kernel), List.mem_of_getElem? (i := 429) (by decide +kernel)⟩
theorem lw_p14 : lw_okq (⟨"ElasticTabs$Layout", "measure", "(LElasticTabs$Page;III)V"⟩, 13) := ⟨⟨by decide +kernel, by decide +kernel⟩, List.mem_of_getElem? (i := 123) (by decide +kernel), List.mem_of_getElem? (i := 436) (by decide +kernel), List.mem_of_getElem? (i := 437) (by decide +kernel)⟩
theorem lw_p15 : lw_okq (⟨"ElasticTabs$Layout", "spreadBlock", "(I)V"⟩, 13) := ⟨⟨by decide +kernel, by decide +kernel⟩, List.mem_of_getElem? (i := 123) (by decide +kernel), List.mem_of_getElem? (i := 454) (by decide +kernel), List.mem_of_getElem? (i := 455) (by decide +kernel)⟩
def lw_privs_1 : List (MethodName × Nat) := [(⟨"ElasticTabs$Script", "skipBlanks", "()V"⟩, 9), (⟨"ElasticTabs$Script", "readWord", "()Z"⟩, 9), (⟨"ElasticTabs$Script", "failAt", "(I)Z"⟩, 9), (⟨"ElasticTabs$Script", "verbOfWord", "()I"⟩, 9), (⟨"ElasticTabs$Script", "isWord", "(Ljava/lang/String;)Z"⟩, 9), (⟨"ElasticTabs$Script", "takeWord", "(CI)Z"⟩, 9), (⟨"ElasticTabs$Script", "takeNumber", "(Z)Z"⟩, 9), (⟨"ElasticTabs$Script", "takeAlign", "()Z"⟩, 9), (⟨"ElasticTabs$Script", "readEnd", "()Z"⟩, 9), (⟨"ElasticTabs", "perform", "()I"⟩, 7), (⟨"ElasticTabs", "addLine", "(I)I"⟩, 7), (⟨"ElasticTabs$Past", "slot", "(I)I"⟩, 3), (⟨"ElasticTabs", "settle", "(II)V"⟩, 7), (⟨"ElasticTabs$Layout", "partIntoCells", "(LElasticTabs$Page;I)V"⟩, 13), (⟨"ElasticTabs$Layout", "measure", "(LElasticTabs$Page;III)V"⟩, 13), (⟨"ElasticTabs$Layout", "spreadBlock", "(I)V"⟩, 13)]
theorem lw_r1 : ∀ q ∈ lw_privs_1, lw_okq q := List.forall_mem_cons.mpr ⟨lw_p0, List.forall_mem_cons.mpr ⟨lw_p1, List.forall_mem_cons.mpr ⟨lw_p2, List.forall_mem_cons.mpr ⟨lw_p3, List.forall_mem_cons.mpr ⟨lw_p4, List.forall_mem_cons.mpr ⟨lw_p5, List.forall_mem_cons.mpr ⟨lw_p6, List.forall_mem_cons.mpr ⟨lw_p7, List.forall_mem_cons.mpr ⟨lw_p8, List.forall_mem_cons.mpr ⟨lw_p9, List.forall_mem_cons.mpr ⟨lw_p10, List.forall_mem_cons.mpr ⟨lw_p11, List.forall_mem_cons.mpr ⟨lw_p12, List.forall_mem_cons.mpr ⟨lw_p13, List.forall_mem_cons.mpr ⟨lw_p14, List.forall_mem_cons.mpr ⟨lw_p15, fun _ h => absurd h List.not_mem_nil⟩⟩⟩⟩⟩⟩⟩⟩⟩⟩⟩⟩⟩⟩⟩⟩
theorem lw_p16 : lw_okq (⟨"ElasticTabs$Layout", "placeCells", "(LElasticTabs$Page;I)V"⟩, 13) := ⟨⟨by decide +kernel, by decide +kernel⟩, List.mem_of_getElem? (i := 123) (by decide +kernel), List.mem_of_getElem? (i := 458) (by decide +kernel), List.mem_of_getElem? (i := 459) (by decide +kernel)⟩
theorem lw_p17 : lw_okq (⟨"ElasticTabs", "isLaidAnew", "(II)Z"⟩, 7) := ⟨⟨by decide +kernel, by decide +kernel⟩, List.mem_of_getElem? (i := 16) (by decide +kernel), List.mem_of_getElem? (i := 465) (by decide +kernel), List.mem_of_getElem? (i := 466) (by decide +kernel)⟩
theorem lw_p18 : lw_okq (⟨"ElasticTabs", "dropLine", "(I)I"⟩, 7) := ⟨⟨by decide +kernel, by decide +kernel⟩, List.mem_of_getElem? (i := 16) (by decide +kernel), List.mem_of_getElem? (i := 478) (by decide +kernel), List.mem_of_getElem? (i := 479) (by decide +kernel)⟩
theorem lw_p19 : lw_okq (⟨"ElasticTabs", "setAlign", "(II)I"⟩, 7) := ⟨⟨by decide +kernel, by decide +kernel⟩, List.mem_of_getElem? (i := 16) (by decide +kernel), List.mem_of_getElem? (i := 521) (by decide +kernel), List.mem_of_getElem? (i := 522) (by decide +kernel)⟩
theorem lw_p20 : lw_okq (⟨"ElasticTabs", "setPad", "(I)I"⟩, 7) := ⟨⟨by decide +kernel, by decide +kernel⟩, List.mem_of_getElem? (i := 16) (by decide +kernel), List.mem_of_getElem? (i := 525) (by decide +kernel), List.mem_of_getElem? (i := 526) (by decide +kernel)⟩
theorem lw_p21 : lw_okq (⟨"ElasticTabs", "setLeast", "(I)I"⟩, 7) := ⟨⟨by decide +kernel, by decide +kernel⟩, List.mem_of_getElem? (i := 16) (by decide +kernel), List.mem_of_getElem? (i := 529) (by decide +kernel), List.mem_of_getElem? (i := 530) (by decide +kernel)⟩
theorem lw_p22 : lw_okq (⟨"ElasticTabs$Layout", "leadOf", "(LElasticTabs$Page;II)I"⟩, 13) := ⟨⟨by decide +kernel, by decide +kernel⟩, List.mem_of_getElem? (i := 123) (by decide +kernel), List.mem_of_getElem? (i := 581) (by decide +kernel), List.mem_of_getElem? (i := 582) (by decide +kernel)⟩
theorem lw_p23 : lw_okq (⟨"ElasticTabsModel", "isPlace", "(II)Z"⟩, 22) := ⟨⟨by decide +kernel, by decide +kernel⟩, List.mem_of_getElem? (i := 619) (by decide +kernel), List.mem_of_getElem? (i := 697) (by decide +kernel), List.mem_of_getElem? (i := 698) (by decide +kernel)⟩
theorem lw_p24 : lw_okq (⟨"ElasticTabsModel", "isLine", "(I)Z"⟩, 22) := ⟨⟨by decide +kernel, by decide +kernel⟩, List.mem_of_getElem? (i := 619) (by decide +kernel), List.mem_of_getElem? (i := 701) (by decide +kernel), List.mem_of_getElem? (i := 702) (by decide +kernel)⟩
theorem lw_p25 : lw_okq (⟨"ElasticTabsModel", "begins", "()V"⟩, 22) := ⟨⟨by decide +kernel, by decide +kernel⟩, List.mem_of_getElem? (i := 619) (by decide +kernel), List.mem_of_getElem? (i := 711) (by decide +kernel), List.mem_of_getElem? (i := 712) (by decide +kernel)⟩
theorem lw_p26 : lw_okq (⟨"ElasticTabsModel", "ends", "()V"⟩, 22) := ⟨⟨by decide +kernel, by decide +kernel⟩, List.mem_of_getElem? (i := 619) (by decide +kernel), List.mem_of_getElem? (i := 721) (by decide +kernel), List.mem_of_getElem? (i := 722) (by decide +kernel)⟩
theorem lw_p27 : lw_okq (⟨"ElasticTabsModel", "isChanged", "(I)Z"⟩, 22) := ⟨⟨by decide +kernel, by decide +kernel⟩, List.mem_of_getElem? (i := 619) (by decide +kernel), List.mem_of_getElem? (i := 725) (by decide +kernel), List.mem_of_getElem? (i := 726) (by decide +kernel)⟩
theorem lw_p28 : lw_okq (⟨"ElasticTabsModel", "opens", "(I)V"⟩, 22) := ⟨⟨by decide +kernel, by decide +kernel⟩, List.mem_of_getElem? (i := 619) (by decide +kernel), List.mem_of_getElem? (i := 764) (by decide +kernel), List.mem_of_getElem? (i := 765) (by decide +kernel)⟩
theorem lw_p29 : lw_okq (⟨"ElasticTabsModel", "appends", "(II)V"⟩, 22) := ⟨⟨by decide +kernel, by decide +kernel⟩, List.mem_of_getElem? (i := 619) (by decide +kernel), List.mem_of_getElem? (i := 768) (by decide +kernel), List.mem_of_getElem? (i := 769) (by decide +kernel)⟩
theorem lw_p30 : lw_okq (⟨"ElasticTabsModel", "shuts", "(I)V"⟩, 22) := ⟨⟨by decide +kernel, by decide +kernel⟩, List.mem_of_getElem? (i := 619) (by decide +kernel), List.mem_of_getElem? (i := 776) (by decide +kernel), List.mem_of_getElem? (i := 777) (by decide +kernel)⟩
theorem lw_p31 : lw_okq (⟨"ElasticTabsModel", "blanks", "()V"⟩, 22) := ⟨⟨by decide +kernel, by decide +kernel⟩, List.mem_of_getElem? (i := 619) (by decide +kernel), List.mem_of_getElem? (i := 796) (by decide +kernel), List.mem_of_getElem? (i := 797) (by decide +kernel)⟩
def lw_privs_2 : List (MethodName × Nat) := [(⟨"ElasticTabs$Layout", "placeCells", "(LElasticTabs$Page;I)V"⟩, 13), (⟨"ElasticTabs", "isLaidAnew", "(II)Z"⟩, 7), (⟨"ElasticTabs", "dropLine", "(I)I"⟩, 7), (⟨"ElasticTabs", "setAlign", "(II)I"⟩, 7), (⟨"ElasticTabs", "setPad", "(I)I"⟩, 7), (⟨"ElasticTabs", "setLeast", "(I)I"⟩, 7), (⟨"ElasticTabs$Layout", "leadOf", "(LElasticTabs$Page;II)I"⟩, 13), (⟨"ElasticTabsModel", "isPlace", "(II)Z"⟩, 22), (⟨"ElasticTabsModel", "isLine", "(I)Z"⟩, 22), (⟨"ElasticTabsModel", "begins", "()V"⟩, 22), (⟨"ElasticTabsModel", "ends", "()V"⟩, 22), (⟨"ElasticTabsModel", "isChanged", "(I)Z"⟩, 22), (⟨"ElasticTabsModel", "opens", "(I)V"⟩, 22), (⟨"ElasticTabsModel", "appends", "(II)V"⟩, 22), (⟨"ElasticTabsModel", "shuts", "(I)V"⟩, 22), (⟨"ElasticTabsModel", "blanks", "()V"⟩, 22)]
theorem lw_r2 : ∀ q ∈ lw_privs_2, lw_okq q := List.forall_mem_cons.mpr ⟨lw_p16, List.forall_mem_cons.mpr ⟨lw_p17, List.forall_mem_cons.mpr ⟨lw_p18, List.forall_mem_cons.mpr ⟨lw_p19, List.forall_mem_cons.mpr ⟨lw_p20, List.forall_mem_cons.mpr ⟨lw_p21, List.forall_mem_cons.mpr ⟨lw_p22, List.forall_mem_cons.mpr ⟨lw_p23, List.forall_mem_cons.mpr ⟨lw_p24, List.forall_mem_cons.mpr ⟨lw_p25, List.forall_mem_cons.mpr ⟨lw_p26, List.forall_mem_cons.mpr ⟨lw_p27, List.forall_mem_cons.mpr ⟨lw_p28, List.forall_mem_cons.mpr ⟨lw_p29, List.forall_mem_cons.mpr ⟨lw_p30, List.forall_mem_cons.mpr ⟨lw_p31, fun _ h => absurd h List.not_mem_nil⟩⟩⟩⟩⟩⟩⟩⟩⟩⟩⟩⟩⟩⟩⟩⟩
theorem lw_p32 : lw_okq (⟨"ElasticTabsModel", "reads", "()Z"⟩, 22) := ⟨⟨by decide +kernel, by decide +kernel⟩, List.mem_of_getElem? (i := 619) (by decide +kernel), List.mem_of_getElem? (i := 800) (by decide +kernel), List.mem_of_getElem? (i := 801) (by decide +kernel)⟩
theorem lw_p33 : lw_okq (⟨"ElasticTabsModel", "word", "()Z"⟩, 22) := ⟨⟨by decide +kernel, by decide +kernel⟩, List.mem_of_getElem? (i := 619) (by decide +kernel), List.mem_of_getElem? (i := 804) (by decide +kernel), List.mem_of_getElem? (i := 805) (by decide +kernel)⟩
theorem lw_p34 : lw_okq (⟨"ElasticTabsModel", "fails", "(I)Z"⟩, 22) := ⟨⟨by decide +kernel, by decide +kernel⟩, List.mem_of_getElem? (i := 619) (by decide +kernel), List.mem_of_getElem? (i := 808) (by decide +kernel), List.mem_of_getElem? (i := 809) (by decide +kernel)⟩
theorem lw_p35 : lw_okq (⟨"ElasticTabsModel", "command", "()I"⟩, 22) := ⟨⟨by decide +kernel, by decide +kernel⟩, List.mem_of_getElem? (i := 619) (by decide +kernel), List.mem_of_getElem? (i := 812) (by decide +kernel), List.mem_of_getElem? (i := 813) (by decide +kernel)⟩
theorem lw_p36 : lw_okq (⟨"ElasticTabsModel", "letters", "()I"⟩, 22) := ⟨⟨by decide +kernel, by decide +kernel⟩, List.mem_of_getElem? (i := 619) (by decide +kernel), List.mem_of_getElem? (i := 816) (by decide +kernel), List.mem_of_getElem? (i := 817) (by decide +kernel)⟩
theorem lw_p37 : lw_okq (⟨"ElasticTabsModel", "number", "()Z"⟩, 22) := ⟨⟨by decide +kernel, by decide +kernel⟩, List.mem_of_getElem? (i := 619) (by decide +kernel), List.mem_of_getElem? (i := 820) (by decide +kernel), List.mem_of_getElem? (i := 821) (by decide +kernel)⟩
theorem lw_p38 : lw_okq (⟨"ElasticTabsModel", "signs", "()Z"⟩, 22) := ⟨⟨by decide +kernel, by decide +kernel⟩, List.mem_of_getElem? (i := 619) (by decide +kernel), List.mem_of_getElem? (i := 824) (by decide +kernel), List.mem_of_getElem? (i := 825) (by decide +kernel)⟩
theorem lw_p39 : lw_okq (⟨"ElasticTabsModel", "sign", "()Z"⟩, 22) := ⟨⟨by decide +kernel, by decide +kernel⟩, List.mem_of_getElem? (i := 619) (by decide +kernel), List.mem_of_getElem? (i := 828) (by decide +kernel), List.mem_of_getElem? (i := 829) (by decide +kernel)⟩
theorem lw_p40 : lw_okq (⟨"ElasticTabsModel", "aligned", "()Z"⟩, 22) := ⟨⟨by decide +kernel, by decide +kernel⟩, List.mem_of_getElem? (i := 619) (by decide +kernel), List.mem_of_getElem? (i := 832) (by decide +kernel), List.mem_of_getElem? (i := 833) (by decide +kernel)⟩
theorem lw_p41 : lw_okq (⟨"ElasticTabsModel", "way", "()I"⟩, 22) := ⟨⟨by decide +kernel, by decide +kernel⟩, List.mem_of_getElem? (i := 619) (by decide +kernel), List.mem_of_getElem? (i := 836) (by decide +kernel), List.mem_of_getElem? (i := 837) (by decide +kernel)⟩
theorem lw_p42 : lw_okq (⟨"ElasticTabsModel", "stops", "()Z"⟩, 22) := ⟨⟨by decide +kernel, by decide +kernel⟩, List.mem_of_getElem? (i := 619) (by decide +kernel), List.mem_of_getElem? (i := 840) (by decide +kernel), List.mem_of_getElem? (i := 841) (by decide +kernel)⟩
theorem lw_p43 : lw_okq (⟨"ElasticTabsModel", "does", "()I"⟩, 22) := ⟨⟨by decide +kernel, by decide +kernel⟩, List.mem_of_getElem? (i := 619) (by decide +kernel), List.mem_of_getElem? (i := 844) (by decide +kernel), List.mem_of_getElem? (i := 845) (by decide +kernel)⟩
theorem lw_p44 : lw_okq (⟨"ElasticTabsModel", "adds", "()I"⟩, 22) := ⟨⟨by decide +kernel, by decide +kernel⟩, List.mem_of_getElem? (i := 619) (by decide +kernel), List.mem_of_getElem? (i := 848) (by decide +kernel), List.mem_of_getElem? (i := 849) (by decide +kernel)⟩
theorem lw_p45 : lw_okq (⟨"ElasticTabsModel", "drops", "()I"⟩, 22) := ⟨⟨by decide +kernel, by decide +kernel⟩, List.mem_of_getElem? (i := 619) (by decide +kernel), List.mem_of_getElem? (i := 852) (by decide +kernel), List.mem_of_getElem? (i := 853) (by decide +kernel)⟩
theorem lw_p46 : lw_okq (⟨"ElasticTabsModel", "becomes", "(IIZ)I"⟩, 22) := ⟨⟨by decide +kernel, by decide +kernel⟩, List.mem_of_getElem? (i := 619) (by decide +kernel), List.mem_of_getElem? (i := 860) (by decide +kernel), List.mem_of_getElem? (i := 861) (by decide +kernel)⟩
theorem lw_p47 : lw_okq (⟨"ElasticTabsModel", "widest", "(II)I"⟩, 22) := ⟨⟨by decide +kernel, by decide +kernel⟩, List.mem_of_getElem? (i := 619) (by decide +kernel), List.mem_of_getElem? (i := 882) (by decide +kernel), List.mem_of_getElem? (i := 883) (by decide +kernel)⟩
def lw_privs_3 : List (MethodName × Nat) := [(⟨"ElasticTabsModel", "reads", "()Z"⟩, 22), (⟨"ElasticTabsModel", "word", "()Z"⟩, 22), (⟨"ElasticTabsModel", "fails", "(I)Z"⟩, 22), (⟨"ElasticTabsModel", "command", "()I"⟩, 22), (⟨"ElasticTabsModel", "letters", "()I"⟩, 22), (⟨"ElasticTabsModel", "number", "()Z"⟩, 22), (⟨"ElasticTabsModel", "signs", "()Z"⟩, 22), (⟨"ElasticTabsModel", "sign", "()Z"⟩, 22), (⟨"ElasticTabsModel", "aligned", "()Z"⟩, 22), (⟨"ElasticTabsModel", "way", "()I"⟩, 22), (⟨"ElasticTabsModel", "stops", "()Z"⟩, 22), (⟨"ElasticTabsModel", "does", "()I"⟩, 22), (⟨"ElasticTabsModel", "adds", "()I"⟩, 22), (⟨"ElasticTabsModel", "drops", "()I"⟩, 22), (⟨"ElasticTabsModel", "becomes", "(IIZ)I"⟩, 22), (⟨"ElasticTabsModel", "widest", "(II)I"⟩, 22)]
theorem lw_r3 : ∀ q ∈ lw_privs_3, lw_okq q := List.forall_mem_cons.mpr ⟨lw_p32, List.forall_mem_cons.mpr ⟨lw_p33, List.forall_mem_cons.mpr ⟨lw_p34, List.forall_mem_cons.mpr ⟨lw_p35, List.forall_mem_cons.mpr ⟨lw_p36, List.forall_mem_cons.mpr ⟨lw_p37, List.forall_mem_cons.mpr ⟨lw_p38, List.forall_mem_cons.mpr ⟨lw_p39, List.forall_mem_cons.mpr ⟨lw_p40, List.forall_mem_cons.mpr ⟨lw_p41, List.forall_mem_cons.mpr ⟨lw_p42, List.forall_mem_cons.mpr ⟨lw_p43, List.forall_mem_cons.mpr ⟨lw_p44, List.forall_mem_cons.mpr ⟨lw_p45, List.forall_mem_cons.mpr ⟨lw_p46, List.forall_mem_cons.mpr ⟨lw_p47, fun _ h => absurd h List.not_mem_nil⟩⟩⟩⟩⟩⟩⟩⟩⟩⟩⟩⟩⟩⟩⟩⟩
theorem lw_p48 : lw_okq (⟨"ElasticTabsModel", "saves", "(II)I"⟩, 22) := ⟨⟨by decide +kernel, by decide +kernel⟩, List.mem_of_getElem? (i := 619) (by decide +kernel), List.mem_of_getElem? (i := 886) (by decide +kernel), List.mem_of_getElem? (i := 887) (by decide +kernel)⟩
theorem lw_p49 : lw_okq (⟨"ElasticTabsModel", "shownAt", "(II)I"⟩, 22) := ⟨⟨by decide +kernel, by decide +kernel⟩, List.mem_of_getElem? (i := 619) (by decide +kernel), List.mem_of_getElem? (i := 897) (by decide +kernel), List.mem_of_getElem? (i := 898) (by decide +kernel)⟩
theorem lw_p50 : lw_okq (⟨"ElasticTabsModel", "startOf", "(II)I"⟩, 22) := ⟨⟨by decide +kernel, by decide +kernel⟩, List.mem_of_getElem? (i := 619) (by decide +kernel), List.mem_of_getElem? (i := 901) (by decide +kernel), List.mem_of_getElem? (i := 902) (by decide +kernel)⟩
theorem lw_p51 : lw_okq (⟨"ElasticTabsModel", "blocks", "()I"⟩, 22) := ⟨⟨by decide +kernel, by decide +kernel⟩, List.mem_of_getElem? (i := 619) (by decide +kernel), List.mem_of_getElem? (i := 913) (by decide +kernel), List.mem_of_getElem? (i := 914) (by decide +kernel)⟩
theorem lw_p52 : lw_okq (⟨"ElasticTabsModel", "widestLine", "()I"⟩, 22) := ⟨⟨by decide +kernel, by decide +kernel⟩, List.mem_of_getElem? (i := 619) (by decide +kernel), List.mem_of_getElem? (i := 917) (by decide +kernel), List.mem_of_getElem? (i := 918) (by decide +kernel)⟩
def lw_privs_4 : List (MethodName × Nat) := [(⟨"ElasticTabsModel", "saves", "(II)I"⟩, 22), (⟨"ElasticTabsModel", "shownAt", "(II)I"⟩, 22), (⟨"ElasticTabsModel", "startOf", "(II)I"⟩, 22), (⟨"ElasticTabsModel", "blocks", "()I"⟩, 22), (⟨"ElasticTabsModel", "widestLine", "()I"⟩, 22)]
theorem lw_r4 : ∀ q ∈ lw_privs_4, lw_okq q := List.forall_mem_cons.mpr ⟨lw_p48, List.forall_mem_cons.mpr ⟨lw_p49, List.forall_mem_cons.mpr ⟨lw_p50, List.forall_mem_cons.mpr ⟨lw_p51, List.forall_mem_cons.mpr ⟨lw_p52, fun _ h => absurd h List.not_mem_nil⟩⟩⟩⟩⟩
def lw_privs : List (MethodName × Nat) := lw_privs_1 ++ (lw_privs_2 ++ (lw_privs_3 ++ (lw_privs_4)))
def lw_tbl : List Cond := k2_sels lw_privs ++ tables_1
theorem lw_privs_ok : ∀ q ∈ lw_privs, lw_okq q := by
  show ∀ q ∈ lw_privs_1 ++ (lw_privs_2 ++ (lw_privs_3 ++ (lw_privs_4))), lw_okq q
  exact List.forall_mem_append.mpr ⟨lw_r1, List.forall_mem_append.mpr ⟨lw_r2, List.forall_mem_append.mpr ⟨lw_r3, lw_r4⟩⟩⟩
-- ===== end of PART A; then your names; then what follows =====
end
section
/-! ===== BEGIN words of one list among another's, by their places ===== -/
/-! ===== END ===== -/

/-! ===== BEGIN printed: names, fields, word lists, decode rows ===== -/
def RX0 : String := "ElasticTabs$Block"
def TX0 : u_T := fun k => match k with
  | 0 => ("ElasticTabs$Block", "first", "I", false)
  | 1 => ("ElasticTabs$Block", "last", "I", false)
  | 2 => ("ElasticTabs$Block", "mostAhead", "I", false)
  | 3 => ("ElasticTabs$Block", "need", "I", false)
  | _ => ("ElasticTabs$Block", "width", "I", false)
def tyX0 : Nat → FieldType := fun k => match k with
  | 0 => .int
  | 1 => .int
  | 2 => .int
  | 3 => .int
  | _ => .int
abbrev wsX00 : List Cond := u_ws RX0 TX0 5
theorem nmX0 : ∀ a, a < 5 → ∀ b, b < 5 → a ≠ b → (TX0 a).2.1 ≠ (TX0 b).2.1 := by decide +kernel
theorem tyX0_ok : ∀ k, k < 5 → parseFieldDescriptor (TX0 k).2.2.1 = some (tyX0 k) := by decide +kernel
abbrev cX0_init : ByteArray := prog_2_method_1_code
def yX0_init : MethodName := ⟨RX0, "<init>", "()V"⟩
def RX1 : String := "ElasticTabs$Image"
def TX1 : u_T := fun k => match k with
  | 0 => ("ElasticTabs$Image", "isKept", "Z", false)
  | 1 => ("ElasticTabs$Image", "page", "LElasticTabs$Page;", true)
  | _ => ("ElasticTabs$Image", "past", "LElasticTabs$Past;", true)
def tyX1 : Nat → FieldType := fun k => match k with
  | 0 => .boolean
  | 1 => .object "ElasticTabs$Page"
  | _ => .object "ElasticTabs$Past"
abbrev wsX10 : List Cond := u_ws RX1 TX1 3
theorem nmX1 : ∀ a, a < 3 → ∀ b, b < 3 → a ≠ b → (TX1 a).2.1 ≠ (TX1 b).2.1 := by decide +kernel
theorem tyX1_ok : ∀ k, k < 3 → parseFieldDescriptor (TX1 k).2.2.1 = some (tyX1 k) := by decide +kernel
abbrev cX1_init : ByteArray := prog_3_method_1_code
def yX1_init : MethodName := ⟨RX1, "<init>", "()V"⟩
def RX2 : String := "ElasticTabs$Layout"
def TX2 : u_T := fun k => match k with
  | 0 => ("ElasticTabs$Layout", "blocks", "I", false)
  | 1 => ("ElasticTabs$Layout", "cells", "[I", true)
  | 2 => ("ElasticTabs$Layout", "tails", "[I", true)
  | 3 => ("ElasticTabs$Layout", "tailBegins", "[I", true)
  | 4 => ("ElasticTabs$Layout", "wides", "[I", true)
  | 5 => ("ElasticTabs$Layout", "sizes", "[I", true)
  | 6 => ("ElasticTabs$Layout", "widths", "[I", true)
  | 7 => ("ElasticTabs$Layout", "begins", "[I", true)
  | 8 => ("ElasticTabs$Layout", "lines", "I", false)
  | 9 => ("ElasticTabs$Layout", "block", "LElasticTabs$Block;", true)
  | 10 => ("ElasticTabs$Layout", "starts", "[I", true)
  | 11 => ("ElasticTabs$Layout", "aheads", "[I", true)
  | _ => ("ElasticTabs$Layout", "mostAheads", "[I", true)
def tyX2 : Nat → FieldType := fun k => match k with
  | 0 => .int
  | 1 => .array .int
  | 2 => .array .int
  | 3 => .array .int
  | 4 => .array .int
  | 5 => .array .int
  | 6 => .array .int
  | 7 => .array .int
  | 8 => .int
  | 9 => .object "ElasticTabs$Block"
  | 10 => .array .int
  | 11 => .array .int
  | _ => .array .int
abbrev wsX20 : List Cond := u_ws RX2 TX2 13
theorem nmX2 : ∀ a, a < 13 → ∀ b, b < 13 → a ≠ b → (TX2 a).2.1 ≠ (TX2 b).2.1 := by decide +kernel
theorem tyX2_ok : ∀ k, k < 13 → parseFieldDescriptor (TX2 k).2.2.1 = some (tyX2 k) := by decide +kernel
abbrev cX2_init : ByteArray := prog_4_method_1_code
def yX2_init : MethodName := ⟨RX2, "<init>", "()V"⟩
abbrev cX2_lay : ByteArray := prog_4_method_2_code
def yX2_lay : MethodName := ⟨RX2, "lay", "(LElasticTabs$Page;)V"⟩
abbrev cX2_partIntoCells : ByteArray := prog_4_method_3_code
def yX2_partIntoCells : MethodName := ⟨RX2, "partIntoCells", "(LElasticTabs$Page;I)V"⟩
abbrev cX2_spreadBlock : ByteArray := prog_4_method_4_code
def yX2_spreadBlock : MethodName := ⟨RX2, "spreadBlock", "(I)V"⟩
abbrev cX2_measure : ByteArray := prog_4_method_5_code
def yX2_measure : MethodName := ⟨RX2, "measure", "(LElasticTabs$Page;III)V"⟩
abbrev cX2_placeCells : ByteArray := prog_4_method_6_code
def yX2_placeCells : MethodName := ⟨RX2, "placeCells", "(LElasticTabs$Page;I)V"⟩
abbrev cX2_firstOfBlock : ByteArray := prog_4_method_7_code
def yX2_firstOfBlock : MethodName := ⟨RX2, "firstOfBlock", "(II)I"⟩
abbrev cX2_lastOfBlock : ByteArray := prog_4_method_8_code
def yX2_lastOfBlock : MethodName := ⟨RX2, "lastOfBlock", "(II)I"⟩
abbrev cX2_widest : ByteArray := prog_4_method_9_code
def yX2_widest : MethodName := ⟨RX2, "widest", "(LElasticTabs$Page;II)I"⟩
abbrev cX2_saves : ByteArray := prog_4_method_10_code
def yX2_saves : MethodName := ⟨RX2, "saves", "(LElasticTabs$Page;II)I"⟩
abbrev cX2_cellAt : ByteArray := prog_4_method_11_code
def yX2_cellAt : MethodName := ⟨RX2, "cellAt", "(II)I"⟩
abbrev cX2_shownInCell : ByteArray := prog_4_method_12_code
def yX2_shownInCell : MethodName := ⟨RX2, "shownInCell", "(LElasticTabs$Page;III)I"⟩
abbrev cX2_leadOf : ByteArray := prog_4_method_13_code
def yX2_leadOf : MethodName := ⟨RX2, "leadOf", "(LElasticTabs$Page;II)I"⟩
abbrev cX2_widestLine : ByteArray := prog_4_method_14_code
def yX2_widestLine : MethodName := ⟨RX2, "widestLine", "()I"⟩
abbrev cX2_allTogether : ByteArray := prog_4_method_15_code
def yX2_allTogether : MethodName := ⟨RX2, "allTogether", "()I"⟩
def RX3 : String := "ElasticTabs$Page"
def TX3 : u_T := fun k => match k with
  | 0 => ("ElasticTabs$Page", "lines", "I", false)
  | 1 => ("ElasticTabs$Page", "pad", "I", false)
  | 2 => ("ElasticTabs$Page", "least", "I", false)
  | 3 => ("ElasticTabs$Page", "sizes", "[I", true)
  | 4 => ("ElasticTabs$Page", "signs", "[I", true)
  | _ => ("ElasticTabs$Page", "aligns", "[I", true)
def tyX3 : Nat → FieldType := fun k => match k with
  | 0 => .int
  | 1 => .int
  | 2 => .int
  | 3 => .array .int
  | 4 => .array .int
  | _ => .array .int
abbrev wsX30 : List Cond := u_ws RX3 TX3 6
theorem nmX3 : ∀ a, a < 6 → ∀ b, b < 6 → a ≠ b → (TX3 a).2.1 ≠ (TX3 b).2.1 := by decide +kernel
theorem tyX3_ok : ∀ k, k < 6 → parseFieldDescriptor (TX3 k).2.2.1 = some (tyX3 k) := by decide +kernel
abbrev cX3_init : ByteArray := prog_5_method_1_code
def yX3_init : MethodName := ⟨RX3, "<init>", "()V"⟩
abbrev cX3_copyFrom : ByteArray := prog_5_method_2_code
def yX3_copyFrom : MethodName := ⟨RX3, "copyFrom", "(LElasticTabs$Page;)V"⟩
abbrev cX3_hasLine : ByteArray := prog_5_method_3_code
def yX3_hasLine : MethodName := ⟨RX3, "hasLine", "(I)Z"⟩
abbrev cX3_hasSign : ByteArray := prog_5_method_4_code
def yX3_hasSign : MethodName := ⟨RX3, "hasSign", "(II)Z"⟩
abbrev cX3_signAt : ByteArray := prog_5_method_5_code
def yX3_signAt : MethodName := ⟨RX3, "signAt", "(II)I"⟩
abbrev cX3_hasSameSigns : ByteArray := prog_5_method_6_code
def yX3_hasSameSigns : MethodName := ⟨RX3, "hasSameSigns", "(ILElasticTabs$Page;I)Z"⟩
abbrev cX3_openLine : ByteArray := prog_5_method_7_code
def yX3_openLine : MethodName := ⟨RX3, "openLine", "(I)V"⟩
abbrev cX3_closeLine : ByteArray := prog_5_method_8_code
def yX3_closeLine : MethodName := ⟨RX3, "closeLine", "(I)V"⟩
abbrev cX3_insertSign : ByteArray := prog_5_method_9_code
def yX3_insertSign : MethodName := ⟨RX3, "insertSign", "(III)V"⟩
abbrev cX3_removeSign : ByteArray := prog_5_method_10_code
def yX3_removeSign : MethodName := ⟨RX3, "removeSign", "(II)V"⟩
abbrev cX3_moveSigns : ByteArray := prog_5_method_11_code
def yX3_moveSigns : MethodName := ⟨RX3, "moveSigns", "(III)V"⟩
def RX4 : String := "ElasticTabs$Past"
def TX4 : u_T := fun k => match k with
  | 0 => ("ElasticTabs$Past", "known", "I", false)
  | 1 => ("ElasticTabs$Past", "oldest", "I", false)
  | _ => ("ElasticTabs$Past", "pages", "[LElasticTabs$Page;", true)
def tyX4 : Nat → FieldType := fun k => match k with
  | 0 => .int
  | 1 => .int
  | _ => .array (.object "ElasticTabs$Page")
abbrev wsX40 : List Cond := u_ws RX4 TX4 3
theorem nmX4 : ∀ a, a < 3 → ∀ b, b < 3 → a ≠ b → (TX4 a).2.1 ≠ (TX4 b).2.1 := by decide +kernel
theorem tyX4_ok : ∀ k, k < 3 → parseFieldDescriptor (TX4 k).2.2.1 = some (tyX4 k) := by decide +kernel
abbrev cX4_init : ByteArray := prog_6_method_1_code
def yX4_init : MethodName := ⟨RX4, "<init>", "()V"⟩
abbrev cX4_slot : ByteArray := prog_6_method_2_code
def yX4_slot : MethodName := ⟨RX4, "slot", "(I)I"⟩
abbrev cX4_remember : ByteArray := prog_6_method_3_code
def yX4_remember : MethodName := ⟨RX4, "remember", "(LElasticTabs$Page;)V"⟩
abbrev cX4_latest : ByteArray := prog_6_method_4_code
def yX4_latest : MethodName := ⟨RX4, "latest", "()LElasticTabs$Page;"⟩
abbrev cX4_forgetLatest : ByteArray := prog_6_method_5_code
def yX4_forgetLatest : MethodName := ⟨RX4, "forgetLatest", "()V"⟩
abbrev cX4_copyFrom : ByteArray := prog_6_method_6_code
def yX4_copyFrom : MethodName := ⟨RX4, "copyFrom", "(LElasticTabs$Past;)V"⟩
def RX5 : String := "ElasticTabs$Script"
def TX5 : u_T := fun k => match k with
  | 0 => ("ElasticTabs$Script", "bytes", "[I", true)
  | 1 => ("ElasticTabs$Script", "size", "I", false)
  | 2 => ("ElasticTabs$Script", "verb", "I", false)
  | 3 => ("ElasticTabs$Script", "first", "I", false)
  | 4 => ("ElasticTabs$Script", "second", "I", false)
  | 5 => ("ElasticTabs$Script", "from", "I", false)
  | 6 => ("ElasticTabs$Script", "to", "I", false)
  | 7 => ("ElasticTabs$Script", "at", "I", false)
  | _ => ("ElasticTabs$Script", "fault", "I", false)
def tyX5 : Nat → FieldType := fun k => match k with
  | 0 => .array .int
  | 1 => .int
  | 2 => .int
  | 3 => .int
  | 4 => .int
  | 5 => .int
  | 6 => .int
  | 7 => .int
  | _ => .int
abbrev wsX50 : List Cond := u_ws RX5 TX5 9
theorem nmX5 : ∀ a, a < 9 → ∀ b, b < 9 → a ≠ b → (TX5 a).2.1 ≠ (TX5 b).2.1 := by decide +kernel
theorem tyX5_ok : ∀ k, k < 9 → parseFieldDescriptor (TX5 k).2.2.1 = some (tyX5 k) := by decide +kernel
abbrev cX5_init : ByteArray := prog_7_method_1_code
def yX5_init : MethodName := ⟨RX5, "<init>", "()V"⟩
abbrev cX5_rewind : ByteArray := prog_7_method_2_code
def yX5_rewind : MethodName := ⟨RX5, "rewind", "()V"⟩
abbrev cX5_firstFault : ByteArray := prog_7_method_3_code
def yX5_firstFault : MethodName := ⟨RX5, "firstFault", "()I"⟩
abbrev cX5_readCommand : ByteArray := prog_7_method_4_code
def yX5_readCommand : MethodName := ⟨RX5, "readCommand", "()Z"⟩
abbrev cX5_failAt : ByteArray := prog_7_method_5_code
def yX5_failAt : MethodName := ⟨RX5, "failAt", "(I)Z"⟩
abbrev cX5_skipBlanks : ByteArray := prog_7_method_6_code
def yX5_skipBlanks : MethodName := ⟨RX5, "skipBlanks", "()V"⟩
abbrev cX5_readWord : ByteArray := prog_7_method_7_code
def yX5_readWord : MethodName := ⟨RX5, "readWord", "()Z"⟩
abbrev cX5_readEnd : ByteArray := prog_7_method_8_code
def yX5_readEnd : MethodName := ⟨RX5, "readEnd", "()Z"⟩
abbrev cX5_takeWord : ByteArray := prog_7_method_9_code
def yX5_takeWord : MethodName := ⟨RX5, "takeWord", "(CI)Z"⟩
abbrev cX5_takeNumber : ByteArray := prog_7_method_10_code
def yX5_takeNumber : MethodName := ⟨RX5, "takeNumber", "(Z)Z"⟩
abbrev cX5_takeAlign : ByteArray := prog_7_method_11_code
def yX5_takeAlign : MethodName := ⟨RX5, "takeAlign", "()Z"⟩
abbrev cX5_verbOfWord : ByteArray := prog_7_method_12_code
def yX5_verbOfWord : MethodName := ⟨RX5, "verbOfWord", "()I"⟩
abbrev cX5_isWord : ByteArray := prog_7_method_13_code
def yX5_isWord : MethodName := ⟨RX5, "isWord", "(Ljava/lang/String;)Z"⟩
abbrev cX5_isLoneDash : ByteArray := prog_7_method_14_code
def yX5_isLoneDash : MethodName := ⟨RX5, "isLoneDash", "()Z"⟩
abbrev cX5_isSign : ByteArray := prog_7_method_15_code
def yX5_isSign : MethodName := ⟨RX5, "isSign", "(I)Z"⟩
abbrev cX5_isFigure : ByteArray := prog_7_method_16_code
def yX5_isFigure : MethodName := ⟨RX5, "isFigure", "(I)Z"⟩
abbrev cX5_nameOfAlign : ByteArray := prog_7_method_17_code
def yX5_nameOfAlign : MethodName := ⟨RX5, "nameOfAlign", "(I)Ljava/lang/String;"⟩
abbrev cX5_nameOfVerb : ByteArray := prog_7_method_18_code
def yX5_nameOfVerb : MethodName := ⟨RX5, "nameOfVerb", "(I)Ljava/lang/String;"⟩
abbrev cX5_shapeOf : ByteArray := prog_7_method_19_code
def yX5_shapeOf : MethodName := ⟨RX5, "shapeOf", "(I)Ljava/lang/String;"⟩
def RX6 : String := "ElasticTabs"
def TX6 : u_T := fun k => match k with
  | 0 => ("ElasticTabs", "page", "LElasticTabs$Page;", true)
  | 1 => ("ElasticTabs", "past", "LElasticTabs$Past;", true)
  | 2 => ("ElasticTabs", "script", "LElasticTabs$Script;", true)
  | 3 => ("ElasticTabs", "images", "[LElasticTabs$Image;", true)
  | 4 => ("ElasticTabs", "layout", "LElasticTabs$Layout;", false)
  | 5 => ("ElasticTabs", "former", "LElasticTabs$Layout;", false)
  | _ => ("ElasticTabs", "changed", "I", false)
def tyX6 : Nat → FieldType := fun k => match k with
  | 0 => .object "ElasticTabs$Page"
  | 1 => .object "ElasticTabs$Past"
  | 2 => .object "ElasticTabs$Script"
  | 3 => .array (.object "ElasticTabs$Image")
  | 4 => .object "ElasticTabs$Layout"
  | 5 => .object "ElasticTabs$Layout"
  | _ => .int
abbrev wsX60 : List Cond := u_ws RX6 TX6 7
theorem nmX6 : ∀ a, a < 7 → ∀ b, b < 7 → a ≠ b → (TX6 a).2.1 ≠ (TX6 b).2.1 := by decide +kernel
theorem tyX6_ok : ∀ k, k < 7 → parseFieldDescriptor (TX6 k).2.2.1 = some (tyX6 k) := by decide +kernel
abbrev cX6_init : ByteArray := prog_1_method_1_code
def yX6_init : MethodName := ⟨RX6, "<init>", "()V"⟩
abbrev cX6_type : ByteArray := prog_1_method_2_code
def yX6_type : MethodName := ⟨RX6, "type", "(I)I"⟩
abbrev cX6_clear : ByteArray := prog_1_method_3_code
def yX6_clear : MethodName := ⟨RX6, "clear", "()I"⟩
abbrev cX6_run : ByteArray := prog_1_method_4_code
def yX6_run : MethodName := ⟨RX6, "run", "()I"⟩
abbrev cX6_put : ByteArray := prog_1_method_5_code
def yX6_put : MethodName := ⟨RX6, "put", "(III)I"⟩
abbrev cX6_cut : ByteArray := prog_1_method_6_code
def yX6_cut : MethodName := ⟨RX6, "cut", "(II)I"⟩
abbrev cX6_split : ByteArray := prog_1_method_7_code
def yX6_split : MethodName := ⟨RX6, "split", "(II)I"⟩
abbrev cX6_join : ByteArray := prog_1_method_8_code
def yX6_join : MethodName := ⟨RX6, "join", "(I)I"⟩
abbrev cX6_undo : ByteArray := prog_1_method_9_code
def yX6_undo : MethodName := ⟨RX6, "undo", "()I"⟩
abbrev cX6_line : ByteArray := prog_1_method_10_code
def yX6_line : MethodName := ⟨RX6, "line", "(II)I"⟩
abbrev cX6_sign : ByteArray := prog_1_method_11_code
def yX6_sign : MethodName := ⟨RX6, "sign", "(II)I"⟩
abbrev cX6_cell : ByteArray := prog_1_method_12_code
def yX6_cell : MethodName := ⟨RX6, "cell", "(III)I"⟩
abbrev cX6_shown : ByteArray := prog_1_method_13_code
def yX6_shown : MethodName := ⟨RX6, "shown", "(II)I"⟩
abbrev cX6_align : ByteArray := prog_1_method_14_code
def yX6_align : MethodName := ⟨RX6, "align", "(I)I"⟩
abbrev cX6_count : ByteArray := prog_1_method_15_code
def yX6_count : MethodName := ⟨RX6, "count", "(I)I"⟩
abbrev cX6_digest : ByteArray := prog_1_method_16_code
def yX6_digest : MethodName := ⟨RX6, "digest", "()J"⟩
abbrev cX6_keep : ByteArray := prog_1_method_17_code
def yX6_keep : MethodName := ⟨RX6, "keep", "(I)I"⟩
abbrev cX6_back : ByteArray := prog_1_method_18_code
def yX6_back : MethodName := ⟨RX6, "back", "(I)I"⟩
abbrev cX6_perform : ByteArray := prog_1_method_19_code
def yX6_perform : MethodName := ⟨RX6, "perform", "()I"⟩
abbrev cX6_addLine : ByteArray := prog_1_method_20_code
def yX6_addLine : MethodName := ⟨RX6, "addLine", "(I)I"⟩
abbrev cX6_dropLine : ByteArray := prog_1_method_21_code
def yX6_dropLine : MethodName := ⟨RX6, "dropLine", "(I)I"⟩
abbrev cX6_setAlign : ByteArray := prog_1_method_22_code
def yX6_setAlign : MethodName := ⟨RX6, "setAlign", "(II)I"⟩
abbrev cX6_setPad : ByteArray := prog_1_method_23_code
def yX6_setPad : MethodName := ⟨RX6, "setPad", "(I)I"⟩
abbrev cX6_setLeast : ByteArray := prog_1_method_24_code
def yX6_setLeast : MethodName := ⟨RX6, "setLeast", "(I)I"⟩
abbrev cX6_settle : ByteArray := prog_1_method_25_code
def yX6_settle : MethodName := ⟨RX6, "settle", "(II)V"⟩
abbrev cX6_formerPlace : ByteArray := prog_1_method_26_code
def yX6_formerPlace : MethodName := ⟨RX6, "formerPlace", "(III)I"⟩
abbrev cX6_isLaidAnew : ByteArray := prog_1_method_27_code
def yX6_isLaidAnew : MethodName := ⟨RX6, "isLaidAnew", "(II)Z"⟩
def RX7 : String := "ElasticTabsModel"
def TX7 : u_T := fun k => match k with
  | 0 => ("ElasticTabsModel", "now", "[I", true)
  | 1 => ("ElasticTabsModel", "old", "[I", true)
  | 2 => ("ElasticTabsModel", "origin", "[I", true)
  | 3 => ("ElasticTabsModel", "changed", "I", false)
  | 4 => ("ElasticTabsModel", "undoMany", "I", false)
  | 5 => ("ElasticTabsModel", "undoAt", "I", false)
  | 6 => ("ElasticTabsModel", "undos", "[I", true)
  | 7 => ("ElasticTabsModel", "textMany", "I", false)
  | 8 => ("ElasticTabsModel", "text", "[I", true)
  | 9 => ("ElasticTabsModel", "readAt", "I", false)
  | 10 => ("ElasticTabsModel", "wordAt", "I", false)
  | 11 => ("ElasticTabsModel", "wordSize", "I", false)
  | 12 => ("ElasticTabsModel", "faultAt", "I", false)
  | 13 => ("ElasticTabsModel", "value", "I", false)
  | 14 => ("ElasticTabsModel", "what", "I", false)
  | 15 => ("ElasticTabsModel", "one", "I", false)
  | 16 => ("ElasticTabsModel", "two", "I", false)
  | 17 => ("ElasticTabsModel", "isKept", "[Z", true)
  | 18 => ("ElasticTabsModel", "kept", "[I", true)
  | 19 => ("ElasticTabsModel", "keptUndos", "[I", true)
  | 20 => ("ElasticTabsModel", "keptMany", "[I", true)
  | _ => ("ElasticTabsModel", "keptAt", "[I", true)
def tyX7 : Nat → FieldType := fun k => match k with
  | 0 => .array .int
  | 1 => .array .int
  | 2 => .array .int
  | 3 => .int
  | 4 => .int
  | 5 => .int
  | 6 => .array .int
  | 7 => .int
  | 8 => .array .int
  | 9 => .int
  | 10 => .int
  | 11 => .int
  | 12 => .int
  | 13 => .int
  | 14 => .int
  | 15 => .int
  | 16 => .int
  | 17 => .array .boolean
  | 18 => .array .int
  | 19 => .array .int
  | 20 => .array .int
  | _ => .array .int
abbrev wsX70 : List Cond := u_ws RX7 TX7 22
theorem nmX7 : ∀ a, a < 22 → ∀ b, b < 22 → a ≠ b → (TX7 a).2.1 ≠ (TX7 b).2.1 := by decide +kernel
theorem tyX7_ok : ∀ k, k < 22 → parseFieldDescriptor (TX7 k).2.2.1 = some (tyX7 k) := by decide +kernel
abbrev cX7_init : ByteArray := prog_9_method_1_code
def yX7_init : MethodName := ⟨RX7, "<init>", "()V"⟩
abbrev cX7_in : ByteArray := prog_9_method_2_code
def yX7_in : MethodName := ⟨RX7, "in", "(III)Z"⟩
abbrev cX7_copies : ByteArray := prog_9_method_3_code
def yX7_copies : MethodName := ⟨RX7, "copies", "([I[I)V"⟩
abbrev cX7_signAt : ByteArray := prog_9_method_4_code
def yX7_signAt : MethodName := ⟨RX7, "signAt", "([III)I"⟩
abbrev cX7_cellsOf : ByteArray := prog_9_method_5_code
def yX7_cellsOf : MethodName := ⟨RX7, "cellsOf", "([II)I"⟩
abbrev cX7_fromOf : ByteArray := prog_9_method_6_code
def yX7_fromOf : MethodName := ⟨RX7, "fromOf", "([III)I"⟩
abbrev cX7_sizeOf : ByteArray := prog_9_method_7_code
def yX7_sizeOf : MethodName := ⟨RX7, "sizeOf", "([III)I"⟩
abbrev cX7_aheadOf : ByteArray := prog_9_method_8_code
def yX7_aheadOf : MethodName := ⟨RX7, "aheadOf", "([III)I"⟩
abbrev cX7_firstOf : ByteArray := prog_9_method_9_code
def yX7_firstOf : MethodName := ⟨RX7, "firstOf", "([III)I"⟩
abbrev cX7_lastOf : ByteArray := prog_9_method_10_code
def yX7_lastOf : MethodName := ⟨RX7, "lastOf", "([III)I"⟩
abbrev cX7_mostOf : ByteArray := prog_9_method_11_code
def yX7_mostOf : MethodName := ⟨RX7, "mostOf", "([IIII)I"⟩
abbrev cX7_needOf : ByteArray := prog_9_method_12_code
def yX7_needOf : MethodName := ⟨RX7, "needOf", "([III)I"⟩
abbrev cX7_widthOf : ByteArray := prog_9_method_13_code
def yX7_widthOf : MethodName := ⟨RX7, "widthOf", "([III)I"⟩
abbrev cX7_beginsOf : ByteArray := prog_9_method_14_code
def yX7_beginsOf : MethodName := ⟨RX7, "beginsOf", "([III)I"⟩
abbrev cX7_wideOf : ByteArray := prog_9_method_15_code
def yX7_wideOf : MethodName := ⟨RX7, "wideOf", "([II)I"⟩
abbrev cX7_allWide : ByteArray := prog_9_method_16_code
def yX7_allWide : MethodName := ⟨RX7, "allWide", "([I)I"⟩
abbrev cX7_isSign : ByteArray := prog_9_method_17_code
def yX7_isSign : MethodName := ⟨RX7, "isSign", "(I)Z"⟩
abbrev cX7_begins : ByteArray := prog_9_method_18_code
def yX7_begins : MethodName := ⟨RX7, "begins", "()V"⟩
abbrev cX7_isChanged : ByteArray := prog_9_method_19_code
def yX7_isChanged : MethodName := ⟨RX7, "isChanged", "(I)Z"⟩
abbrev cX7_ends : ByteArray := prog_9_method_20_code
def yX7_ends : MethodName := ⟨RX7, "ends", "()V"⟩
abbrev cX7_opens : ByteArray := prog_9_method_21_code
def yX7_opens : MethodName := ⟨RX7, "opens", "(I)V"⟩
abbrev cX7_shuts : ByteArray := prog_9_method_22_code
def yX7_shuts : MethodName := ⟨RX7, "shuts", "(I)V"⟩
abbrev cX7_appends : ByteArray := prog_9_method_23_code
def yX7_appends : MethodName := ⟨RX7, "appends", "(II)V"⟩
abbrev cX7_isLine : ByteArray := prog_9_method_24_code
def yX7_isLine : MethodName := ⟨RX7, "isLine", "(I)Z"⟩
abbrev cX7_isPlace : ByteArray := prog_9_method_25_code
def yX7_isPlace : MethodName := ⟨RX7, "isPlace", "(II)Z"⟩
abbrev cX7_put : ByteArray := prog_9_method_26_code
def yX7_put : MethodName := ⟨RX7, "put", "(III)I"⟩
abbrev cX7_cut : ByteArray := prog_9_method_27_code
def yX7_cut : MethodName := ⟨RX7, "cut", "(II)I"⟩
abbrev cX7_split : ByteArray := prog_9_method_28_code
def yX7_split : MethodName := ⟨RX7, "split", "(II)I"⟩
abbrev cX7_join : ByteArray := prog_9_method_29_code
def yX7_join : MethodName := ⟨RX7, "join", "(I)I"⟩
abbrev cX7_undo : ByteArray := prog_9_method_30_code
def yX7_undo : MethodName := ⟨RX7, "undo", "()I"⟩
abbrev cX7_type : ByteArray := prog_9_method_31_code
def yX7_type : MethodName := ⟨RX7, "type", "(I)I"⟩
abbrev cX7_clear : ByteArray := prog_9_method_32_code
def yX7_clear : MethodName := ⟨RX7, "clear", "()I"⟩
abbrev cX7_blanks : ByteArray := prog_9_method_33_code
def yX7_blanks : MethodName := ⟨RX7, "blanks", "()V"⟩
abbrev cX7_fails : ByteArray := prog_9_method_34_code
def yX7_fails : MethodName := ⟨RX7, "fails", "(I)Z"⟩
abbrev cX7_word : ByteArray := prog_9_method_35_code
def yX7_word : MethodName := ⟨RX7, "word", "()Z"⟩
abbrev cX7_letters : ByteArray := prog_9_method_36_code
def yX7_letters : MethodName := ⟨RX7, "letters", "()I"⟩
abbrev cX7_command : ByteArray := prog_9_method_37_code
def yX7_command : MethodName := ⟨RX7, "command", "()I"⟩
abbrev cX7_way : ByteArray := prog_9_method_38_code
def yX7_way : MethodName := ⟨RX7, "way", "()I"⟩
abbrev cX7_number : ByteArray := prog_9_method_39_code
def yX7_number : MethodName := ⟨RX7, "number", "()Z"⟩
abbrev cX7_sign : ByteArray := prog_9_method_40_code
def yX7_sign : MethodName := ⟨RX7, "sign", "()Z"⟩
abbrev cX7_signs : ByteArray := prog_9_method_41_code
def yX7_signs : MethodName := ⟨RX7, "signs", "()Z"⟩
abbrev cX7_aligned : ByteArray := prog_9_method_42_code
def yX7_aligned : MethodName := ⟨RX7, "aligned", "()Z"⟩
abbrev cX7_stops : ByteArray := prog_9_method_43_code
def yX7_stops : MethodName := ⟨RX7, "stops", "()Z"⟩
abbrev cX7_reads : ByteArray := prog_9_method_44_code
def yX7_reads : MethodName := ⟨RX7, "reads", "()Z"⟩
abbrev cX7_adds : ByteArray := prog_9_method_45_code
def yX7_adds : MethodName := ⟨RX7, "adds", "()I"⟩
abbrev cX7_drops : ByteArray := prog_9_method_46_code
def yX7_drops : MethodName := ⟨RX7, "drops", "()I"⟩
abbrev cX7_becomes : ByteArray := prog_9_method_47_code
def yX7_becomes : MethodName := ⟨RX7, "becomes", "(IIZ)I"⟩
abbrev cX7_does : ByteArray := prog_9_method_48_code
def yX7_does : MethodName := ⟨RX7, "does", "()I"⟩
abbrev cX7_run : ByteArray := prog_9_method_49_code
def yX7_run : MethodName := ⟨RX7, "run", "()I"⟩
abbrev cX7_line : ByteArray := prog_9_method_50_code
def yX7_line : MethodName := ⟨RX7, "line", "(II)I"⟩
abbrev cX7_sign_ : ByteArray := prog_9_method_51_code
def yX7_sign_ : MethodName := ⟨RX7, "sign", "(II)I"⟩
abbrev cX7_widest : ByteArray := prog_9_method_52_code
def yX7_widest : MethodName := ⟨RX7, "widest", "(II)I"⟩
abbrev cX7_saves : ByteArray := prog_9_method_53_code
def yX7_saves : MethodName := ⟨RX7, "saves", "(II)I"⟩
abbrev cX7_cell : ByteArray := prog_9_method_54_code
def yX7_cell : MethodName := ⟨RX7, "cell", "(III)I"⟩
abbrev cX7_startOf : ByteArray := prog_9_method_55_code
def yX7_startOf : MethodName := ⟨RX7, "startOf", "(II)I"⟩
abbrev cX7_shownAt : ByteArray := prog_9_method_56_code
def yX7_shownAt : MethodName := ⟨RX7, "shownAt", "(II)I"⟩
abbrev cX7_shown : ByteArray := prog_9_method_57_code
def yX7_shown : MethodName := ⟨RX7, "shown", "(II)I"⟩
abbrev cX7_align : ByteArray := prog_9_method_58_code
def yX7_align : MethodName := ⟨RX7, "align", "(I)I"⟩
abbrev cX7_blocks : ByteArray := prog_9_method_59_code
def yX7_blocks : MethodName := ⟨RX7, "blocks", "()I"⟩
abbrev cX7_widestLine : ByteArray := prog_9_method_60_code
def yX7_widestLine : MethodName := ⟨RX7, "widestLine", "()I"⟩
abbrev cX7_count : ByteArray := prog_9_method_61_code
def yX7_count : MethodName := ⟨RX7, "count", "(I)I"⟩
abbrev cX7_digest : ByteArray := prog_9_method_62_code
def yX7_digest : MethodName := ⟨RX7, "digest", "()J"⟩
abbrev cX7_keep : ByteArray := prog_9_method_63_code
def yX7_keep : MethodName := ⟨RX7, "keep", "(I)I"⟩
abbrev cX7_back : ByteArray := prog_9_method_64_code
def yX7_back : MethodName := ⟨RX7, "back", "(I)I"⟩
def RJ9 : String := "java/lang/Math"
def TJ9 : u_T := fun k => match k with
  | _ => ("", "", "", false)
def tyJ9 : Nat → FieldType := fun k => match k with
  | _ => .int
abbrev wsJ90 : List Cond := u_ws RJ9 TJ9 0
theorem nmJ9 : ∀ a, a < 0 → ∀ b, b < 0 → a ≠ b → (TJ9 a).2.1 ≠ (TJ9 b).2.1 := by decide +kernel
theorem tyJ9_ok : ∀ k, k < 0 → parseFieldDescriptor (TJ9 k).2.2.1 = some (tyJ9 k) := by decide +kernel
abbrev cJ9_max_7cf53 : ByteArray := prog_10_method_65_code
def yJ9_max_7cf53 : MethodName := ⟨RJ9, "max", "(II)I"⟩
abbrev cJ9_min_7cf53 : ByteArray := prog_10_method_69_code
def yJ9_min_7cf53 : MethodName := ⟨RJ9, "min", "(II)I"⟩
def RJ0 : String := "java/lang/String"
def TJ0 : u_T := fun k => match k with
  | _ => ("", "", "", false)
def tyJ0 : Nat → FieldType := fun k => match k with
  | _ => .int
abbrev wsJ00 : List Cond := u_ws RJ0 TJ0 0
theorem nmJ0 : ∀ a, a < 0 → ∀ b, b < 0 → a ≠ b → (TJ0 a).2.1 ≠ (TJ0 b).2.1 := by decide +kernel
theorem tyJ0_ok : ∀ k, k < 0 → parseFieldDescriptor (TJ0 k).2.2.1 = some (tyJ0 k) := by decide +kernel
abbrev cJ0_length_8abf5 : ByteArray := prog_11_method_54_code
def yJ0_length_8abf5 : MethodName := ⟨RJ0, "length", "()I"⟩
abbrev cJ0_charAt_5068e : ByteArray := prog_11_method_56_code
def yJ0_charAt_5068e : MethodName := ⟨RJ0, "charAt", "(I)C"⟩
abbrev cJ0_coder_7d493 : ByteArray := prog_11_method_152_code
def yJ0_coder_7d493 : MethodName := ⟨RJ0, "coder", "()B"⟩
abbrev cJ0_isLatin1_aae02 : ByteArray := prog_11_method_154_code
def yJ0_isLatin1_aae02 : MethodName := ⟨RJ0, "isLatin1", "()Z"⟩
abbrev cJ0_checkIndex_df160 : ByteArray := prog_11_method_155_code
def yJ0_checkIndex_df160 : MethodName := ⟨RJ0, "checkIndex", "(II)V"⟩
def RJ1 : String := "java/lang/StringLatin1"
def TJ1 : u_T := fun k => match k with
  | _ => ("", "", "", false)
def tyJ1 : Nat → FieldType := fun k => match k with
  | _ => .int
abbrev wsJ10 : List Cond := u_ws RJ1 TJ1 0
theorem nmJ1 : ∀ a, a < 0 → ∀ b, b < 0 → a ≠ b → (TJ1 a).2.1 ≠ (TJ1 b).2.1 := by decide +kernel
theorem tyJ1_ok : ∀ k, k < 0 → parseFieldDescriptor (TJ1 k).2.2.1 = some (tyJ1 k) := by decide +kernel
abbrev cJ1_charAt_3b067 : ByteArray := prog_12_method_2_code
def yJ1_charAt_3b067 : MethodName := ⟨RJ1, "charAt", "([BI)C"⟩
def RJ2 : String := "java/lang/StringUTF16"
def TJ2 : u_T := fun k => match k with
  | _ => ("", "", "", false)
def tyJ2 : Nat → FieldType := fun k => match k with
  | _ => .int
abbrev wsJ20 : List Cond := u_ws RJ2 TJ2 0
theorem nmJ2 : ∀ a, a < 0 → ∀ b, b < 0 → a ≠ b → (TJ2 a).2.1 ≠ (TJ2 b).2.1 := by decide +kernel
theorem tyJ2_ok : ∀ k, k < 0 → parseFieldDescriptor (TJ2 k).2.2.1 = some (tyJ2 k) := by decide +kernel
abbrev cJ2_getChar_3b067 : ByteArray := prog_13_method_5_code
def yJ2_getChar_3b067 : MethodName := ⟨RJ2, "getChar", "([BI)C"⟩
abbrev cJ2_length_9d52b : ByteArray := prog_13_method_6_code
def yJ2_length_9d52b : MethodName := ⟨RJ2, "length", "([B)I"⟩
abbrev cJ2_charAt_3b067 : ByteArray := prog_13_method_83_code
def yJ2_charAt_3b067 : MethodName := ⟨RJ2, "charAt", "([BI)C"⟩
abbrev cJ2_checkIndex_2214a : ByteArray := prog_13_method_91_code
def yJ2_checkIndex_2214a : MethodName := ⟨RJ2, "checkIndex", "(I[B)V"⟩
def RJ10 : String := "java/lang/System"
def TJ10 : u_T := fun k => match k with
  | _ => ("", "", "", false)
def tyJ10 : Nat → FieldType := fun k => match k with
  | _ => .int
abbrev wsJ100 : List Cond := u_ws RJ10 TJ10 0
theorem nmJ10 : ∀ a, a < 0 → ∀ b, b < 0 → a ≠ b → (TJ10 a).2.1 ≠ (TJ10 b).2.1 := by decide +kernel
theorem tyJ10_ok : ∀ k, k < 0 → parseFieldDescriptor (TJ10 k).2.2.1 = some (tyJ10 k) := by decide +kernel
def RJ3 : String := "jdk/internal/util/Preconditions"
def TJ3 : u_T := fun k => match k with
  | _ => ("", "", "", false)
def tyJ3 : Nat → FieldType := fun k => match k with
  | _ => .int
abbrev wsJ30 : List Cond := u_ws RJ3 TJ3 0
theorem nmJ3 : ∀ a, a < 0 → ∀ b, b < 0 → a ≠ b → (TJ3 a).2.1 ≠ (TJ3 b).2.1 := by decide +kernel
theorem tyJ3_ok : ∀ k, k < 0 → parseFieldDescriptor (TJ3 k).2.2.1 = some (tyJ3 k) := by decide +kernel
abbrev cJ3_checkIndex_8e157 : ByteArray := prog_15_method_11_code
def yJ3_checkIndex_8e157 : MethodName := ⟨RJ3, "checkIndex", "(IILjava/util/function/BiFunction;)I"⟩
def RL : String := "ElasticTabsLaw"
abbrev cL_law : ByteArray := code
def yL_law : MethodName := ⟨RL, "law", "([I)Z"⟩
theorem dX0_init_0 : decode cX0_init 0 = .ok (.aload_n 0, 1) := by decide +kernel
theorem dX0_init_1 : decode cX0_init 1 = .ok (.invokespecial 1, 3) := by decide +kernel
theorem dX0_init_4 : decode cX0_init 4 = .ok (.return_, 1) := by decide +kernel
theorem dX1_init_0 : decode cX1_init 0 = .ok (.aload_n 0, 1) := by decide +kernel
theorem dX1_init_1 : decode cX1_init 1 = .ok (.invokespecial 1, 3) := by decide +kernel
theorem dX1_init_4 : decode cX1_init 4 = .ok (.aload_n 0, 1) := by decide +kernel
theorem dX1_init_5 : decode cX1_init 5 = .ok (.new 7, 3) := by decide +kernel
theorem dX1_init_8 : decode cX1_init 8 = .ok (.dup, 1) := by decide +kernel
theorem dX1_init_9 : decode cX1_init 9 = .ok (.invokespecial 9, 3) := by decide +kernel
theorem dX1_init_12 : decode cX1_init 12 = .ok (.putfield 10, 3) := by decide +kernel
theorem dX1_init_15 : decode cX1_init 15 = .ok (.aload_n 0, 1) := by decide +kernel
theorem dX1_init_16 : decode cX1_init 16 = .ok (.new 16, 3) := by decide +kernel
theorem dX1_init_19 : decode cX1_init 19 = .ok (.dup, 1) := by decide +kernel
theorem dX1_init_20 : decode cX1_init 20 = .ok (.invokespecial 18, 3) := by decide +kernel
theorem dX1_init_23 : decode cX1_init 23 = .ok (.putfield 19, 3) := by decide +kernel
theorem dX1_init_26 : decode cX1_init 26 = .ok (.return_, 1) := by decide +kernel
theorem dX2_init_0 : decode cX2_init 0 = .ok (.aload_n 0, 1) := by decide +kernel
theorem dX2_init_1 : decode cX2_init 1 = .ok (.invokespecial 3, 3) := by decide +kernel
theorem dX2_init_4 : decode cX2_init 4 = .ok (.aload_n 0, 1) := by decide +kernel
theorem dX2_init_5 : decode cX2_init 5 = .ok (.bipush 12, 2) := by decide +kernel
theorem dX2_init_7 : decode cX2_init 7 = .ok (.newarray .int, 2) := by decide +kernel
theorem dX2_init_9 : decode cX2_init 9 = .ok (.putfield 9, 3) := by decide +kernel
theorem dX2_init_12 : decode cX2_init 12 = .ok (.aload_n 0, 1) := by decide +kernel
theorem dX2_init_13 : decode cX2_init 13 = .ok (.bipush 12, 2) := by decide +kernel
theorem dX2_init_15 : decode cX2_init 15 = .ok (.newarray .int, 2) := by decide +kernel
theorem dX2_init_17 : decode cX2_init 17 = .ok (.putfield 15, 3) := by decide +kernel
theorem dX2_init_20 : decode cX2_init 20 = .ok (.aload_n 0, 1) := by decide +kernel
theorem dX2_init_21 : decode cX2_init 21 = .ok (.bipush 12, 2) := by decide +kernel
theorem dX2_init_23 : decode cX2_init 23 = .ok (.newarray .int, 2) := by decide +kernel
theorem dX2_init_25 : decode cX2_init 25 = .ok (.putfield 18, 3) := by decide +kernel
theorem dX2_init_28 : decode cX2_init 28 = .ok (.aload_n 0, 1) := by decide +kernel
theorem dX2_init_29 : decode cX2_init 29 = .ok (.bipush 12, 2) := by decide +kernel
theorem dX2_init_31 : decode cX2_init 31 = .ok (.newarray .int, 2) := by decide +kernel
theorem dX2_init_33 : decode cX2_init 33 = .ok (.putfield 21, 3) := by decide +kernel
theorem dX2_init_36 : decode cX2_init 36 = .ok (.aload_n 0, 1) := by decide +kernel
theorem dX2_init_37 : decode cX2_init 37 = .ok (.sipush 288, 3) := by decide +kernel
theorem dX2_init_40 : decode cX2_init 40 = .ok (.newarray .int, 2) := by decide +kernel
theorem dX2_init_42 : decode cX2_init 42 = .ok (.putfield 24, 3) := by decide +kernel
theorem dX2_init_45 : decode cX2_init 45 = .ok (.aload_n 0, 1) := by decide +kernel
theorem dX2_init_46 : decode cX2_init 46 = .ok (.sipush 288, 3) := by decide +kernel
theorem dX2_init_49 : decode cX2_init 49 = .ok (.newarray .int, 2) := by decide +kernel
theorem dX2_init_51 : decode cX2_init 51 = .ok (.putfield 27, 3) := by decide +kernel
theorem dX2_init_54 : decode cX2_init 54 = .ok (.aload_n 0, 1) := by decide +kernel
theorem dX2_init_55 : decode cX2_init 55 = .ok (.sipush 288, 3) := by decide +kernel
theorem dX2_init_58 : decode cX2_init 58 = .ok (.newarray .int, 2) := by decide +kernel
theorem dX2_init_60 : decode cX2_init 60 = .ok (.putfield 30, 3) := by decide +kernel
theorem dX2_init_63 : decode cX2_init 63 = .ok (.aload_n 0, 1) := by decide +kernel
theorem dX2_init_64 : decode cX2_init 64 = .ok (.new 33, 3) := by decide +kernel
theorem dX2_init_67 : decode cX2_init 67 = .ok (.dup, 1) := by decide +kernel
theorem dX2_init_68 : decode cX2_init 68 = .ok (.invokespecial 35, 3) := by decide +kernel
theorem dX2_init_71 : decode cX2_init 71 = .ok (.putfield 36, 3) := by decide +kernel
theorem dX2_init_74 : decode cX2_init 74 = .ok (.aload_n 0, 1) := by decide +kernel
theorem dX2_init_75 : decode cX2_init 75 = .ok (.sipush 288, 3) := by decide +kernel
theorem dX2_init_78 : decode cX2_init 78 = .ok (.newarray .int, 2) := by decide +kernel
theorem dX2_init_80 : decode cX2_init 80 = .ok (.putfield 40, 3) := by decide +kernel
theorem dX2_init_83 : decode cX2_init 83 = .ok (.aload_n 0, 1) := by decide +kernel
theorem dX2_init_84 : decode cX2_init 84 = .ok (.sipush 288, 3) := by decide +kernel
theorem dX2_init_87 : decode cX2_init 87 = .ok (.newarray .int, 2) := by decide +kernel
theorem dX2_init_89 : decode cX2_init 89 = .ok (.putfield 43, 3) := by decide +kernel
theorem dX2_init_92 : decode cX2_init 92 = .ok (.aload_n 0, 1) := by decide +kernel
theorem dX2_init_93 : decode cX2_init 93 = .ok (.sipush 288, 3) := by decide +kernel
theorem dX2_init_96 : decode cX2_init 96 = .ok (.newarray .int, 2) := by decide +kernel
theorem dX2_init_98 : decode cX2_init 98 = .ok (.putfield 46, 3) := by decide +kernel
theorem dX2_init_101 : decode cX2_init 101 = .ok (.return_, 1) := by decide +kernel
theorem dX2_lay_0 : decode cX2_lay 0 = .ok (.aload_n 0, 1) := by decide +kernel
theorem dX2_lay_1 : decode cX2_lay 1 = .ok (.aload_n 1, 1) := by decide +kernel
theorem dX2_lay_2 : decode cX2_lay 2 = .ok (.getfield 49, 3) := by decide +kernel
theorem dX2_lay_5 : decode cX2_lay 5 = .ok (.putfield 55, 3) := by decide +kernel
theorem dX2_lay_8 : decode cX2_lay 8 = .ok (.iconst 0, 1) := by decide +kernel
theorem dX2_lay_9 : decode cX2_lay 9 = .ok (.istore_n 2, 1) := by decide +kernel
theorem dX2_lay_10 : decode cX2_lay 10 = .ok (.iload_n 2, 1) := by decide +kernel
theorem dX2_lay_11 : decode cX2_lay 11 = .ok (.aload_n 0, 1) := by decide +kernel
theorem dX2_lay_12 : decode cX2_lay 12 = .ok (.getfield 55, 3) := by decide +kernel
theorem dX2_lay_15 : decode cX2_lay 15 = .ok (.if_icmp .ge 15, 3) := by decide +kernel
theorem dX2_lay_18 : decode cX2_lay 18 = .ok (.aload_n 0, 1) := by decide +kernel
theorem dX2_lay_19 : decode cX2_lay 19 = .ok (.aload_n 1, 1) := by decide +kernel
theorem dX2_lay_20 : decode cX2_lay 20 = .ok (.iload_n 2, 1) := by decide +kernel
theorem dX2_lay_21 : decode cX2_lay 21 = .ok (.invokevirtual 56, 3) := by decide +kernel
theorem dX2_lay_24 : decode cX2_lay 24 = .ok (.iinc 2 1, 3) := by decide +kernel
theorem dX2_lay_27 : decode cX2_lay 27 = .ok (.goto (-17), 3) := by decide +kernel
theorem dX2_lay_30 : decode cX2_lay 30 = .ok (.aload_n 0, 1) := by decide +kernel
theorem dX2_lay_31 : decode cX2_lay 31 = .ok (.iconst 0, 1) := by decide +kernel
theorem dX2_lay_32 : decode cX2_lay 32 = .ok (.putfield 60, 3) := by decide +kernel
theorem dX2_lay_35 : decode cX2_lay 35 = .ok (.iconst 0, 1) := by decide +kernel
theorem dX2_lay_36 : decode cX2_lay 36 = .ok (.istore_n 2, 1) := by decide +kernel
theorem dX2_lay_37 : decode cX2_lay 37 = .ok (.iload_n 2, 1) := by decide +kernel
theorem dX2_lay_38 : decode cX2_lay 38 = .ok (.aload_n 0, 1) := by decide +kernel
theorem dX2_lay_39 : decode cX2_lay 39 = .ok (.getfield 55, 3) := by decide +kernel
theorem dX2_lay_42 : decode cX2_lay 42 = .ok (.if_icmp .ge 67, 3) := by decide +kernel
theorem dX2_lay_45 : decode cX2_lay 45 = .ok (.iconst 0, 1) := by decide +kernel
theorem dX2_lay_46 : decode cX2_lay 46 = .ok (.istore_n 3, 1) := by decide +kernel
theorem dX2_lay_47 : decode cX2_lay 47 = .ok (.iload_n 3, 1) := by decide +kernel
theorem dX2_lay_48 : decode cX2_lay 48 = .ok (.aload_n 0, 1) := by decide +kernel
theorem dX2_lay_49 : decode cX2_lay 49 = .ok (.getfield 9, 3) := by decide +kernel
theorem dX2_lay_52 : decode cX2_lay 52 = .ok (.iload_n 2, 1) := by decide +kernel
theorem dX2_lay_53 : decode cX2_lay 53 = .ok (.iaload, 1) := by decide +kernel
theorem dX2_lay_54 : decode cX2_lay 54 = .ok (.if_icmp .ge 49, 3) := by decide +kernel
theorem dX2_lay_57 : decode cX2_lay 57 = .ok (.iload_n 2, 1) := by decide +kernel
theorem dX2_lay_58 : decode cX2_lay 58 = .ok (.ifCond .eq 15, 3) := by decide +kernel
theorem dX2_lay_61 : decode cX2_lay 61 = .ok (.aload_n 0, 1) := by decide +kernel
theorem dX2_lay_62 : decode cX2_lay 62 = .ok (.getfield 9, 3) := by decide +kernel
theorem dX2_lay_65 : decode cX2_lay 65 = .ok (.iload_n 2, 1) := by decide +kernel
theorem dX2_lay_66 : decode cX2_lay 66 = .ok (.iconst 1, 1) := by decide +kernel
theorem dX2_lay_67 : decode cX2_lay 67 = .ok (.isub, 1) := by decide +kernel
theorem dX2_lay_68 : decode cX2_lay 68 = .ok (.iaload, 1) := by decide +kernel
theorem dX2_lay_69 : decode cX2_lay 69 = .ok (.iload_n 3, 1) := by decide +kernel
theorem dX2_lay_70 : decode cX2_lay 70 = .ok (.if_icmp .gt 27, 3) := by decide +kernel
theorem dX2_lay_73 : decode cX2_lay 73 = .ok (.aload_n 0, 1) := by decide +kernel
theorem dX2_lay_74 : decode cX2_lay 74 = .ok (.aload_n 1, 1) := by decide +kernel
theorem dX2_lay_75 : decode cX2_lay 75 = .ok (.iload_n 2, 1) := by decide +kernel
theorem dX2_lay_76 : decode cX2_lay 76 = .ok (.iload_n 3, 1) := by decide +kernel
theorem dX2_lay_77 : decode cX2_lay 77 = .ok (.bipush (-9), 2) := by decide +kernel
theorem dX2_lay_79 : decode cX2_lay 79 = .ok (.invokevirtual 63, 3) := by decide +kernel
theorem dX2_lay_82 : decode cX2_lay 82 = .ok (.aload_n 0, 1) := by decide +kernel
theorem dX2_lay_83 : decode cX2_lay 83 = .ok (.iload_n 3, 1) := by decide +kernel
theorem dX2_lay_84 : decode cX2_lay 84 = .ok (.invokevirtual 67, 3) := by decide +kernel
theorem dX2_lay_87 : decode cX2_lay 87 = .ok (.aload_n 0, 1) := by decide +kernel
theorem dX2_lay_88 : decode cX2_lay 88 = .ok (.dup, 1) := by decide +kernel
theorem dX2_lay_89 : decode cX2_lay 89 = .ok (.getfield 60, 3) := by decide +kernel
theorem dX2_lay_92 : decode cX2_lay 92 = .ok (.iconst 1, 1) := by decide +kernel
theorem dX2_lay_93 : decode cX2_lay 93 = .ok (.iadd, 1) := by decide +kernel
theorem dX2_lay_94 : decode cX2_lay 94 = .ok (.putfield 60, 3) := by decide +kernel
theorem dX2_lay_97 : decode cX2_lay 97 = .ok (.iinc 3 1, 3) := by decide +kernel
theorem dX2_lay_100 : decode cX2_lay 100 = .ok (.goto (-53), 3) := by decide +kernel
theorem dX2_lay_103 : decode cX2_lay 103 = .ok (.iinc 2 1, 3) := by decide +kernel
theorem dX2_lay_106 : decode cX2_lay 106 = .ok (.goto (-69), 3) := by decide +kernel
theorem dX2_lay_109 : decode cX2_lay 109 = .ok (.iconst 0, 1) := by decide +kernel
theorem dX2_lay_110 : decode cX2_lay 110 = .ok (.istore_n 2, 1) := by decide +kernel
theorem dX2_lay_111 : decode cX2_lay 111 = .ok (.iload_n 2, 1) := by decide +kernel
theorem dX2_lay_112 : decode cX2_lay 112 = .ok (.aload_n 0, 1) := by decide +kernel
theorem dX2_lay_113 : decode cX2_lay 113 = .ok (.getfield 55, 3) := by decide +kernel
theorem dX2_lay_116 : decode cX2_lay 116 = .ok (.if_icmp .ge 15, 3) := by decide +kernel
theorem dX2_lay_119 : decode cX2_lay 119 = .ok (.aload_n 0, 1) := by decide +kernel
theorem dX2_lay_120 : decode cX2_lay 120 = .ok (.aload_n 1, 1) := by decide +kernel
theorem dX2_lay_121 : decode cX2_lay 121 = .ok (.iload_n 2, 1) := by decide +kernel
theorem dX2_lay_122 : decode cX2_lay 122 = .ok (.invokevirtual 71, 3) := by decide +kernel
theorem dX2_lay_125 : decode cX2_lay 125 = .ok (.iinc 2 1, 3) := by decide +kernel
theorem dX2_lay_128 : decode cX2_lay 128 = .ok (.goto (-17), 3) := by decide +kernel
theorem dX2_lay_131 : decode cX2_lay 131 = .ok (.return_, 1) := by decide +kernel
theorem dX2_partIntoCells_0 : decode cX2_partIntoCells 0 = .ok (.iconst 0, 1) := by decide +kernel
theorem dX2_partIntoCells_1 : decode cX2_partIntoCells 1 = .ok (.istore_n 3, 1) := by decide +kernel
theorem dX2_partIntoCells_2 : decode cX2_partIntoCells 2 = .ok (.iconst 0, 1) := by decide +kernel
theorem dX2_partIntoCells_3 : decode cX2_partIntoCells 3 = .ok (.istore 4, 2) := by decide +kernel
theorem dX2_partIntoCells_5 : decode cX2_partIntoCells 5 = .ok (.bipush (-9), 2) := by decide +kernel
theorem dX2_partIntoCells_7 : decode cX2_partIntoCells 7 = .ok (.istore 5, 2) := by decide +kernel
theorem dX2_partIntoCells_9 : decode cX2_partIntoCells 9 = .ok (.iconst 0, 1) := by decide +kernel
theorem dX2_partIntoCells_10 : decode cX2_partIntoCells 10 = .ok (.istore 6, 2) := by decide +kernel
theorem dX2_partIntoCells_12 : decode cX2_partIntoCells 12 = .ok (.iload 6, 2) := by decide +kernel
theorem dX2_partIntoCells_14 : decode cX2_partIntoCells 14 = .ok (.aload_n 1, 1) := by decide +kernel
theorem dX2_partIntoCells_15 : decode cX2_partIntoCells 15 = .ok (.getfield 74, 3) := by decide +kernel
theorem dX2_partIntoCells_18 : decode cX2_partIntoCells 18 = .ok (.iload_n 2, 1) := by decide +kernel
theorem dX2_partIntoCells_19 : decode cX2_partIntoCells 19 = .ok (.iaload, 1) := by decide +kernel
theorem dX2_partIntoCells_20 : decode cX2_partIntoCells 20 = .ok (.if_icmp .ge 115, 3) := by decide +kernel
theorem dX2_partIntoCells_23 : decode cX2_partIntoCells 23 = .ok (.aload_n 1, 1) := by decide +kernel
theorem dX2_partIntoCells_24 : decode cX2_partIntoCells 24 = .ok (.iload_n 2, 1) := by decide +kernel
theorem dX2_partIntoCells_25 : decode cX2_partIntoCells 25 = .ok (.iload 6, 2) := by decide +kernel
theorem dX2_partIntoCells_27 : decode cX2_partIntoCells 27 = .ok (.invokevirtual 75, 3) := by decide +kernel
theorem dX2_partIntoCells_30 : decode cX2_partIntoCells 30 = .ok (.istore 7, 2) := by decide +kernel
theorem dX2_partIntoCells_32 : decode cX2_partIntoCells 32 = .ok (.iload 7, 2) := by decide +kernel
theorem dX2_partIntoCells_34 : decode cX2_partIntoCells 34 = .ok (.bipush 124, 2) := by decide +kernel
theorem dX2_partIntoCells_36 : decode cX2_partIntoCells 36 = .ok (.if_icmp .ne 75, 3) := by decide +kernel
theorem dX2_partIntoCells_39 : decode cX2_partIntoCells 39 = .ok (.iload_n 2, 1) := by decide +kernel
theorem dX2_partIntoCells_40 : decode cX2_partIntoCells 40 = .ok (.bipush 24, 2) := by decide +kernel
theorem dX2_partIntoCells_42 : decode cX2_partIntoCells 42 = .ok (.imul, 1) := by decide +kernel
theorem dX2_partIntoCells_43 : decode cX2_partIntoCells 43 = .ok (.iload_n 3, 1) := by decide +kernel
theorem dX2_partIntoCells_44 : decode cX2_partIntoCells 44 = .ok (.iadd, 1) := by decide +kernel
theorem dX2_partIntoCells_45 : decode cX2_partIntoCells 45 = .ok (.istore 8, 2) := by decide +kernel
theorem dX2_partIntoCells_47 : decode cX2_partIntoCells 47 = .ok (.aload_n 0, 1) := by decide +kernel
theorem dX2_partIntoCells_48 : decode cX2_partIntoCells 48 = .ok (.getfield 40, 3) := by decide +kernel
theorem dX2_partIntoCells_51 : decode cX2_partIntoCells 51 = .ok (.iload 8, 2) := by decide +kernel
theorem dX2_partIntoCells_53 : decode cX2_partIntoCells 53 = .ok (.iload 4, 2) := by decide +kernel
theorem dX2_partIntoCells_55 : decode cX2_partIntoCells 55 = .ok (.iastore, 1) := by decide +kernel
theorem dX2_partIntoCells_56 : decode cX2_partIntoCells 56 = .ok (.aload_n 0, 1) := by decide +kernel
theorem dX2_partIntoCells_57 : decode cX2_partIntoCells 57 = .ok (.getfield 24, 3) := by decide +kernel
theorem dX2_partIntoCells_60 : decode cX2_partIntoCells 60 = .ok (.iload 8, 2) := by decide +kernel
theorem dX2_partIntoCells_62 : decode cX2_partIntoCells 62 = .ok (.iload 6, 2) := by decide +kernel
theorem dX2_partIntoCells_64 : decode cX2_partIntoCells 64 = .ok (.iload 4, 2) := by decide +kernel
theorem dX2_partIntoCells_66 : decode cX2_partIntoCells 66 = .ok (.isub, 1) := by decide +kernel
theorem dX2_partIntoCells_67 : decode cX2_partIntoCells 67 = .ok (.iastore, 1) := by decide +kernel
theorem dX2_partIntoCells_68 : decode cX2_partIntoCells 68 = .ok (.aload_n 0, 1) := by decide +kernel
theorem dX2_partIntoCells_69 : decode cX2_partIntoCells 69 = .ok (.getfield 43, 3) := by decide +kernel
theorem dX2_partIntoCells_72 : decode cX2_partIntoCells 72 = .ok (.iload 8, 2) := by decide +kernel
theorem dX2_partIntoCells_74 : decode cX2_partIntoCells 74 = .ok (.iload 5, 2) := by decide +kernel
theorem dX2_partIntoCells_76 : decode cX2_partIntoCells 76 = .ok (.bipush (-9), 2) := by decide +kernel
theorem dX2_partIntoCells_78 : decode cX2_partIntoCells 78 = .ok (.if_icmp .ne 11, 3) := by decide +kernel
theorem dX2_partIntoCells_81 : decode cX2_partIntoCells 81 = .ok (.iload 6, 2) := by decide +kernel
theorem dX2_partIntoCells_83 : decode cX2_partIntoCells 83 = .ok (.iload 4, 2) := by decide +kernel
theorem dX2_partIntoCells_85 : decode cX2_partIntoCells 85 = .ok (.isub, 1) := by decide +kernel
theorem dX2_partIntoCells_86 : decode cX2_partIntoCells 86 = .ok (.goto 8, 3) := by decide +kernel
theorem dX2_partIntoCells_89 : decode cX2_partIntoCells 89 = .ok (.iload 5, 2) := by decide +kernel
theorem dX2_partIntoCells_91 : decode cX2_partIntoCells 91 = .ok (.iload 4, 2) := by decide +kernel
theorem dX2_partIntoCells_93 : decode cX2_partIntoCells 93 = .ok (.isub, 1) := by decide +kernel
theorem dX2_partIntoCells_94 : decode cX2_partIntoCells 94 = .ok (.iastore, 1) := by decide +kernel
theorem dX2_partIntoCells_95 : decode cX2_partIntoCells 95 = .ok (.iinc 3 1, 3) := by decide +kernel
theorem dX2_partIntoCells_98 : decode cX2_partIntoCells 98 = .ok (.iload 6, 2) := by decide +kernel
theorem dX2_partIntoCells_100 : decode cX2_partIntoCells 100 = .ok (.iconst 1, 1) := by decide +kernel
theorem dX2_partIntoCells_101 : decode cX2_partIntoCells 101 = .ok (.iadd, 1) := by decide +kernel
theorem dX2_partIntoCells_102 : decode cX2_partIntoCells 102 = .ok (.istore 4, 2) := by decide +kernel
theorem dX2_partIntoCells_104 : decode cX2_partIntoCells 104 = .ok (.bipush (-9), 2) := by decide +kernel
theorem dX2_partIntoCells_106 : decode cX2_partIntoCells 106 = .ok (.istore 5, 2) := by decide +kernel
theorem dX2_partIntoCells_108 : decode cX2_partIntoCells 108 = .ok (.goto 21, 3) := by decide +kernel
theorem dX2_partIntoCells_111 : decode cX2_partIntoCells 111 = .ok (.iload 7, 2) := by decide +kernel
theorem dX2_partIntoCells_113 : decode cX2_partIntoCells 113 = .ok (.bipush 46, 2) := by decide +kernel
theorem dX2_partIntoCells_115 : decode cX2_partIntoCells 115 = .ok (.if_icmp .ne 14, 3) := by decide +kernel
theorem dX2_partIntoCells_118 : decode cX2_partIntoCells 118 = .ok (.iload 5, 2) := by decide +kernel
theorem dX2_partIntoCells_120 : decode cX2_partIntoCells 120 = .ok (.bipush (-9), 2) := by decide +kernel
theorem dX2_partIntoCells_122 : decode cX2_partIntoCells 122 = .ok (.if_icmp .ne 7, 3) := by decide +kernel
theorem dX2_partIntoCells_125 : decode cX2_partIntoCells 125 = .ok (.iload 6, 2) := by decide +kernel
theorem dX2_partIntoCells_127 : decode cX2_partIntoCells 127 = .ok (.istore 5, 2) := by decide +kernel
theorem dX2_partIntoCells_129 : decode cX2_partIntoCells 129 = .ok (.iinc 6 1, 3) := by decide +kernel
theorem dX2_partIntoCells_132 : decode cX2_partIntoCells 132 = .ok (.goto (-120), 3) := by decide +kernel
theorem dX2_partIntoCells_135 : decode cX2_partIntoCells 135 = .ok (.aload_n 0, 1) := by decide +kernel
theorem dX2_partIntoCells_136 : decode cX2_partIntoCells 136 = .ok (.getfield 9, 3) := by decide +kernel
theorem dX2_partIntoCells_139 : decode cX2_partIntoCells 139 = .ok (.iload_n 2, 1) := by decide +kernel
theorem dX2_partIntoCells_140 : decode cX2_partIntoCells 140 = .ok (.iload_n 3, 1) := by decide +kernel
theorem dX2_partIntoCells_141 : decode cX2_partIntoCells 141 = .ok (.iastore, 1) := by decide +kernel
theorem dX2_partIntoCells_142 : decode cX2_partIntoCells 142 = .ok (.aload_n 0, 1) := by decide +kernel
theorem dX2_partIntoCells_143 : decode cX2_partIntoCells 143 = .ok (.getfield 15, 3) := by decide +kernel
theorem dX2_partIntoCells_146 : decode cX2_partIntoCells 146 = .ok (.iload_n 2, 1) := by decide +kernel
theorem dX2_partIntoCells_147 : decode cX2_partIntoCells 147 = .ok (.iload 4, 2) := by decide +kernel
theorem dX2_partIntoCells_149 : decode cX2_partIntoCells 149 = .ok (.iastore, 1) := by decide +kernel
theorem dX2_partIntoCells_150 : decode cX2_partIntoCells 150 = .ok (.return_, 1) := by decide +kernel
theorem dX2_spreadBlock_0 : decode cX2_spreadBlock 0 = .ok (.aload_n 0, 1) := by decide +kernel
theorem dX2_spreadBlock_1 : decode cX2_spreadBlock 1 = .ok (.getfield 36, 3) := by decide +kernel
theorem dX2_spreadBlock_4 : decode cX2_spreadBlock 4 = .ok (.getfield 79, 3) := by decide +kernel
theorem dX2_spreadBlock_7 : decode cX2_spreadBlock 7 = .ok (.istore_n 2, 1) := by decide +kernel
theorem dX2_spreadBlock_8 : decode cX2_spreadBlock 8 = .ok (.iload_n 2, 1) := by decide +kernel
theorem dX2_spreadBlock_9 : decode cX2_spreadBlock 9 = .ok (.aload_n 0, 1) := by decide +kernel
theorem dX2_spreadBlock_10 : decode cX2_spreadBlock 10 = .ok (.getfield 36, 3) := by decide +kernel
theorem dX2_spreadBlock_13 : decode cX2_spreadBlock 13 = .ok (.getfield 82, 3) := by decide +kernel
theorem dX2_spreadBlock_16 : decode cX2_spreadBlock 16 = .ok (.if_icmp .gt 45, 3) := by decide +kernel
theorem dX2_spreadBlock_19 : decode cX2_spreadBlock 19 = .ok (.aload_n 0, 1) := by decide +kernel
theorem dX2_spreadBlock_20 : decode cX2_spreadBlock 20 = .ok (.getfield 27, 3) := by decide +kernel
theorem dX2_spreadBlock_23 : decode cX2_spreadBlock 23 = .ok (.iload_n 2, 1) := by decide +kernel
theorem dX2_spreadBlock_24 : decode cX2_spreadBlock 24 = .ok (.bipush 24, 2) := by decide +kernel
theorem dX2_spreadBlock_26 : decode cX2_spreadBlock 26 = .ok (.imul, 1) := by decide +kernel
theorem dX2_spreadBlock_27 : decode cX2_spreadBlock 27 = .ok (.iload_n 1, 1) := by decide +kernel
theorem dX2_spreadBlock_28 : decode cX2_spreadBlock 28 = .ok (.iadd, 1) := by decide +kernel
theorem dX2_spreadBlock_29 : decode cX2_spreadBlock 29 = .ok (.aload_n 0, 1) := by decide +kernel
theorem dX2_spreadBlock_30 : decode cX2_spreadBlock 30 = .ok (.getfield 36, 3) := by decide +kernel
theorem dX2_spreadBlock_33 : decode cX2_spreadBlock 33 = .ok (.getfield 85, 3) := by decide +kernel
theorem dX2_spreadBlock_36 : decode cX2_spreadBlock 36 = .ok (.iastore, 1) := by decide +kernel
theorem dX2_spreadBlock_37 : decode cX2_spreadBlock 37 = .ok (.aload_n 0, 1) := by decide +kernel
theorem dX2_spreadBlock_38 : decode cX2_spreadBlock 38 = .ok (.getfield 46, 3) := by decide +kernel
theorem dX2_spreadBlock_41 : decode cX2_spreadBlock 41 = .ok (.iload_n 2, 1) := by decide +kernel
theorem dX2_spreadBlock_42 : decode cX2_spreadBlock 42 = .ok (.bipush 24, 2) := by decide +kernel
theorem dX2_spreadBlock_44 : decode cX2_spreadBlock 44 = .ok (.imul, 1) := by decide +kernel
theorem dX2_spreadBlock_45 : decode cX2_spreadBlock 45 = .ok (.iload_n 1, 1) := by decide +kernel
theorem dX2_spreadBlock_46 : decode cX2_spreadBlock 46 = .ok (.iadd, 1) := by decide +kernel
theorem dX2_spreadBlock_47 : decode cX2_spreadBlock 47 = .ok (.aload_n 0, 1) := by decide +kernel
theorem dX2_spreadBlock_48 : decode cX2_spreadBlock 48 = .ok (.getfield 36, 3) := by decide +kernel
theorem dX2_spreadBlock_51 : decode cX2_spreadBlock 51 = .ok (.getfield 88, 3) := by decide +kernel
theorem dX2_spreadBlock_54 : decode cX2_spreadBlock 54 = .ok (.iastore, 1) := by decide +kernel
theorem dX2_spreadBlock_55 : decode cX2_spreadBlock 55 = .ok (.iinc 2 1, 3) := by decide +kernel
theorem dX2_spreadBlock_58 : decode cX2_spreadBlock 58 = .ok (.goto (-50), 3) := by decide +kernel
theorem dX2_spreadBlock_61 : decode cX2_spreadBlock 61 = .ok (.return_, 1) := by decide +kernel
theorem dX2_measure_0 : decode cX2_measure 0 = .ok (.iconst 0, 1) := by decide +kernel
theorem dX2_measure_1 : decode cX2_measure 1 = .ok (.istore 5, 2) := by decide +kernel
theorem dX2_measure_3 : decode cX2_measure 3 = .ok (.iconst 0, 1) := by decide +kernel
theorem dX2_measure_4 : decode cX2_measure 4 = .ok (.istore 6, 2) := by decide +kernel
theorem dX2_measure_6 : decode cX2_measure 6 = .ok (.iconst 0, 1) := by decide +kernel
theorem dX2_measure_7 : decode cX2_measure 7 = .ok (.istore 7, 2) := by decide +kernel
theorem dX2_measure_9 : decode cX2_measure 9 = .ok (.aload_n 0, 1) := by decide +kernel
theorem dX2_measure_10 : decode cX2_measure 10 = .ok (.getfield 36, 3) := by decide +kernel
theorem dX2_measure_13 : decode cX2_measure 13 = .ok (.aload_n 0, 1) := by decide +kernel
theorem dX2_measure_14 : decode cX2_measure 14 = .ok (.iload_n 2, 1) := by decide +kernel
theorem dX2_measure_15 : decode cX2_measure 15 = .ok (.iload_n 3, 1) := by decide +kernel
theorem dX2_measure_16 : decode cX2_measure 16 = .ok (.invokevirtual 91, 3) := by decide +kernel
theorem dX2_measure_19 : decode cX2_measure 19 = .ok (.putfield 79, 3) := by decide +kernel
theorem dX2_measure_22 : decode cX2_measure 22 = .ok (.aload_n 0, 1) := by decide +kernel
theorem dX2_measure_23 : decode cX2_measure 23 = .ok (.getfield 36, 3) := by decide +kernel
theorem dX2_measure_26 : decode cX2_measure 26 = .ok (.aload_n 0, 1) := by decide +kernel
theorem dX2_measure_27 : decode cX2_measure 27 = .ok (.iload_n 2, 1) := by decide +kernel
theorem dX2_measure_28 : decode cX2_measure 28 = .ok (.iload_n 3, 1) := by decide +kernel
theorem dX2_measure_29 : decode cX2_measure 29 = .ok (.invokevirtual 94, 3) := by decide +kernel
theorem dX2_measure_32 : decode cX2_measure 32 = .ok (.putfield 82, 3) := by decide +kernel
theorem dX2_measure_35 : decode cX2_measure 35 = .ok (.aload_n 0, 1) := by decide +kernel
theorem dX2_measure_36 : decode cX2_measure 36 = .ok (.getfield 36, 3) := by decide +kernel
theorem dX2_measure_39 : decode cX2_measure 39 = .ok (.getfield 79, 3) := by decide +kernel
theorem dX2_measure_42 : decode cX2_measure 42 = .ok (.istore 8, 2) := by decide +kernel
theorem dX2_measure_44 : decode cX2_measure 44 = .ok (.iload 8, 2) := by decide +kernel
theorem dX2_measure_46 : decode cX2_measure 46 = .ok (.aload_n 0, 1) := by decide +kernel
theorem dX2_measure_47 : decode cX2_measure 47 = .ok (.getfield 36, 3) := by decide +kernel
theorem dX2_measure_50 : decode cX2_measure 50 = .ok (.getfield 82, 3) := by decide +kernel
theorem dX2_measure_53 : decode cX2_measure 53 = .ok (.if_icmp .gt 90, 3) := by decide +kernel
theorem dX2_measure_56 : decode cX2_measure 56 = .ok (.iload 8, 2) := by decide +kernel
theorem dX2_measure_58 : decode cX2_measure 58 = .ok (.bipush 24, 2) := by decide +kernel
theorem dX2_measure_60 : decode cX2_measure 60 = .ok (.imul, 1) := by decide +kernel
theorem dX2_measure_61 : decode cX2_measure 61 = .ok (.iload_n 3, 1) := by decide +kernel
theorem dX2_measure_62 : decode cX2_measure 62 = .ok (.iadd, 1) := by decide +kernel
theorem dX2_measure_63 : decode cX2_measure 63 = .ok (.istore 9, 2) := by decide +kernel
theorem dX2_measure_65 : decode cX2_measure 65 = .ok (.iload 8, 2) := by decide +kernel
theorem dX2_measure_67 : decode cX2_measure 67 = .ok (.iload 4, 2) := by decide +kernel
theorem dX2_measure_69 : decode cX2_measure 69 = .ok (.if_icmp .ne 15, 3) := by decide +kernel
theorem dX2_measure_72 : decode cX2_measure 72 = .ok (.aload_n 0, 1) := by decide +kernel
theorem dX2_measure_73 : decode cX2_measure 73 = .ok (.getfield 24, 3) := by decide +kernel
theorem dX2_measure_76 : decode cX2_measure 76 = .ok (.iload 9, 2) := by decide +kernel
theorem dX2_measure_78 : decode cX2_measure 78 = .ok (.iaload, 1) := by decide +kernel
theorem dX2_measure_79 : decode cX2_measure 79 = .ok (.iconst 1, 1) := by decide +kernel
theorem dX2_measure_80 : decode cX2_measure 80 = .ok (.isub, 1) := by decide +kernel
theorem dX2_measure_81 : decode cX2_measure 81 = .ok (.goto 10, 3) := by decide +kernel
theorem dX2_measure_84 : decode cX2_measure 84 = .ok (.aload_n 0, 1) := by decide +kernel
theorem dX2_measure_85 : decode cX2_measure 85 = .ok (.getfield 24, 3) := by decide +kernel
theorem dX2_measure_88 : decode cX2_measure 88 = .ok (.iload 9, 2) := by decide +kernel
theorem dX2_measure_90 : decode cX2_measure 90 = .ok (.iaload, 1) := by decide +kernel
theorem dX2_measure_91 : decode cX2_measure 91 = .ok (.istore 10, 2) := by decide +kernel
theorem dX2_measure_93 : decode cX2_measure 93 = .ok (.aload_n 0, 1) := by decide +kernel
theorem dX2_measure_94 : decode cX2_measure 94 = .ok (.getfield 43, 3) := by decide +kernel
theorem dX2_measure_97 : decode cX2_measure 97 = .ok (.iload 9, 2) := by decide +kernel
theorem dX2_measure_99 : decode cX2_measure 99 = .ok (.iaload, 1) := by decide +kernel
theorem dX2_measure_100 : decode cX2_measure 100 = .ok (.iload 10, 2) := by decide +kernel
theorem dX2_measure_102 : decode cX2_measure 102 = .ok (.invokestatic 97, 3) := by decide +kernel
theorem dX2_measure_105 : decode cX2_measure 105 = .ok (.istore 11, 2) := by decide +kernel
theorem dX2_measure_107 : decode cX2_measure 107 = .ok (.iload 5, 2) := by decide +kernel
theorem dX2_measure_109 : decode cX2_measure 109 = .ok (.iload 10, 2) := by decide +kernel
theorem dX2_measure_111 : decode cX2_measure 111 = .ok (.invokestatic 102, 3) := by decide +kernel
theorem dX2_measure_114 : decode cX2_measure 114 = .ok (.istore 5, 2) := by decide +kernel
theorem dX2_measure_116 : decode cX2_measure 116 = .ok (.iload 6, 2) := by decide +kernel
theorem dX2_measure_118 : decode cX2_measure 118 = .ok (.iload 11, 2) := by decide +kernel
theorem dX2_measure_120 : decode cX2_measure 120 = .ok (.invokestatic 102, 3) := by decide +kernel
theorem dX2_measure_123 : decode cX2_measure 123 = .ok (.istore 6, 2) := by decide +kernel
theorem dX2_measure_125 : decode cX2_measure 125 = .ok (.iload 7, 2) := by decide +kernel
theorem dX2_measure_127 : decode cX2_measure 127 = .ok (.iload 10, 2) := by decide +kernel
theorem dX2_measure_129 : decode cX2_measure 129 = .ok (.iload 11, 2) := by decide +kernel
theorem dX2_measure_131 : decode cX2_measure 131 = .ok (.isub, 1) := by decide +kernel
theorem dX2_measure_132 : decode cX2_measure 132 = .ok (.invokestatic 102, 3) := by decide +kernel
theorem dX2_measure_135 : decode cX2_measure 135 = .ok (.istore 7, 2) := by decide +kernel
theorem dX2_measure_137 : decode cX2_measure 137 = .ok (.iinc 8 1, 3) := by decide +kernel
theorem dX2_measure_140 : decode cX2_measure 140 = .ok (.goto (-96), 3) := by decide +kernel
theorem dX2_measure_143 : decode cX2_measure 143 = .ok (.aload_n 0, 1) := by decide +kernel
theorem dX2_measure_144 : decode cX2_measure 144 = .ok (.getfield 36, 3) := by decide +kernel
theorem dX2_measure_147 : decode cX2_measure 147 = .ok (.iload 6, 2) := by decide +kernel
theorem dX2_measure_149 : decode cX2_measure 149 = .ok (.putfield 88, 3) := by decide +kernel
theorem dX2_measure_152 : decode cX2_measure 152 = .ok (.aload_n 0, 1) := by decide +kernel
theorem dX2_measure_153 : decode cX2_measure 153 = .ok (.getfield 36, 3) := by decide +kernel
theorem dX2_measure_156 : decode cX2_measure 156 = .ok (.aload_n 1, 1) := by decide +kernel
theorem dX2_measure_157 : decode cX2_measure 157 = .ok (.getfield 105, 3) := by decide +kernel
theorem dX2_measure_160 : decode cX2_measure 160 = .ok (.iload_n 3, 1) := by decide +kernel
theorem dX2_measure_161 : decode cX2_measure 161 = .ok (.iaload, 1) := by decide +kernel
theorem dX2_measure_162 : decode cX2_measure 162 = .ok (.iconst 3, 1) := by decide +kernel
theorem dX2_measure_163 : decode cX2_measure 163 = .ok (.if_icmp .ne 11, 3) := by decide +kernel
theorem dX2_measure_166 : decode cX2_measure 166 = .ok (.iload 6, 2) := by decide +kernel
theorem dX2_measure_168 : decode cX2_measure 168 = .ok (.iload 7, 2) := by decide +kernel
theorem dX2_measure_170 : decode cX2_measure 170 = .ok (.iadd, 1) := by decide +kernel
theorem dX2_measure_171 : decode cX2_measure 171 = .ok (.goto 5, 3) := by decide +kernel
theorem dX2_measure_174 : decode cX2_measure 174 = .ok (.iload 5, 2) := by decide +kernel
theorem dX2_measure_176 : decode cX2_measure 176 = .ok (.putfield 108, 3) := by decide +kernel
theorem dX2_measure_179 : decode cX2_measure 179 = .ok (.aload_n 0, 1) := by decide +kernel
theorem dX2_measure_180 : decode cX2_measure 180 = .ok (.getfield 36, 3) := by decide +kernel
theorem dX2_measure_183 : decode cX2_measure 183 = .ok (.aload_n 0, 1) := by decide +kernel
theorem dX2_measure_184 : decode cX2_measure 184 = .ok (.getfield 36, 3) := by decide +kernel
theorem dX2_measure_187 : decode cX2_measure 187 = .ok (.getfield 108, 3) := by decide +kernel
theorem dX2_measure_190 : decode cX2_measure 190 = .ok (.aload_n 1, 1) := by decide +kernel
theorem dX2_measure_191 : decode cX2_measure 191 = .ok (.getfield 111, 3) := by decide +kernel
theorem dX2_measure_194 : decode cX2_measure 194 = .ok (.invokestatic 102, 3) := by decide +kernel
theorem dX2_measure_197 : decode cX2_measure 197 = .ok (.aload_n 1, 1) := by decide +kernel
theorem dX2_measure_198 : decode cX2_measure 198 = .ok (.getfield 114, 3) := by decide +kernel
theorem dX2_measure_201 : decode cX2_measure 201 = .ok (.iadd, 1) := by decide +kernel
theorem dX2_measure_202 : decode cX2_measure 202 = .ok (.putfield 85, 3) := by decide +kernel
theorem dX2_measure_205 : decode cX2_measure 205 = .ok (.return_, 1) := by decide +kernel
theorem dX2_placeCells_0 : decode cX2_placeCells 0 = .ok (.iconst 0, 1) := by decide +kernel
theorem dX2_placeCells_1 : decode cX2_placeCells 1 = .ok (.istore_n 3, 1) := by decide +kernel
theorem dX2_placeCells_2 : decode cX2_placeCells 2 = .ok (.iconst 0, 1) := by decide +kernel
theorem dX2_placeCells_3 : decode cX2_placeCells 3 = .ok (.istore 4, 2) := by decide +kernel
theorem dX2_placeCells_5 : decode cX2_placeCells 5 = .ok (.iload 4, 2) := by decide +kernel
theorem dX2_placeCells_7 : decode cX2_placeCells 7 = .ok (.aload_n 0, 1) := by decide +kernel
theorem dX2_placeCells_8 : decode cX2_placeCells 8 = .ok (.getfield 9, 3) := by decide +kernel
theorem dX2_placeCells_11 : decode cX2_placeCells 11 = .ok (.iload_n 2, 1) := by decide +kernel
theorem dX2_placeCells_12 : decode cX2_placeCells 12 = .ok (.iaload, 1) := by decide +kernel
theorem dX2_placeCells_13 : decode cX2_placeCells 13 = .ok (.if_icmp .ge 37, 3) := by decide +kernel
theorem dX2_placeCells_16 : decode cX2_placeCells 16 = .ok (.aload_n 0, 1) := by decide +kernel
theorem dX2_placeCells_17 : decode cX2_placeCells 17 = .ok (.getfield 30, 3) := by decide +kernel
theorem dX2_placeCells_20 : decode cX2_placeCells 20 = .ok (.iload_n 2, 1) := by decide +kernel
theorem dX2_placeCells_21 : decode cX2_placeCells 21 = .ok (.bipush 24, 2) := by decide +kernel
theorem dX2_placeCells_23 : decode cX2_placeCells 23 = .ok (.imul, 1) := by decide +kernel
theorem dX2_placeCells_24 : decode cX2_placeCells 24 = .ok (.iload 4, 2) := by decide +kernel
theorem dX2_placeCells_26 : decode cX2_placeCells 26 = .ok (.iadd, 1) := by decide +kernel
theorem dX2_placeCells_27 : decode cX2_placeCells 27 = .ok (.iload_n 3, 1) := by decide +kernel
theorem dX2_placeCells_28 : decode cX2_placeCells 28 = .ok (.iastore, 1) := by decide +kernel
theorem dX2_placeCells_29 : decode cX2_placeCells 29 = .ok (.iload_n 3, 1) := by decide +kernel
theorem dX2_placeCells_30 : decode cX2_placeCells 30 = .ok (.aload_n 0, 1) := by decide +kernel
theorem dX2_placeCells_31 : decode cX2_placeCells 31 = .ok (.getfield 27, 3) := by decide +kernel
theorem dX2_placeCells_34 : decode cX2_placeCells 34 = .ok (.iload_n 2, 1) := by decide +kernel
theorem dX2_placeCells_35 : decode cX2_placeCells 35 = .ok (.bipush 24, 2) := by decide +kernel
theorem dX2_placeCells_37 : decode cX2_placeCells 37 = .ok (.imul, 1) := by decide +kernel
theorem dX2_placeCells_38 : decode cX2_placeCells 38 = .ok (.iload 4, 2) := by decide +kernel
theorem dX2_placeCells_40 : decode cX2_placeCells 40 = .ok (.iadd, 1) := by decide +kernel
theorem dX2_placeCells_41 : decode cX2_placeCells 41 = .ok (.iaload, 1) := by decide +kernel
theorem dX2_placeCells_42 : decode cX2_placeCells 42 = .ok (.iadd, 1) := by decide +kernel
theorem dX2_placeCells_43 : decode cX2_placeCells 43 = .ok (.istore_n 3, 1) := by decide +kernel
theorem dX2_placeCells_44 : decode cX2_placeCells 44 = .ok (.iinc 4 1, 3) := by decide +kernel
theorem dX2_placeCells_47 : decode cX2_placeCells 47 = .ok (.goto (-42), 3) := by decide +kernel
theorem dX2_placeCells_50 : decode cX2_placeCells 50 = .ok (.aload_n 0, 1) := by decide +kernel
theorem dX2_placeCells_51 : decode cX2_placeCells 51 = .ok (.getfield 18, 3) := by decide +kernel
theorem dX2_placeCells_54 : decode cX2_placeCells 54 = .ok (.iload_n 2, 1) := by decide +kernel
theorem dX2_placeCells_55 : decode cX2_placeCells 55 = .ok (.iload_n 3, 1) := by decide +kernel
theorem dX2_placeCells_56 : decode cX2_placeCells 56 = .ok (.iastore, 1) := by decide +kernel
theorem dX2_placeCells_57 : decode cX2_placeCells 57 = .ok (.aload_n 0, 1) := by decide +kernel
theorem dX2_placeCells_58 : decode cX2_placeCells 58 = .ok (.getfield 21, 3) := by decide +kernel
theorem dX2_placeCells_61 : decode cX2_placeCells 61 = .ok (.iload_n 2, 1) := by decide +kernel
theorem dX2_placeCells_62 : decode cX2_placeCells 62 = .ok (.iload_n 3, 1) := by decide +kernel
theorem dX2_placeCells_63 : decode cX2_placeCells 63 = .ok (.aload_n 1, 1) := by decide +kernel
theorem dX2_placeCells_64 : decode cX2_placeCells 64 = .ok (.getfield 74, 3) := by decide +kernel
theorem dX2_placeCells_67 : decode cX2_placeCells 67 = .ok (.iload_n 2, 1) := by decide +kernel
theorem dX2_placeCells_68 : decode cX2_placeCells 68 = .ok (.iaload, 1) := by decide +kernel
theorem dX2_placeCells_69 : decode cX2_placeCells 69 = .ok (.iadd, 1) := by decide +kernel
theorem dX2_placeCells_70 : decode cX2_placeCells 70 = .ok (.aload_n 0, 1) := by decide +kernel
theorem dX2_placeCells_71 : decode cX2_placeCells 71 = .ok (.getfield 15, 3) := by decide +kernel
theorem dX2_placeCells_74 : decode cX2_placeCells 74 = .ok (.iload_n 2, 1) := by decide +kernel
theorem dX2_placeCells_75 : decode cX2_placeCells 75 = .ok (.iaload, 1) := by decide +kernel
theorem dX2_placeCells_76 : decode cX2_placeCells 76 = .ok (.isub, 1) := by decide +kernel
theorem dX2_placeCells_77 : decode cX2_placeCells 77 = .ok (.iastore, 1) := by decide +kernel
theorem dX2_placeCells_78 : decode cX2_placeCells 78 = .ok (.return_, 1) := by decide +kernel
theorem dX2_firstOfBlock_0 : decode cX2_firstOfBlock 0 = .ok (.iload_n 1, 1) := by decide +kernel
theorem dX2_firstOfBlock_1 : decode cX2_firstOfBlock 1 = .ok (.istore_n 3, 1) := by decide +kernel
theorem dX2_firstOfBlock_2 : decode cX2_firstOfBlock 2 = .ok (.iload_n 3, 1) := by decide +kernel
theorem dX2_firstOfBlock_3 : decode cX2_firstOfBlock 3 = .ok (.ifCond .le 21, 3) := by decide +kernel
theorem dX2_firstOfBlock_6 : decode cX2_firstOfBlock 6 = .ok (.aload_n 0, 1) := by decide +kernel
theorem dX2_firstOfBlock_7 : decode cX2_firstOfBlock 7 = .ok (.getfield 9, 3) := by decide +kernel
theorem dX2_firstOfBlock_10 : decode cX2_firstOfBlock 10 = .ok (.iload_n 3, 1) := by decide +kernel
theorem dX2_firstOfBlock_11 : decode cX2_firstOfBlock 11 = .ok (.iconst 1, 1) := by decide +kernel
theorem dX2_firstOfBlock_12 : decode cX2_firstOfBlock 12 = .ok (.isub, 1) := by decide +kernel
theorem dX2_firstOfBlock_13 : decode cX2_firstOfBlock 13 = .ok (.iaload, 1) := by decide +kernel
theorem dX2_firstOfBlock_14 : decode cX2_firstOfBlock 14 = .ok (.iload_n 2, 1) := by decide +kernel
theorem dX2_firstOfBlock_15 : decode cX2_firstOfBlock 15 = .ok (.if_icmp .le 9, 3) := by decide +kernel
theorem dX2_firstOfBlock_18 : decode cX2_firstOfBlock 18 = .ok (.iinc 3 (-1), 3) := by decide +kernel
theorem dX2_firstOfBlock_21 : decode cX2_firstOfBlock 21 = .ok (.goto (-19), 3) := by decide +kernel
theorem dX2_firstOfBlock_24 : decode cX2_firstOfBlock 24 = .ok (.iload_n 3, 1) := by decide +kernel
theorem dX2_firstOfBlock_25 : decode cX2_firstOfBlock 25 = .ok (.ireturn, 1) := by decide +kernel
theorem dX2_lastOfBlock_0 : decode cX2_lastOfBlock 0 = .ok (.iload_n 1, 1) := by decide +kernel
theorem dX2_lastOfBlock_1 : decode cX2_lastOfBlock 1 = .ok (.istore_n 3, 1) := by decide +kernel
theorem dX2_lastOfBlock_2 : decode cX2_lastOfBlock 2 = .ok (.iload_n 3, 1) := by decide +kernel
theorem dX2_lastOfBlock_3 : decode cX2_lastOfBlock 3 = .ok (.iconst 1, 1) := by decide +kernel
theorem dX2_lastOfBlock_4 : decode cX2_lastOfBlock 4 = .ok (.iadd, 1) := by decide +kernel
theorem dX2_lastOfBlock_5 : decode cX2_lastOfBlock 5 = .ok (.aload_n 0, 1) := by decide +kernel
theorem dX2_lastOfBlock_6 : decode cX2_lastOfBlock 6 = .ok (.getfield 55, 3) := by decide +kernel
theorem dX2_lastOfBlock_9 : decode cX2_lastOfBlock 9 = .ok (.if_icmp .ge 21, 3) := by decide +kernel
theorem dX2_lastOfBlock_12 : decode cX2_lastOfBlock 12 = .ok (.aload_n 0, 1) := by decide +kernel
theorem dX2_lastOfBlock_13 : decode cX2_lastOfBlock 13 = .ok (.getfield 9, 3) := by decide +kernel
theorem dX2_lastOfBlock_16 : decode cX2_lastOfBlock 16 = .ok (.iload_n 3, 1) := by decide +kernel
theorem dX2_lastOfBlock_17 : decode cX2_lastOfBlock 17 = .ok (.iconst 1, 1) := by decide +kernel
theorem dX2_lastOfBlock_18 : decode cX2_lastOfBlock 18 = .ok (.iadd, 1) := by decide +kernel
theorem dX2_lastOfBlock_19 : decode cX2_lastOfBlock 19 = .ok (.iaload, 1) := by decide +kernel
theorem dX2_lastOfBlock_20 : decode cX2_lastOfBlock 20 = .ok (.iload_n 2, 1) := by decide +kernel
theorem dX2_lastOfBlock_21 : decode cX2_lastOfBlock 21 = .ok (.if_icmp .le 9, 3) := by decide +kernel
theorem dX2_lastOfBlock_24 : decode cX2_lastOfBlock 24 = .ok (.iinc 3 1, 3) := by decide +kernel
theorem dX2_lastOfBlock_27 : decode cX2_lastOfBlock 27 = .ok (.goto (-25), 3) := by decide +kernel
theorem dX2_lastOfBlock_30 : decode cX2_lastOfBlock 30 = .ok (.iload_n 3, 1) := by decide +kernel
theorem dX2_lastOfBlock_31 : decode cX2_lastOfBlock 31 = .ok (.ireturn, 1) := by decide +kernel
theorem dX2_widest_0 : decode cX2_widest 0 = .ok (.aload_n 0, 1) := by decide +kernel
theorem dX2_widest_1 : decode cX2_widest 1 = .ok (.aload_n 1, 1) := by decide +kernel
theorem dX2_widest_2 : decode cX2_widest 2 = .ok (.iload_n 2, 1) := by decide +kernel
theorem dX2_widest_3 : decode cX2_widest 3 = .ok (.iload_n 3, 1) := by decide +kernel
theorem dX2_widest_4 : decode cX2_widest 4 = .ok (.bipush (-9), 2) := by decide +kernel
theorem dX2_widest_6 : decode cX2_widest 6 = .ok (.invokevirtual 63, 3) := by decide +kernel
theorem dX2_widest_9 : decode cX2_widest 9 = .ok (.aload_n 0, 1) := by decide +kernel
theorem dX2_widest_10 : decode cX2_widest 10 = .ok (.getfield 36, 3) := by decide +kernel
theorem dX2_widest_13 : decode cX2_widest 13 = .ok (.getfield 108, 3) := by decide +kernel
theorem dX2_widest_16 : decode cX2_widest 16 = .ok (.aload_n 1, 1) := by decide +kernel
theorem dX2_widest_17 : decode cX2_widest 17 = .ok (.getfield 111, 3) := by decide +kernel
theorem dX2_widest_20 : decode cX2_widest 20 = .ok (.if_icmp .ge 6, 3) := by decide +kernel
theorem dX2_widest_23 : decode cX2_widest 23 = .ok (.bipush (-9), 2) := by decide +kernel
theorem dX2_widest_25 : decode cX2_widest 25 = .ok (.ireturn, 1) := by decide +kernel
theorem dX2_widest_26 : decode cX2_widest 26 = .ok (.aload_n 1, 1) := by decide +kernel
theorem dX2_widest_27 : decode cX2_widest 27 = .ok (.getfield 105, 3) := by decide +kernel
theorem dX2_widest_30 : decode cX2_widest 30 = .ok (.iload_n 3, 1) := by decide +kernel
theorem dX2_widest_31 : decode cX2_widest 31 = .ok (.iaload, 1) := by decide +kernel
theorem dX2_widest_32 : decode cX2_widest 32 = .ok (.iconst 3, 1) := by decide +kernel
theorem dX2_widest_33 : decode cX2_widest 33 = .ok (.if_icmp .ne 7, 3) := by decide +kernel
theorem dX2_widest_36 : decode cX2_widest 36 = .ok (.iconst 1, 1) := by decide +kernel
theorem dX2_widest_37 : decode cX2_widest 37 = .ok (.goto 4, 3) := by decide +kernel
theorem dX2_widest_40 : decode cX2_widest 40 = .ok (.iconst 0, 1) := by decide +kernel
theorem dX2_widest_41 : decode cX2_widest 41 = .ok (.istore 4, 2) := by decide +kernel
theorem dX2_widest_43 : decode cX2_widest 43 = .ok (.iload 4, 2) := by decide +kernel
theorem dX2_widest_45 : decode cX2_widest 45 = .ok (.ifCond .eq 13, 3) := by decide +kernel
theorem dX2_widest_48 : decode cX2_widest 48 = .ok (.aload_n 0, 1) := by decide +kernel
theorem dX2_widest_49 : decode cX2_widest 49 = .ok (.getfield 36, 3) := by decide +kernel
theorem dX2_widest_52 : decode cX2_widest 52 = .ok (.getfield 88, 3) := by decide +kernel
theorem dX2_widest_55 : decode cX2_widest 55 = .ok (.goto 10, 3) := by decide +kernel
theorem dX2_widest_58 : decode cX2_widest 58 = .ok (.aload_n 0, 1) := by decide +kernel
theorem dX2_widest_59 : decode cX2_widest 59 = .ok (.getfield 36, 3) := by decide +kernel
theorem dX2_widest_62 : decode cX2_widest 62 = .ok (.getfield 108, 3) := by decide +kernel
theorem dX2_widest_65 : decode cX2_widest 65 = .ok (.istore 5, 2) := by decide +kernel
theorem dX2_widest_67 : decode cX2_widest 67 = .ok (.aload_n 0, 1) := by decide +kernel
theorem dX2_widest_68 : decode cX2_widest 68 = .ok (.getfield 36, 3) := by decide +kernel
theorem dX2_widest_71 : decode cX2_widest 71 = .ok (.getfield 79, 3) := by decide +kernel
theorem dX2_widest_74 : decode cX2_widest 74 = .ok (.istore 6, 2) := by decide +kernel
theorem dX2_widest_76 : decode cX2_widest 76 = .ok (.iload 6, 2) := by decide +kernel
theorem dX2_widest_78 : decode cX2_widest 78 = .ok (.aload_n 0, 1) := by decide +kernel
theorem dX2_widest_79 : decode cX2_widest 79 = .ok (.getfield 36, 3) := by decide +kernel
theorem dX2_widest_82 : decode cX2_widest 82 = .ok (.getfield 82, 3) := by decide +kernel
theorem dX2_widest_85 : decode cX2_widest 85 = .ok (.if_icmp .gt 48, 3) := by decide +kernel
theorem dX2_widest_88 : decode cX2_widest 88 = .ok (.iload 6, 2) := by decide +kernel
theorem dX2_widest_90 : decode cX2_widest 90 = .ok (.bipush 24, 2) := by decide +kernel
theorem dX2_widest_92 : decode cX2_widest 92 = .ok (.imul, 1) := by decide +kernel
theorem dX2_widest_93 : decode cX2_widest 93 = .ok (.iload_n 3, 1) := by decide +kernel
theorem dX2_widest_94 : decode cX2_widest 94 = .ok (.iadd, 1) := by decide +kernel
theorem dX2_widest_95 : decode cX2_widest 95 = .ok (.istore 7, 2) := by decide +kernel
theorem dX2_widest_97 : decode cX2_widest 97 = .ok (.iload 4, 2) := by decide +kernel
theorem dX2_widest_99 : decode cX2_widest 99 = .ok (.ifCond .eq 13, 3) := by decide +kernel
theorem dX2_widest_102 : decode cX2_widest 102 = .ok (.aload_n 0, 1) := by decide +kernel
theorem dX2_widest_103 : decode cX2_widest 103 = .ok (.getfield 43, 3) := by decide +kernel
theorem dX2_widest_106 : decode cX2_widest 106 = .ok (.iload 7, 2) := by decide +kernel
theorem dX2_widest_108 : decode cX2_widest 108 = .ok (.iaload, 1) := by decide +kernel
theorem dX2_widest_109 : decode cX2_widest 109 = .ok (.goto 10, 3) := by decide +kernel
theorem dX2_widest_112 : decode cX2_widest 112 = .ok (.aload_n 0, 1) := by decide +kernel
theorem dX2_widest_113 : decode cX2_widest 113 = .ok (.getfield 24, 3) := by decide +kernel
theorem dX2_widest_116 : decode cX2_widest 116 = .ok (.iload 7, 2) := by decide +kernel
theorem dX2_widest_118 : decode cX2_widest 118 = .ok (.iaload, 1) := by decide +kernel
theorem dX2_widest_119 : decode cX2_widest 119 = .ok (.iload 5, 2) := by decide +kernel
theorem dX2_widest_121 : decode cX2_widest 121 = .ok (.if_icmp .ne 6, 3) := by decide +kernel
theorem dX2_widest_124 : decode cX2_widest 124 = .ok (.iload 6, 2) := by decide +kernel
theorem dX2_widest_126 : decode cX2_widest 126 = .ok (.ireturn, 1) := by decide +kernel
theorem dX2_widest_127 : decode cX2_widest 127 = .ok (.iinc 6 1, 3) := by decide +kernel
theorem dX2_widest_130 : decode cX2_widest 130 = .ok (.goto (-54), 3) := by decide +kernel
theorem dX2_widest_133 : decode cX2_widest 133 = .ok (.bipush (-9), 2) := by decide +kernel
theorem dX2_widest_135 : decode cX2_widest 135 = .ok (.ireturn, 1) := by decide +kernel
theorem dX2_saves_0 : decode cX2_saves 0 = .ok (.iload_n 2, 1) := by decide +kernel
theorem dX2_saves_1 : decode cX2_saves 1 = .ok (.bipush 24, 2) := by decide +kernel
theorem dX2_saves_3 : decode cX2_saves 3 = .ok (.imul, 1) := by decide +kernel
theorem dX2_saves_4 : decode cX2_saves 4 = .ok (.iload_n 3, 1) := by decide +kernel
theorem dX2_saves_5 : decode cX2_saves 5 = .ok (.iadd, 1) := by decide +kernel
theorem dX2_saves_6 : decode cX2_saves 6 = .ok (.istore 4, 2) := by decide +kernel
theorem dX2_saves_8 : decode cX2_saves 8 = .ok (.aload_n 0, 1) := by decide +kernel
theorem dX2_saves_9 : decode cX2_saves 9 = .ok (.getfield 24, 3) := by decide +kernel
theorem dX2_saves_12 : decode cX2_saves 12 = .ok (.iload 4, 2) := by decide +kernel
theorem dX2_saves_14 : decode cX2_saves 14 = .ok (.iaload, 1) := by decide +kernel
theorem dX2_saves_15 : decode cX2_saves 15 = .ok (.ifCond .ne 5, 3) := by decide +kernel
theorem dX2_saves_18 : decode cX2_saves 18 = .ok (.iconst 0, 1) := by decide +kernel
theorem dX2_saves_19 : decode cX2_saves 19 = .ok (.ireturn, 1) := by decide +kernel
theorem dX2_saves_20 : decode cX2_saves 20 = .ok (.aload_n 0, 1) := by decide +kernel
theorem dX2_saves_21 : decode cX2_saves 21 = .ok (.aload_n 1, 1) := by decide +kernel
theorem dX2_saves_22 : decode cX2_saves 22 = .ok (.iload_n 2, 1) := by decide +kernel
theorem dX2_saves_23 : decode cX2_saves 23 = .ok (.iload_n 3, 1) := by decide +kernel
theorem dX2_saves_24 : decode cX2_saves 24 = .ok (.iload_n 2, 1) := by decide +kernel
theorem dX2_saves_25 : decode cX2_saves 25 = .ok (.invokevirtual 63, 3) := by decide +kernel
theorem dX2_saves_28 : decode cX2_saves 28 = .ok (.aload_n 0, 1) := by decide +kernel
theorem dX2_saves_29 : decode cX2_saves 29 = .ok (.getfield 27, 3) := by decide +kernel
theorem dX2_saves_32 : decode cX2_saves 32 = .ok (.iload 4, 2) := by decide +kernel
theorem dX2_saves_34 : decode cX2_saves 34 = .ok (.iaload, 1) := by decide +kernel
theorem dX2_saves_35 : decode cX2_saves 35 = .ok (.aload_n 0, 1) := by decide +kernel
theorem dX2_saves_36 : decode cX2_saves 36 = .ok (.getfield 36, 3) := by decide +kernel
theorem dX2_saves_39 : decode cX2_saves 39 = .ok (.getfield 85, 3) := by decide +kernel
theorem dX2_saves_42 : decode cX2_saves 42 = .ok (.isub, 1) := by decide +kernel
theorem dX2_saves_43 : decode cX2_saves 43 = .ok (.aload_n 0, 1) := by decide +kernel
theorem dX2_saves_44 : decode cX2_saves 44 = .ok (.getfield 36, 3) := by decide +kernel
theorem dX2_saves_47 : decode cX2_saves 47 = .ok (.getfield 82, 3) := by decide +kernel
theorem dX2_saves_50 : decode cX2_saves 50 = .ok (.aload_n 0, 1) := by decide +kernel
theorem dX2_saves_51 : decode cX2_saves 51 = .ok (.getfield 36, 3) := by decide +kernel
theorem dX2_saves_54 : decode cX2_saves 54 = .ok (.getfield 79, 3) := by decide +kernel
theorem dX2_saves_57 : decode cX2_saves 57 = .ok (.isub, 1) := by decide +kernel
theorem dX2_saves_58 : decode cX2_saves 58 = .ok (.iconst 1, 1) := by decide +kernel
theorem dX2_saves_59 : decode cX2_saves 59 = .ok (.iadd, 1) := by decide +kernel
theorem dX2_saves_60 : decode cX2_saves 60 = .ok (.imul, 1) := by decide +kernel
theorem dX2_saves_61 : decode cX2_saves 61 = .ok (.ireturn, 1) := by decide +kernel
theorem dX2_cellAt_0 : decode cX2_cellAt 0 = .ok (.iconst 0, 1) := by decide +kernel
theorem dX2_cellAt_1 : decode cX2_cellAt 1 = .ok (.istore_n 3, 1) := by decide +kernel
theorem dX2_cellAt_2 : decode cX2_cellAt 2 = .ok (.iload_n 3, 1) := by decide +kernel
theorem dX2_cellAt_3 : decode cX2_cellAt 3 = .ok (.iconst 1, 1) := by decide +kernel
theorem dX2_cellAt_4 : decode cX2_cellAt 4 = .ok (.iadd, 1) := by decide +kernel
theorem dX2_cellAt_5 : decode cX2_cellAt 5 = .ok (.aload_n 0, 1) := by decide +kernel
theorem dX2_cellAt_6 : decode cX2_cellAt 6 = .ok (.getfield 9, 3) := by decide +kernel
theorem dX2_cellAt_9 : decode cX2_cellAt 9 = .ok (.iload_n 1, 1) := by decide +kernel
theorem dX2_cellAt_10 : decode cX2_cellAt 10 = .ok (.iaload, 1) := by decide +kernel
theorem dX2_cellAt_11 : decode cX2_cellAt 11 = .ok (.if_icmp .ge 26, 3) := by decide +kernel
theorem dX2_cellAt_14 : decode cX2_cellAt 14 = .ok (.aload_n 0, 1) := by decide +kernel
theorem dX2_cellAt_15 : decode cX2_cellAt 15 = .ok (.getfield 30, 3) := by decide +kernel
theorem dX2_cellAt_18 : decode cX2_cellAt 18 = .ok (.iload_n 1, 1) := by decide +kernel
theorem dX2_cellAt_19 : decode cX2_cellAt 19 = .ok (.bipush 24, 2) := by decide +kernel
theorem dX2_cellAt_21 : decode cX2_cellAt 21 = .ok (.imul, 1) := by decide +kernel
theorem dX2_cellAt_22 : decode cX2_cellAt 22 = .ok (.iload_n 3, 1) := by decide +kernel
theorem dX2_cellAt_23 : decode cX2_cellAt 23 = .ok (.iadd, 1) := by decide +kernel
theorem dX2_cellAt_24 : decode cX2_cellAt 24 = .ok (.iconst 1, 1) := by decide +kernel
theorem dX2_cellAt_25 : decode cX2_cellAt 25 = .ok (.iadd, 1) := by decide +kernel
theorem dX2_cellAt_26 : decode cX2_cellAt 26 = .ok (.iaload, 1) := by decide +kernel
theorem dX2_cellAt_27 : decode cX2_cellAt 27 = .ok (.iload_n 2, 1) := by decide +kernel
theorem dX2_cellAt_28 : decode cX2_cellAt 28 = .ok (.if_icmp .gt 9, 3) := by decide +kernel
theorem dX2_cellAt_31 : decode cX2_cellAt 31 = .ok (.iinc 3 1, 3) := by decide +kernel
theorem dX2_cellAt_34 : decode cX2_cellAt 34 = .ok (.goto (-32), 3) := by decide +kernel
theorem dX2_cellAt_37 : decode cX2_cellAt 37 = .ok (.iload_n 3, 1) := by decide +kernel
theorem dX2_cellAt_38 : decode cX2_cellAt 38 = .ok (.ireturn, 1) := by decide +kernel
theorem dX2_shownInCell_0 : decode cX2_shownInCell 0 = .ok (.iload_n 2, 1) := by decide +kernel
theorem dX2_shownInCell_1 : decode cX2_shownInCell 1 = .ok (.bipush 24, 2) := by decide +kernel
theorem dX2_shownInCell_3 : decode cX2_shownInCell 3 = .ok (.imul, 1) := by decide +kernel
theorem dX2_shownInCell_4 : decode cX2_shownInCell 4 = .ok (.iload_n 3, 1) := by decide +kernel
theorem dX2_shownInCell_5 : decode cX2_shownInCell 5 = .ok (.iadd, 1) := by decide +kernel
theorem dX2_shownInCell_6 : decode cX2_shownInCell 6 = .ok (.istore 5, 2) := by decide +kernel
theorem dX2_shownInCell_8 : decode cX2_shownInCell 8 = .ok (.iload 4, 2) := by decide +kernel
theorem dX2_shownInCell_10 : decode cX2_shownInCell 10 = .ok (.aload_n 0, 1) := by decide +kernel
theorem dX2_shownInCell_11 : decode cX2_shownInCell 11 = .ok (.aload_n 1, 1) := by decide +kernel
theorem dX2_shownInCell_12 : decode cX2_shownInCell 12 = .ok (.iload 5, 2) := by decide +kernel
theorem dX2_shownInCell_14 : decode cX2_shownInCell 14 = .ok (.aload_n 1, 1) := by decide +kernel
theorem dX2_shownInCell_15 : decode cX2_shownInCell 15 = .ok (.getfield 105, 3) := by decide +kernel
theorem dX2_shownInCell_18 : decode cX2_shownInCell 18 = .ok (.iload_n 3, 1) := by decide +kernel
theorem dX2_shownInCell_19 : decode cX2_shownInCell 19 = .ok (.iaload, 1) := by decide +kernel
theorem dX2_shownInCell_20 : decode cX2_shownInCell 20 = .ok (.invokevirtual 117, 3) := by decide +kernel
theorem dX2_shownInCell_23 : decode cX2_shownInCell 23 = .ok (.isub, 1) := by decide +kernel
theorem dX2_shownInCell_24 : decode cX2_shownInCell 24 = .ok (.istore 6, 2) := by decide +kernel
theorem dX2_shownInCell_26 : decode cX2_shownInCell 26 = .ok (.iload 6, 2) := by decide +kernel
theorem dX2_shownInCell_28 : decode cX2_shownInCell 28 = .ok (.ifCond .lt 33, 3) := by decide +kernel
theorem dX2_shownInCell_31 : decode cX2_shownInCell 31 = .ok (.iload 6, 2) := by decide +kernel
theorem dX2_shownInCell_33 : decode cX2_shownInCell 33 = .ok (.aload_n 0, 1) := by decide +kernel
theorem dX2_shownInCell_34 : decode cX2_shownInCell 34 = .ok (.getfield 24, 3) := by decide +kernel
theorem dX2_shownInCell_37 : decode cX2_shownInCell 37 = .ok (.iload 5, 2) := by decide +kernel
theorem dX2_shownInCell_39 : decode cX2_shownInCell 39 = .ok (.iaload, 1) := by decide +kernel
theorem dX2_shownInCell_40 : decode cX2_shownInCell 40 = .ok (.if_icmp .ge 21, 3) := by decide +kernel
theorem dX2_shownInCell_43 : decode cX2_shownInCell 43 = .ok (.aload_n 1, 1) := by decide +kernel
theorem dX2_shownInCell_44 : decode cX2_shownInCell 44 = .ok (.iload_n 2, 1) := by decide +kernel
theorem dX2_shownInCell_45 : decode cX2_shownInCell 45 = .ok (.aload_n 0, 1) := by decide +kernel
theorem dX2_shownInCell_46 : decode cX2_shownInCell 46 = .ok (.getfield 40, 3) := by decide +kernel
theorem dX2_shownInCell_49 : decode cX2_shownInCell 49 = .ok (.iload 5, 2) := by decide +kernel
theorem dX2_shownInCell_51 : decode cX2_shownInCell 51 = .ok (.iaload, 1) := by decide +kernel
theorem dX2_shownInCell_52 : decode cX2_shownInCell 52 = .ok (.iload 6, 2) := by decide +kernel
theorem dX2_shownInCell_54 : decode cX2_shownInCell 54 = .ok (.iadd, 1) := by decide +kernel
theorem dX2_shownInCell_55 : decode cX2_shownInCell 55 = .ok (.invokevirtual 75, 3) := by decide +kernel
theorem dX2_shownInCell_58 : decode cX2_shownInCell 58 = .ok (.goto 5, 3) := by decide +kernel
theorem dX2_shownInCell_61 : decode cX2_shownInCell 61 = .ok (.bipush 32, 2) := by decide +kernel
theorem dX2_shownInCell_63 : decode cX2_shownInCell 63 = .ok (.ireturn, 1) := by decide +kernel
theorem dX2_leadOf_0 : decode cX2_leadOf 0 = .ok (.aload_n 0, 1) := by decide +kernel
theorem dX2_leadOf_1 : decode cX2_leadOf 1 = .ok (.getfield 27, 3) := by decide +kernel
theorem dX2_leadOf_4 : decode cX2_leadOf 4 = .ok (.iload_n 2, 1) := by decide +kernel
theorem dX2_leadOf_5 : decode cX2_leadOf 5 = .ok (.iaload, 1) := by decide +kernel
theorem dX2_leadOf_6 : decode cX2_leadOf 6 = .ok (.aload_n 1, 1) := by decide +kernel
theorem dX2_leadOf_7 : decode cX2_leadOf 7 = .ok (.getfield 114, 3) := by decide +kernel
theorem dX2_leadOf_10 : decode cX2_leadOf 10 = .ok (.isub, 1) := by decide +kernel
theorem dX2_leadOf_11 : decode cX2_leadOf 11 = .ok (.aload_n 0, 1) := by decide +kernel
theorem dX2_leadOf_12 : decode cX2_leadOf 12 = .ok (.getfield 24, 3) := by decide +kernel
theorem dX2_leadOf_15 : decode cX2_leadOf 15 = .ok (.iload_n 2, 1) := by decide +kernel
theorem dX2_leadOf_16 : decode cX2_leadOf 16 = .ok (.iaload, 1) := by decide +kernel
theorem dX2_leadOf_17 : decode cX2_leadOf 17 = .ok (.isub, 1) := by decide +kernel
theorem dX2_leadOf_18 : decode cX2_leadOf 18 = .ok (.istore 4, 2) := by decide +kernel
theorem dX2_leadOf_20 : decode cX2_leadOf 20 = .ok (.iload_n 3, 1) := by decide +kernel
theorem dX2_leadOf_21 : decode cX2_leadOf 21 = .ok (.tableswitch 49 1 3 #[27, 30, 35], 27) := by decide +kernel
theorem dX2_leadOf_48 : decode cX2_leadOf 48 = .ok (.iload 4, 2) := by decide +kernel
theorem dX2_leadOf_50 : decode cX2_leadOf 50 = .ok (.ireturn, 1) := by decide +kernel
theorem dX2_leadOf_51 : decode cX2_leadOf 51 = .ok (.iload 4, 2) := by decide +kernel
theorem dX2_leadOf_53 : decode cX2_leadOf 53 = .ok (.iconst 2, 1) := by decide +kernel
theorem dX2_leadOf_54 : decode cX2_leadOf 54 = .ok (.idiv, 1) := by decide +kernel
theorem dX2_leadOf_55 : decode cX2_leadOf 55 = .ok (.ireturn, 1) := by decide +kernel
theorem dX2_leadOf_56 : decode cX2_leadOf 56 = .ok (.aload_n 0, 1) := by decide +kernel
theorem dX2_leadOf_57 : decode cX2_leadOf 57 = .ok (.getfield 46, 3) := by decide +kernel
theorem dX2_leadOf_60 : decode cX2_leadOf 60 = .ok (.iload_n 2, 1) := by decide +kernel
theorem dX2_leadOf_61 : decode cX2_leadOf 61 = .ok (.iaload, 1) := by decide +kernel
theorem dX2_leadOf_62 : decode cX2_leadOf 62 = .ok (.aload_n 0, 1) := by decide +kernel
theorem dX2_leadOf_63 : decode cX2_leadOf 63 = .ok (.getfield 43, 3) := by decide +kernel
theorem dX2_leadOf_66 : decode cX2_leadOf 66 = .ok (.iload_n 2, 1) := by decide +kernel
theorem dX2_leadOf_67 : decode cX2_leadOf 67 = .ok (.iaload, 1) := by decide +kernel
theorem dX2_leadOf_68 : decode cX2_leadOf 68 = .ok (.isub, 1) := by decide +kernel
theorem dX2_leadOf_69 : decode cX2_leadOf 69 = .ok (.ireturn, 1) := by decide +kernel
theorem dX2_leadOf_70 : decode cX2_leadOf 70 = .ok (.iconst 0, 1) := by decide +kernel
theorem dX2_leadOf_71 : decode cX2_leadOf 71 = .ok (.ireturn, 1) := by decide +kernel
theorem dX2_widestLine_0 : decode cX2_widestLine 0 = .ok (.iconst 0, 1) := by decide +kernel
theorem dX2_widestLine_1 : decode cX2_widestLine 1 = .ok (.istore_n 1, 1) := by decide +kernel
theorem dX2_widestLine_2 : decode cX2_widestLine 2 = .ok (.iconst 0, 1) := by decide +kernel
theorem dX2_widestLine_3 : decode cX2_widestLine 3 = .ok (.istore_n 2, 1) := by decide +kernel
theorem dX2_widestLine_4 : decode cX2_widestLine 4 = .ok (.iload_n 2, 1) := by decide +kernel
theorem dX2_widestLine_5 : decode cX2_widestLine 5 = .ok (.aload_n 0, 1) := by decide +kernel
theorem dX2_widestLine_6 : decode cX2_widestLine 6 = .ok (.getfield 55, 3) := by decide +kernel
theorem dX2_widestLine_9 : decode cX2_widestLine 9 = .ok (.if_icmp .ge 20, 3) := by decide +kernel
theorem dX2_widestLine_12 : decode cX2_widestLine 12 = .ok (.iload_n 1, 1) := by decide +kernel
theorem dX2_widestLine_13 : decode cX2_widestLine 13 = .ok (.aload_n 0, 1) := by decide +kernel
theorem dX2_widestLine_14 : decode cX2_widestLine 14 = .ok (.getfield 21, 3) := by decide +kernel
theorem dX2_widestLine_17 : decode cX2_widestLine 17 = .ok (.iload_n 2, 1) := by decide +kernel
theorem dX2_widestLine_18 : decode cX2_widestLine 18 = .ok (.iaload, 1) := by decide +kernel
theorem dX2_widestLine_19 : decode cX2_widestLine 19 = .ok (.invokestatic 102, 3) := by decide +kernel
theorem dX2_widestLine_22 : decode cX2_widestLine 22 = .ok (.istore_n 1, 1) := by decide +kernel
theorem dX2_widestLine_23 : decode cX2_widestLine 23 = .ok (.iinc 2 1, 3) := by decide +kernel
theorem dX2_widestLine_26 : decode cX2_widestLine 26 = .ok (.goto (-22), 3) := by decide +kernel
theorem dX2_widestLine_29 : decode cX2_widestLine 29 = .ok (.iload_n 1, 1) := by decide +kernel
theorem dX2_widestLine_30 : decode cX2_widestLine 30 = .ok (.ireturn, 1) := by decide +kernel
theorem dX2_allTogether_0 : decode cX2_allTogether 0 = .ok (.iconst 0, 1) := by decide +kernel
theorem dX2_allTogether_1 : decode cX2_allTogether 1 = .ok (.istore_n 1, 1) := by decide +kernel
theorem dX2_allTogether_2 : decode cX2_allTogether 2 = .ok (.iconst 0, 1) := by decide +kernel
theorem dX2_allTogether_3 : decode cX2_allTogether 3 = .ok (.istore_n 2, 1) := by decide +kernel
theorem dX2_allTogether_4 : decode cX2_allTogether 4 = .ok (.iload_n 2, 1) := by decide +kernel
theorem dX2_allTogether_5 : decode cX2_allTogether 5 = .ok (.aload_n 0, 1) := by decide +kernel
theorem dX2_allTogether_6 : decode cX2_allTogether 6 = .ok (.getfield 55, 3) := by decide +kernel
theorem dX2_allTogether_9 : decode cX2_allTogether 9 = .ok (.if_icmp .ge 18, 3) := by decide +kernel
theorem dX2_allTogether_12 : decode cX2_allTogether 12 = .ok (.iload_n 1, 1) := by decide +kernel
theorem dX2_allTogether_13 : decode cX2_allTogether 13 = .ok (.aload_n 0, 1) := by decide +kernel
theorem dX2_allTogether_14 : decode cX2_allTogether 14 = .ok (.getfield 21, 3) := by decide +kernel
theorem dX2_allTogether_17 : decode cX2_allTogether 17 = .ok (.iload_n 2, 1) := by decide +kernel
theorem dX2_allTogether_18 : decode cX2_allTogether 18 = .ok (.iaload, 1) := by decide +kernel
theorem dX2_allTogether_19 : decode cX2_allTogether 19 = .ok (.iadd, 1) := by decide +kernel
theorem dX2_allTogether_20 : decode cX2_allTogether 20 = .ok (.istore_n 1, 1) := by decide +kernel
theorem dX2_allTogether_21 : decode cX2_allTogether 21 = .ok (.iinc 2 1, 3) := by decide +kernel
theorem dX2_allTogether_24 : decode cX2_allTogether 24 = .ok (.goto (-20), 3) := by decide +kernel
theorem dX2_allTogether_27 : decode cX2_allTogether 27 = .ok (.iload_n 1, 1) := by decide +kernel
theorem dX2_allTogether_28 : decode cX2_allTogether 28 = .ok (.ireturn, 1) := by decide +kernel
theorem dX3_init_0 : decode cX3_init 0 = .ok (.aload_n 0, 1) := by decide +kernel
theorem dX3_init_1 : decode cX3_init 1 = .ok (.invokespecial 3, 3) := by decide +kernel
theorem dX3_init_4 : decode cX3_init 4 = .ok (.aload_n 0, 1) := by decide +kernel
theorem dX3_init_5 : decode cX3_init 5 = .ok (.iconst 1, 1) := by decide +kernel
theorem dX3_init_6 : decode cX3_init 6 = .ok (.putfield 9, 3) := by decide +kernel
theorem dX3_init_9 : decode cX3_init 9 = .ok (.aload_n 0, 1) := by decide +kernel
theorem dX3_init_10 : decode cX3_init 10 = .ok (.bipush 12, 2) := by decide +kernel
theorem dX3_init_12 : decode cX3_init 12 = .ok (.newarray .int, 2) := by decide +kernel
theorem dX3_init_14 : decode cX3_init 14 = .ok (.putfield 15, 3) := by decide +kernel
theorem dX3_init_17 : decode cX3_init 17 = .ok (.aload_n 0, 1) := by decide +kernel
theorem dX3_init_18 : decode cX3_init 18 = .ok (.sipush 288, 3) := by decide +kernel
theorem dX3_init_21 : decode cX3_init 21 = .ok (.newarray .int, 2) := by decide +kernel
theorem dX3_init_23 : decode cX3_init 23 = .ok (.putfield 19, 3) := by decide +kernel
theorem dX3_init_26 : decode cX3_init 26 = .ok (.aload_n 0, 1) := by decide +kernel
theorem dX3_init_27 : decode cX3_init 27 = .ok (.bipush 24, 2) := by decide +kernel
theorem dX3_init_29 : decode cX3_init 29 = .ok (.newarray .int, 2) := by decide +kernel
theorem dX3_init_31 : decode cX3_init 31 = .ok (.putfield 22, 3) := by decide +kernel
theorem dX3_init_34 : decode cX3_init 34 = .ok (.return_, 1) := by decide +kernel
theorem dX3_copyFrom_0 : decode cX3_copyFrom 0 = .ok (.aload_n 0, 1) := by decide +kernel
theorem dX3_copyFrom_1 : decode cX3_copyFrom 1 = .ok (.aload_n 1, 1) := by decide +kernel
theorem dX3_copyFrom_2 : decode cX3_copyFrom 2 = .ok (.getfield 25, 3) := by decide +kernel
theorem dX3_copyFrom_5 : decode cX3_copyFrom 5 = .ok (.putfield 25, 3) := by decide +kernel
theorem dX3_copyFrom_8 : decode cX3_copyFrom 8 = .ok (.aload_n 0, 1) := by decide +kernel
theorem dX3_copyFrom_9 : decode cX3_copyFrom 9 = .ok (.aload_n 1, 1) := by decide +kernel
theorem dX3_copyFrom_10 : decode cX3_copyFrom 10 = .ok (.getfield 9, 3) := by decide +kernel
theorem dX3_copyFrom_13 : decode cX3_copyFrom 13 = .ok (.putfield 9, 3) := by decide +kernel
theorem dX3_copyFrom_16 : decode cX3_copyFrom 16 = .ok (.aload_n 0, 1) := by decide +kernel
theorem dX3_copyFrom_17 : decode cX3_copyFrom 17 = .ok (.aload_n 1, 1) := by decide +kernel
theorem dX3_copyFrom_18 : decode cX3_copyFrom 18 = .ok (.getfield 28, 3) := by decide +kernel
theorem dX3_copyFrom_21 : decode cX3_copyFrom 21 = .ok (.putfield 28, 3) := by decide +kernel
theorem dX3_copyFrom_24 : decode cX3_copyFrom 24 = .ok (.aload_n 1, 1) := by decide +kernel
theorem dX3_copyFrom_25 : decode cX3_copyFrom 25 = .ok (.getfield 15, 3) := by decide +kernel
theorem dX3_copyFrom_28 : decode cX3_copyFrom 28 = .ok (.iconst 0, 1) := by decide +kernel
theorem dX3_copyFrom_29 : decode cX3_copyFrom 29 = .ok (.aload_n 0, 1) := by decide +kernel
theorem dX3_copyFrom_30 : decode cX3_copyFrom 30 = .ok (.getfield 15, 3) := by decide +kernel
theorem dX3_copyFrom_33 : decode cX3_copyFrom 33 = .ok (.iconst 0, 1) := by decide +kernel
theorem dX3_copyFrom_34 : decode cX3_copyFrom 34 = .ok (.aload_n 0, 1) := by decide +kernel
theorem dX3_copyFrom_35 : decode cX3_copyFrom 35 = .ok (.getfield 25, 3) := by decide +kernel
theorem dX3_copyFrom_38 : decode cX3_copyFrom 38 = .ok (.invokestatic 31, 3) := by decide +kernel
theorem dX3_copyFrom_41 : decode cX3_copyFrom 41 = .ok (.aload_n 1, 1) := by decide +kernel
theorem dX3_copyFrom_42 : decode cX3_copyFrom 42 = .ok (.getfield 19, 3) := by decide +kernel
theorem dX3_copyFrom_45 : decode cX3_copyFrom 45 = .ok (.iconst 0, 1) := by decide +kernel
theorem dX3_copyFrom_46 : decode cX3_copyFrom 46 = .ok (.aload_n 0, 1) := by decide +kernel
theorem dX3_copyFrom_47 : decode cX3_copyFrom 47 = .ok (.getfield 19, 3) := by decide +kernel
theorem dX3_copyFrom_50 : decode cX3_copyFrom 50 = .ok (.iconst 0, 1) := by decide +kernel
theorem dX3_copyFrom_51 : decode cX3_copyFrom 51 = .ok (.aload_n 0, 1) := by decide +kernel
theorem dX3_copyFrom_52 : decode cX3_copyFrom 52 = .ok (.getfield 25, 3) := by decide +kernel
theorem dX3_copyFrom_55 : decode cX3_copyFrom 55 = .ok (.bipush 24, 2) := by decide +kernel
theorem dX3_copyFrom_57 : decode cX3_copyFrom 57 = .ok (.imul, 1) := by decide +kernel
theorem dX3_copyFrom_58 : decode cX3_copyFrom 58 = .ok (.invokestatic 31, 3) := by decide +kernel
theorem dX3_copyFrom_61 : decode cX3_copyFrom 61 = .ok (.aload_n 1, 1) := by decide +kernel
theorem dX3_copyFrom_62 : decode cX3_copyFrom 62 = .ok (.getfield 22, 3) := by decide +kernel
theorem dX3_copyFrom_65 : decode cX3_copyFrom 65 = .ok (.iconst 0, 1) := by decide +kernel
theorem dX3_copyFrom_66 : decode cX3_copyFrom 66 = .ok (.aload_n 0, 1) := by decide +kernel
theorem dX3_copyFrom_67 : decode cX3_copyFrom 67 = .ok (.getfield 22, 3) := by decide +kernel
theorem dX3_copyFrom_70 : decode cX3_copyFrom 70 = .ok (.iconst 0, 1) := by decide +kernel
theorem dX3_copyFrom_71 : decode cX3_copyFrom 71 = .ok (.bipush 24, 2) := by decide +kernel
theorem dX3_copyFrom_73 : decode cX3_copyFrom 73 = .ok (.invokestatic 31, 3) := by decide +kernel
theorem dX3_copyFrom_76 : decode cX3_copyFrom 76 = .ok (.return_, 1) := by decide +kernel
theorem dX3_hasLine_0 : decode cX3_hasLine 0 = .ok (.iload_n 1, 1) := by decide +kernel
theorem dX3_hasLine_1 : decode cX3_hasLine 1 = .ok (.ifCond .lt 15, 3) := by decide +kernel
theorem dX3_hasLine_4 : decode cX3_hasLine 4 = .ok (.iload_n 1, 1) := by decide +kernel
theorem dX3_hasLine_5 : decode cX3_hasLine 5 = .ok (.aload_n 0, 1) := by decide +kernel
theorem dX3_hasLine_6 : decode cX3_hasLine 6 = .ok (.getfield 25, 3) := by decide +kernel
theorem dX3_hasLine_9 : decode cX3_hasLine 9 = .ok (.if_icmp .ge 7, 3) := by decide +kernel
theorem dX3_hasLine_12 : decode cX3_hasLine 12 = .ok (.iconst 1, 1) := by decide +kernel
theorem dX3_hasLine_13 : decode cX3_hasLine 13 = .ok (.goto 4, 3) := by decide +kernel
theorem dX3_hasLine_16 : decode cX3_hasLine 16 = .ok (.iconst 0, 1) := by decide +kernel
theorem dX3_hasLine_17 : decode cX3_hasLine 17 = .ok (.ireturn, 1) := by decide +kernel
theorem dX3_hasSign_0 : decode cX3_hasSign 0 = .ok (.aload_n 0, 1) := by decide +kernel
theorem dX3_hasSign_1 : decode cX3_hasSign 1 = .ok (.iload_n 1, 1) := by decide +kernel
theorem dX3_hasSign_2 : decode cX3_hasSign 2 = .ok (.invokevirtual 37, 3) := by decide +kernel
theorem dX3_hasSign_5 : decode cX3_hasSign 5 = .ok (.ifCond .eq 21, 3) := by decide +kernel
theorem dX3_hasSign_8 : decode cX3_hasSign 8 = .ok (.iload_n 2, 1) := by decide +kernel
theorem dX3_hasSign_9 : decode cX3_hasSign 9 = .ok (.ifCond .lt 17, 3) := by decide +kernel
theorem dX3_hasSign_12 : decode cX3_hasSign 12 = .ok (.iload_n 2, 1) := by decide +kernel
theorem dX3_hasSign_13 : decode cX3_hasSign 13 = .ok (.aload_n 0, 1) := by decide +kernel
theorem dX3_hasSign_14 : decode cX3_hasSign 14 = .ok (.getfield 15, 3) := by decide +kernel
theorem dX3_hasSign_17 : decode cX3_hasSign 17 = .ok (.iload_n 1, 1) := by decide +kernel
theorem dX3_hasSign_18 : decode cX3_hasSign 18 = .ok (.iaload, 1) := by decide +kernel
theorem dX3_hasSign_19 : decode cX3_hasSign 19 = .ok (.if_icmp .ge 7, 3) := by decide +kernel
theorem dX3_hasSign_22 : decode cX3_hasSign 22 = .ok (.iconst 1, 1) := by decide +kernel
theorem dX3_hasSign_23 : decode cX3_hasSign 23 = .ok (.goto 4, 3) := by decide +kernel
theorem dX3_hasSign_26 : decode cX3_hasSign 26 = .ok (.iconst 0, 1) := by decide +kernel
theorem dX3_hasSign_27 : decode cX3_hasSign 27 = .ok (.ireturn, 1) := by decide +kernel
theorem dX3_signAt_0 : decode cX3_signAt 0 = .ok (.aload_n 0, 1) := by decide +kernel
theorem dX3_signAt_1 : decode cX3_signAt 1 = .ok (.getfield 19, 3) := by decide +kernel
theorem dX3_signAt_4 : decode cX3_signAt 4 = .ok (.iload_n 1, 1) := by decide +kernel
theorem dX3_signAt_5 : decode cX3_signAt 5 = .ok (.bipush 24, 2) := by decide +kernel
theorem dX3_signAt_7 : decode cX3_signAt 7 = .ok (.imul, 1) := by decide +kernel
theorem dX3_signAt_8 : decode cX3_signAt 8 = .ok (.iload_n 2, 1) := by decide +kernel
theorem dX3_signAt_9 : decode cX3_signAt 9 = .ok (.iadd, 1) := by decide +kernel
theorem dX3_signAt_10 : decode cX3_signAt 10 = .ok (.iaload, 1) := by decide +kernel
theorem dX3_signAt_11 : decode cX3_signAt 11 = .ok (.ireturn, 1) := by decide +kernel
theorem dX3_hasSameSigns_0 : decode cX3_hasSameSigns 0 = .ok (.aload_n 0, 1) := by decide +kernel
theorem dX3_hasSameSigns_1 : decode cX3_hasSameSigns 1 = .ok (.getfield 15, 3) := by decide +kernel
theorem dX3_hasSameSigns_4 : decode cX3_hasSameSigns 4 = .ok (.iload_n 1, 1) := by decide +kernel
theorem dX3_hasSameSigns_5 : decode cX3_hasSameSigns 5 = .ok (.iaload, 1) := by decide +kernel
theorem dX3_hasSameSigns_6 : decode cX3_hasSameSigns 6 = .ok (.aload_n 2, 1) := by decide +kernel
theorem dX3_hasSameSigns_7 : decode cX3_hasSameSigns 7 = .ok (.getfield 15, 3) := by decide +kernel
theorem dX3_hasSameSigns_10 : decode cX3_hasSameSigns 10 = .ok (.iload_n 3, 1) := by decide +kernel
theorem dX3_hasSameSigns_11 : decode cX3_hasSameSigns 11 = .ok (.iaload, 1) := by decide +kernel
theorem dX3_hasSameSigns_12 : decode cX3_hasSameSigns 12 = .ok (.if_icmp .eq 5, 3) := by decide +kernel
theorem dX3_hasSameSigns_15 : decode cX3_hasSameSigns 15 = .ok (.iconst 0, 1) := by decide +kernel
theorem dX3_hasSameSigns_16 : decode cX3_hasSameSigns 16 = .ok (.ireturn, 1) := by decide +kernel
theorem dX3_hasSameSigns_17 : decode cX3_hasSameSigns 17 = .ok (.iconst 0, 1) := by decide +kernel
theorem dX3_hasSameSigns_18 : decode cX3_hasSameSigns 18 = .ok (.istore 4, 2) := by decide +kernel
theorem dX3_hasSameSigns_20 : decode cX3_hasSameSigns 20 = .ok (.iload 4, 2) := by decide +kernel
theorem dX3_hasSameSigns_22 : decode cX3_hasSameSigns 22 = .ok (.aload_n 0, 1) := by decide +kernel
theorem dX3_hasSameSigns_23 : decode cX3_hasSameSigns 23 = .ok (.getfield 15, 3) := by decide +kernel
theorem dX3_hasSameSigns_26 : decode cX3_hasSameSigns 26 = .ok (.iload_n 1, 1) := by decide +kernel
theorem dX3_hasSameSigns_27 : decode cX3_hasSameSigns 27 = .ok (.iaload, 1) := by decide +kernel
theorem dX3_hasSameSigns_28 : decode cX3_hasSameSigns 28 = .ok (.if_icmp .ge 28, 3) := by decide +kernel
theorem dX3_hasSameSigns_31 : decode cX3_hasSameSigns 31 = .ok (.aload_n 0, 1) := by decide +kernel
theorem dX3_hasSameSigns_32 : decode cX3_hasSameSigns 32 = .ok (.iload_n 1, 1) := by decide +kernel
theorem dX3_hasSameSigns_33 : decode cX3_hasSameSigns 33 = .ok (.iload 4, 2) := by decide +kernel
theorem dX3_hasSameSigns_35 : decode cX3_hasSameSigns 35 = .ok (.invokevirtual 41, 3) := by decide +kernel
theorem dX3_hasSameSigns_38 : decode cX3_hasSameSigns 38 = .ok (.aload_n 2, 1) := by decide +kernel
theorem dX3_hasSameSigns_39 : decode cX3_hasSameSigns 39 = .ok (.iload_n 3, 1) := by decide +kernel
theorem dX3_hasSameSigns_40 : decode cX3_hasSameSigns 40 = .ok (.iload 4, 2) := by decide +kernel
theorem dX3_hasSameSigns_42 : decode cX3_hasSameSigns 42 = .ok (.invokevirtual 41, 3) := by decide +kernel
theorem dX3_hasSameSigns_45 : decode cX3_hasSameSigns 45 = .ok (.if_icmp .eq 5, 3) := by decide +kernel
theorem dX3_hasSameSigns_48 : decode cX3_hasSameSigns 48 = .ok (.iconst 0, 1) := by decide +kernel
theorem dX3_hasSameSigns_49 : decode cX3_hasSameSigns 49 = .ok (.ireturn, 1) := by decide +kernel
theorem dX3_hasSameSigns_50 : decode cX3_hasSameSigns 50 = .ok (.iinc 4 1, 3) := by decide +kernel
theorem dX3_hasSameSigns_53 : decode cX3_hasSameSigns 53 = .ok (.goto (-33), 3) := by decide +kernel
theorem dX3_hasSameSigns_56 : decode cX3_hasSameSigns 56 = .ok (.iconst 1, 1) := by decide +kernel
theorem dX3_hasSameSigns_57 : decode cX3_hasSameSigns 57 = .ok (.ireturn, 1) := by decide +kernel
theorem dX3_openLine_0 : decode cX3_openLine 0 = .ok (.aload_n 0, 1) := by decide +kernel
theorem dX3_openLine_1 : decode cX3_openLine 1 = .ok (.getfield 25, 3) := by decide +kernel
theorem dX3_openLine_4 : decode cX3_openLine 4 = .ok (.iload_n 1, 1) := by decide +kernel
theorem dX3_openLine_5 : decode cX3_openLine 5 = .ok (.isub, 1) := by decide +kernel
theorem dX3_openLine_6 : decode cX3_openLine 6 = .ok (.istore_n 2, 1) := by decide +kernel
theorem dX3_openLine_7 : decode cX3_openLine 7 = .ok (.aload_n 0, 1) := by decide +kernel
theorem dX3_openLine_8 : decode cX3_openLine 8 = .ok (.getfield 15, 3) := by decide +kernel
theorem dX3_openLine_11 : decode cX3_openLine 11 = .ok (.iload_n 1, 1) := by decide +kernel
theorem dX3_openLine_12 : decode cX3_openLine 12 = .ok (.aload_n 0, 1) := by decide +kernel
theorem dX3_openLine_13 : decode cX3_openLine 13 = .ok (.getfield 15, 3) := by decide +kernel
theorem dX3_openLine_16 : decode cX3_openLine 16 = .ok (.iload_n 1, 1) := by decide +kernel
theorem dX3_openLine_17 : decode cX3_openLine 17 = .ok (.iconst 1, 1) := by decide +kernel
theorem dX3_openLine_18 : decode cX3_openLine 18 = .ok (.iadd, 1) := by decide +kernel
theorem dX3_openLine_19 : decode cX3_openLine 19 = .ok (.iload_n 2, 1) := by decide +kernel
theorem dX3_openLine_20 : decode cX3_openLine 20 = .ok (.invokestatic 31, 3) := by decide +kernel
theorem dX3_openLine_23 : decode cX3_openLine 23 = .ok (.aload_n 0, 1) := by decide +kernel
theorem dX3_openLine_24 : decode cX3_openLine 24 = .ok (.getfield 19, 3) := by decide +kernel
theorem dX3_openLine_27 : decode cX3_openLine 27 = .ok (.iload_n 1, 1) := by decide +kernel
theorem dX3_openLine_28 : decode cX3_openLine 28 = .ok (.bipush 24, 2) := by decide +kernel
theorem dX3_openLine_30 : decode cX3_openLine 30 = .ok (.imul, 1) := by decide +kernel
theorem dX3_openLine_31 : decode cX3_openLine 31 = .ok (.aload_n 0, 1) := by decide +kernel
theorem dX3_openLine_32 : decode cX3_openLine 32 = .ok (.getfield 19, 3) := by decide +kernel
theorem dX3_openLine_35 : decode cX3_openLine 35 = .ok (.iload_n 1, 1) := by decide +kernel
theorem dX3_openLine_36 : decode cX3_openLine 36 = .ok (.iconst 1, 1) := by decide +kernel
theorem dX3_openLine_37 : decode cX3_openLine 37 = .ok (.iadd, 1) := by decide +kernel
theorem dX3_openLine_38 : decode cX3_openLine 38 = .ok (.bipush 24, 2) := by decide +kernel
theorem dX3_openLine_40 : decode cX3_openLine 40 = .ok (.imul, 1) := by decide +kernel
theorem dX3_openLine_41 : decode cX3_openLine 41 = .ok (.iload_n 2, 1) := by decide +kernel
theorem dX3_openLine_42 : decode cX3_openLine 42 = .ok (.bipush 24, 2) := by decide +kernel
theorem dX3_openLine_44 : decode cX3_openLine 44 = .ok (.imul, 1) := by decide +kernel
theorem dX3_openLine_45 : decode cX3_openLine 45 = .ok (.invokestatic 31, 3) := by decide +kernel
theorem dX3_openLine_48 : decode cX3_openLine 48 = .ok (.aload_n 0, 1) := by decide +kernel
theorem dX3_openLine_49 : decode cX3_openLine 49 = .ok (.getfield 15, 3) := by decide +kernel
theorem dX3_openLine_52 : decode cX3_openLine 52 = .ok (.iload_n 1, 1) := by decide +kernel
theorem dX3_openLine_53 : decode cX3_openLine 53 = .ok (.iconst 0, 1) := by decide +kernel
theorem dX3_openLine_54 : decode cX3_openLine 54 = .ok (.iastore, 1) := by decide +kernel
theorem dX3_openLine_55 : decode cX3_openLine 55 = .ok (.aload_n 0, 1) := by decide +kernel
theorem dX3_openLine_56 : decode cX3_openLine 56 = .ok (.dup, 1) := by decide +kernel
theorem dX3_openLine_57 : decode cX3_openLine 57 = .ok (.getfield 25, 3) := by decide +kernel
theorem dX3_openLine_60 : decode cX3_openLine 60 = .ok (.iconst 1, 1) := by decide +kernel
theorem dX3_openLine_61 : decode cX3_openLine 61 = .ok (.iadd, 1) := by decide +kernel
theorem dX3_openLine_62 : decode cX3_openLine 62 = .ok (.putfield 25, 3) := by decide +kernel
theorem dX3_openLine_65 : decode cX3_openLine 65 = .ok (.return_, 1) := by decide +kernel
theorem dX3_closeLine_0 : decode cX3_closeLine 0 = .ok (.aload_n 0, 1) := by decide +kernel
theorem dX3_closeLine_1 : decode cX3_closeLine 1 = .ok (.getfield 25, 3) := by decide +kernel
theorem dX3_closeLine_4 : decode cX3_closeLine 4 = .ok (.iload_n 1, 1) := by decide +kernel
theorem dX3_closeLine_5 : decode cX3_closeLine 5 = .ok (.isub, 1) := by decide +kernel
theorem dX3_closeLine_6 : decode cX3_closeLine 6 = .ok (.iconst 1, 1) := by decide +kernel
theorem dX3_closeLine_7 : decode cX3_closeLine 7 = .ok (.isub, 1) := by decide +kernel
theorem dX3_closeLine_8 : decode cX3_closeLine 8 = .ok (.istore_n 2, 1) := by decide +kernel
theorem dX3_closeLine_9 : decode cX3_closeLine 9 = .ok (.aload_n 0, 1) := by decide +kernel
theorem dX3_closeLine_10 : decode cX3_closeLine 10 = .ok (.getfield 15, 3) := by decide +kernel
theorem dX3_closeLine_13 : decode cX3_closeLine 13 = .ok (.iload_n 1, 1) := by decide +kernel
theorem dX3_closeLine_14 : decode cX3_closeLine 14 = .ok (.iconst 1, 1) := by decide +kernel
theorem dX3_closeLine_15 : decode cX3_closeLine 15 = .ok (.iadd, 1) := by decide +kernel
theorem dX3_closeLine_16 : decode cX3_closeLine 16 = .ok (.aload_n 0, 1) := by decide +kernel
theorem dX3_closeLine_17 : decode cX3_closeLine 17 = .ok (.getfield 15, 3) := by decide +kernel
theorem dX3_closeLine_20 : decode cX3_closeLine 20 = .ok (.iload_n 1, 1) := by decide +kernel
theorem dX3_closeLine_21 : decode cX3_closeLine 21 = .ok (.iload_n 2, 1) := by decide +kernel
theorem dX3_closeLine_22 : decode cX3_closeLine 22 = .ok (.invokestatic 31, 3) := by decide +kernel
theorem dX3_closeLine_25 : decode cX3_closeLine 25 = .ok (.aload_n 0, 1) := by decide +kernel
theorem dX3_closeLine_26 : decode cX3_closeLine 26 = .ok (.getfield 19, 3) := by decide +kernel
theorem dX3_closeLine_29 : decode cX3_closeLine 29 = .ok (.iload_n 1, 1) := by decide +kernel
theorem dX3_closeLine_30 : decode cX3_closeLine 30 = .ok (.iconst 1, 1) := by decide +kernel
theorem dX3_closeLine_31 : decode cX3_closeLine 31 = .ok (.iadd, 1) := by decide +kernel
theorem dX3_closeLine_32 : decode cX3_closeLine 32 = .ok (.bipush 24, 2) := by decide +kernel
theorem dX3_closeLine_34 : decode cX3_closeLine 34 = .ok (.imul, 1) := by decide +kernel
theorem dX3_closeLine_35 : decode cX3_closeLine 35 = .ok (.aload_n 0, 1) := by decide +kernel
theorem dX3_closeLine_36 : decode cX3_closeLine 36 = .ok (.getfield 19, 3) := by decide +kernel
theorem dX3_closeLine_39 : decode cX3_closeLine 39 = .ok (.iload_n 1, 1) := by decide +kernel
theorem dX3_closeLine_40 : decode cX3_closeLine 40 = .ok (.bipush 24, 2) := by decide +kernel
theorem dX3_closeLine_42 : decode cX3_closeLine 42 = .ok (.imul, 1) := by decide +kernel
theorem dX3_closeLine_43 : decode cX3_closeLine 43 = .ok (.iload_n 2, 1) := by decide +kernel
theorem dX3_closeLine_44 : decode cX3_closeLine 44 = .ok (.bipush 24, 2) := by decide +kernel
theorem dX3_closeLine_46 : decode cX3_closeLine 46 = .ok (.imul, 1) := by decide +kernel
theorem dX3_closeLine_47 : decode cX3_closeLine 47 = .ok (.invokestatic 31, 3) := by decide +kernel
theorem dX3_closeLine_50 : decode cX3_closeLine 50 = .ok (.aload_n 0, 1) := by decide +kernel
theorem dX3_closeLine_51 : decode cX3_closeLine 51 = .ok (.dup, 1) := by decide +kernel
theorem dX3_closeLine_52 : decode cX3_closeLine 52 = .ok (.getfield 25, 3) := by decide +kernel
theorem dX3_closeLine_55 : decode cX3_closeLine 55 = .ok (.iconst 1, 1) := by decide +kernel
theorem dX3_closeLine_56 : decode cX3_closeLine 56 = .ok (.isub, 1) := by decide +kernel
theorem dX3_closeLine_57 : decode cX3_closeLine 57 = .ok (.putfield 25, 3) := by decide +kernel
theorem dX3_closeLine_60 : decode cX3_closeLine 60 = .ok (.return_, 1) := by decide +kernel
theorem dX3_insertSign_0 : decode cX3_insertSign 0 = .ok (.iload_n 1, 1) := by decide +kernel
theorem dX3_insertSign_1 : decode cX3_insertSign 1 = .ok (.bipush 24, 2) := by decide +kernel
theorem dX3_insertSign_3 : decode cX3_insertSign 3 = .ok (.imul, 1) := by decide +kernel
theorem dX3_insertSign_4 : decode cX3_insertSign 4 = .ok (.iload_n 2, 1) := by decide +kernel
theorem dX3_insertSign_5 : decode cX3_insertSign 5 = .ok (.iadd, 1) := by decide +kernel
theorem dX3_insertSign_6 : decode cX3_insertSign 6 = .ok (.istore 4, 2) := by decide +kernel
theorem dX3_insertSign_8 : decode cX3_insertSign 8 = .ok (.aload_n 0, 1) := by decide +kernel
theorem dX3_insertSign_9 : decode cX3_insertSign 9 = .ok (.getfield 19, 3) := by decide +kernel
theorem dX3_insertSign_12 : decode cX3_insertSign 12 = .ok (.iload 4, 2) := by decide +kernel
theorem dX3_insertSign_14 : decode cX3_insertSign 14 = .ok (.aload_n 0, 1) := by decide +kernel
theorem dX3_insertSign_15 : decode cX3_insertSign 15 = .ok (.getfield 19, 3) := by decide +kernel
theorem dX3_insertSign_18 : decode cX3_insertSign 18 = .ok (.iload 4, 2) := by decide +kernel
theorem dX3_insertSign_20 : decode cX3_insertSign 20 = .ok (.iconst 1, 1) := by decide +kernel
theorem dX3_insertSign_21 : decode cX3_insertSign 21 = .ok (.iadd, 1) := by decide +kernel
theorem dX3_insertSign_22 : decode cX3_insertSign 22 = .ok (.aload_n 0, 1) := by decide +kernel
theorem dX3_insertSign_23 : decode cX3_insertSign 23 = .ok (.getfield 15, 3) := by decide +kernel
theorem dX3_insertSign_26 : decode cX3_insertSign 26 = .ok (.iload_n 1, 1) := by decide +kernel
theorem dX3_insertSign_27 : decode cX3_insertSign 27 = .ok (.iaload, 1) := by decide +kernel
theorem dX3_insertSign_28 : decode cX3_insertSign 28 = .ok (.iload_n 2, 1) := by decide +kernel
theorem dX3_insertSign_29 : decode cX3_insertSign 29 = .ok (.isub, 1) := by decide +kernel
theorem dX3_insertSign_30 : decode cX3_insertSign 30 = .ok (.invokestatic 31, 3) := by decide +kernel
theorem dX3_insertSign_33 : decode cX3_insertSign 33 = .ok (.aload_n 0, 1) := by decide +kernel
theorem dX3_insertSign_34 : decode cX3_insertSign 34 = .ok (.getfield 19, 3) := by decide +kernel
theorem dX3_insertSign_37 : decode cX3_insertSign 37 = .ok (.iload 4, 2) := by decide +kernel
theorem dX3_insertSign_39 : decode cX3_insertSign 39 = .ok (.iload_n 3, 1) := by decide +kernel
theorem dX3_insertSign_40 : decode cX3_insertSign 40 = .ok (.iastore, 1) := by decide +kernel
theorem dX3_insertSign_41 : decode cX3_insertSign 41 = .ok (.aload_n 0, 1) := by decide +kernel
theorem dX3_insertSign_42 : decode cX3_insertSign 42 = .ok (.getfield 15, 3) := by decide +kernel
theorem dX3_insertSign_45 : decode cX3_insertSign 45 = .ok (.iload_n 1, 1) := by decide +kernel
theorem dX3_insertSign_46 : decode cX3_insertSign 46 = .ok (.dup2, 1) := by decide +kernel
theorem dX3_insertSign_47 : decode cX3_insertSign 47 = .ok (.iaload, 1) := by decide +kernel
theorem dX3_insertSign_48 : decode cX3_insertSign 48 = .ok (.iconst 1, 1) := by decide +kernel
theorem dX3_insertSign_49 : decode cX3_insertSign 49 = .ok (.iadd, 1) := by decide +kernel
theorem dX3_insertSign_50 : decode cX3_insertSign 50 = .ok (.iastore, 1) := by decide +kernel
theorem dX3_insertSign_51 : decode cX3_insertSign 51 = .ok (.return_, 1) := by decide +kernel
theorem dX3_removeSign_0 : decode cX3_removeSign 0 = .ok (.iload_n 1, 1) := by decide +kernel
theorem dX3_removeSign_1 : decode cX3_removeSign 1 = .ok (.bipush 24, 2) := by decide +kernel
theorem dX3_removeSign_3 : decode cX3_removeSign 3 = .ok (.imul, 1) := by decide +kernel
theorem dX3_removeSign_4 : decode cX3_removeSign 4 = .ok (.iload_n 2, 1) := by decide +kernel
theorem dX3_removeSign_5 : decode cX3_removeSign 5 = .ok (.iadd, 1) := by decide +kernel
theorem dX3_removeSign_6 : decode cX3_removeSign 6 = .ok (.istore_n 3, 1) := by decide +kernel
theorem dX3_removeSign_7 : decode cX3_removeSign 7 = .ok (.aload_n 0, 1) := by decide +kernel
theorem dX3_removeSign_8 : decode cX3_removeSign 8 = .ok (.getfield 19, 3) := by decide +kernel
theorem dX3_removeSign_11 : decode cX3_removeSign 11 = .ok (.iload_n 3, 1) := by decide +kernel
theorem dX3_removeSign_12 : decode cX3_removeSign 12 = .ok (.iconst 1, 1) := by decide +kernel
theorem dX3_removeSign_13 : decode cX3_removeSign 13 = .ok (.iadd, 1) := by decide +kernel
theorem dX3_removeSign_14 : decode cX3_removeSign 14 = .ok (.aload_n 0, 1) := by decide +kernel
theorem dX3_removeSign_15 : decode cX3_removeSign 15 = .ok (.getfield 19, 3) := by decide +kernel
theorem dX3_removeSign_18 : decode cX3_removeSign 18 = .ok (.iload_n 3, 1) := by decide +kernel
theorem dX3_removeSign_19 : decode cX3_removeSign 19 = .ok (.aload_n 0, 1) := by decide +kernel
theorem dX3_removeSign_20 : decode cX3_removeSign 20 = .ok (.getfield 15, 3) := by decide +kernel
theorem dX3_removeSign_23 : decode cX3_removeSign 23 = .ok (.iload_n 1, 1) := by decide +kernel
theorem dX3_removeSign_24 : decode cX3_removeSign 24 = .ok (.iaload, 1) := by decide +kernel
theorem dX3_removeSign_25 : decode cX3_removeSign 25 = .ok (.iload_n 2, 1) := by decide +kernel
theorem dX3_removeSign_26 : decode cX3_removeSign 26 = .ok (.isub, 1) := by decide +kernel
theorem dX3_removeSign_27 : decode cX3_removeSign 27 = .ok (.iconst 1, 1) := by decide +kernel
theorem dX3_removeSign_28 : decode cX3_removeSign 28 = .ok (.isub, 1) := by decide +kernel
theorem dX3_removeSign_29 : decode cX3_removeSign 29 = .ok (.invokestatic 31, 3) := by decide +kernel
theorem dX3_removeSign_32 : decode cX3_removeSign 32 = .ok (.aload_n 0, 1) := by decide +kernel
theorem dX3_removeSign_33 : decode cX3_removeSign 33 = .ok (.getfield 15, 3) := by decide +kernel
theorem dX3_removeSign_36 : decode cX3_removeSign 36 = .ok (.iload_n 1, 1) := by decide +kernel
theorem dX3_removeSign_37 : decode cX3_removeSign 37 = .ok (.dup2, 1) := by decide +kernel
theorem dX3_removeSign_38 : decode cX3_removeSign 38 = .ok (.iaload, 1) := by decide +kernel
theorem dX3_removeSign_39 : decode cX3_removeSign 39 = .ok (.iconst 1, 1) := by decide +kernel
theorem dX3_removeSign_40 : decode cX3_removeSign 40 = .ok (.isub, 1) := by decide +kernel
theorem dX3_removeSign_41 : decode cX3_removeSign 41 = .ok (.iastore, 1) := by decide +kernel
theorem dX3_removeSign_42 : decode cX3_removeSign 42 = .ok (.return_, 1) := by decide +kernel
theorem dX3_moveSigns_0 : decode cX3_moveSigns 0 = .ok (.aload_n 0, 1) := by decide +kernel
theorem dX3_moveSigns_1 : decode cX3_moveSigns 1 = .ok (.getfield 15, 3) := by decide +kernel
theorem dX3_moveSigns_4 : decode cX3_moveSigns 4 = .ok (.iload_n 1, 1) := by decide +kernel
theorem dX3_moveSigns_5 : decode cX3_moveSigns 5 = .ok (.iaload, 1) := by decide +kernel
theorem dX3_moveSigns_6 : decode cX3_moveSigns 6 = .ok (.iload_n 2, 1) := by decide +kernel
theorem dX3_moveSigns_7 : decode cX3_moveSigns 7 = .ok (.isub, 1) := by decide +kernel
theorem dX3_moveSigns_8 : decode cX3_moveSigns 8 = .ok (.istore 4, 2) := by decide +kernel
theorem dX3_moveSigns_10 : decode cX3_moveSigns 10 = .ok (.aload_n 0, 1) := by decide +kernel
theorem dX3_moveSigns_11 : decode cX3_moveSigns 11 = .ok (.getfield 19, 3) := by decide +kernel
theorem dX3_moveSigns_14 : decode cX3_moveSigns 14 = .ok (.iload_n 1, 1) := by decide +kernel
theorem dX3_moveSigns_15 : decode cX3_moveSigns 15 = .ok (.bipush 24, 2) := by decide +kernel
theorem dX3_moveSigns_17 : decode cX3_moveSigns 17 = .ok (.imul, 1) := by decide +kernel
theorem dX3_moveSigns_18 : decode cX3_moveSigns 18 = .ok (.iload_n 2, 1) := by decide +kernel
theorem dX3_moveSigns_19 : decode cX3_moveSigns 19 = .ok (.iadd, 1) := by decide +kernel
theorem dX3_moveSigns_20 : decode cX3_moveSigns 20 = .ok (.aload_n 0, 1) := by decide +kernel
theorem dX3_moveSigns_21 : decode cX3_moveSigns 21 = .ok (.getfield 19, 3) := by decide +kernel
theorem dX3_moveSigns_24 : decode cX3_moveSigns 24 = .ok (.iload_n 3, 1) := by decide +kernel
theorem dX3_moveSigns_25 : decode cX3_moveSigns 25 = .ok (.bipush 24, 2) := by decide +kernel
theorem dX3_moveSigns_27 : decode cX3_moveSigns 27 = .ok (.imul, 1) := by decide +kernel
theorem dX3_moveSigns_28 : decode cX3_moveSigns 28 = .ok (.aload_n 0, 1) := by decide +kernel
theorem dX3_moveSigns_29 : decode cX3_moveSigns 29 = .ok (.getfield 15, 3) := by decide +kernel
theorem dX3_moveSigns_32 : decode cX3_moveSigns 32 = .ok (.iload_n 3, 1) := by decide +kernel
theorem dX3_moveSigns_33 : decode cX3_moveSigns 33 = .ok (.iaload, 1) := by decide +kernel
theorem dX3_moveSigns_34 : decode cX3_moveSigns 34 = .ok (.iadd, 1) := by decide +kernel
theorem dX3_moveSigns_35 : decode cX3_moveSigns 35 = .ok (.iload 4, 2) := by decide +kernel
theorem dX3_moveSigns_37 : decode cX3_moveSigns 37 = .ok (.invokestatic 31, 3) := by decide +kernel
theorem dX3_moveSigns_40 : decode cX3_moveSigns 40 = .ok (.aload_n 0, 1) := by decide +kernel
theorem dX3_moveSigns_41 : decode cX3_moveSigns 41 = .ok (.getfield 15, 3) := by decide +kernel
theorem dX3_moveSigns_44 : decode cX3_moveSigns 44 = .ok (.iload_n 3, 1) := by decide +kernel
theorem dX3_moveSigns_45 : decode cX3_moveSigns 45 = .ok (.dup2, 1) := by decide +kernel
theorem dX3_moveSigns_46 : decode cX3_moveSigns 46 = .ok (.iaload, 1) := by decide +kernel
theorem dX3_moveSigns_47 : decode cX3_moveSigns 47 = .ok (.iload 4, 2) := by decide +kernel
theorem dX3_moveSigns_49 : decode cX3_moveSigns 49 = .ok (.iadd, 1) := by decide +kernel
theorem dX3_moveSigns_50 : decode cX3_moveSigns 50 = .ok (.iastore, 1) := by decide +kernel
theorem dX3_moveSigns_51 : decode cX3_moveSigns 51 = .ok (.aload_n 0, 1) := by decide +kernel
theorem dX3_moveSigns_52 : decode cX3_moveSigns 52 = .ok (.getfield 15, 3) := by decide +kernel
theorem dX3_moveSigns_55 : decode cX3_moveSigns 55 = .ok (.iload_n 1, 1) := by decide +kernel
theorem dX3_moveSigns_56 : decode cX3_moveSigns 56 = .ok (.iload_n 2, 1) := by decide +kernel
theorem dX3_moveSigns_57 : decode cX3_moveSigns 57 = .ok (.iastore, 1) := by decide +kernel
theorem dX3_moveSigns_58 : decode cX3_moveSigns 58 = .ok (.return_, 1) := by decide +kernel
theorem dX4_init_0 : decode cX4_init 0 = .ok (.aload_n 0, 1) := by decide +kernel
theorem dX4_init_1 : decode cX4_init 1 = .ok (.invokespecial 3, 3) := by decide +kernel
theorem dX4_init_4 : decode cX4_init 4 = .ok (.aload_n 0, 1) := by decide +kernel
theorem dX4_init_5 : decode cX4_init 5 = .ok (.bipush 10, 2) := by decide +kernel
theorem dX4_init_7 : decode cX4_init 7 = .ok (.anewarray 9, 3) := by decide +kernel
theorem dX4_init_10 : decode cX4_init 10 = .ok (.putfield 11, 3) := by decide +kernel
theorem dX4_init_13 : decode cX4_init 13 = .ok (.iconst 0, 1) := by decide +kernel
theorem dX4_init_14 : decode cX4_init 14 = .ok (.istore_n 1, 1) := by decide +kernel
theorem dX4_init_15 : decode cX4_init 15 = .ok (.iload_n 1, 1) := by decide +kernel
theorem dX4_init_16 : decode cX4_init 16 = .ok (.bipush 10, 2) := by decide +kernel
theorem dX4_init_18 : decode cX4_init 18 = .ok (.if_icmp .ge 22, 3) := by decide +kernel
theorem dX4_init_21 : decode cX4_init 21 = .ok (.aload_n 0, 1) := by decide +kernel
theorem dX4_init_22 : decode cX4_init 22 = .ok (.getfield 11, 3) := by decide +kernel
theorem dX4_init_25 : decode cX4_init 25 = .ok (.iload_n 1, 1) := by decide +kernel
theorem dX4_init_26 : decode cX4_init 26 = .ok (.new 9, 3) := by decide +kernel
theorem dX4_init_29 : decode cX4_init 29 = .ok (.dup, 1) := by decide +kernel
theorem dX4_init_30 : decode cX4_init 30 = .ok (.invokespecial 17, 3) := by decide +kernel
theorem dX4_init_33 : decode cX4_init 33 = .ok (.aastore, 1) := by decide +kernel
theorem dX4_init_34 : decode cX4_init 34 = .ok (.iinc 1 1, 3) := by decide +kernel
theorem dX4_init_37 : decode cX4_init 37 = .ok (.goto (-22), 3) := by decide +kernel
theorem dX4_init_40 : decode cX4_init 40 = .ok (.return_, 1) := by decide +kernel
theorem dX4_slot_0 : decode cX4_slot 0 = .ok (.aload_n 0, 1) := by decide +kernel
theorem dX4_slot_1 : decode cX4_slot 1 = .ok (.getfield 18, 3) := by decide +kernel
theorem dX4_slot_4 : decode cX4_slot 4 = .ok (.iload_n 1, 1) := by decide +kernel
theorem dX4_slot_5 : decode cX4_slot 5 = .ok (.iadd, 1) := by decide +kernel
theorem dX4_slot_6 : decode cX4_slot 6 = .ok (.bipush 10, 2) := by decide +kernel
theorem dX4_slot_8 : decode cX4_slot 8 = .ok (.irem, 1) := by decide +kernel
theorem dX4_slot_9 : decode cX4_slot 9 = .ok (.ireturn, 1) := by decide +kernel
theorem dX4_remember_0 : decode cX4_remember 0 = .ok (.aload_n 0, 1) := by decide +kernel
theorem dX4_remember_1 : decode cX4_remember 1 = .ok (.getfield 22, 3) := by decide +kernel
theorem dX4_remember_4 : decode cX4_remember 4 = .ok (.bipush 10, 2) := by decide +kernel
theorem dX4_remember_6 : decode cX4_remember 6 = .ok (.if_icmp .ne 22, 3) := by decide +kernel
theorem dX4_remember_9 : decode cX4_remember 9 = .ok (.aload_n 0, 1) := by decide +kernel
theorem dX4_remember_10 : decode cX4_remember 10 = .ok (.aload_n 0, 1) := by decide +kernel
theorem dX4_remember_11 : decode cX4_remember 11 = .ok (.iconst 1, 1) := by decide +kernel
theorem dX4_remember_12 : decode cX4_remember 12 = .ok (.invokevirtual 25, 3) := by decide +kernel
theorem dX4_remember_15 : decode cX4_remember 15 = .ok (.putfield 18, 3) := by decide +kernel
theorem dX4_remember_18 : decode cX4_remember 18 = .ok (.aload_n 0, 1) := by decide +kernel
theorem dX4_remember_19 : decode cX4_remember 19 = .ok (.dup, 1) := by decide +kernel
theorem dX4_remember_20 : decode cX4_remember 20 = .ok (.getfield 22, 3) := by decide +kernel
theorem dX4_remember_23 : decode cX4_remember 23 = .ok (.iconst 1, 1) := by decide +kernel
theorem dX4_remember_24 : decode cX4_remember 24 = .ok (.isub, 1) := by decide +kernel
theorem dX4_remember_25 : decode cX4_remember 25 = .ok (.putfield 22, 3) := by decide +kernel
theorem dX4_remember_28 : decode cX4_remember 28 = .ok (.aload_n 0, 1) := by decide +kernel
theorem dX4_remember_29 : decode cX4_remember 29 = .ok (.getfield 11, 3) := by decide +kernel
theorem dX4_remember_32 : decode cX4_remember 32 = .ok (.aload_n 0, 1) := by decide +kernel
theorem dX4_remember_33 : decode cX4_remember 33 = .ok (.aload_n 0, 1) := by decide +kernel
theorem dX4_remember_34 : decode cX4_remember 34 = .ok (.getfield 22, 3) := by decide +kernel
theorem dX4_remember_37 : decode cX4_remember 37 = .ok (.invokevirtual 25, 3) := by decide +kernel
theorem dX4_remember_40 : decode cX4_remember 40 = .ok (.aaload, 1) := by decide +kernel
theorem dX4_remember_41 : decode cX4_remember 41 = .ok (.aload_n 1, 1) := by decide +kernel
theorem dX4_remember_42 : decode cX4_remember 42 = .ok (.invokevirtual 29, 3) := by decide +kernel
theorem dX4_remember_45 : decode cX4_remember 45 = .ok (.aload_n 0, 1) := by decide +kernel
theorem dX4_remember_46 : decode cX4_remember 46 = .ok (.dup, 1) := by decide +kernel
theorem dX4_remember_47 : decode cX4_remember 47 = .ok (.getfield 22, 3) := by decide +kernel
theorem dX4_remember_50 : decode cX4_remember 50 = .ok (.iconst 1, 1) := by decide +kernel
theorem dX4_remember_51 : decode cX4_remember 51 = .ok (.iadd, 1) := by decide +kernel
theorem dX4_remember_52 : decode cX4_remember 52 = .ok (.putfield 22, 3) := by decide +kernel
theorem dX4_remember_55 : decode cX4_remember 55 = .ok (.return_, 1) := by decide +kernel
theorem dX4_latest_0 : decode cX4_latest 0 = .ok (.aload_n 0, 1) := by decide +kernel
theorem dX4_latest_1 : decode cX4_latest 1 = .ok (.getfield 11, 3) := by decide +kernel
theorem dX4_latest_4 : decode cX4_latest 4 = .ok (.aload_n 0, 1) := by decide +kernel
theorem dX4_latest_5 : decode cX4_latest 5 = .ok (.aload_n 0, 1) := by decide +kernel
theorem dX4_latest_6 : decode cX4_latest 6 = .ok (.getfield 22, 3) := by decide +kernel
theorem dX4_latest_9 : decode cX4_latest 9 = .ok (.ifCond .ne 7, 3) := by decide +kernel
theorem dX4_latest_12 : decode cX4_latest 12 = .ok (.iconst 0, 1) := by decide +kernel
theorem dX4_latest_13 : decode cX4_latest 13 = .ok (.goto 9, 3) := by decide +kernel
theorem dX4_latest_16 : decode cX4_latest 16 = .ok (.aload_n 0, 1) := by decide +kernel
theorem dX4_latest_17 : decode cX4_latest 17 = .ok (.getfield 22, 3) := by decide +kernel
theorem dX4_latest_20 : decode cX4_latest 20 = .ok (.iconst 1, 1) := by decide +kernel
theorem dX4_latest_21 : decode cX4_latest 21 = .ok (.isub, 1) := by decide +kernel
theorem dX4_latest_22 : decode cX4_latest 22 = .ok (.invokevirtual 25, 3) := by decide +kernel
theorem dX4_latest_25 : decode cX4_latest 25 = .ok (.aaload, 1) := by decide +kernel
theorem dX4_latest_26 : decode cX4_latest 26 = .ok (.areturn, 1) := by decide +kernel
theorem dX4_forgetLatest_0 : decode cX4_forgetLatest 0 = .ok (.aload_n 0, 1) := by decide +kernel
theorem dX4_forgetLatest_1 : decode cX4_forgetLatest 1 = .ok (.getfield 22, 3) := by decide +kernel
theorem dX4_forgetLatest_4 : decode cX4_forgetLatest 4 = .ok (.ifCond .le 13, 3) := by decide +kernel
theorem dX4_forgetLatest_7 : decode cX4_forgetLatest 7 = .ok (.aload_n 0, 1) := by decide +kernel
theorem dX4_forgetLatest_8 : decode cX4_forgetLatest 8 = .ok (.dup, 1) := by decide +kernel
theorem dX4_forgetLatest_9 : decode cX4_forgetLatest 9 = .ok (.getfield 22, 3) := by decide +kernel
theorem dX4_forgetLatest_12 : decode cX4_forgetLatest 12 = .ok (.iconst 1, 1) := by decide +kernel
theorem dX4_forgetLatest_13 : decode cX4_forgetLatest 13 = .ok (.isub, 1) := by decide +kernel
theorem dX4_forgetLatest_14 : decode cX4_forgetLatest 14 = .ok (.putfield 22, 3) := by decide +kernel
theorem dX4_forgetLatest_17 : decode cX4_forgetLatest 17 = .ok (.return_, 1) := by decide +kernel
theorem dX4_copyFrom_0 : decode cX4_copyFrom 0 = .ok (.aload_n 0, 1) := by decide +kernel
theorem dX4_copyFrom_1 : decode cX4_copyFrom 1 = .ok (.aload_n 1, 1) := by decide +kernel
theorem dX4_copyFrom_2 : decode cX4_copyFrom 2 = .ok (.getfield 22, 3) := by decide +kernel
theorem dX4_copyFrom_5 : decode cX4_copyFrom 5 = .ok (.putfield 22, 3) := by decide +kernel
theorem dX4_copyFrom_8 : decode cX4_copyFrom 8 = .ok (.aload_n 0, 1) := by decide +kernel
theorem dX4_copyFrom_9 : decode cX4_copyFrom 9 = .ok (.aload_n 1, 1) := by decide +kernel
theorem dX4_copyFrom_10 : decode cX4_copyFrom 10 = .ok (.getfield 18, 3) := by decide +kernel
theorem dX4_copyFrom_13 : decode cX4_copyFrom 13 = .ok (.putfield 18, 3) := by decide +kernel
theorem dX4_copyFrom_16 : decode cX4_copyFrom 16 = .ok (.iconst 0, 1) := by decide +kernel
theorem dX4_copyFrom_17 : decode cX4_copyFrom 17 = .ok (.istore_n 2, 1) := by decide +kernel
theorem dX4_copyFrom_18 : decode cX4_copyFrom 18 = .ok (.iload_n 2, 1) := by decide +kernel
theorem dX4_copyFrom_19 : decode cX4_copyFrom 19 = .ok (.aload_n 0, 1) := by decide +kernel
theorem dX4_copyFrom_20 : decode cX4_copyFrom 20 = .ok (.getfield 22, 3) := by decide +kernel
theorem dX4_copyFrom_23 : decode cX4_copyFrom 23 = .ok (.if_icmp .ge 32, 3) := by decide +kernel
theorem dX4_copyFrom_26 : decode cX4_copyFrom 26 = .ok (.aload_n 0, 1) := by decide +kernel
theorem dX4_copyFrom_27 : decode cX4_copyFrom 27 = .ok (.getfield 11, 3) := by decide +kernel
theorem dX4_copyFrom_30 : decode cX4_copyFrom 30 = .ok (.aload_n 0, 1) := by decide +kernel
theorem dX4_copyFrom_31 : decode cX4_copyFrom 31 = .ok (.iload_n 2, 1) := by decide +kernel
theorem dX4_copyFrom_32 : decode cX4_copyFrom 32 = .ok (.invokevirtual 25, 3) := by decide +kernel
theorem dX4_copyFrom_35 : decode cX4_copyFrom 35 = .ok (.aaload, 1) := by decide +kernel
theorem dX4_copyFrom_36 : decode cX4_copyFrom 36 = .ok (.aload_n 1, 1) := by decide +kernel
theorem dX4_copyFrom_37 : decode cX4_copyFrom 37 = .ok (.getfield 11, 3) := by decide +kernel
theorem dX4_copyFrom_40 : decode cX4_copyFrom 40 = .ok (.aload_n 0, 1) := by decide +kernel
theorem dX4_copyFrom_41 : decode cX4_copyFrom 41 = .ok (.iload_n 2, 1) := by decide +kernel
theorem dX4_copyFrom_42 : decode cX4_copyFrom 42 = .ok (.invokevirtual 25, 3) := by decide +kernel
theorem dX4_copyFrom_45 : decode cX4_copyFrom 45 = .ok (.aaload, 1) := by decide +kernel
theorem dX4_copyFrom_46 : decode cX4_copyFrom 46 = .ok (.invokevirtual 29, 3) := by decide +kernel
theorem dX4_copyFrom_49 : decode cX4_copyFrom 49 = .ok (.iinc 2 1, 3) := by decide +kernel
theorem dX4_copyFrom_52 : decode cX4_copyFrom 52 = .ok (.goto (-34), 3) := by decide +kernel
theorem dX4_copyFrom_55 : decode cX4_copyFrom 55 = .ok (.return_, 1) := by decide +kernel
theorem dX5_init_0 : decode cX5_init 0 = .ok (.aload_n 0, 1) := by decide +kernel
theorem dX5_init_1 : decode cX5_init 1 = .ok (.invokespecial 3, 3) := by decide +kernel
theorem dX5_init_4 : decode cX5_init 4 = .ok (.aload_n 0, 1) := by decide +kernel
theorem dX5_init_5 : decode cX5_init 5 = .ok (.sipush 150, 3) := by decide +kernel
theorem dX5_init_8 : decode cX5_init 8 = .ok (.newarray .int, 2) := by decide +kernel
theorem dX5_init_10 : decode cX5_init 10 = .ok (.putfield 9, 3) := by decide +kernel
theorem dX5_init_13 : decode cX5_init 13 = .ok (.return_, 1) := by decide +kernel
theorem dX5_rewind_0 : decode cX5_rewind 0 = .ok (.aload_n 0, 1) := by decide +kernel
theorem dX5_rewind_1 : decode cX5_rewind 1 = .ok (.iconst 0, 1) := by decide +kernel
theorem dX5_rewind_2 : decode cX5_rewind 2 = .ok (.putfield 15, 3) := by decide +kernel
theorem dX5_rewind_5 : decode cX5_rewind 5 = .ok (.aload_n 0, 1) := by decide +kernel
theorem dX5_rewind_6 : decode cX5_rewind 6 = .ok (.bipush (-9), 2) := by decide +kernel
theorem dX5_rewind_8 : decode cX5_rewind 8 = .ok (.putfield 19, 3) := by decide +kernel
theorem dX5_rewind_11 : decode cX5_rewind 11 = .ok (.return_, 1) := by decide +kernel
theorem dX5_firstFault_0 : decode cX5_firstFault 0 = .ok (.aload_n 0, 1) := by decide +kernel
theorem dX5_firstFault_1 : decode cX5_firstFault 1 = .ok (.invokevirtual 22, 3) := by decide +kernel
theorem dX5_firstFault_4 : decode cX5_firstFault 4 = .ok (.iconst 0, 1) := by decide +kernel
theorem dX5_firstFault_5 : decode cX5_firstFault 5 = .ok (.istore_n 1, 1) := by decide +kernel
theorem dX5_firstFault_6 : decode cX5_firstFault 6 = .ok (.iload_n 1, 1) := by decide +kernel
theorem dX5_firstFault_7 : decode cX5_firstFault 7 = .ok (.sipush 150, 3) := by decide +kernel
theorem dX5_firstFault_10 : decode cX5_firstFault 10 = .ok (.if_icmp .ge 16, 3) := by decide +kernel
theorem dX5_firstFault_13 : decode cX5_firstFault 13 = .ok (.aload_n 0, 1) := by decide +kernel
theorem dX5_firstFault_14 : decode cX5_firstFault 14 = .ok (.invokevirtual 25, 3) := by decide +kernel
theorem dX5_firstFault_17 : decode cX5_firstFault 17 = .ok (.ifCond .eq 9, 3) := by decide +kernel
theorem dX5_firstFault_20 : decode cX5_firstFault 20 = .ok (.iinc 1 1, 3) := by decide +kernel
theorem dX5_firstFault_23 : decode cX5_firstFault 23 = .ok (.goto (-17), 3) := by decide +kernel
theorem dX5_firstFault_26 : decode cX5_firstFault 26 = .ok (.aload_n 0, 1) := by decide +kernel
theorem dX5_firstFault_27 : decode cX5_firstFault 27 = .ok (.getfield 19, 3) := by decide +kernel
theorem dX5_firstFault_30 : decode cX5_firstFault 30 = .ok (.ireturn, 1) := by decide +kernel
theorem dX5_readCommand_0 : decode cX5_readCommand 0 = .ok (.aload_n 0, 1) := by decide +kernel
theorem dX5_readCommand_1 : decode cX5_readCommand 1 = .ok (.invokevirtual 29, 3) := by decide +kernel
theorem dX5_readCommand_4 : decode cX5_readCommand 4 = .ok (.aload_n 0, 1) := by decide +kernel
theorem dX5_readCommand_5 : decode cX5_readCommand 5 = .ok (.getfield 15, 3) := by decide +kernel
theorem dX5_readCommand_8 : decode cX5_readCommand 8 = .ok (.aload_n 0, 1) := by decide +kernel
theorem dX5_readCommand_9 : decode cX5_readCommand 9 = .ok (.getfield 32, 3) := by decide +kernel
theorem dX5_readCommand_12 : decode cX5_readCommand 12 = .ok (.if_icmp .ge 10, 3) := by decide +kernel
theorem dX5_readCommand_15 : decode cX5_readCommand 15 = .ok (.aload_n 0, 1) := by decide +kernel
theorem dX5_readCommand_16 : decode cX5_readCommand 16 = .ok (.invokevirtual 35, 3) := by decide +kernel
theorem dX5_readCommand_19 : decode cX5_readCommand 19 = .ok (.ifCond .ne 5, 3) := by decide +kernel
theorem dX5_readCommand_22 : decode cX5_readCommand 22 = .ok (.iconst 0, 1) := by decide +kernel
theorem dX5_readCommand_23 : decode cX5_readCommand 23 = .ok (.ireturn, 1) := by decide +kernel
theorem dX5_readCommand_24 : decode cX5_readCommand 24 = .ok (.aload_n 0, 1) := by decide +kernel
theorem dX5_readCommand_25 : decode cX5_readCommand 25 = .ok (.aload_n 0, 1) := by decide +kernel
theorem dX5_readCommand_26 : decode cX5_readCommand 26 = .ok (.invokevirtual 38, 3) := by decide +kernel
theorem dX5_readCommand_29 : decode cX5_readCommand 29 = .ok (.putfield 42, 3) := by decide +kernel
theorem dX5_readCommand_32 : decode cX5_readCommand 32 = .ok (.aload_n 0, 1) := by decide +kernel
theorem dX5_readCommand_33 : decode cX5_readCommand 33 = .ok (.getfield 42, 3) := by decide +kernel
theorem dX5_readCommand_36 : decode cX5_readCommand 36 = .ok (.ifCond .ge 12, 3) := by decide +kernel
theorem dX5_readCommand_39 : decode cX5_readCommand 39 = .ok (.aload_n 0, 1) := by decide +kernel
theorem dX5_readCommand_40 : decode cX5_readCommand 40 = .ok (.aload_n 0, 1) := by decide +kernel
theorem dX5_readCommand_41 : decode cX5_readCommand 41 = .ok (.getfield 45, 3) := by decide +kernel
theorem dX5_readCommand_44 : decode cX5_readCommand 44 = .ok (.invokevirtual 48, 3) := by decide +kernel
theorem dX5_readCommand_47 : decode cX5_readCommand 47 = .ok (.ireturn, 1) := by decide +kernel
theorem dX5_readCommand_48 : decode cX5_readCommand 48 = .ok (.aload_n 0, 1) := by decide +kernel
theorem dX5_readCommand_49 : decode cX5_readCommand 49 = .ok (.getfield 42, 3) := by decide +kernel
theorem dX5_readCommand_52 : decode cX5_readCommand 52 = .ok (.invokestatic 52, 3) := by decide +kernel
theorem dX5_readCommand_55 : decode cX5_readCommand 55 = .ok (.astore_n 1, 1) := by decide +kernel
theorem dX5_readCommand_56 : decode cX5_readCommand 56 = .ok (.iconst 0, 1) := by decide +kernel
theorem dX5_readCommand_57 : decode cX5_readCommand 57 = .ok (.istore_n 2, 1) := by decide +kernel
theorem dX5_readCommand_58 : decode cX5_readCommand 58 = .ok (.iload_n 2, 1) := by decide +kernel
theorem dX5_readCommand_59 : decode cX5_readCommand 59 = .ok (.aload_n 1, 1) := by decide +kernel
theorem dX5_readCommand_60 : decode cX5_readCommand 60 = .ok (.invokevirtual 56, 3) := by decide +kernel
theorem dX5_readCommand_63 : decode cX5_readCommand 63 = .ok (.if_icmp .ge 40, 3) := by decide +kernel
theorem dX5_readCommand_66 : decode cX5_readCommand 66 = .ok (.aload_n 0, 1) := by decide +kernel
theorem dX5_readCommand_67 : decode cX5_readCommand 67 = .ok (.invokevirtual 35, 3) := by decide +kernel
theorem dX5_readCommand_70 : decode cX5_readCommand 70 = .ok (.ifCond .ne 5, 3) := by decide +kernel
theorem dX5_readCommand_73 : decode cX5_readCommand 73 = .ok (.iconst 0, 1) := by decide +kernel
theorem dX5_readCommand_74 : decode cX5_readCommand 74 = .ok (.ireturn, 1) := by decide +kernel
theorem dX5_readCommand_75 : decode cX5_readCommand 75 = .ok (.aload_n 0, 1) := by decide +kernel
theorem dX5_readCommand_76 : decode cX5_readCommand 76 = .ok (.aload_n 1, 1) := by decide +kernel
theorem dX5_readCommand_77 : decode cX5_readCommand 77 = .ok (.iload_n 2, 1) := by decide +kernel
theorem dX5_readCommand_78 : decode cX5_readCommand 78 = .ok (.invokevirtual 61, 3) := by decide +kernel
theorem dX5_readCommand_81 : decode cX5_readCommand 81 = .ok (.iload_n 2, 1) := by decide +kernel
theorem dX5_readCommand_82 : decode cX5_readCommand 82 = .ok (.invokevirtual 65, 3) := by decide +kernel
theorem dX5_readCommand_85 : decode cX5_readCommand 85 = .ok (.ifCond .ne 12, 3) := by decide +kernel
theorem dX5_readCommand_88 : decode cX5_readCommand 88 = .ok (.aload_n 0, 1) := by decide +kernel
theorem dX5_readCommand_89 : decode cX5_readCommand 89 = .ok (.aload_n 0, 1) := by decide +kernel
theorem dX5_readCommand_90 : decode cX5_readCommand 90 = .ok (.getfield 45, 3) := by decide +kernel
theorem dX5_readCommand_93 : decode cX5_readCommand 93 = .ok (.invokevirtual 48, 3) := by decide +kernel
theorem dX5_readCommand_96 : decode cX5_readCommand 96 = .ok (.ireturn, 1) := by decide +kernel
theorem dX5_readCommand_97 : decode cX5_readCommand 97 = .ok (.iinc 2 1, 3) := by decide +kernel
theorem dX5_readCommand_100 : decode cX5_readCommand 100 = .ok (.goto (-42), 3) := by decide +kernel
theorem dX5_readCommand_103 : decode cX5_readCommand 103 = .ok (.aload_n 0, 1) := by decide +kernel
theorem dX5_readCommand_104 : decode cX5_readCommand 104 = .ok (.invokevirtual 69, 3) := by decide +kernel
theorem dX5_readCommand_107 : decode cX5_readCommand 107 = .ok (.ireturn, 1) := by decide +kernel
theorem dX5_failAt_0 : decode cX5_failAt 0 = .ok (.aload_n 0, 1) := by decide +kernel
theorem dX5_failAt_1 : decode cX5_failAt 1 = .ok (.iload_n 1, 1) := by decide +kernel
theorem dX5_failAt_2 : decode cX5_failAt 2 = .ok (.putfield 19, 3) := by decide +kernel
theorem dX5_failAt_5 : decode cX5_failAt 5 = .ok (.iconst 0, 1) := by decide +kernel
theorem dX5_failAt_6 : decode cX5_failAt 6 = .ok (.ireturn, 1) := by decide +kernel
theorem dX5_skipBlanks_0 : decode cX5_skipBlanks 0 = .ok (.aload_n 0, 1) := by decide +kernel
theorem dX5_skipBlanks_1 : decode cX5_skipBlanks 1 = .ok (.getfield 15, 3) := by decide +kernel
theorem dX5_skipBlanks_4 : decode cX5_skipBlanks 4 = .ok (.aload_n 0, 1) := by decide +kernel
theorem dX5_skipBlanks_5 : decode cX5_skipBlanks 5 = .ok (.getfield 32, 3) := by decide +kernel
theorem dX5_skipBlanks_8 : decode cX5_skipBlanks 8 = .ok (.if_icmp .ge 30, 3) := by decide +kernel
theorem dX5_skipBlanks_11 : decode cX5_skipBlanks 11 = .ok (.aload_n 0, 1) := by decide +kernel
theorem dX5_skipBlanks_12 : decode cX5_skipBlanks 12 = .ok (.getfield 9, 3) := by decide +kernel
theorem dX5_skipBlanks_15 : decode cX5_skipBlanks 15 = .ok (.aload_n 0, 1) := by decide +kernel
theorem dX5_skipBlanks_16 : decode cX5_skipBlanks 16 = .ok (.getfield 15, 3) := by decide +kernel
theorem dX5_skipBlanks_19 : decode cX5_skipBlanks 19 = .ok (.iaload, 1) := by decide +kernel
theorem dX5_skipBlanks_20 : decode cX5_skipBlanks 20 = .ok (.bipush 32, 2) := by decide +kernel
theorem dX5_skipBlanks_22 : decode cX5_skipBlanks 22 = .ok (.if_icmp .ne 16, 3) := by decide +kernel
theorem dX5_skipBlanks_25 : decode cX5_skipBlanks 25 = .ok (.aload_n 0, 1) := by decide +kernel
theorem dX5_skipBlanks_26 : decode cX5_skipBlanks 26 = .ok (.dup, 1) := by decide +kernel
theorem dX5_skipBlanks_27 : decode cX5_skipBlanks 27 = .ok (.getfield 15, 3) := by decide +kernel
theorem dX5_skipBlanks_30 : decode cX5_skipBlanks 30 = .ok (.iconst 1, 1) := by decide +kernel
theorem dX5_skipBlanks_31 : decode cX5_skipBlanks 31 = .ok (.iadd, 1) := by decide +kernel
theorem dX5_skipBlanks_32 : decode cX5_skipBlanks 32 = .ok (.putfield 15, 3) := by decide +kernel
theorem dX5_skipBlanks_35 : decode cX5_skipBlanks 35 = .ok (.goto (-35), 3) := by decide +kernel
theorem dX5_skipBlanks_38 : decode cX5_skipBlanks 38 = .ok (.return_, 1) := by decide +kernel
theorem dX5_readWord_0 : decode cX5_readWord 0 = .ok (.aload_n 0, 1) := by decide +kernel
theorem dX5_readWord_1 : decode cX5_readWord 1 = .ok (.invokevirtual 29, 3) := by decide +kernel
theorem dX5_readWord_4 : decode cX5_readWord 4 = .ok (.aload_n 0, 1) := by decide +kernel
theorem dX5_readWord_5 : decode cX5_readWord 5 = .ok (.aload_n 0, 1) := by decide +kernel
theorem dX5_readWord_6 : decode cX5_readWord 6 = .ok (.getfield 15, 3) := by decide +kernel
theorem dX5_readWord_9 : decode cX5_readWord 9 = .ok (.putfield 45, 3) := by decide +kernel
theorem dX5_readWord_12 : decode cX5_readWord 12 = .ok (.aload_n 0, 1) := by decide +kernel
theorem dX5_readWord_13 : decode cX5_readWord 13 = .ok (.getfield 15, 3) := by decide +kernel
theorem dX5_readWord_16 : decode cX5_readWord 16 = .ok (.aload_n 0, 1) := by decide +kernel
theorem dX5_readWord_17 : decode cX5_readWord 17 = .ok (.getfield 32, 3) := by decide +kernel
theorem dX5_readWord_20 : decode cX5_readWord 20 = .ok (.if_icmp .ge 31, 3) := by decide +kernel
theorem dX5_readWord_23 : decode cX5_readWord 23 = .ok (.aload_n 0, 1) := by decide +kernel
theorem dX5_readWord_24 : decode cX5_readWord 24 = .ok (.getfield 9, 3) := by decide +kernel
theorem dX5_readWord_27 : decode cX5_readWord 27 = .ok (.aload_n 0, 1) := by decide +kernel
theorem dX5_readWord_28 : decode cX5_readWord 28 = .ok (.getfield 15, 3) := by decide +kernel
theorem dX5_readWord_31 : decode cX5_readWord 31 = .ok (.iaload, 1) := by decide +kernel
theorem dX5_readWord_32 : decode cX5_readWord 32 = .ok (.invokestatic 72, 3) := by decide +kernel
theorem dX5_readWord_35 : decode cX5_readWord 35 = .ok (.ifCond .eq 16, 3) := by decide +kernel
theorem dX5_readWord_38 : decode cX5_readWord 38 = .ok (.aload_n 0, 1) := by decide +kernel
theorem dX5_readWord_39 : decode cX5_readWord 39 = .ok (.dup, 1) := by decide +kernel
theorem dX5_readWord_40 : decode cX5_readWord 40 = .ok (.getfield 15, 3) := by decide +kernel
theorem dX5_readWord_43 : decode cX5_readWord 43 = .ok (.iconst 1, 1) := by decide +kernel
theorem dX5_readWord_44 : decode cX5_readWord 44 = .ok (.iadd, 1) := by decide +kernel
theorem dX5_readWord_45 : decode cX5_readWord 45 = .ok (.putfield 15, 3) := by decide +kernel
theorem dX5_readWord_48 : decode cX5_readWord 48 = .ok (.goto (-36), 3) := by decide +kernel
theorem dX5_readWord_51 : decode cX5_readWord 51 = .ok (.aload_n 0, 1) := by decide +kernel
theorem dX5_readWord_52 : decode cX5_readWord 52 = .ok (.aload_n 0, 1) := by decide +kernel
theorem dX5_readWord_53 : decode cX5_readWord 53 = .ok (.getfield 15, 3) := by decide +kernel
theorem dX5_readWord_56 : decode cX5_readWord 56 = .ok (.putfield 75, 3) := by decide +kernel
theorem dX5_readWord_59 : decode cX5_readWord 59 = .ok (.aload_n 0, 1) := by decide +kernel
theorem dX5_readWord_60 : decode cX5_readWord 60 = .ok (.getfield 75, 3) := by decide +kernel
theorem dX5_readWord_63 : decode cX5_readWord 63 = .ok (.aload_n 0, 1) := by decide +kernel
theorem dX5_readWord_64 : decode cX5_readWord 64 = .ok (.getfield 45, 3) := by decide +kernel
theorem dX5_readWord_67 : decode cX5_readWord 67 = .ok (.if_icmp .gt 14, 3) := by decide +kernel
theorem dX5_readWord_70 : decode cX5_readWord 70 = .ok (.aload_n 0, 1) := by decide +kernel
theorem dX5_readWord_71 : decode cX5_readWord 71 = .ok (.aload_n 0, 1) := by decide +kernel
theorem dX5_readWord_72 : decode cX5_readWord 72 = .ok (.getfield 15, 3) := by decide +kernel
theorem dX5_readWord_75 : decode cX5_readWord 75 = .ok (.invokevirtual 48, 3) := by decide +kernel
theorem dX5_readWord_78 : decode cX5_readWord 78 = .ok (.ifCond .eq 7, 3) := by decide +kernel
theorem dX5_readWord_81 : decode cX5_readWord 81 = .ok (.iconst 1, 1) := by decide +kernel
theorem dX5_readWord_82 : decode cX5_readWord 82 = .ok (.goto 4, 3) := by decide +kernel
theorem dX5_readWord_85 : decode cX5_readWord 85 = .ok (.iconst 0, 1) := by decide +kernel
theorem dX5_readWord_86 : decode cX5_readWord 86 = .ok (.ireturn, 1) := by decide +kernel
theorem dX5_readEnd_0 : decode cX5_readEnd 0 = .ok (.aload_n 0, 1) := by decide +kernel
theorem dX5_readEnd_1 : decode cX5_readEnd 1 = .ok (.invokevirtual 29, 3) := by decide +kernel
theorem dX5_readEnd_4 : decode cX5_readEnd 4 = .ok (.aload_n 0, 1) := by decide +kernel
theorem dX5_readEnd_5 : decode cX5_readEnd 5 = .ok (.getfield 15, 3) := by decide +kernel
theorem dX5_readEnd_8 : decode cX5_readEnd 8 = .ok (.aload_n 0, 1) := by decide +kernel
theorem dX5_readEnd_9 : decode cX5_readEnd 9 = .ok (.getfield 32, 3) := by decide +kernel
theorem dX5_readEnd_12 : decode cX5_readEnd 12 = .ok (.if_icmp .ge 17, 3) := by decide +kernel
theorem dX5_readEnd_15 : decode cX5_readEnd 15 = .ok (.aload_n 0, 1) := by decide +kernel
theorem dX5_readEnd_16 : decode cX5_readEnd 16 = .ok (.getfield 9, 3) := by decide +kernel
theorem dX5_readEnd_19 : decode cX5_readEnd 19 = .ok (.aload_n 0, 1) := by decide +kernel
theorem dX5_readEnd_20 : decode cX5_readEnd 20 = .ok (.getfield 15, 3) := by decide +kernel
theorem dX5_readEnd_23 : decode cX5_readEnd 23 = .ok (.iaload, 1) := by decide +kernel
theorem dX5_readEnd_24 : decode cX5_readEnd 24 = .ok (.bipush 59, 2) := by decide +kernel
theorem dX5_readEnd_26 : decode cX5_readEnd 26 = .ok (.if_icmp .eq 12, 3) := by decide +kernel
theorem dX5_readEnd_29 : decode cX5_readEnd 29 = .ok (.aload_n 0, 1) := by decide +kernel
theorem dX5_readEnd_30 : decode cX5_readEnd 30 = .ok (.aload_n 0, 1) := by decide +kernel
theorem dX5_readEnd_31 : decode cX5_readEnd 31 = .ok (.getfield 15, 3) := by decide +kernel
theorem dX5_readEnd_34 : decode cX5_readEnd 34 = .ok (.invokevirtual 48, 3) := by decide +kernel
theorem dX5_readEnd_37 : decode cX5_readEnd 37 = .ok (.ireturn, 1) := by decide +kernel
theorem dX5_readEnd_38 : decode cX5_readEnd 38 = .ok (.aload_n 0, 1) := by decide +kernel
theorem dX5_readEnd_39 : decode cX5_readEnd 39 = .ok (.dup, 1) := by decide +kernel
theorem dX5_readEnd_40 : decode cX5_readEnd 40 = .ok (.getfield 15, 3) := by decide +kernel
theorem dX5_readEnd_43 : decode cX5_readEnd 43 = .ok (.iconst 1, 1) := by decide +kernel
theorem dX5_readEnd_44 : decode cX5_readEnd 44 = .ok (.iadd, 1) := by decide +kernel
theorem dX5_readEnd_45 : decode cX5_readEnd 45 = .ok (.putfield 15, 3) := by decide +kernel
theorem dX5_readEnd_48 : decode cX5_readEnd 48 = .ok (.iconst 1, 1) := by decide +kernel
theorem dX5_readEnd_49 : decode cX5_readEnd 49 = .ok (.ireturn, 1) := by decide +kernel
theorem dX5_takeWord_0 : decode cX5_takeWord 0 = .ok (.iload_n 1, 1) := by decide +kernel
theorem dX5_takeWord_1 : decode cX5_takeWord 1 = .ok (.tableswitch 113 110 119 #[55, 113, 113, 113, 113, 74, 93, 113, 113, 69], 55) := by decide +kernel
theorem dX5_takeWord_56 : decode cX5_takeWord 56 = .ok (.aload_n 0, 1) := by decide +kernel
theorem dX5_takeWord_57 : decode cX5_takeWord 57 = .ok (.iload_n 2, 1) := by decide +kernel
theorem dX5_takeWord_58 : decode cX5_takeWord 58 = .ok (.ifCond .ne 7, 3) := by decide +kernel
theorem dX5_takeWord_61 : decode cX5_takeWord 61 = .ok (.iconst 1, 1) := by decide +kernel
theorem dX5_takeWord_62 : decode cX5_takeWord 62 = .ok (.goto 4, 3) := by decide +kernel
theorem dX5_takeWord_65 : decode cX5_takeWord 65 = .ok (.iconst 0, 1) := by decide +kernel
theorem dX5_takeWord_66 : decode cX5_takeWord 66 = .ok (.invokevirtual 78, 3) := by decide +kernel
theorem dX5_takeWord_69 : decode cX5_takeWord 69 = .ok (.ireturn, 1) := by decide +kernel
theorem dX5_takeWord_70 : decode cX5_takeWord 70 = .ok (.aload_n 0, 1) := by decide +kernel
theorem dX5_takeWord_71 : decode cX5_takeWord 71 = .ok (.invokevirtual 82, 3) := by decide +kernel
theorem dX5_takeWord_74 : decode cX5_takeWord 74 = .ok (.ireturn, 1) := by decide +kernel
theorem dX5_takeWord_75 : decode cX5_takeWord 75 = .ok (.aload_n 0, 1) := by decide +kernel
theorem dX5_takeWord_76 : decode cX5_takeWord 76 = .ok (.getfield 75, 3) := by decide +kernel
theorem dX5_takeWord_79 : decode cX5_takeWord 79 = .ok (.aload_n 0, 1) := by decide +kernel
theorem dX5_takeWord_80 : decode cX5_takeWord 80 = .ok (.getfield 45, 3) := by decide +kernel
theorem dX5_takeWord_83 : decode cX5_takeWord 83 = .ok (.isub, 1) := by decide +kernel
theorem dX5_takeWord_84 : decode cX5_takeWord 84 = .ok (.iconst 1, 1) := by decide +kernel
theorem dX5_takeWord_85 : decode cX5_takeWord 85 = .ok (.if_icmp .ne 7, 3) := by decide +kernel
theorem dX5_takeWord_88 : decode cX5_takeWord 88 = .ok (.iconst 1, 1) := by decide +kernel
theorem dX5_takeWord_89 : decode cX5_takeWord 89 = .ok (.goto 4, 3) := by decide +kernel
theorem dX5_takeWord_92 : decode cX5_takeWord 92 = .ok (.iconst 0, 1) := by decide +kernel
theorem dX5_takeWord_93 : decode cX5_takeWord 93 = .ok (.ireturn, 1) := by decide +kernel
theorem dX5_takeWord_94 : decode cX5_takeWord 94 = .ok (.aload_n 0, 1) := by decide +kernel
theorem dX5_takeWord_95 : decode cX5_takeWord 95 = .ok (.getfield 75, 3) := by decide +kernel
theorem dX5_takeWord_98 : decode cX5_takeWord 98 = .ok (.aload_n 0, 1) := by decide +kernel
theorem dX5_takeWord_99 : decode cX5_takeWord 99 = .ok (.getfield 45, 3) := by decide +kernel
theorem dX5_takeWord_102 : decode cX5_takeWord 102 = .ok (.isub, 1) := by decide +kernel
theorem dX5_takeWord_103 : decode cX5_takeWord 103 = .ok (.bipush 24, 2) := by decide +kernel
theorem dX5_takeWord_105 : decode cX5_takeWord 105 = .ok (.if_icmp .gt 7, 3) := by decide +kernel
theorem dX5_takeWord_108 : decode cX5_takeWord 108 = .ok (.iconst 1, 1) := by decide +kernel
theorem dX5_takeWord_109 : decode cX5_takeWord 109 = .ok (.goto 4, 3) := by decide +kernel
theorem dX5_takeWord_112 : decode cX5_takeWord 112 = .ok (.iconst 0, 1) := by decide +kernel
theorem dX5_takeWord_113 : decode cX5_takeWord 113 = .ok (.ireturn, 1) := by decide +kernel
theorem dX5_takeWord_114 : decode cX5_takeWord 114 = .ok (.iconst 0, 1) := by decide +kernel
theorem dX5_takeWord_115 : decode cX5_takeWord 115 = .ok (.ireturn, 1) := by decide +kernel
theorem dX5_takeNumber_0 : decode cX5_takeNumber 0 = .ok (.aload_n 0, 1) := by decide +kernel
theorem dX5_takeNumber_1 : decode cX5_takeNumber 1 = .ok (.getfield 75, 3) := by decide +kernel
theorem dX5_takeNumber_4 : decode cX5_takeNumber 4 = .ok (.aload_n 0, 1) := by decide +kernel
theorem dX5_takeNumber_5 : decode cX5_takeNumber 5 = .ok (.getfield 45, 3) := by decide +kernel
theorem dX5_takeNumber_8 : decode cX5_takeNumber 8 = .ok (.isub, 1) := by decide +kernel
theorem dX5_takeNumber_9 : decode cX5_takeNumber 9 = .ok (.istore_n 2, 1) := by decide +kernel
theorem dX5_takeNumber_10 : decode cX5_takeNumber 10 = .ok (.iload_n 2, 1) := by decide +kernel
theorem dX5_takeNumber_11 : decode cX5_takeNumber 11 = .ok (.iconst 3, 1) := by decide +kernel
theorem dX5_takeNumber_12 : decode cX5_takeNumber 12 = .ok (.if_icmp .gt 22, 3) := by decide +kernel
theorem dX5_takeNumber_15 : decode cX5_takeNumber 15 = .ok (.iload_n 2, 1) := by decide +kernel
theorem dX5_takeNumber_16 : decode cX5_takeNumber 16 = .ok (.iconst 1, 1) := by decide +kernel
theorem dX5_takeNumber_17 : decode cX5_takeNumber 17 = .ok (.if_icmp .le 19, 3) := by decide +kernel
theorem dX5_takeNumber_20 : decode cX5_takeNumber 20 = .ok (.aload_n 0, 1) := by decide +kernel
theorem dX5_takeNumber_21 : decode cX5_takeNumber 21 = .ok (.getfield 9, 3) := by decide +kernel
theorem dX5_takeNumber_24 : decode cX5_takeNumber 24 = .ok (.aload_n 0, 1) := by decide +kernel
theorem dX5_takeNumber_25 : decode cX5_takeNumber 25 = .ok (.getfield 45, 3) := by decide +kernel
theorem dX5_takeNumber_28 : decode cX5_takeNumber 28 = .ok (.iaload, 1) := by decide +kernel
theorem dX5_takeNumber_29 : decode cX5_takeNumber 29 = .ok (.bipush 48, 2) := by decide +kernel
theorem dX5_takeNumber_31 : decode cX5_takeNumber 31 = .ok (.if_icmp .ne 5, 3) := by decide +kernel
theorem dX5_takeNumber_34 : decode cX5_takeNumber 34 = .ok (.iconst 0, 1) := by decide +kernel
theorem dX5_takeNumber_35 : decode cX5_takeNumber 35 = .ok (.ireturn, 1) := by decide +kernel
theorem dX5_takeNumber_36 : decode cX5_takeNumber 36 = .ok (.iconst 0, 1) := by decide +kernel
theorem dX5_takeNumber_37 : decode cX5_takeNumber 37 = .ok (.istore_n 3, 1) := by decide +kernel
theorem dX5_takeNumber_38 : decode cX5_takeNumber 38 = .ok (.aload_n 0, 1) := by decide +kernel
theorem dX5_takeNumber_39 : decode cX5_takeNumber 39 = .ok (.getfield 45, 3) := by decide +kernel
theorem dX5_takeNumber_42 : decode cX5_takeNumber 42 = .ok (.istore 4, 2) := by decide +kernel
theorem dX5_takeNumber_44 : decode cX5_takeNumber 44 = .ok (.iload 4, 2) := by decide +kernel
theorem dX5_takeNumber_46 : decode cX5_takeNumber 46 = .ok (.aload_n 0, 1) := by decide +kernel
theorem dX5_takeNumber_47 : decode cX5_takeNumber 47 = .ok (.getfield 75, 3) := by decide +kernel
theorem dX5_takeNumber_50 : decode cX5_takeNumber 50 = .ok (.if_icmp .ge 40, 3) := by decide +kernel
theorem dX5_takeNumber_53 : decode cX5_takeNumber 53 = .ok (.aload_n 0, 1) := by decide +kernel
theorem dX5_takeNumber_54 : decode cX5_takeNumber 54 = .ok (.getfield 9, 3) := by decide +kernel
theorem dX5_takeNumber_57 : decode cX5_takeNumber 57 = .ok (.iload 4, 2) := by decide +kernel
theorem dX5_takeNumber_59 : decode cX5_takeNumber 59 = .ok (.iaload, 1) := by decide +kernel
theorem dX5_takeNumber_60 : decode cX5_takeNumber 60 = .ok (.invokestatic 85, 3) := by decide +kernel
theorem dX5_takeNumber_63 : decode cX5_takeNumber 63 = .ok (.ifCond .ne 5, 3) := by decide +kernel
theorem dX5_takeNumber_66 : decode cX5_takeNumber 66 = .ok (.iconst 0, 1) := by decide +kernel
theorem dX5_takeNumber_67 : decode cX5_takeNumber 67 = .ok (.ireturn, 1) := by decide +kernel
theorem dX5_takeNumber_68 : decode cX5_takeNumber 68 = .ok (.bipush 10, 2) := by decide +kernel
theorem dX5_takeNumber_70 : decode cX5_takeNumber 70 = .ok (.iload_n 3, 1) := by decide +kernel
theorem dX5_takeNumber_71 : decode cX5_takeNumber 71 = .ok (.imul, 1) := by decide +kernel
theorem dX5_takeNumber_72 : decode cX5_takeNumber 72 = .ok (.aload_n 0, 1) := by decide +kernel
theorem dX5_takeNumber_73 : decode cX5_takeNumber 73 = .ok (.getfield 9, 3) := by decide +kernel
theorem dX5_takeNumber_76 : decode cX5_takeNumber 76 = .ok (.iload 4, 2) := by decide +kernel
theorem dX5_takeNumber_78 : decode cX5_takeNumber 78 = .ok (.iaload, 1) := by decide +kernel
theorem dX5_takeNumber_79 : decode cX5_takeNumber 79 = .ok (.iadd, 1) := by decide +kernel
theorem dX5_takeNumber_80 : decode cX5_takeNumber 80 = .ok (.bipush 48, 2) := by decide +kernel
theorem dX5_takeNumber_82 : decode cX5_takeNumber 82 = .ok (.isub, 1) := by decide +kernel
theorem dX5_takeNumber_83 : decode cX5_takeNumber 83 = .ok (.istore_n 3, 1) := by decide +kernel
theorem dX5_takeNumber_84 : decode cX5_takeNumber 84 = .ok (.iinc 4 1, 3) := by decide +kernel
theorem dX5_takeNumber_87 : decode cX5_takeNumber 87 = .ok (.goto (-43), 3) := by decide +kernel
theorem dX5_takeNumber_90 : decode cX5_takeNumber 90 = .ok (.iload_n 1, 1) := by decide +kernel
theorem dX5_takeNumber_91 : decode cX5_takeNumber 91 = .ok (.ifCond .eq 11, 3) := by decide +kernel
theorem dX5_takeNumber_94 : decode cX5_takeNumber 94 = .ok (.aload_n 0, 1) := by decide +kernel
theorem dX5_takeNumber_95 : decode cX5_takeNumber 95 = .ok (.iload_n 3, 1) := by decide +kernel
theorem dX5_takeNumber_96 : decode cX5_takeNumber 96 = .ok (.putfield 88, 3) := by decide +kernel
theorem dX5_takeNumber_99 : decode cX5_takeNumber 99 = .ok (.goto 8, 3) := by decide +kernel
theorem dX5_takeNumber_102 : decode cX5_takeNumber 102 = .ok (.aload_n 0, 1) := by decide +kernel
theorem dX5_takeNumber_103 : decode cX5_takeNumber 103 = .ok (.iload_n 3, 1) := by decide +kernel
theorem dX5_takeNumber_104 : decode cX5_takeNumber 104 = .ok (.putfield 91, 3) := by decide +kernel
theorem dX5_takeNumber_107 : decode cX5_takeNumber 107 = .ok (.iconst 1, 1) := by decide +kernel
theorem dX5_takeNumber_108 : decode cX5_takeNumber 108 = .ok (.ireturn, 1) := by decide +kernel
theorem dX5_takeAlign_0 : decode cX5_takeAlign 0 = .ok (.iconst 0, 1) := by decide +kernel
theorem dX5_takeAlign_1 : decode cX5_takeAlign 1 = .ok (.istore_n 1, 1) := by decide +kernel
theorem dX5_takeAlign_2 : decode cX5_takeAlign 2 = .ok (.iload_n 1, 1) := by decide +kernel
theorem dX5_takeAlign_3 : decode cX5_takeAlign 3 = .ok (.iconst 4, 1) := by decide +kernel
theorem dX5_takeAlign_4 : decode cX5_takeAlign 4 = .ok (.if_icmp .ge 27, 3) := by decide +kernel
theorem dX5_takeAlign_7 : decode cX5_takeAlign 7 = .ok (.aload_n 0, 1) := by decide +kernel
theorem dX5_takeAlign_8 : decode cX5_takeAlign 8 = .ok (.iload_n 1, 1) := by decide +kernel
theorem dX5_takeAlign_9 : decode cX5_takeAlign 9 = .ok (.invokestatic 94, 3) := by decide +kernel
theorem dX5_takeAlign_12 : decode cX5_takeAlign 12 = .ok (.invokevirtual 97, 3) := by decide +kernel
theorem dX5_takeAlign_15 : decode cX5_takeAlign 15 = .ok (.ifCond .eq 10, 3) := by decide +kernel
theorem dX5_takeAlign_18 : decode cX5_takeAlign 18 = .ok (.aload_n 0, 1) := by decide +kernel
theorem dX5_takeAlign_19 : decode cX5_takeAlign 19 = .ok (.iload_n 1, 1) := by decide +kernel
theorem dX5_takeAlign_20 : decode cX5_takeAlign 20 = .ok (.putfield 91, 3) := by decide +kernel
theorem dX5_takeAlign_23 : decode cX5_takeAlign 23 = .ok (.iconst 1, 1) := by decide +kernel
theorem dX5_takeAlign_24 : decode cX5_takeAlign 24 = .ok (.ireturn, 1) := by decide +kernel
theorem dX5_takeAlign_25 : decode cX5_takeAlign 25 = .ok (.iinc 1 1, 3) := by decide +kernel
theorem dX5_takeAlign_28 : decode cX5_takeAlign 28 = .ok (.goto (-26), 3) := by decide +kernel
theorem dX5_takeAlign_31 : decode cX5_takeAlign 31 = .ok (.iconst 0, 1) := by decide +kernel
theorem dX5_takeAlign_32 : decode cX5_takeAlign 32 = .ok (.ireturn, 1) := by decide +kernel
theorem dX5_verbOfWord_0 : decode cX5_verbOfWord 0 = .ok (.iconst 0, 1) := by decide +kernel
theorem dX5_verbOfWord_1 : decode cX5_verbOfWord 1 = .ok (.istore_n 1, 1) := by decide +kernel
theorem dX5_verbOfWord_2 : decode cX5_verbOfWord 2 = .ok (.iload_n 1, 1) := by decide +kernel
theorem dX5_verbOfWord_3 : decode cX5_verbOfWord 3 = .ok (.bipush 9, 2) := by decide +kernel
theorem dX5_verbOfWord_5 : decode cX5_verbOfWord 5 = .ok (.if_icmp .ge 22, 3) := by decide +kernel
theorem dX5_verbOfWord_8 : decode cX5_verbOfWord 8 = .ok (.aload_n 0, 1) := by decide +kernel
theorem dX5_verbOfWord_9 : decode cX5_verbOfWord 9 = .ok (.iload_n 1, 1) := by decide +kernel
theorem dX5_verbOfWord_10 : decode cX5_verbOfWord 10 = .ok (.invokestatic 101, 3) := by decide +kernel
theorem dX5_verbOfWord_13 : decode cX5_verbOfWord 13 = .ok (.invokevirtual 97, 3) := by decide +kernel
theorem dX5_verbOfWord_16 : decode cX5_verbOfWord 16 = .ok (.ifCond .eq 5, 3) := by decide +kernel
theorem dX5_verbOfWord_19 : decode cX5_verbOfWord 19 = .ok (.iload_n 1, 1) := by decide +kernel
theorem dX5_verbOfWord_20 : decode cX5_verbOfWord 20 = .ok (.ireturn, 1) := by decide +kernel
theorem dX5_verbOfWord_21 : decode cX5_verbOfWord 21 = .ok (.iinc 1 1, 3) := by decide +kernel
theorem dX5_verbOfWord_24 : decode cX5_verbOfWord 24 = .ok (.goto (-22), 3) := by decide +kernel
theorem dX5_verbOfWord_27 : decode cX5_verbOfWord 27 = .ok (.bipush (-9), 2) := by decide +kernel
theorem dX5_verbOfWord_29 : decode cX5_verbOfWord 29 = .ok (.ireturn, 1) := by decide +kernel
theorem dX5_isWord_0 : decode cX5_isWord 0 = .ok (.aload_n 1, 1) := by decide +kernel
theorem dX5_isWord_1 : decode cX5_isWord 1 = .ok (.invokevirtual 56, 3) := by decide +kernel
theorem dX5_isWord_4 : decode cX5_isWord 4 = .ok (.aload_n 0, 1) := by decide +kernel
theorem dX5_isWord_5 : decode cX5_isWord 5 = .ok (.getfield 75, 3) := by decide +kernel
theorem dX5_isWord_8 : decode cX5_isWord 8 = .ok (.aload_n 0, 1) := by decide +kernel
theorem dX5_isWord_9 : decode cX5_isWord 9 = .ok (.getfield 45, 3) := by decide +kernel
theorem dX5_isWord_12 : decode cX5_isWord 12 = .ok (.isub, 1) := by decide +kernel
theorem dX5_isWord_13 : decode cX5_isWord 13 = .ok (.if_icmp .eq 5, 3) := by decide +kernel
theorem dX5_isWord_16 : decode cX5_isWord 16 = .ok (.iconst 0, 1) := by decide +kernel
theorem dX5_isWord_17 : decode cX5_isWord 17 = .ok (.ireturn, 1) := by decide +kernel
theorem dX5_isWord_18 : decode cX5_isWord 18 = .ok (.iconst 0, 1) := by decide +kernel
theorem dX5_isWord_19 : decode cX5_isWord 19 = .ok (.istore_n 2, 1) := by decide +kernel
theorem dX5_isWord_20 : decode cX5_isWord 20 = .ok (.iload_n 2, 1) := by decide +kernel
theorem dX5_isWord_21 : decode cX5_isWord 21 = .ok (.aload_n 1, 1) := by decide +kernel
theorem dX5_isWord_22 : decode cX5_isWord 22 = .ok (.invokevirtual 56, 3) := by decide +kernel
theorem dX5_isWord_25 : decode cX5_isWord 25 = .ok (.if_icmp .ge 30, 3) := by decide +kernel
theorem dX5_isWord_28 : decode cX5_isWord 28 = .ok (.aload_n 1, 1) := by decide +kernel
theorem dX5_isWord_29 : decode cX5_isWord 29 = .ok (.iload_n 2, 1) := by decide +kernel
theorem dX5_isWord_30 : decode cX5_isWord 30 = .ok (.invokevirtual 61, 3) := by decide +kernel
theorem dX5_isWord_33 : decode cX5_isWord 33 = .ok (.aload_n 0, 1) := by decide +kernel
theorem dX5_isWord_34 : decode cX5_isWord 34 = .ok (.getfield 9, 3) := by decide +kernel
theorem dX5_isWord_37 : decode cX5_isWord 37 = .ok (.aload_n 0, 1) := by decide +kernel
theorem dX5_isWord_38 : decode cX5_isWord 38 = .ok (.getfield 45, 3) := by decide +kernel
theorem dX5_isWord_41 : decode cX5_isWord 41 = .ok (.iload_n 2, 1) := by decide +kernel
theorem dX5_isWord_42 : decode cX5_isWord 42 = .ok (.iadd, 1) := by decide +kernel
theorem dX5_isWord_43 : decode cX5_isWord 43 = .ok (.iaload, 1) := by decide +kernel
theorem dX5_isWord_44 : decode cX5_isWord 44 = .ok (.if_icmp .eq 5, 3) := by decide +kernel
theorem dX5_isWord_47 : decode cX5_isWord 47 = .ok (.iconst 0, 1) := by decide +kernel
theorem dX5_isWord_48 : decode cX5_isWord 48 = .ok (.ireturn, 1) := by decide +kernel
theorem dX5_isWord_49 : decode cX5_isWord 49 = .ok (.iinc 2 1, 3) := by decide +kernel
theorem dX5_isWord_52 : decode cX5_isWord 52 = .ok (.goto (-32), 3) := by decide +kernel
theorem dX5_isWord_55 : decode cX5_isWord 55 = .ok (.iconst 1, 1) := by decide +kernel
theorem dX5_isWord_56 : decode cX5_isWord 56 = .ok (.ireturn, 1) := by decide +kernel
theorem dX5_isLoneDash_0 : decode cX5_isLoneDash 0 = .ok (.aload_n 0, 1) := by decide +kernel
theorem dX5_isLoneDash_1 : decode cX5_isLoneDash 1 = .ok (.getfield 75, 3) := by decide +kernel
theorem dX5_isLoneDash_4 : decode cX5_isLoneDash 4 = .ok (.aload_n 0, 1) := by decide +kernel
theorem dX5_isLoneDash_5 : decode cX5_isLoneDash 5 = .ok (.getfield 45, 3) := by decide +kernel
theorem dX5_isLoneDash_8 : decode cX5_isLoneDash 8 = .ok (.isub, 1) := by decide +kernel
theorem dX5_isLoneDash_9 : decode cX5_isLoneDash 9 = .ok (.iconst 1, 1) := by decide +kernel
theorem dX5_isLoneDash_10 : decode cX5_isLoneDash 10 = .ok (.if_icmp .ne 21, 3) := by decide +kernel
theorem dX5_isLoneDash_13 : decode cX5_isLoneDash 13 = .ok (.aload_n 0, 1) := by decide +kernel
theorem dX5_isLoneDash_14 : decode cX5_isLoneDash 14 = .ok (.getfield 9, 3) := by decide +kernel
theorem dX5_isLoneDash_17 : decode cX5_isLoneDash 17 = .ok (.aload_n 0, 1) := by decide +kernel
theorem dX5_isLoneDash_18 : decode cX5_isLoneDash 18 = .ok (.getfield 45, 3) := by decide +kernel
theorem dX5_isLoneDash_21 : decode cX5_isLoneDash 21 = .ok (.iaload, 1) := by decide +kernel
theorem dX5_isLoneDash_22 : decode cX5_isLoneDash 22 = .ok (.bipush 45, 2) := by decide +kernel
theorem dX5_isLoneDash_24 : decode cX5_isLoneDash 24 = .ok (.if_icmp .ne 7, 3) := by decide +kernel
theorem dX5_isLoneDash_27 : decode cX5_isLoneDash 27 = .ok (.iconst 1, 1) := by decide +kernel
theorem dX5_isLoneDash_28 : decode cX5_isLoneDash 28 = .ok (.goto 4, 3) := by decide +kernel
theorem dX5_isLoneDash_31 : decode cX5_isLoneDash 31 = .ok (.iconst 0, 1) := by decide +kernel
theorem dX5_isLoneDash_32 : decode cX5_isLoneDash 32 = .ok (.ireturn, 1) := by decide +kernel
theorem dX5_isSign_0 : decode cX5_isSign 0 = .ok (.iload_n 0, 1) := by decide +kernel
theorem dX5_isSign_1 : decode cX5_isSign 1 = .ok (.bipush 97, 2) := by decide +kernel
theorem dX5_isSign_3 : decode cX5_isSign 3 = .ok (.if_icmp .lt 9, 3) := by decide +kernel
theorem dX5_isSign_6 : decode cX5_isSign 6 = .ok (.iload_n 0, 1) := by decide +kernel
theorem dX5_isSign_7 : decode cX5_isSign 7 = .ok (.bipush 122, 2) := by decide +kernel
theorem dX5_isSign_9 : decode cX5_isSign 9 = .ok (.if_icmp .le 28, 3) := by decide +kernel
theorem dX5_isSign_12 : decode cX5_isSign 12 = .ok (.iload_n 0, 1) := by decide +kernel
theorem dX5_isSign_13 : decode cX5_isSign 13 = .ok (.invokestatic 85, 3) := by decide +kernel
theorem dX5_isSign_16 : decode cX5_isSign 16 = .ok (.ifCond .ne 21, 3) := by decide +kernel
theorem dX5_isSign_19 : decode cX5_isSign 19 = .ok (.iload_n 0, 1) := by decide +kernel
theorem dX5_isSign_20 : decode cX5_isSign 20 = .ok (.bipush 46, 2) := by decide +kernel
theorem dX5_isSign_22 : decode cX5_isSign 22 = .ok (.if_icmp .eq 15, 3) := by decide +kernel
theorem dX5_isSign_25 : decode cX5_isSign 25 = .ok (.iload_n 0, 1) := by decide +kernel
theorem dX5_isSign_26 : decode cX5_isSign 26 = .ok (.bipush 45, 2) := by decide +kernel
theorem dX5_isSign_28 : decode cX5_isSign 28 = .ok (.if_icmp .eq 9, 3) := by decide +kernel
theorem dX5_isSign_31 : decode cX5_isSign 31 = .ok (.iload_n 0, 1) := by decide +kernel
theorem dX5_isSign_32 : decode cX5_isSign 32 = .ok (.bipush 124, 2) := by decide +kernel
theorem dX5_isSign_34 : decode cX5_isSign 34 = .ok (.if_icmp .ne 7, 3) := by decide +kernel
theorem dX5_isSign_37 : decode cX5_isSign 37 = .ok (.iconst 1, 1) := by decide +kernel
theorem dX5_isSign_38 : decode cX5_isSign 38 = .ok (.goto 4, 3) := by decide +kernel
theorem dX5_isSign_41 : decode cX5_isSign 41 = .ok (.iconst 0, 1) := by decide +kernel
theorem dX5_isSign_42 : decode cX5_isSign 42 = .ok (.ireturn, 1) := by decide +kernel
theorem dX5_isFigure_0 : decode cX5_isFigure 0 = .ok (.iload_n 0, 1) := by decide +kernel
theorem dX5_isFigure_1 : decode cX5_isFigure 1 = .ok (.bipush 48, 2) := by decide +kernel
theorem dX5_isFigure_3 : decode cX5_isFigure 3 = .ok (.if_icmp .lt 13, 3) := by decide +kernel
theorem dX5_isFigure_6 : decode cX5_isFigure 6 = .ok (.iload_n 0, 1) := by decide +kernel
theorem dX5_isFigure_7 : decode cX5_isFigure 7 = .ok (.bipush 57, 2) := by decide +kernel
theorem dX5_isFigure_9 : decode cX5_isFigure 9 = .ok (.if_icmp .gt 7, 3) := by decide +kernel
theorem dX5_isFigure_12 : decode cX5_isFigure 12 = .ok (.iconst 1, 1) := by decide +kernel
theorem dX5_isFigure_13 : decode cX5_isFigure 13 = .ok (.goto 4, 3) := by decide +kernel
theorem dX5_isFigure_16 : decode cX5_isFigure 16 = .ok (.iconst 0, 1) := by decide +kernel
theorem dX5_isFigure_17 : decode cX5_isFigure 17 = .ok (.ireturn, 1) := by decide +kernel
theorem dX5_nameOfAlign_0 : decode cX5_nameOfAlign 0 = .ok (.iload_n 0, 1) := by decide +kernel
theorem dX5_nameOfAlign_1 : decode cX5_nameOfAlign 1 = .ok (.tableswitch 36 0 2 #[27, 30, 33], 27) := by decide +kernel
theorem dX5_nameOfAlign_28 : decode cX5_nameOfAlign 28 = .ok (.ldc 104, 2) := by decide +kernel
theorem dX5_nameOfAlign_30 : decode cX5_nameOfAlign 30 = .ok (.areturn, 1) := by decide +kernel
theorem dX5_nameOfAlign_31 : decode cX5_nameOfAlign 31 = .ok (.ldc 106, 2) := by decide +kernel
theorem dX5_nameOfAlign_33 : decode cX5_nameOfAlign 33 = .ok (.areturn, 1) := by decide +kernel
theorem dX5_nameOfAlign_34 : decode cX5_nameOfAlign 34 = .ok (.ldc 108, 2) := by decide +kernel
theorem dX5_nameOfAlign_36 : decode cX5_nameOfAlign 36 = .ok (.areturn, 1) := by decide +kernel
theorem dX5_nameOfAlign_37 : decode cX5_nameOfAlign 37 = .ok (.ldc 110, 2) := by decide +kernel
theorem dX5_nameOfAlign_39 : decode cX5_nameOfAlign 39 = .ok (.areturn, 1) := by decide +kernel
theorem dX5_nameOfVerb_0 : decode cX5_nameOfVerb 0 = .ok (.iload_n 0, 1) := by decide +kernel
theorem dX5_nameOfVerb_1 : decode cX5_nameOfVerb 1 = .ok (.tableswitch 71 0 7 #[47, 50, 53, 56, 59, 62, 65, 68], 47) := by decide +kernel
theorem dX5_nameOfVerb_48 : decode cX5_nameOfVerb 48 = .ok (.ldc 112, 2) := by decide +kernel
theorem dX5_nameOfVerb_50 : decode cX5_nameOfVerb 50 = .ok (.areturn, 1) := by decide +kernel
theorem dX5_nameOfVerb_51 : decode cX5_nameOfVerb 51 = .ok (.ldc 114, 2) := by decide +kernel
theorem dX5_nameOfVerb_53 : decode cX5_nameOfVerb 53 = .ok (.areturn, 1) := by decide +kernel
theorem dX5_nameOfVerb_54 : decode cX5_nameOfVerb 54 = .ok (.ldc 116, 2) := by decide +kernel
theorem dX5_nameOfVerb_56 : decode cX5_nameOfVerb 56 = .ok (.areturn, 1) := by decide +kernel
theorem dX5_nameOfVerb_57 : decode cX5_nameOfVerb 57 = .ok (.ldc 118, 2) := by decide +kernel
theorem dX5_nameOfVerb_59 : decode cX5_nameOfVerb 59 = .ok (.areturn, 1) := by decide +kernel
theorem dX5_nameOfVerb_60 : decode cX5_nameOfVerb 60 = .ok (.ldc 120, 2) := by decide +kernel
theorem dX5_nameOfVerb_62 : decode cX5_nameOfVerb 62 = .ok (.areturn, 1) := by decide +kernel
theorem dX5_nameOfVerb_63 : decode cX5_nameOfVerb 63 = .ok (.ldc 122, 2) := by decide +kernel
theorem dX5_nameOfVerb_65 : decode cX5_nameOfVerb 65 = .ok (.areturn, 1) := by decide +kernel
theorem dX5_nameOfVerb_66 : decode cX5_nameOfVerb 66 = .ok (.ldc 124, 2) := by decide +kernel
theorem dX5_nameOfVerb_68 : decode cX5_nameOfVerb 68 = .ok (.areturn, 1) := by decide +kernel
theorem dX5_nameOfVerb_69 : decode cX5_nameOfVerb 69 = .ok (.ldc 126, 2) := by decide +kernel
theorem dX5_nameOfVerb_71 : decode cX5_nameOfVerb 71 = .ok (.areturn, 1) := by decide +kernel
theorem dX5_nameOfVerb_72 : decode cX5_nameOfVerb 72 = .ok (.ldc 128, 2) := by decide +kernel
theorem dX5_nameOfVerb_74 : decode cX5_nameOfVerb 74 = .ok (.areturn, 1) := by decide +kernel
theorem dX5_shapeOf_0 : decode cX5_shapeOf 0 = .ok (.iload_n 0, 1) := by decide +kernel
theorem dX5_shapeOf_1 : decode cX5_shapeOf 1 = .ok (.tableswitch 58 0 6 #[43, 58, 46, 58, 49, 52, 55], 43) := by decide +kernel
theorem dX5_shapeOf_44 : decode cX5_shapeOf 44 = .ok (.ldc 130, 2) := by decide +kernel
theorem dX5_shapeOf_46 : decode cX5_shapeOf 46 = .ok (.areturn, 1) := by decide +kernel
theorem dX5_shapeOf_47 : decode cX5_shapeOf 47 = .ok (.ldc 132, 2) := by decide +kernel
theorem dX5_shapeOf_49 : decode cX5_shapeOf 49 = .ok (.areturn, 1) := by decide +kernel
theorem dX5_shapeOf_50 : decode cX5_shapeOf 50 = .ok (.ldc 134, 2) := by decide +kernel
theorem dX5_shapeOf_52 : decode cX5_shapeOf 52 = .ok (.areturn, 1) := by decide +kernel
theorem dX5_shapeOf_53 : decode cX5_shapeOf 53 = .ok (.ldc 132, 2) := by decide +kernel
theorem dX5_shapeOf_55 : decode cX5_shapeOf 55 = .ok (.areturn, 1) := by decide +kernel
theorem dX5_shapeOf_56 : decode cX5_shapeOf 56 = .ok (.ldc 136, 2) := by decide +kernel
theorem dX5_shapeOf_58 : decode cX5_shapeOf 58 = .ok (.areturn, 1) := by decide +kernel
theorem dX5_shapeOf_59 : decode cX5_shapeOf 59 = .ok (.ldc 138, 2) := by decide +kernel
theorem dX5_shapeOf_61 : decode cX5_shapeOf 61 = .ok (.areturn, 1) := by decide +kernel
theorem dX6_init_0 : decode cX6_init 0 = .ok (.aload_n 0, 1) := by decide +kernel
theorem dX6_init_1 : decode cX6_init 1 = .ok (.invokespecial 1, 3) := by decide +kernel
theorem dX6_init_4 : decode cX6_init 4 = .ok (.aload_n 0, 1) := by decide +kernel
theorem dX6_init_5 : decode cX6_init 5 = .ok (.new 7, 3) := by decide +kernel
theorem dX6_init_8 : decode cX6_init 8 = .ok (.dup, 1) := by decide +kernel
theorem dX6_init_9 : decode cX6_init 9 = .ok (.invokespecial 9, 3) := by decide +kernel
theorem dX6_init_12 : decode cX6_init 12 = .ok (.putfield 10, 3) := by decide +kernel
theorem dX6_init_15 : decode cX6_init 15 = .ok (.aload_n 0, 1) := by decide +kernel
theorem dX6_init_16 : decode cX6_init 16 = .ok (.new 16, 3) := by decide +kernel
theorem dX6_init_19 : decode cX6_init 19 = .ok (.dup, 1) := by decide +kernel
theorem dX6_init_20 : decode cX6_init 20 = .ok (.invokespecial 18, 3) := by decide +kernel
theorem dX6_init_23 : decode cX6_init 23 = .ok (.putfield 19, 3) := by decide +kernel
theorem dX6_init_26 : decode cX6_init 26 = .ok (.aload_n 0, 1) := by decide +kernel
theorem dX6_init_27 : decode cX6_init 27 = .ok (.new 23, 3) := by decide +kernel
theorem dX6_init_30 : decode cX6_init 30 = .ok (.dup, 1) := by decide +kernel
theorem dX6_init_31 : decode cX6_init 31 = .ok (.invokespecial 25, 3) := by decide +kernel
theorem dX6_init_34 : decode cX6_init 34 = .ok (.putfield 26, 3) := by decide +kernel
theorem dX6_init_37 : decode cX6_init 37 = .ok (.aload_n 0, 1) := by decide +kernel
theorem dX6_init_38 : decode cX6_init 38 = .ok (.iconst 2, 1) := by decide +kernel
theorem dX6_init_39 : decode cX6_init 39 = .ok (.anewarray 30, 3) := by decide +kernel
theorem dX6_init_42 : decode cX6_init 42 = .ok (.putfield 32, 3) := by decide +kernel
theorem dX6_init_45 : decode cX6_init 45 = .ok (.aload_n 0, 1) := by decide +kernel
theorem dX6_init_46 : decode cX6_init 46 = .ok (.new 36, 3) := by decide +kernel
theorem dX6_init_49 : decode cX6_init 49 = .ok (.dup, 1) := by decide +kernel
theorem dX6_init_50 : decode cX6_init 50 = .ok (.invokespecial 38, 3) := by decide +kernel
theorem dX6_init_53 : decode cX6_init 53 = .ok (.putfield 39, 3) := by decide +kernel
theorem dX6_init_56 : decode cX6_init 56 = .ok (.aload_n 0, 1) := by decide +kernel
theorem dX6_init_57 : decode cX6_init 57 = .ok (.new 36, 3) := by decide +kernel
theorem dX6_init_60 : decode cX6_init 60 = .ok (.dup, 1) := by decide +kernel
theorem dX6_init_61 : decode cX6_init 61 = .ok (.invokespecial 38, 3) := by decide +kernel
theorem dX6_init_64 : decode cX6_init 64 = .ok (.putfield 43, 3) := by decide +kernel
theorem dX6_init_67 : decode cX6_init 67 = .ok (.iconst 0, 1) := by decide +kernel
theorem dX6_init_68 : decode cX6_init 68 = .ok (.istore_n 1, 1) := by decide +kernel
theorem dX6_init_69 : decode cX6_init 69 = .ok (.iload_n 1, 1) := by decide +kernel
theorem dX6_init_70 : decode cX6_init 70 = .ok (.iconst 2, 1) := by decide +kernel
theorem dX6_init_71 : decode cX6_init 71 = .ok (.if_icmp .ge 22, 3) := by decide +kernel
theorem dX6_init_74 : decode cX6_init 74 = .ok (.aload_n 0, 1) := by decide +kernel
theorem dX6_init_75 : decode cX6_init 75 = .ok (.getfield 32, 3) := by decide +kernel
theorem dX6_init_78 : decode cX6_init 78 = .ok (.iload_n 1, 1) := by decide +kernel
theorem dX6_init_79 : decode cX6_init 79 = .ok (.new 30, 3) := by decide +kernel
theorem dX6_init_82 : decode cX6_init 82 = .ok (.dup, 1) := by decide +kernel
theorem dX6_init_83 : decode cX6_init 83 = .ok (.invokespecial 46, 3) := by decide +kernel
theorem dX6_init_86 : decode cX6_init 86 = .ok (.aastore, 1) := by decide +kernel
theorem dX6_init_87 : decode cX6_init 87 = .ok (.iinc 1 1, 3) := by decide +kernel
theorem dX6_init_90 : decode cX6_init 90 = .ok (.goto (-21), 3) := by decide +kernel
theorem dX6_init_93 : decode cX6_init 93 = .ok (.return_, 1) := by decide +kernel
theorem dX6_type_0 : decode cX6_type 0 = .ok (.iload_n 1, 1) := by decide +kernel
theorem dX6_type_1 : decode cX6_type 1 = .ok (.ifCond .lt 10, 3) := by decide +kernel
theorem dX6_type_4 : decode cX6_type 4 = .ok (.iload_n 1, 1) := by decide +kernel
theorem dX6_type_5 : decode cX6_type 5 = .ok (.sipush 255, 3) := by decide +kernel
theorem dX6_type_8 : decode cX6_type 8 = .ok (.if_icmp .le 5, 3) := by decide +kernel
theorem dX6_type_11 : decode cX6_type 11 = .ok (.iconst (-1), 1) := by decide +kernel
theorem dX6_type_12 : decode cX6_type 12 = .ok (.ireturn, 1) := by decide +kernel
theorem dX6_type_13 : decode cX6_type 13 = .ok (.aload_n 0, 1) := by decide +kernel
theorem dX6_type_14 : decode cX6_type 14 = .ok (.getfield 26, 3) := by decide +kernel
theorem dX6_type_17 : decode cX6_type 17 = .ok (.getfield 47, 3) := by decide +kernel
theorem dX6_type_20 : decode cX6_type 20 = .ok (.sipush 150, 3) := by decide +kernel
theorem dX6_type_23 : decode cX6_type 23 = .ok (.if_icmp .lt 6, 3) := by decide +kernel
theorem dX6_type_26 : decode cX6_type 26 = .ok (.bipush (-3), 2) := by decide +kernel
theorem dX6_type_28 : decode cX6_type 28 = .ok (.ireturn, 1) := by decide +kernel
theorem dX6_type_29 : decode cX6_type 29 = .ok (.aload_n 0, 1) := by decide +kernel
theorem dX6_type_30 : decode cX6_type 30 = .ok (.getfield 26, 3) := by decide +kernel
theorem dX6_type_33 : decode cX6_type 33 = .ok (.getfield 51, 3) := by decide +kernel
theorem dX6_type_36 : decode cX6_type 36 = .ok (.aload_n 0, 1) := by decide +kernel
theorem dX6_type_37 : decode cX6_type 37 = .ok (.getfield 26, 3) := by decide +kernel
theorem dX6_type_40 : decode cX6_type 40 = .ok (.getfield 47, 3) := by decide +kernel
theorem dX6_type_43 : decode cX6_type 43 = .ok (.iload_n 1, 1) := by decide +kernel
theorem dX6_type_44 : decode cX6_type 44 = .ok (.iastore, 1) := by decide +kernel
theorem dX6_type_45 : decode cX6_type 45 = .ok (.aload_n 0, 1) := by decide +kernel
theorem dX6_type_46 : decode cX6_type 46 = .ok (.getfield 26, 3) := by decide +kernel
theorem dX6_type_49 : decode cX6_type 49 = .ok (.dup, 1) := by decide +kernel
theorem dX6_type_50 : decode cX6_type 50 = .ok (.getfield 47, 3) := by decide +kernel
theorem dX6_type_53 : decode cX6_type 53 = .ok (.iconst 1, 1) := by decide +kernel
theorem dX6_type_54 : decode cX6_type 54 = .ok (.iadd, 1) := by decide +kernel
theorem dX6_type_55 : decode cX6_type 55 = .ok (.putfield 47, 3) := by decide +kernel
theorem dX6_type_58 : decode cX6_type 58 = .ok (.aload_n 0, 1) := by decide +kernel
theorem dX6_type_59 : decode cX6_type 59 = .ok (.getfield 26, 3) := by decide +kernel
theorem dX6_type_62 : decode cX6_type 62 = .ok (.getfield 47, 3) := by decide +kernel
theorem dX6_type_65 : decode cX6_type 65 = .ok (.ireturn, 1) := by decide +kernel
theorem dX6_clear_0 : decode cX6_clear 0 = .ok (.aload_n 0, 1) := by decide +kernel
theorem dX6_clear_1 : decode cX6_clear 1 = .ok (.getfield 26, 3) := by decide +kernel
theorem dX6_clear_4 : decode cX6_clear 4 = .ok (.getfield 47, 3) := by decide +kernel
theorem dX6_clear_7 : decode cX6_clear 7 = .ok (.istore_n 1, 1) := by decide +kernel
theorem dX6_clear_8 : decode cX6_clear 8 = .ok (.aload_n 0, 1) := by decide +kernel
theorem dX6_clear_9 : decode cX6_clear 9 = .ok (.getfield 26, 3) := by decide +kernel
theorem dX6_clear_12 : decode cX6_clear 12 = .ok (.iconst 0, 1) := by decide +kernel
theorem dX6_clear_13 : decode cX6_clear 13 = .ok (.putfield 47, 3) := by decide +kernel
theorem dX6_clear_16 : decode cX6_clear 16 = .ok (.iload_n 1, 1) := by decide +kernel
theorem dX6_clear_17 : decode cX6_clear 17 = .ok (.ireturn, 1) := by decide +kernel
theorem dX6_run_0 : decode cX6_run 0 = .ok (.aload_n 0, 1) := by decide +kernel
theorem dX6_run_1 : decode cX6_run 1 = .ok (.getfield 26, 3) := by decide +kernel
theorem dX6_run_4 : decode cX6_run 4 = .ok (.invokevirtual 55, 3) := by decide +kernel
theorem dX6_run_7 : decode cX6_run 7 = .ok (.istore_n 1, 1) := by decide +kernel
theorem dX6_run_8 : decode cX6_run 8 = .ok (.iload_n 1, 1) := by decide +kernel
theorem dX6_run_9 : decode cX6_run 9 = .ok (.ifCond .lt 8, 3) := by decide +kernel
theorem dX6_run_12 : decode cX6_run 12 = .ok (.bipush (-10), 2) := by decide +kernel
theorem dX6_run_14 : decode cX6_run 14 = .ok (.iload_n 1, 1) := by decide +kernel
theorem dX6_run_15 : decode cX6_run 15 = .ok (.isub, 1) := by decide +kernel
theorem dX6_run_16 : decode cX6_run 16 = .ok (.ireturn, 1) := by decide +kernel
theorem dX6_run_17 : decode cX6_run 17 = .ok (.iconst 0, 1) := by decide +kernel
theorem dX6_run_18 : decode cX6_run 18 = .ok (.istore_n 2, 1) := by decide +kernel
theorem dX6_run_19 : decode cX6_run 19 = .ok (.aload_n 0, 1) := by decide +kernel
theorem dX6_run_20 : decode cX6_run 20 = .ok (.getfield 26, 3) := by decide +kernel
theorem dX6_run_23 : decode cX6_run 23 = .ok (.invokevirtual 59, 3) := by decide +kernel
theorem dX6_run_26 : decode cX6_run 26 = .ok (.iconst 0, 1) := by decide +kernel
theorem dX6_run_27 : decode cX6_run 27 = .ok (.istore_n 3, 1) := by decide +kernel
theorem dX6_run_28 : decode cX6_run 28 = .ok (.iload_n 3, 1) := by decide +kernel
theorem dX6_run_29 : decode cX6_run 29 = .ok (.sipush 150, 3) := by decide +kernel
theorem dX6_run_32 : decode cX6_run 32 = .ok (.if_icmp .ge 29, 3) := by decide +kernel
theorem dX6_run_35 : decode cX6_run 35 = .ok (.aload_n 0, 1) := by decide +kernel
theorem dX6_run_36 : decode cX6_run 36 = .ok (.getfield 26, 3) := by decide +kernel
theorem dX6_run_39 : decode cX6_run 39 = .ok (.invokevirtual 62, 3) := by decide +kernel
theorem dX6_run_42 : decode cX6_run 42 = .ok (.ifCond .eq 19, 3) := by decide +kernel
theorem dX6_run_45 : decode cX6_run 45 = .ok (.aload_n 0, 1) := by decide +kernel
theorem dX6_run_46 : decode cX6_run 46 = .ok (.invokevirtual 66, 3) := by decide +kernel
theorem dX6_run_49 : decode cX6_run 49 = .ok (.ifCond .lt 6, 3) := by decide +kernel
theorem dX6_run_52 : decode cX6_run 52 = .ok (.iinc 2 1, 3) := by decide +kernel
theorem dX6_run_55 : decode cX6_run 55 = .ok (.iinc 3 1, 3) := by decide +kernel
theorem dX6_run_58 : decode cX6_run 58 = .ok (.goto (-30), 3) := by decide +kernel
theorem dX6_run_61 : decode cX6_run 61 = .ok (.aload_n 0, 1) := by decide +kernel
theorem dX6_run_62 : decode cX6_run 62 = .ok (.getfield 26, 3) := by decide +kernel
theorem dX6_run_65 : decode cX6_run 65 = .ok (.iconst 0, 1) := by decide +kernel
theorem dX6_run_66 : decode cX6_run 66 = .ok (.putfield 47, 3) := by decide +kernel
theorem dX6_run_69 : decode cX6_run 69 = .ok (.iload_n 2, 1) := by decide +kernel
theorem dX6_run_70 : decode cX6_run 70 = .ok (.ireturn, 1) := by decide +kernel
theorem dX6_put_0 : decode cX6_put 0 = .ok (.aload_n 0, 1) := by decide +kernel
theorem dX6_put_1 : decode cX6_put 1 = .ok (.getfield 10, 3) := by decide +kernel
theorem dX6_put_4 : decode cX6_put 4 = .ok (.iload_n 1, 1) := by decide +kernel
theorem dX6_put_5 : decode cX6_put 5 = .ok (.invokevirtual 69, 3) := by decide +kernel
theorem dX6_put_8 : decode cX6_put 8 = .ok (.ifCond .eq 27, 3) := by decide +kernel
theorem dX6_put_11 : decode cX6_put 11 = .ok (.iload_n 2, 1) := by decide +kernel
theorem dX6_put_12 : decode cX6_put 12 = .ok (.ifCond .lt 23, 3) := by decide +kernel
theorem dX6_put_15 : decode cX6_put 15 = .ok (.iload_n 2, 1) := by decide +kernel
theorem dX6_put_16 : decode cX6_put 16 = .ok (.aload_n 0, 1) := by decide +kernel
theorem dX6_put_17 : decode cX6_put 17 = .ok (.getfield 10, 3) := by decide +kernel
theorem dX6_put_20 : decode cX6_put 20 = .ok (.getfield 73, 3) := by decide +kernel
theorem dX6_put_23 : decode cX6_put 23 = .ok (.iload_n 1, 1) := by decide +kernel
theorem dX6_put_24 : decode cX6_put 24 = .ok (.iaload, 1) := by decide +kernel
theorem dX6_put_25 : decode cX6_put 25 = .ok (.if_icmp .gt 10, 3) := by decide +kernel
theorem dX6_put_28 : decode cX6_put 28 = .ok (.iload_n 3, 1) := by decide +kernel
theorem dX6_put_29 : decode cX6_put 29 = .ok (.invokestatic 76, 3) := by decide +kernel
theorem dX6_put_32 : decode cX6_put 32 = .ok (.ifCond .ne 5, 3) := by decide +kernel
theorem dX6_put_35 : decode cX6_put 35 = .ok (.iconst (-1), 1) := by decide +kernel
theorem dX6_put_36 : decode cX6_put 36 = .ok (.ireturn, 1) := by decide +kernel
theorem dX6_put_37 : decode cX6_put 37 = .ok (.aload_n 0, 1) := by decide +kernel
theorem dX6_put_38 : decode cX6_put 38 = .ok (.getfield 10, 3) := by decide +kernel
theorem dX6_put_41 : decode cX6_put 41 = .ok (.getfield 73, 3) := by decide +kernel
theorem dX6_put_44 : decode cX6_put 44 = .ok (.iload_n 1, 1) := by decide +kernel
theorem dX6_put_45 : decode cX6_put 45 = .ok (.iaload, 1) := by decide +kernel
theorem dX6_put_46 : decode cX6_put 46 = .ok (.bipush 24, 2) := by decide +kernel
theorem dX6_put_48 : decode cX6_put 48 = .ok (.if_icmp .lt 6, 3) := by decide +kernel
theorem dX6_put_51 : decode cX6_put 51 = .ok (.bipush (-3), 2) := by decide +kernel
theorem dX6_put_53 : decode cX6_put 53 = .ok (.ireturn, 1) := by decide +kernel
theorem dX6_put_54 : decode cX6_put 54 = .ok (.aload_n 0, 1) := by decide +kernel
theorem dX6_put_55 : decode cX6_put 55 = .ok (.getfield 19, 3) := by decide +kernel
theorem dX6_put_58 : decode cX6_put 58 = .ok (.aload_n 0, 1) := by decide +kernel
theorem dX6_put_59 : decode cX6_put 59 = .ok (.getfield 10, 3) := by decide +kernel
theorem dX6_put_62 : decode cX6_put 62 = .ok (.invokevirtual 79, 3) := by decide +kernel
theorem dX6_put_65 : decode cX6_put 65 = .ok (.aload_n 0, 1) := by decide +kernel
theorem dX6_put_66 : decode cX6_put 66 = .ok (.getfield 10, 3) := by decide +kernel
theorem dX6_put_69 : decode cX6_put 69 = .ok (.iload_n 1, 1) := by decide +kernel
theorem dX6_put_70 : decode cX6_put 70 = .ok (.iload_n 2, 1) := by decide +kernel
theorem dX6_put_71 : decode cX6_put 71 = .ok (.iload_n 3, 1) := by decide +kernel
theorem dX6_put_72 : decode cX6_put 72 = .ok (.invokevirtual 83, 3) := by decide +kernel
theorem dX6_put_75 : decode cX6_put 75 = .ok (.aload_n 0, 1) := by decide +kernel
theorem dX6_put_76 : decode cX6_put 76 = .ok (.bipush (-9), 2) := by decide +kernel
theorem dX6_put_78 : decode cX6_put 78 = .ok (.bipush (-9), 2) := by decide +kernel
theorem dX6_put_80 : decode cX6_put 80 = .ok (.invokevirtual 87, 3) := by decide +kernel
theorem dX6_put_83 : decode cX6_put 83 = .ok (.aload_n 0, 1) := by decide +kernel
theorem dX6_put_84 : decode cX6_put 84 = .ok (.getfield 10, 3) := by decide +kernel
theorem dX6_put_87 : decode cX6_put 87 = .ok (.getfield 73, 3) := by decide +kernel
theorem dX6_put_90 : decode cX6_put 90 = .ok (.iload_n 1, 1) := by decide +kernel
theorem dX6_put_91 : decode cX6_put 91 = .ok (.iaload, 1) := by decide +kernel
theorem dX6_put_92 : decode cX6_put 92 = .ok (.ireturn, 1) := by decide +kernel
theorem dX6_cut_0 : decode cX6_cut 0 = .ok (.aload_n 0, 1) := by decide +kernel
theorem dX6_cut_1 : decode cX6_cut 1 = .ok (.getfield 10, 3) := by decide +kernel
theorem dX6_cut_4 : decode cX6_cut 4 = .ok (.iload_n 1, 1) := by decide +kernel
theorem dX6_cut_5 : decode cX6_cut 5 = .ok (.iload_n 2, 1) := by decide +kernel
theorem dX6_cut_6 : decode cX6_cut 6 = .ok (.invokevirtual 91, 3) := by decide +kernel
theorem dX6_cut_9 : decode cX6_cut 9 = .ok (.ifCond .ne 5, 3) := by decide +kernel
theorem dX6_cut_12 : decode cX6_cut 12 = .ok (.iconst (-1), 1) := by decide +kernel
theorem dX6_cut_13 : decode cX6_cut 13 = .ok (.ireturn, 1) := by decide +kernel
theorem dX6_cut_14 : decode cX6_cut 14 = .ok (.aload_n 0, 1) := by decide +kernel
theorem dX6_cut_15 : decode cX6_cut 15 = .ok (.getfield 10, 3) := by decide +kernel
theorem dX6_cut_18 : decode cX6_cut 18 = .ok (.iload_n 1, 1) := by decide +kernel
theorem dX6_cut_19 : decode cX6_cut 19 = .ok (.iload_n 2, 1) := by decide +kernel
theorem dX6_cut_20 : decode cX6_cut 20 = .ok (.invokevirtual 95, 3) := by decide +kernel
theorem dX6_cut_23 : decode cX6_cut 23 = .ok (.istore_n 3, 1) := by decide +kernel
theorem dX6_cut_24 : decode cX6_cut 24 = .ok (.aload_n 0, 1) := by decide +kernel
theorem dX6_cut_25 : decode cX6_cut 25 = .ok (.getfield 19, 3) := by decide +kernel
theorem dX6_cut_28 : decode cX6_cut 28 = .ok (.aload_n 0, 1) := by decide +kernel
theorem dX6_cut_29 : decode cX6_cut 29 = .ok (.getfield 10, 3) := by decide +kernel
theorem dX6_cut_32 : decode cX6_cut 32 = .ok (.invokevirtual 79, 3) := by decide +kernel
theorem dX6_cut_35 : decode cX6_cut 35 = .ok (.aload_n 0, 1) := by decide +kernel
theorem dX6_cut_36 : decode cX6_cut 36 = .ok (.getfield 10, 3) := by decide +kernel
theorem dX6_cut_39 : decode cX6_cut 39 = .ok (.iload_n 1, 1) := by decide +kernel
theorem dX6_cut_40 : decode cX6_cut 40 = .ok (.iload_n 2, 1) := by decide +kernel
theorem dX6_cut_41 : decode cX6_cut 41 = .ok (.invokevirtual 99, 3) := by decide +kernel
theorem dX6_cut_44 : decode cX6_cut 44 = .ok (.aload_n 0, 1) := by decide +kernel
theorem dX6_cut_45 : decode cX6_cut 45 = .ok (.bipush (-9), 2) := by decide +kernel
theorem dX6_cut_47 : decode cX6_cut 47 = .ok (.bipush (-9), 2) := by decide +kernel
theorem dX6_cut_49 : decode cX6_cut 49 = .ok (.invokevirtual 87, 3) := by decide +kernel
theorem dX6_cut_52 : decode cX6_cut 52 = .ok (.iload_n 3, 1) := by decide +kernel
theorem dX6_cut_53 : decode cX6_cut 53 = .ok (.ireturn, 1) := by decide +kernel
theorem dX6_split_0 : decode cX6_split 0 = .ok (.aload_n 0, 1) := by decide +kernel
theorem dX6_split_1 : decode cX6_split 1 = .ok (.getfield 10, 3) := by decide +kernel
theorem dX6_split_4 : decode cX6_split 4 = .ok (.iload_n 1, 1) := by decide +kernel
theorem dX6_split_5 : decode cX6_split 5 = .ok (.invokevirtual 69, 3) := by decide +kernel
theorem dX6_split_8 : decode cX6_split 8 = .ok (.ifCond .eq 20, 3) := by decide +kernel
theorem dX6_split_11 : decode cX6_split 11 = .ok (.iload_n 2, 1) := by decide +kernel
theorem dX6_split_12 : decode cX6_split 12 = .ok (.ifCond .lt 16, 3) := by decide +kernel
theorem dX6_split_15 : decode cX6_split 15 = .ok (.iload_n 2, 1) := by decide +kernel
theorem dX6_split_16 : decode cX6_split 16 = .ok (.aload_n 0, 1) := by decide +kernel
theorem dX6_split_17 : decode cX6_split 17 = .ok (.getfield 10, 3) := by decide +kernel
theorem dX6_split_20 : decode cX6_split 20 = .ok (.getfield 73, 3) := by decide +kernel
theorem dX6_split_23 : decode cX6_split 23 = .ok (.iload_n 1, 1) := by decide +kernel
theorem dX6_split_24 : decode cX6_split 24 = .ok (.iaload, 1) := by decide +kernel
theorem dX6_split_25 : decode cX6_split 25 = .ok (.if_icmp .le 5, 3) := by decide +kernel
theorem dX6_split_28 : decode cX6_split 28 = .ok (.iconst (-1), 1) := by decide +kernel
theorem dX6_split_29 : decode cX6_split 29 = .ok (.ireturn, 1) := by decide +kernel
theorem dX6_split_30 : decode cX6_split 30 = .ok (.aload_n 0, 1) := by decide +kernel
theorem dX6_split_31 : decode cX6_split 31 = .ok (.getfield 10, 3) := by decide +kernel
theorem dX6_split_34 : decode cX6_split 34 = .ok (.getfield 102, 3) := by decide +kernel
theorem dX6_split_37 : decode cX6_split 37 = .ok (.bipush 12, 2) := by decide +kernel
theorem dX6_split_39 : decode cX6_split 39 = .ok (.if_icmp .lt 6, 3) := by decide +kernel
theorem dX6_split_42 : decode cX6_split 42 = .ok (.bipush (-3), 2) := by decide +kernel
theorem dX6_split_44 : decode cX6_split 44 = .ok (.ireturn, 1) := by decide +kernel
theorem dX6_split_45 : decode cX6_split 45 = .ok (.aload_n 0, 1) := by decide +kernel
theorem dX6_split_46 : decode cX6_split 46 = .ok (.getfield 19, 3) := by decide +kernel
theorem dX6_split_49 : decode cX6_split 49 = .ok (.aload_n 0, 1) := by decide +kernel
theorem dX6_split_50 : decode cX6_split 50 = .ok (.getfield 10, 3) := by decide +kernel
theorem dX6_split_53 : decode cX6_split 53 = .ok (.invokevirtual 79, 3) := by decide +kernel
theorem dX6_split_56 : decode cX6_split 56 = .ok (.aload_n 0, 1) := by decide +kernel
theorem dX6_split_57 : decode cX6_split 57 = .ok (.getfield 10, 3) := by decide +kernel
theorem dX6_split_60 : decode cX6_split 60 = .ok (.iload_n 1, 1) := by decide +kernel
theorem dX6_split_61 : decode cX6_split 61 = .ok (.iconst 1, 1) := by decide +kernel
theorem dX6_split_62 : decode cX6_split 62 = .ok (.iadd, 1) := by decide +kernel
theorem dX6_split_63 : decode cX6_split 63 = .ok (.invokevirtual 105, 3) := by decide +kernel
theorem dX6_split_66 : decode cX6_split 66 = .ok (.aload_n 0, 1) := by decide +kernel
theorem dX6_split_67 : decode cX6_split 67 = .ok (.getfield 10, 3) := by decide +kernel
theorem dX6_split_70 : decode cX6_split 70 = .ok (.iload_n 1, 1) := by decide +kernel
theorem dX6_split_71 : decode cX6_split 71 = .ok (.iload_n 2, 1) := by decide +kernel
theorem dX6_split_72 : decode cX6_split 72 = .ok (.iload_n 1, 1) := by decide +kernel
theorem dX6_split_73 : decode cX6_split 73 = .ok (.iconst 1, 1) := by decide +kernel
theorem dX6_split_74 : decode cX6_split 74 = .ok (.iadd, 1) := by decide +kernel
theorem dX6_split_75 : decode cX6_split 75 = .ok (.invokevirtual 109, 3) := by decide +kernel
theorem dX6_split_78 : decode cX6_split 78 = .ok (.aload_n 0, 1) := by decide +kernel
theorem dX6_split_79 : decode cX6_split 79 = .ok (.iload_n 1, 1) := by decide +kernel
theorem dX6_split_80 : decode cX6_split 80 = .ok (.iconst 1, 1) := by decide +kernel
theorem dX6_split_81 : decode cX6_split 81 = .ok (.iadd, 1) := by decide +kernel
theorem dX6_split_82 : decode cX6_split 82 = .ok (.bipush (-9), 2) := by decide +kernel
theorem dX6_split_84 : decode cX6_split 84 = .ok (.invokevirtual 87, 3) := by decide +kernel
theorem dX6_split_87 : decode cX6_split 87 = .ok (.aload_n 0, 1) := by decide +kernel
theorem dX6_split_88 : decode cX6_split 88 = .ok (.getfield 10, 3) := by decide +kernel
theorem dX6_split_91 : decode cX6_split 91 = .ok (.getfield 102, 3) := by decide +kernel
theorem dX6_split_94 : decode cX6_split 94 = .ok (.ireturn, 1) := by decide +kernel
theorem dX6_join_0 : decode cX6_join 0 = .ok (.aload_n 0, 1) := by decide +kernel
theorem dX6_join_1 : decode cX6_join 1 = .ok (.getfield 10, 3) := by decide +kernel
theorem dX6_join_4 : decode cX6_join 4 = .ok (.iload_n 1, 1) := by decide +kernel
theorem dX6_join_5 : decode cX6_join 5 = .ok (.invokevirtual 69, 3) := by decide +kernel
theorem dX6_join_8 : decode cX6_join 8 = .ok (.ifCond .eq 16, 3) := by decide +kernel
theorem dX6_join_11 : decode cX6_join 11 = .ok (.aload_n 0, 1) := by decide +kernel
theorem dX6_join_12 : decode cX6_join 12 = .ok (.getfield 10, 3) := by decide +kernel
theorem dX6_join_15 : decode cX6_join 15 = .ok (.iload_n 1, 1) := by decide +kernel
theorem dX6_join_16 : decode cX6_join 16 = .ok (.iconst 1, 1) := by decide +kernel
theorem dX6_join_17 : decode cX6_join 17 = .ok (.iadd, 1) := by decide +kernel
theorem dX6_join_18 : decode cX6_join 18 = .ok (.invokevirtual 69, 3) := by decide +kernel
theorem dX6_join_21 : decode cX6_join 21 = .ok (.ifCond .ne 5, 3) := by decide +kernel
theorem dX6_join_24 : decode cX6_join 24 = .ok (.iconst (-1), 1) := by decide +kernel
theorem dX6_join_25 : decode cX6_join 25 = .ok (.ireturn, 1) := by decide +kernel
theorem dX6_join_26 : decode cX6_join 26 = .ok (.aload_n 0, 1) := by decide +kernel
theorem dX6_join_27 : decode cX6_join 27 = .ok (.getfield 10, 3) := by decide +kernel
theorem dX6_join_30 : decode cX6_join 30 = .ok (.getfield 73, 3) := by decide +kernel
theorem dX6_join_33 : decode cX6_join 33 = .ok (.iload_n 1, 1) := by decide +kernel
theorem dX6_join_34 : decode cX6_join 34 = .ok (.iaload, 1) := by decide +kernel
theorem dX6_join_35 : decode cX6_join 35 = .ok (.aload_n 0, 1) := by decide +kernel
theorem dX6_join_36 : decode cX6_join 36 = .ok (.getfield 10, 3) := by decide +kernel
theorem dX6_join_39 : decode cX6_join 39 = .ok (.getfield 73, 3) := by decide +kernel
theorem dX6_join_42 : decode cX6_join 42 = .ok (.iload_n 1, 1) := by decide +kernel
theorem dX6_join_43 : decode cX6_join 43 = .ok (.iconst 1, 1) := by decide +kernel
theorem dX6_join_44 : decode cX6_join 44 = .ok (.iadd, 1) := by decide +kernel
theorem dX6_join_45 : decode cX6_join 45 = .ok (.iaload, 1) := by decide +kernel
theorem dX6_join_46 : decode cX6_join 46 = .ok (.iadd, 1) := by decide +kernel
theorem dX6_join_47 : decode cX6_join 47 = .ok (.bipush 24, 2) := by decide +kernel
theorem dX6_join_49 : decode cX6_join 49 = .ok (.if_icmp .le 6, 3) := by decide +kernel
theorem dX6_join_52 : decode cX6_join 52 = .ok (.bipush (-3), 2) := by decide +kernel
theorem dX6_join_54 : decode cX6_join 54 = .ok (.ireturn, 1) := by decide +kernel
theorem dX6_join_55 : decode cX6_join 55 = .ok (.aload_n 0, 1) := by decide +kernel
theorem dX6_join_56 : decode cX6_join 56 = .ok (.getfield 19, 3) := by decide +kernel
theorem dX6_join_59 : decode cX6_join 59 = .ok (.aload_n 0, 1) := by decide +kernel
theorem dX6_join_60 : decode cX6_join 60 = .ok (.getfield 10, 3) := by decide +kernel
theorem dX6_join_63 : decode cX6_join 63 = .ok (.invokevirtual 79, 3) := by decide +kernel
theorem dX6_join_66 : decode cX6_join 66 = .ok (.aload_n 0, 1) := by decide +kernel
theorem dX6_join_67 : decode cX6_join 67 = .ok (.getfield 10, 3) := by decide +kernel
theorem dX6_join_70 : decode cX6_join 70 = .ok (.iload_n 1, 1) := by decide +kernel
theorem dX6_join_71 : decode cX6_join 71 = .ok (.iconst 1, 1) := by decide +kernel
theorem dX6_join_72 : decode cX6_join 72 = .ok (.iadd, 1) := by decide +kernel
theorem dX6_join_73 : decode cX6_join 73 = .ok (.iconst 0, 1) := by decide +kernel
theorem dX6_join_74 : decode cX6_join 74 = .ok (.iload_n 1, 1) := by decide +kernel
theorem dX6_join_75 : decode cX6_join 75 = .ok (.invokevirtual 109, 3) := by decide +kernel
theorem dX6_join_78 : decode cX6_join 78 = .ok (.aload_n 0, 1) := by decide +kernel
theorem dX6_join_79 : decode cX6_join 79 = .ok (.getfield 10, 3) := by decide +kernel
theorem dX6_join_82 : decode cX6_join 82 = .ok (.iload_n 1, 1) := by decide +kernel
theorem dX6_join_83 : decode cX6_join 83 = .ok (.iconst 1, 1) := by decide +kernel
theorem dX6_join_84 : decode cX6_join 84 = .ok (.iadd, 1) := by decide +kernel
theorem dX6_join_85 : decode cX6_join 85 = .ok (.invokevirtual 112, 3) := by decide +kernel
theorem dX6_join_88 : decode cX6_join 88 = .ok (.aload_n 0, 1) := by decide +kernel
theorem dX6_join_89 : decode cX6_join 89 = .ok (.bipush (-9), 2) := by decide +kernel
theorem dX6_join_91 : decode cX6_join 91 = .ok (.iload_n 1, 1) := by decide +kernel
theorem dX6_join_92 : decode cX6_join 92 = .ok (.iconst 1, 1) := by decide +kernel
theorem dX6_join_93 : decode cX6_join 93 = .ok (.iadd, 1) := by decide +kernel
theorem dX6_join_94 : decode cX6_join 94 = .ok (.invokevirtual 87, 3) := by decide +kernel
theorem dX6_join_97 : decode cX6_join 97 = .ok (.aload_n 0, 1) := by decide +kernel
theorem dX6_join_98 : decode cX6_join 98 = .ok (.getfield 10, 3) := by decide +kernel
theorem dX6_join_101 : decode cX6_join 101 = .ok (.getfield 102, 3) := by decide +kernel
theorem dX6_join_104 : decode cX6_join 104 = .ok (.ireturn, 1) := by decide +kernel
theorem dX6_undo_0 : decode cX6_undo 0 = .ok (.aload_n 0, 1) := by decide +kernel
theorem dX6_undo_1 : decode cX6_undo 1 = .ok (.getfield 19, 3) := by decide +kernel
theorem dX6_undo_4 : decode cX6_undo 4 = .ok (.getfield 115, 3) := by decide +kernel
theorem dX6_undo_7 : decode cX6_undo 7 = .ok (.ifCond .ne 6, 3) := by decide +kernel
theorem dX6_undo_10 : decode cX6_undo 10 = .ok (.bipush (-2), 2) := by decide +kernel
theorem dX6_undo_12 : decode cX6_undo 12 = .ok (.ireturn, 1) := by decide +kernel
theorem dX6_undo_13 : decode cX6_undo 13 = .ok (.aload_n 0, 1) := by decide +kernel
theorem dX6_undo_14 : decode cX6_undo 14 = .ok (.getfield 10, 3) := by decide +kernel
theorem dX6_undo_17 : decode cX6_undo 17 = .ok (.aload_n 0, 1) := by decide +kernel
theorem dX6_undo_18 : decode cX6_undo 18 = .ok (.getfield 19, 3) := by decide +kernel
theorem dX6_undo_21 : decode cX6_undo 21 = .ok (.invokevirtual 118, 3) := by decide +kernel
theorem dX6_undo_24 : decode cX6_undo 24 = .ok (.invokevirtual 122, 3) := by decide +kernel
theorem dX6_undo_27 : decode cX6_undo 27 = .ok (.aload_n 0, 1) := by decide +kernel
theorem dX6_undo_28 : decode cX6_undo 28 = .ok (.getfield 19, 3) := by decide +kernel
theorem dX6_undo_31 : decode cX6_undo 31 = .ok (.invokevirtual 125, 3) := by decide +kernel
theorem dX6_undo_34 : decode cX6_undo 34 = .ok (.aload_n 0, 1) := by decide +kernel
theorem dX6_undo_35 : decode cX6_undo 35 = .ok (.getfield 39, 3) := by decide +kernel
theorem dX6_undo_38 : decode cX6_undo 38 = .ok (.aload_n 0, 1) := by decide +kernel
theorem dX6_undo_39 : decode cX6_undo 39 = .ok (.getfield 10, 3) := by decide +kernel
theorem dX6_undo_42 : decode cX6_undo 42 = .ok (.invokevirtual 128, 3) := by decide +kernel
theorem dX6_undo_45 : decode cX6_undo 45 = .ok (.aload_n 0, 1) := by decide +kernel
theorem dX6_undo_46 : decode cX6_undo 46 = .ok (.iconst 0, 1) := by decide +kernel
theorem dX6_undo_47 : decode cX6_undo 47 = .ok (.putfield 131, 3) := by decide +kernel
theorem dX6_undo_50 : decode cX6_undo 50 = .ok (.aload_n 0, 1) := by decide +kernel
theorem dX6_undo_51 : decode cX6_undo 51 = .ok (.getfield 19, 3) := by decide +kernel
theorem dX6_undo_54 : decode cX6_undo 54 = .ok (.getfield 115, 3) := by decide +kernel
theorem dX6_undo_57 : decode cX6_undo 57 = .ok (.ireturn, 1) := by decide +kernel
theorem dX6_line_0 : decode cX6_line 0 = .ok (.aload_n 0, 1) := by decide +kernel
theorem dX6_line_1 : decode cX6_line 1 = .ok (.getfield 10, 3) := by decide +kernel
theorem dX6_line_4 : decode cX6_line 4 = .ok (.iload_n 1, 1) := by decide +kernel
theorem dX6_line_5 : decode cX6_line 5 = .ok (.invokevirtual 69, 3) := by decide +kernel
theorem dX6_line_8 : decode cX6_line 8 = .ok (.ifCond .ne 5, 3) := by decide +kernel
theorem dX6_line_11 : decode cX6_line 11 = .ok (.iconst (-1), 1) := by decide +kernel
theorem dX6_line_12 : decode cX6_line 12 = .ok (.ireturn, 1) := by decide +kernel
theorem dX6_line_13 : decode cX6_line 13 = .ok (.iload_n 2, 1) := by decide +kernel
theorem dX6_line_14 : decode cX6_line 14 = .ok (.tableswitch 70 0 3 #[30, 40, 50, 60], 30) := by decide +kernel
theorem dX6_line_44 : decode cX6_line 44 = .ok (.aload_n 0, 1) := by decide +kernel
theorem dX6_line_45 : decode cX6_line 45 = .ok (.getfield 10, 3) := by decide +kernel
theorem dX6_line_48 : decode cX6_line 48 = .ok (.getfield 73, 3) := by decide +kernel
theorem dX6_line_51 : decode cX6_line 51 = .ok (.iload_n 1, 1) := by decide +kernel
theorem dX6_line_52 : decode cX6_line 52 = .ok (.iaload, 1) := by decide +kernel
theorem dX6_line_53 : decode cX6_line 53 = .ok (.ireturn, 1) := by decide +kernel
theorem dX6_line_54 : decode cX6_line 54 = .ok (.aload_n 0, 1) := by decide +kernel
theorem dX6_line_55 : decode cX6_line 55 = .ok (.getfield 39, 3) := by decide +kernel
theorem dX6_line_58 : decode cX6_line 58 = .ok (.getfield 134, 3) := by decide +kernel
theorem dX6_line_61 : decode cX6_line 61 = .ok (.iload_n 1, 1) := by decide +kernel
theorem dX6_line_62 : decode cX6_line 62 = .ok (.iaload, 1) := by decide +kernel
theorem dX6_line_63 : decode cX6_line 63 = .ok (.ireturn, 1) := by decide +kernel
theorem dX6_line_64 : decode cX6_line 64 = .ok (.aload_n 0, 1) := by decide +kernel
theorem dX6_line_65 : decode cX6_line 65 = .ok (.getfield 39, 3) := by decide +kernel
theorem dX6_line_68 : decode cX6_line 68 = .ok (.getfield 137, 3) := by decide +kernel
theorem dX6_line_71 : decode cX6_line 71 = .ok (.iload_n 1, 1) := by decide +kernel
theorem dX6_line_72 : decode cX6_line 72 = .ok (.iaload, 1) := by decide +kernel
theorem dX6_line_73 : decode cX6_line 73 = .ok (.ireturn, 1) := by decide +kernel
theorem dX6_line_74 : decode cX6_line 74 = .ok (.aload_n 0, 1) := by decide +kernel
theorem dX6_line_75 : decode cX6_line 75 = .ok (.getfield 39, 3) := by decide +kernel
theorem dX6_line_78 : decode cX6_line 78 = .ok (.getfield 140, 3) := by decide +kernel
theorem dX6_line_81 : decode cX6_line 81 = .ok (.iload_n 1, 1) := by decide +kernel
theorem dX6_line_82 : decode cX6_line 82 = .ok (.iaload, 1) := by decide +kernel
theorem dX6_line_83 : decode cX6_line 83 = .ok (.ireturn, 1) := by decide +kernel
theorem dX6_line_84 : decode cX6_line 84 = .ok (.iconst (-1), 1) := by decide +kernel
theorem dX6_line_85 : decode cX6_line 85 = .ok (.ireturn, 1) := by decide +kernel
theorem dX6_sign_0 : decode cX6_sign 0 = .ok (.aload_n 0, 1) := by decide +kernel
theorem dX6_sign_1 : decode cX6_sign 1 = .ok (.getfield 10, 3) := by decide +kernel
theorem dX6_sign_4 : decode cX6_sign 4 = .ok (.iload_n 1, 1) := by decide +kernel
theorem dX6_sign_5 : decode cX6_sign 5 = .ok (.iload_n 2, 1) := by decide +kernel
theorem dX6_sign_6 : decode cX6_sign 6 = .ok (.invokevirtual 91, 3) := by decide +kernel
theorem dX6_sign_9 : decode cX6_sign 9 = .ok (.ifCond .eq 15, 3) := by decide +kernel
theorem dX6_sign_12 : decode cX6_sign 12 = .ok (.aload_n 0, 1) := by decide +kernel
theorem dX6_sign_13 : decode cX6_sign 13 = .ok (.getfield 10, 3) := by decide +kernel
theorem dX6_sign_16 : decode cX6_sign 16 = .ok (.iload_n 1, 1) := by decide +kernel
theorem dX6_sign_17 : decode cX6_sign 17 = .ok (.iload_n 2, 1) := by decide +kernel
theorem dX6_sign_18 : decode cX6_sign 18 = .ok (.invokevirtual 95, 3) := by decide +kernel
theorem dX6_sign_21 : decode cX6_sign 21 = .ok (.goto 4, 3) := by decide +kernel
theorem dX6_sign_24 : decode cX6_sign 24 = .ok (.iconst (-1), 1) := by decide +kernel
theorem dX6_sign_25 : decode cX6_sign 25 = .ok (.ireturn, 1) := by decide +kernel
theorem dX6_cell_0 : decode cX6_cell 0 = .ok (.aload_n 0, 1) := by decide +kernel
theorem dX6_cell_1 : decode cX6_cell 1 = .ok (.getfield 10, 3) := by decide +kernel
theorem dX6_cell_4 : decode cX6_cell 4 = .ok (.iload_n 1, 1) := by decide +kernel
theorem dX6_cell_5 : decode cX6_cell 5 = .ok (.invokevirtual 69, 3) := by decide +kernel
theorem dX6_cell_8 : decode cX6_cell 8 = .ok (.ifCond .eq 20, 3) := by decide +kernel
theorem dX6_cell_11 : decode cX6_cell 11 = .ok (.iload_n 2, 1) := by decide +kernel
theorem dX6_cell_12 : decode cX6_cell 12 = .ok (.ifCond .lt 16, 3) := by decide +kernel
theorem dX6_cell_15 : decode cX6_cell 15 = .ok (.iload_n 2, 1) := by decide +kernel
theorem dX6_cell_16 : decode cX6_cell 16 = .ok (.aload_n 0, 1) := by decide +kernel
theorem dX6_cell_17 : decode cX6_cell 17 = .ok (.getfield 39, 3) := by decide +kernel
theorem dX6_cell_20 : decode cX6_cell 20 = .ok (.getfield 134, 3) := by decide +kernel
theorem dX6_cell_23 : decode cX6_cell 23 = .ok (.iload_n 1, 1) := by decide +kernel
theorem dX6_cell_24 : decode cX6_cell 24 = .ok (.iaload, 1) := by decide +kernel
theorem dX6_cell_25 : decode cX6_cell 25 = .ok (.if_icmp .lt 5, 3) := by decide +kernel
theorem dX6_cell_28 : decode cX6_cell 28 = .ok (.iconst (-1), 1) := by decide +kernel
theorem dX6_cell_29 : decode cX6_cell 29 = .ok (.ireturn, 1) := by decide +kernel
theorem dX6_cell_30 : decode cX6_cell 30 = .ok (.iload_n 1, 1) := by decide +kernel
theorem dX6_cell_31 : decode cX6_cell 31 = .ok (.bipush 24, 2) := by decide +kernel
theorem dX6_cell_33 : decode cX6_cell 33 = .ok (.imul, 1) := by decide +kernel
theorem dX6_cell_34 : decode cX6_cell 34 = .ok (.iload_n 2, 1) := by decide +kernel
theorem dX6_cell_35 : decode cX6_cell 35 = .ok (.iadd, 1) := by decide +kernel
theorem dX6_cell_36 : decode cX6_cell 36 = .ok (.istore 4, 2) := by decide +kernel
theorem dX6_cell_38 : decode cX6_cell 38 = .ok (.iload_n 3, 1) := by decide +kernel
theorem dX6_cell_39 : decode cX6_cell 39 = .ok (.tableswitch 122 0 6 #[41, 52, 63, 74, 84, 94, 108], 41) := by decide +kernel
theorem dX6_cell_80 : decode cX6_cell 80 = .ok (.aload_n 0, 1) := by decide +kernel
theorem dX6_cell_81 : decode cX6_cell 81 = .ok (.getfield 39, 3) := by decide +kernel
theorem dX6_cell_84 : decode cX6_cell 84 = .ok (.getfield 143, 3) := by decide +kernel
theorem dX6_cell_87 : decode cX6_cell 87 = .ok (.iload 4, 2) := by decide +kernel
theorem dX6_cell_89 : decode cX6_cell 89 = .ok (.iaload, 1) := by decide +kernel
theorem dX6_cell_90 : decode cX6_cell 90 = .ok (.ireturn, 1) := by decide +kernel
theorem dX6_cell_91 : decode cX6_cell 91 = .ok (.aload_n 0, 1) := by decide +kernel
theorem dX6_cell_92 : decode cX6_cell 92 = .ok (.getfield 39, 3) := by decide +kernel
theorem dX6_cell_95 : decode cX6_cell 95 = .ok (.getfield 144, 3) := by decide +kernel
theorem dX6_cell_98 : decode cX6_cell 98 = .ok (.iload 4, 2) := by decide +kernel
theorem dX6_cell_100 : decode cX6_cell 100 = .ok (.iaload, 1) := by decide +kernel
theorem dX6_cell_101 : decode cX6_cell 101 = .ok (.ireturn, 1) := by decide +kernel
theorem dX6_cell_102 : decode cX6_cell 102 = .ok (.aload_n 0, 1) := by decide +kernel
theorem dX6_cell_103 : decode cX6_cell 103 = .ok (.getfield 39, 3) := by decide +kernel
theorem dX6_cell_106 : decode cX6_cell 106 = .ok (.getfield 147, 3) := by decide +kernel
theorem dX6_cell_109 : decode cX6_cell 109 = .ok (.iload 4, 2) := by decide +kernel
theorem dX6_cell_111 : decode cX6_cell 111 = .ok (.iaload, 1) := by decide +kernel
theorem dX6_cell_112 : decode cX6_cell 112 = .ok (.ireturn, 1) := by decide +kernel
theorem dX6_cell_113 : decode cX6_cell 113 = .ok (.aload_n 0, 1) := by decide +kernel
theorem dX6_cell_114 : decode cX6_cell 114 = .ok (.getfield 39, 3) := by decide +kernel
theorem dX6_cell_117 : decode cX6_cell 117 = .ok (.iload_n 1, 1) := by decide +kernel
theorem dX6_cell_118 : decode cX6_cell 118 = .ok (.iload_n 2, 1) := by decide +kernel
theorem dX6_cell_119 : decode cX6_cell 119 = .ok (.invokevirtual 150, 3) := by decide +kernel
theorem dX6_cell_122 : decode cX6_cell 122 = .ok (.ireturn, 1) := by decide +kernel
theorem dX6_cell_123 : decode cX6_cell 123 = .ok (.aload_n 0, 1) := by decide +kernel
theorem dX6_cell_124 : decode cX6_cell 124 = .ok (.getfield 39, 3) := by decide +kernel
theorem dX6_cell_127 : decode cX6_cell 127 = .ok (.iload_n 1, 1) := by decide +kernel
theorem dX6_cell_128 : decode cX6_cell 128 = .ok (.iload_n 2, 1) := by decide +kernel
theorem dX6_cell_129 : decode cX6_cell 129 = .ok (.invokevirtual 153, 3) := by decide +kernel
theorem dX6_cell_132 : decode cX6_cell 132 = .ok (.ireturn, 1) := by decide +kernel
theorem dX6_cell_133 : decode cX6_cell 133 = .ok (.aload_n 0, 1) := by decide +kernel
theorem dX6_cell_134 : decode cX6_cell 134 = .ok (.getfield 39, 3) := by decide +kernel
theorem dX6_cell_137 : decode cX6_cell 137 = .ok (.aload_n 0, 1) := by decide +kernel
theorem dX6_cell_138 : decode cX6_cell 138 = .ok (.getfield 10, 3) := by decide +kernel
theorem dX6_cell_141 : decode cX6_cell 141 = .ok (.iload_n 1, 1) := by decide +kernel
theorem dX6_cell_142 : decode cX6_cell 142 = .ok (.iload_n 2, 1) := by decide +kernel
theorem dX6_cell_143 : decode cX6_cell 143 = .ok (.invokevirtual 156, 3) := by decide +kernel
theorem dX6_cell_146 : decode cX6_cell 146 = .ok (.ireturn, 1) := by decide +kernel
theorem dX6_cell_147 : decode cX6_cell 147 = .ok (.aload_n 0, 1) := by decide +kernel
theorem dX6_cell_148 : decode cX6_cell 148 = .ok (.getfield 39, 3) := by decide +kernel
theorem dX6_cell_151 : decode cX6_cell 151 = .ok (.aload_n 0, 1) := by decide +kernel
theorem dX6_cell_152 : decode cX6_cell 152 = .ok (.getfield 10, 3) := by decide +kernel
theorem dX6_cell_155 : decode cX6_cell 155 = .ok (.iload_n 1, 1) := by decide +kernel
theorem dX6_cell_156 : decode cX6_cell 156 = .ok (.iload_n 2, 1) := by decide +kernel
theorem dX6_cell_157 : decode cX6_cell 157 = .ok (.invokevirtual 160, 3) := by decide +kernel
theorem dX6_cell_160 : decode cX6_cell 160 = .ok (.ireturn, 1) := by decide +kernel
theorem dX6_cell_161 : decode cX6_cell 161 = .ok (.iconst (-1), 1) := by decide +kernel
theorem dX6_cell_162 : decode cX6_cell 162 = .ok (.ireturn, 1) := by decide +kernel
theorem dX6_shown_0 : decode cX6_shown 0 = .ok (.aload_n 0, 1) := by decide +kernel
theorem dX6_shown_1 : decode cX6_shown 1 = .ok (.getfield 10, 3) := by decide +kernel
theorem dX6_shown_4 : decode cX6_shown 4 = .ok (.iload_n 1, 1) := by decide +kernel
theorem dX6_shown_5 : decode cX6_shown 5 = .ok (.invokevirtual 69, 3) := by decide +kernel
theorem dX6_shown_8 : decode cX6_shown 8 = .ok (.ifCond .eq 20, 3) := by decide +kernel
theorem dX6_shown_11 : decode cX6_shown 11 = .ok (.iload_n 2, 1) := by decide +kernel
theorem dX6_shown_12 : decode cX6_shown 12 = .ok (.ifCond .lt 16, 3) := by decide +kernel
theorem dX6_shown_15 : decode cX6_shown 15 = .ok (.iload_n 2, 1) := by decide +kernel
theorem dX6_shown_16 : decode cX6_shown 16 = .ok (.aload_n 0, 1) := by decide +kernel
theorem dX6_shown_17 : decode cX6_shown 17 = .ok (.getfield 39, 3) := by decide +kernel
theorem dX6_shown_20 : decode cX6_shown 20 = .ok (.getfield 137, 3) := by decide +kernel
theorem dX6_shown_23 : decode cX6_shown 23 = .ok (.iload_n 1, 1) := by decide +kernel
theorem dX6_shown_24 : decode cX6_shown 24 = .ok (.iaload, 1) := by decide +kernel
theorem dX6_shown_25 : decode cX6_shown 25 = .ok (.if_icmp .lt 5, 3) := by decide +kernel
theorem dX6_shown_28 : decode cX6_shown 28 = .ok (.iconst (-1), 1) := by decide +kernel
theorem dX6_shown_29 : decode cX6_shown 29 = .ok (.ireturn, 1) := by decide +kernel
theorem dX6_shown_30 : decode cX6_shown 30 = .ok (.iload_n 2, 1) := by decide +kernel
theorem dX6_shown_31 : decode cX6_shown 31 = .ok (.aload_n 0, 1) := by decide +kernel
theorem dX6_shown_32 : decode cX6_shown 32 = .ok (.getfield 39, 3) := by decide +kernel
theorem dX6_shown_35 : decode cX6_shown 35 = .ok (.getfield 140, 3) := by decide +kernel
theorem dX6_shown_38 : decode cX6_shown 38 = .ok (.iload_n 1, 1) := by decide +kernel
theorem dX6_shown_39 : decode cX6_shown 39 = .ok (.iaload, 1) := by decide +kernel
theorem dX6_shown_40 : decode cX6_shown 40 = .ok (.if_icmp .lt 33, 3) := by decide +kernel
theorem dX6_shown_43 : decode cX6_shown 43 = .ok (.aload_n 0, 1) := by decide +kernel
theorem dX6_shown_44 : decode cX6_shown 44 = .ok (.getfield 10, 3) := by decide +kernel
theorem dX6_shown_47 : decode cX6_shown 47 = .ok (.iload_n 1, 1) := by decide +kernel
theorem dX6_shown_48 : decode cX6_shown 48 = .ok (.aload_n 0, 1) := by decide +kernel
theorem dX6_shown_49 : decode cX6_shown 49 = .ok (.getfield 39, 3) := by decide +kernel
theorem dX6_shown_52 : decode cX6_shown 52 = .ok (.getfield 163, 3) := by decide +kernel
theorem dX6_shown_55 : decode cX6_shown 55 = .ok (.iload_n 1, 1) := by decide +kernel
theorem dX6_shown_56 : decode cX6_shown 56 = .ok (.iaload, 1) := by decide +kernel
theorem dX6_shown_57 : decode cX6_shown 57 = .ok (.iload_n 2, 1) := by decide +kernel
theorem dX6_shown_58 : decode cX6_shown 58 = .ok (.iadd, 1) := by decide +kernel
theorem dX6_shown_59 : decode cX6_shown 59 = .ok (.aload_n 0, 1) := by decide +kernel
theorem dX6_shown_60 : decode cX6_shown 60 = .ok (.getfield 39, 3) := by decide +kernel
theorem dX6_shown_63 : decode cX6_shown 63 = .ok (.getfield 140, 3) := by decide +kernel
theorem dX6_shown_66 : decode cX6_shown 66 = .ok (.iload_n 1, 1) := by decide +kernel
theorem dX6_shown_67 : decode cX6_shown 67 = .ok (.iaload, 1) := by decide +kernel
theorem dX6_shown_68 : decode cX6_shown 68 = .ok (.isub, 1) := by decide +kernel
theorem dX6_shown_69 : decode cX6_shown 69 = .ok (.invokevirtual 95, 3) := by decide +kernel
theorem dX6_shown_72 : decode cX6_shown 72 = .ok (.ireturn, 1) := by decide +kernel
theorem dX6_shown_73 : decode cX6_shown 73 = .ok (.aload_n 0, 1) := by decide +kernel
theorem dX6_shown_74 : decode cX6_shown 74 = .ok (.getfield 39, 3) := by decide +kernel
theorem dX6_shown_77 : decode cX6_shown 77 = .ok (.iload_n 1, 1) := by decide +kernel
theorem dX6_shown_78 : decode cX6_shown 78 = .ok (.iload_n 2, 1) := by decide +kernel
theorem dX6_shown_79 : decode cX6_shown 79 = .ok (.invokevirtual 166, 3) := by decide +kernel
theorem dX6_shown_82 : decode cX6_shown 82 = .ok (.istore_n 3, 1) := by decide +kernel
theorem dX6_shown_83 : decode cX6_shown 83 = .ok (.aload_n 0, 1) := by decide +kernel
theorem dX6_shown_84 : decode cX6_shown 84 = .ok (.getfield 39, 3) := by decide +kernel
theorem dX6_shown_87 : decode cX6_shown 87 = .ok (.aload_n 0, 1) := by decide +kernel
theorem dX6_shown_88 : decode cX6_shown 88 = .ok (.getfield 10, 3) := by decide +kernel
theorem dX6_shown_91 : decode cX6_shown 91 = .ok (.iload_n 1, 1) := by decide +kernel
theorem dX6_shown_92 : decode cX6_shown 92 = .ok (.iload_n 3, 1) := by decide +kernel
theorem dX6_shown_93 : decode cX6_shown 93 = .ok (.iload_n 2, 1) := by decide +kernel
theorem dX6_shown_94 : decode cX6_shown 94 = .ok (.aload_n 0, 1) := by decide +kernel
theorem dX6_shown_95 : decode cX6_shown 95 = .ok (.getfield 39, 3) := by decide +kernel
theorem dX6_shown_98 : decode cX6_shown 98 = .ok (.getfield 147, 3) := by decide +kernel
theorem dX6_shown_101 : decode cX6_shown 101 = .ok (.iload_n 1, 1) := by decide +kernel
theorem dX6_shown_102 : decode cX6_shown 102 = .ok (.bipush 24, 2) := by decide +kernel
theorem dX6_shown_104 : decode cX6_shown 104 = .ok (.imul, 1) := by decide +kernel
theorem dX6_shown_105 : decode cX6_shown 105 = .ok (.iload_n 3, 1) := by decide +kernel
theorem dX6_shown_106 : decode cX6_shown 106 = .ok (.iadd, 1) := by decide +kernel
theorem dX6_shown_107 : decode cX6_shown 107 = .ok (.iaload, 1) := by decide +kernel
theorem dX6_shown_108 : decode cX6_shown 108 = .ok (.isub, 1) := by decide +kernel
theorem dX6_shown_109 : decode cX6_shown 109 = .ok (.invokevirtual 169, 3) := by decide +kernel
theorem dX6_shown_112 : decode cX6_shown 112 = .ok (.ireturn, 1) := by decide +kernel
theorem dX6_align_0 : decode cX6_align 0 = .ok (.iload_n 1, 1) := by decide +kernel
theorem dX6_align_1 : decode cX6_align 1 = .ok (.ifCond .lt 21, 3) := by decide +kernel
theorem dX6_align_4 : decode cX6_align 4 = .ok (.iload_n 1, 1) := by decide +kernel
theorem dX6_align_5 : decode cX6_align 5 = .ok (.bipush 24, 2) := by decide +kernel
theorem dX6_align_7 : decode cX6_align 7 = .ok (.if_icmp .ge 15, 3) := by decide +kernel
theorem dX6_align_10 : decode cX6_align 10 = .ok (.aload_n 0, 1) := by decide +kernel
theorem dX6_align_11 : decode cX6_align 11 = .ok (.getfield 10, 3) := by decide +kernel
theorem dX6_align_14 : decode cX6_align 14 = .ok (.getfield 173, 3) := by decide +kernel
theorem dX6_align_17 : decode cX6_align 17 = .ok (.iload_n 1, 1) := by decide +kernel
theorem dX6_align_18 : decode cX6_align 18 = .ok (.iaload, 1) := by decide +kernel
theorem dX6_align_19 : decode cX6_align 19 = .ok (.goto 4, 3) := by decide +kernel
theorem dX6_align_22 : decode cX6_align 22 = .ok (.iconst (-1), 1) := by decide +kernel
theorem dX6_align_23 : decode cX6_align 23 = .ok (.ireturn, 1) := by decide +kernel
theorem dX6_count_0 : decode cX6_count 0 = .ok (.iload_n 1, 1) := by decide +kernel
theorem dX6_count_1 : decode cX6_count 1 = .ok (.tableswitch 120 0 8 #[51, 59, 67, 75, 80, 88, 96, 104, 112], 51) := by decide +kernel
theorem dX6_count_52 : decode cX6_count 52 = .ok (.aload_n 0, 1) := by decide +kernel
theorem dX6_count_53 : decode cX6_count 53 = .ok (.getfield 10, 3) := by decide +kernel
theorem dX6_count_56 : decode cX6_count 56 = .ok (.getfield 102, 3) := by decide +kernel
theorem dX6_count_59 : decode cX6_count 59 = .ok (.ireturn, 1) := by decide +kernel
theorem dX6_count_60 : decode cX6_count 60 = .ok (.aload_n 0, 1) := by decide +kernel
theorem dX6_count_61 : decode cX6_count 61 = .ok (.getfield 10, 3) := by decide +kernel
theorem dX6_count_64 : decode cX6_count 64 = .ok (.getfield 176, 3) := by decide +kernel
theorem dX6_count_67 : decode cX6_count 67 = .ok (.ireturn, 1) := by decide +kernel
theorem dX6_count_68 : decode cX6_count 68 = .ok (.aload_n 0, 1) := by decide +kernel
theorem dX6_count_69 : decode cX6_count 69 = .ok (.getfield 10, 3) := by decide +kernel
theorem dX6_count_72 : decode cX6_count 72 = .ok (.getfield 179, 3) := by decide +kernel
theorem dX6_count_75 : decode cX6_count 75 = .ok (.ireturn, 1) := by decide +kernel
theorem dX6_count_76 : decode cX6_count 76 = .ok (.aload_n 0, 1) := by decide +kernel
theorem dX6_count_77 : decode cX6_count 77 = .ok (.getfield 131, 3) := by decide +kernel
theorem dX6_count_80 : decode cX6_count 80 = .ok (.ireturn, 1) := by decide +kernel
theorem dX6_count_81 : decode cX6_count 81 = .ok (.aload_n 0, 1) := by decide +kernel
theorem dX6_count_82 : decode cX6_count 82 = .ok (.getfield 39, 3) := by decide +kernel
theorem dX6_count_85 : decode cX6_count 85 = .ok (.getfield 182, 3) := by decide +kernel
theorem dX6_count_88 : decode cX6_count 88 = .ok (.ireturn, 1) := by decide +kernel
theorem dX6_count_89 : decode cX6_count 89 = .ok (.aload_n 0, 1) := by decide +kernel
theorem dX6_count_90 : decode cX6_count 90 = .ok (.getfield 39, 3) := by decide +kernel
theorem dX6_count_93 : decode cX6_count 93 = .ok (.invokevirtual 185, 3) := by decide +kernel
theorem dX6_count_96 : decode cX6_count 96 = .ok (.ireturn, 1) := by decide +kernel
theorem dX6_count_97 : decode cX6_count 97 = .ok (.aload_n 0, 1) := by decide +kernel
theorem dX6_count_98 : decode cX6_count 98 = .ok (.getfield 39, 3) := by decide +kernel
theorem dX6_count_101 : decode cX6_count 101 = .ok (.invokevirtual 188, 3) := by decide +kernel
theorem dX6_count_104 : decode cX6_count 104 = .ok (.ireturn, 1) := by decide +kernel
theorem dX6_count_105 : decode cX6_count 105 = .ok (.aload_n 0, 1) := by decide +kernel
theorem dX6_count_106 : decode cX6_count 106 = .ok (.getfield 19, 3) := by decide +kernel
theorem dX6_count_109 : decode cX6_count 109 = .ok (.getfield 115, 3) := by decide +kernel
theorem dX6_count_112 : decode cX6_count 112 = .ok (.ireturn, 1) := by decide +kernel
theorem dX6_count_113 : decode cX6_count 113 = .ok (.aload_n 0, 1) := by decide +kernel
theorem dX6_count_114 : decode cX6_count 114 = .ok (.getfield 26, 3) := by decide +kernel
theorem dX6_count_117 : decode cX6_count 117 = .ok (.getfield 47, 3) := by decide +kernel
theorem dX6_count_120 : decode cX6_count 120 = .ok (.ireturn, 1) := by decide +kernel
theorem dX6_count_121 : decode cX6_count 121 = .ok (.iconst (-1), 1) := by decide +kernel
theorem dX6_count_122 : decode cX6_count 122 = .ok (.ireturn, 1) := by decide +kernel
theorem dX6_digest_0 : decode cX6_digest 0 = .ok (.ldc2_w 191, 3) := by decide +kernel
theorem dX6_digest_3 : decode cX6_digest 3 = .ok (.lstore_n 1, 1) := by decide +kernel
theorem dX6_digest_4 : decode cX6_digest 4 = .ok (.iconst 0, 1) := by decide +kernel
theorem dX6_digest_5 : decode cX6_digest 5 = .ok (.istore_n 3, 1) := by decide +kernel
theorem dX6_digest_6 : decode cX6_digest 6 = .ok (.iload_n 3, 1) := by decide +kernel
theorem dX6_digest_7 : decode cX6_digest 7 = .ok (.aload_n 0, 1) := by decide +kernel
theorem dX6_digest_8 : decode cX6_digest 8 = .ok (.getfield 10, 3) := by decide +kernel
theorem dX6_digest_11 : decode cX6_digest 11 = .ok (.getfield 102, 3) := by decide +kernel
theorem dX6_digest_14 : decode cX6_digest 14 = .ok (.if_icmp .ge 155, 3) := by decide +kernel
theorem dX6_digest_17 : decode cX6_digest 17 = .ok (.ldc2_w 193, 3) := by decide +kernel
theorem dX6_digest_20 : decode cX6_digest 20 = .ok (.lload_n 1, 1) := by decide +kernel
theorem dX6_digest_21 : decode cX6_digest 21 = .ok (.lmul, 1) := by decide +kernel
theorem dX6_digest_22 : decode cX6_digest 22 = .ok (.aload_n 0, 1) := by decide +kernel
theorem dX6_digest_23 : decode cX6_digest 23 = .ok (.getfield 39, 3) := by decide +kernel
theorem dX6_digest_26 : decode cX6_digest 26 = .ok (.getfield 137, 3) := by decide +kernel
theorem dX6_digest_29 : decode cX6_digest 29 = .ok (.iload_n 3, 1) := by decide +kernel
theorem dX6_digest_30 : decode cX6_digest 30 = .ok (.iaload, 1) := by decide +kernel
theorem dX6_digest_31 : decode cX6_digest 31 = .ok (.i2l, 1) := by decide +kernel
theorem dX6_digest_32 : decode cX6_digest 32 = .ok (.ladd, 1) := by decide +kernel
theorem dX6_digest_33 : decode cX6_digest 33 = .ok (.lstore_n 1, 1) := by decide +kernel
theorem dX6_digest_34 : decode cX6_digest 34 = .ok (.iconst 0, 1) := by decide +kernel
theorem dX6_digest_35 : decode cX6_digest 35 = .ok (.istore 4, 2) := by decide +kernel
theorem dX6_digest_37 : decode cX6_digest 37 = .ok (.iload 4, 2) := by decide +kernel
theorem dX6_digest_39 : decode cX6_digest 39 = .ok (.aload_n 0, 1) := by decide +kernel
theorem dX6_digest_40 : decode cX6_digest 40 = .ok (.getfield 39, 3) := by decide +kernel
theorem dX6_digest_43 : decode cX6_digest 43 = .ok (.getfield 134, 3) := by decide +kernel
theorem dX6_digest_46 : decode cX6_digest 46 = .ok (.iload_n 3, 1) := by decide +kernel
theorem dX6_digest_47 : decode cX6_digest 47 = .ok (.iaload, 1) := by decide +kernel
theorem dX6_digest_48 : decode cX6_digest 48 = .ok (.if_icmp .ge 66, 3) := by decide +kernel
theorem dX6_digest_51 : decode cX6_digest 51 = .ok (.aload_n 0, 1) := by decide +kernel
theorem dX6_digest_52 : decode cX6_digest 52 = .ok (.getfield 39, 3) := by decide +kernel
theorem dX6_digest_55 : decode cX6_digest 55 = .ok (.getfield 144, 3) := by decide +kernel
theorem dX6_digest_58 : decode cX6_digest 58 = .ok (.iload_n 3, 1) := by decide +kernel
theorem dX6_digest_59 : decode cX6_digest 59 = .ok (.bipush 24, 2) := by decide +kernel
theorem dX6_digest_61 : decode cX6_digest 61 = .ok (.imul, 1) := by decide +kernel
theorem dX6_digest_62 : decode cX6_digest 62 = .ok (.iload 4, 2) := by decide +kernel
theorem dX6_digest_64 : decode cX6_digest 64 = .ok (.iadd, 1) := by decide +kernel
theorem dX6_digest_65 : decode cX6_digest 65 = .ok (.iaload, 1) := by decide +kernel
theorem dX6_digest_66 : decode cX6_digest 66 = .ok (.istore 5, 2) := by decide +kernel
theorem dX6_digest_68 : decode cX6_digest 68 = .ok (.iconst 0, 1) := by decide +kernel
theorem dX6_digest_69 : decode cX6_digest 69 = .ok (.istore 6, 2) := by decide +kernel
theorem dX6_digest_71 : decode cX6_digest 71 = .ok (.iload 6, 2) := by decide +kernel
theorem dX6_digest_73 : decode cX6_digest 73 = .ok (.iload 5, 2) := by decide +kernel
theorem dX6_digest_75 : decode cX6_digest 75 = .ok (.if_icmp .ge 33, 3) := by decide +kernel
theorem dX6_digest_78 : decode cX6_digest 78 = .ok (.ldc2_w 193, 3) := by decide +kernel
theorem dX6_digest_81 : decode cX6_digest 81 = .ok (.lload_n 1, 1) := by decide +kernel
theorem dX6_digest_82 : decode cX6_digest 82 = .ok (.lmul, 1) := by decide +kernel
theorem dX6_digest_83 : decode cX6_digest 83 = .ok (.aload_n 0, 1) := by decide +kernel
theorem dX6_digest_84 : decode cX6_digest 84 = .ok (.getfield 39, 3) := by decide +kernel
theorem dX6_digest_87 : decode cX6_digest 87 = .ok (.aload_n 0, 1) := by decide +kernel
theorem dX6_digest_88 : decode cX6_digest 88 = .ok (.getfield 10, 3) := by decide +kernel
theorem dX6_digest_91 : decode cX6_digest 91 = .ok (.iload_n 3, 1) := by decide +kernel
theorem dX6_digest_92 : decode cX6_digest 92 = .ok (.iload 4, 2) := by decide +kernel
theorem dX6_digest_94 : decode cX6_digest 94 = .ok (.iload 6, 2) := by decide +kernel
theorem dX6_digest_96 : decode cX6_digest 96 = .ok (.invokevirtual 169, 3) := by decide +kernel
theorem dX6_digest_99 : decode cX6_digest 99 = .ok (.i2l, 1) := by decide +kernel
theorem dX6_digest_100 : decode cX6_digest 100 = .ok (.ladd, 1) := by decide +kernel
theorem dX6_digest_101 : decode cX6_digest 101 = .ok (.lstore_n 1, 1) := by decide +kernel
theorem dX6_digest_102 : decode cX6_digest 102 = .ok (.iinc 6 1, 3) := by decide +kernel
theorem dX6_digest_105 : decode cX6_digest 105 = .ok (.goto (-34), 3) := by decide +kernel
theorem dX6_digest_108 : decode cX6_digest 108 = .ok (.iinc 4 1, 3) := by decide +kernel
theorem dX6_digest_111 : decode cX6_digest 111 = .ok (.goto (-74), 3) := by decide +kernel
theorem dX6_digest_114 : decode cX6_digest 114 = .ok (.aload_n 0, 1) := by decide +kernel
theorem dX6_digest_115 : decode cX6_digest 115 = .ok (.getfield 39, 3) := by decide +kernel
theorem dX6_digest_118 : decode cX6_digest 118 = .ok (.getfield 163, 3) := by decide +kernel
theorem dX6_digest_121 : decode cX6_digest 121 = .ok (.iload_n 3, 1) := by decide +kernel
theorem dX6_digest_122 : decode cX6_digest 122 = .ok (.iaload, 1) := by decide +kernel
theorem dX6_digest_123 : decode cX6_digest 123 = .ok (.istore 4, 2) := by decide +kernel
theorem dX6_digest_125 : decode cX6_digest 125 = .ok (.iload 4, 2) := by decide +kernel
theorem dX6_digest_127 : decode cX6_digest 127 = .ok (.aload_n 0, 1) := by decide +kernel
theorem dX6_digest_128 : decode cX6_digest 128 = .ok (.getfield 10, 3) := by decide +kernel
theorem dX6_digest_131 : decode cX6_digest 131 = .ok (.getfield 73, 3) := by decide +kernel
theorem dX6_digest_134 : decode cX6_digest 134 = .ok (.iload_n 3, 1) := by decide +kernel
theorem dX6_digest_135 : decode cX6_digest 135 = .ok (.iaload, 1) := by decide +kernel
theorem dX6_digest_136 : decode cX6_digest 136 = .ok (.if_icmp .ge 27, 3) := by decide +kernel
theorem dX6_digest_139 : decode cX6_digest 139 = .ok (.ldc2_w 193, 3) := by decide +kernel
theorem dX6_digest_142 : decode cX6_digest 142 = .ok (.lload_n 1, 1) := by decide +kernel
theorem dX6_digest_143 : decode cX6_digest 143 = .ok (.lmul, 1) := by decide +kernel
theorem dX6_digest_144 : decode cX6_digest 144 = .ok (.aload_n 0, 1) := by decide +kernel
theorem dX6_digest_145 : decode cX6_digest 145 = .ok (.getfield 10, 3) := by decide +kernel
theorem dX6_digest_148 : decode cX6_digest 148 = .ok (.iload_n 3, 1) := by decide +kernel
theorem dX6_digest_149 : decode cX6_digest 149 = .ok (.iload 4, 2) := by decide +kernel
theorem dX6_digest_151 : decode cX6_digest 151 = .ok (.invokevirtual 95, 3) := by decide +kernel
theorem dX6_digest_154 : decode cX6_digest 154 = .ok (.i2l, 1) := by decide +kernel
theorem dX6_digest_155 : decode cX6_digest 155 = .ok (.ladd, 1) := by decide +kernel
theorem dX6_digest_156 : decode cX6_digest 156 = .ok (.lstore_n 1, 1) := by decide +kernel
theorem dX6_digest_157 : decode cX6_digest 157 = .ok (.iinc 4 1, 3) := by decide +kernel
theorem dX6_digest_160 : decode cX6_digest 160 = .ok (.goto (-35), 3) := by decide +kernel
theorem dX6_digest_163 : decode cX6_digest 163 = .ok (.iinc 3 1, 3) := by decide +kernel
theorem dX6_digest_166 : decode cX6_digest 166 = .ok (.goto (-160), 3) := by decide +kernel
theorem dX6_digest_169 : decode cX6_digest 169 = .ok (.lload_n 1, 1) := by decide +kernel
theorem dX6_digest_170 : decode cX6_digest 170 = .ok (.lreturn, 1) := by decide +kernel
theorem dX6_keep_0 : decode cX6_keep 0 = .ok (.iload_n 1, 1) := by decide +kernel
theorem dX6_keep_1 : decode cX6_keep 1 = .ok (.ifCond .lt 8, 3) := by decide +kernel
theorem dX6_keep_4 : decode cX6_keep 4 = .ok (.iload_n 1, 1) := by decide +kernel
theorem dX6_keep_5 : decode cX6_keep 5 = .ok (.iconst 2, 1) := by decide +kernel
theorem dX6_keep_6 : decode cX6_keep 6 = .ok (.if_icmp .lt 5, 3) := by decide +kernel
theorem dX6_keep_9 : decode cX6_keep 9 = .ok (.iconst (-1), 1) := by decide +kernel
theorem dX6_keep_10 : decode cX6_keep 10 = .ok (.ireturn, 1) := by decide +kernel
theorem dX6_keep_11 : decode cX6_keep 11 = .ok (.aload_n 0, 1) := by decide +kernel
theorem dX6_keep_12 : decode cX6_keep 12 = .ok (.getfield 32, 3) := by decide +kernel
theorem dX6_keep_15 : decode cX6_keep 15 = .ok (.iload_n 1, 1) := by decide +kernel
theorem dX6_keep_16 : decode cX6_keep 16 = .ok (.aaload, 1) := by decide +kernel
theorem dX6_keep_17 : decode cX6_keep 17 = .ok (.astore_n 2, 1) := by decide +kernel
theorem dX6_keep_18 : decode cX6_keep 18 = .ok (.aload_n 2, 1) := by decide +kernel
theorem dX6_keep_19 : decode cX6_keep 19 = .ok (.getfield 195, 3) := by decide +kernel
theorem dX6_keep_22 : decode cX6_keep 22 = .ok (.aload_n 0, 1) := by decide +kernel
theorem dX6_keep_23 : decode cX6_keep 23 = .ok (.getfield 10, 3) := by decide +kernel
theorem dX6_keep_26 : decode cX6_keep 26 = .ok (.invokevirtual 122, 3) := by decide +kernel
theorem dX6_keep_29 : decode cX6_keep 29 = .ok (.aload_n 2, 1) := by decide +kernel
theorem dX6_keep_30 : decode cX6_keep 30 = .ok (.getfield 196, 3) := by decide +kernel
theorem dX6_keep_33 : decode cX6_keep 33 = .ok (.aload_n 0, 1) := by decide +kernel
theorem dX6_keep_34 : decode cX6_keep 34 = .ok (.getfield 19, 3) := by decide +kernel
theorem dX6_keep_37 : decode cX6_keep 37 = .ok (.invokevirtual 197, 3) := by decide +kernel
theorem dX6_keep_40 : decode cX6_keep 40 = .ok (.aload_n 2, 1) := by decide +kernel
theorem dX6_keep_41 : decode cX6_keep 41 = .ok (.iconst 1, 1) := by decide +kernel
theorem dX6_keep_42 : decode cX6_keep 42 = .ok (.putfield 200, 3) := by decide +kernel
theorem dX6_keep_45 : decode cX6_keep 45 = .ok (.aload_n 0, 1) := by decide +kernel
theorem dX6_keep_46 : decode cX6_keep 46 = .ok (.getfield 10, 3) := by decide +kernel
theorem dX6_keep_49 : decode cX6_keep 49 = .ok (.getfield 102, 3) := by decide +kernel
theorem dX6_keep_52 : decode cX6_keep 52 = .ok (.ireturn, 1) := by decide +kernel
theorem dX6_back_0 : decode cX6_back 0 = .ok (.iload_n 1, 1) := by decide +kernel
theorem dX6_back_1 : decode cX6_back 1 = .ok (.ifCond .lt 8, 3) := by decide +kernel
theorem dX6_back_4 : decode cX6_back 4 = .ok (.iload_n 1, 1) := by decide +kernel
theorem dX6_back_5 : decode cX6_back 5 = .ok (.iconst 2, 1) := by decide +kernel
theorem dX6_back_6 : decode cX6_back 6 = .ok (.if_icmp .lt 5, 3) := by decide +kernel
theorem dX6_back_9 : decode cX6_back 9 = .ok (.iconst (-1), 1) := by decide +kernel
theorem dX6_back_10 : decode cX6_back 10 = .ok (.ireturn, 1) := by decide +kernel
theorem dX6_back_11 : decode cX6_back 11 = .ok (.aload_n 0, 1) := by decide +kernel
theorem dX6_back_12 : decode cX6_back 12 = .ok (.getfield 32, 3) := by decide +kernel
theorem dX6_back_15 : decode cX6_back 15 = .ok (.iload_n 1, 1) := by decide +kernel
theorem dX6_back_16 : decode cX6_back 16 = .ok (.aaload, 1) := by decide +kernel
theorem dX6_back_17 : decode cX6_back 17 = .ok (.astore_n 2, 1) := by decide +kernel
theorem dX6_back_18 : decode cX6_back 18 = .ok (.aload_n 2, 1) := by decide +kernel
theorem dX6_back_19 : decode cX6_back 19 = .ok (.getfield 200, 3) := by decide +kernel
theorem dX6_back_22 : decode cX6_back 22 = .ok (.ifCond .ne 6, 3) := by decide +kernel
theorem dX6_back_25 : decode cX6_back 25 = .ok (.bipush (-2), 2) := by decide +kernel
theorem dX6_back_27 : decode cX6_back 27 = .ok (.ireturn, 1) := by decide +kernel
theorem dX6_back_28 : decode cX6_back 28 = .ok (.aload_n 0, 1) := by decide +kernel
theorem dX6_back_29 : decode cX6_back 29 = .ok (.getfield 10, 3) := by decide +kernel
theorem dX6_back_32 : decode cX6_back 32 = .ok (.aload_n 2, 1) := by decide +kernel
theorem dX6_back_33 : decode cX6_back 33 = .ok (.getfield 195, 3) := by decide +kernel
theorem dX6_back_36 : decode cX6_back 36 = .ok (.invokevirtual 122, 3) := by decide +kernel
theorem dX6_back_39 : decode cX6_back 39 = .ok (.aload_n 0, 1) := by decide +kernel
theorem dX6_back_40 : decode cX6_back 40 = .ok (.getfield 19, 3) := by decide +kernel
theorem dX6_back_43 : decode cX6_back 43 = .ok (.aload_n 2, 1) := by decide +kernel
theorem dX6_back_44 : decode cX6_back 44 = .ok (.getfield 196, 3) := by decide +kernel
theorem dX6_back_47 : decode cX6_back 47 = .ok (.invokevirtual 197, 3) := by decide +kernel
theorem dX6_back_50 : decode cX6_back 50 = .ok (.aload_n 0, 1) := by decide +kernel
theorem dX6_back_51 : decode cX6_back 51 = .ok (.getfield 39, 3) := by decide +kernel
theorem dX6_back_54 : decode cX6_back 54 = .ok (.aload_n 0, 1) := by decide +kernel
theorem dX6_back_55 : decode cX6_back 55 = .ok (.getfield 10, 3) := by decide +kernel
theorem dX6_back_58 : decode cX6_back 58 = .ok (.invokevirtual 128, 3) := by decide +kernel
theorem dX6_back_61 : decode cX6_back 61 = .ok (.aload_n 0, 1) := by decide +kernel
theorem dX6_back_62 : decode cX6_back 62 = .ok (.iconst 0, 1) := by decide +kernel
theorem dX6_back_63 : decode cX6_back 63 = .ok (.putfield 131, 3) := by decide +kernel
theorem dX6_back_66 : decode cX6_back 66 = .ok (.aload_n 0, 1) := by decide +kernel
theorem dX6_back_67 : decode cX6_back 67 = .ok (.getfield 10, 3) := by decide +kernel
theorem dX6_back_70 : decode cX6_back 70 = .ok (.getfield 102, 3) := by decide +kernel
theorem dX6_back_73 : decode cX6_back 73 = .ok (.ireturn, 1) := by decide +kernel
theorem dX6_perform_0 : decode cX6_perform 0 = .ok (.aload_n 0, 1) := by decide +kernel
theorem dX6_perform_1 : decode cX6_perform 1 = .ok (.getfield 26, 3) := by decide +kernel
theorem dX6_perform_4 : decode cX6_perform 4 = .ok (.getfield 204, 3) := by decide +kernel
theorem dX6_perform_7 : decode cX6_perform 7 = .ok (.istore_n 1, 1) := by decide +kernel
theorem dX6_perform_8 : decode cX6_perform 8 = .ok (.aload_n 0, 1) := by decide +kernel
theorem dX6_perform_9 : decode cX6_perform 9 = .ok (.getfield 26, 3) := by decide +kernel
theorem dX6_perform_12 : decode cX6_perform 12 = .ok (.getfield 207, 3) := by decide +kernel
theorem dX6_perform_15 : decode cX6_perform 15 = .ok (.istore_n 2, 1) := by decide +kernel
theorem dX6_perform_16 : decode cX6_perform 16 = .ok (.aload_n 0, 1) := by decide +kernel
theorem dX6_perform_17 : decode cX6_perform 17 = .ok (.getfield 26, 3) := by decide +kernel
theorem dX6_perform_20 : decode cX6_perform 20 = .ok (.getfield 210, 3) := by decide +kernel
theorem dX6_perform_23 : decode cX6_perform 23 = .ok (.tableswitch 122 0 8 #[49, 55, 61, 68, 74, 96, 103, 110, 116], 49) := by decide +kernel
theorem dX6_perform_72 : decode cX6_perform 72 = .ok (.aload_n 0, 1) := by decide +kernel
theorem dX6_perform_73 : decode cX6_perform 73 = .ok (.iload_n 1, 1) := by decide +kernel
theorem dX6_perform_74 : decode cX6_perform 74 = .ok (.invokevirtual 213, 3) := by decide +kernel
theorem dX6_perform_77 : decode cX6_perform 77 = .ok (.ireturn, 1) := by decide +kernel
theorem dX6_perform_78 : decode cX6_perform 78 = .ok (.aload_n 0, 1) := by decide +kernel
theorem dX6_perform_79 : decode cX6_perform 79 = .ok (.iload_n 1, 1) := by decide +kernel
theorem dX6_perform_80 : decode cX6_perform 80 = .ok (.invokevirtual 217, 3) := by decide +kernel
theorem dX6_perform_83 : decode cX6_perform 83 = .ok (.ireturn, 1) := by decide +kernel
theorem dX6_perform_84 : decode cX6_perform 84 = .ok (.aload_n 0, 1) := by decide +kernel
theorem dX6_perform_85 : decode cX6_perform 85 = .ok (.iload_n 1, 1) := by decide +kernel
theorem dX6_perform_86 : decode cX6_perform 86 = .ok (.iload_n 2, 1) := by decide +kernel
theorem dX6_perform_87 : decode cX6_perform 87 = .ok (.invokevirtual 220, 3) := by decide +kernel
theorem dX6_perform_90 : decode cX6_perform 90 = .ok (.ireturn, 1) := by decide +kernel
theorem dX6_perform_91 : decode cX6_perform 91 = .ok (.aload_n 0, 1) := by decide +kernel
theorem dX6_perform_92 : decode cX6_perform 92 = .ok (.iload_n 1, 1) := by decide +kernel
theorem dX6_perform_93 : decode cX6_perform 93 = .ok (.invokevirtual 223, 3) := by decide +kernel
theorem dX6_perform_96 : decode cX6_perform 96 = .ok (.ireturn, 1) := by decide +kernel
theorem dX6_perform_97 : decode cX6_perform 97 = .ok (.aload_n 0, 1) := by decide +kernel
theorem dX6_perform_98 : decode cX6_perform 98 = .ok (.iload_n 1, 1) := by decide +kernel
theorem dX6_perform_99 : decode cX6_perform 99 = .ok (.iload_n 2, 1) := by decide +kernel
theorem dX6_perform_100 : decode cX6_perform 100 = .ok (.aload_n 0, 1) := by decide +kernel
theorem dX6_perform_101 : decode cX6_perform 101 = .ok (.getfield 26, 3) := by decide +kernel
theorem dX6_perform_104 : decode cX6_perform 104 = .ok (.getfield 51, 3) := by decide +kernel
theorem dX6_perform_107 : decode cX6_perform 107 = .ok (.aload_n 0, 1) := by decide +kernel
theorem dX6_perform_108 : decode cX6_perform 108 = .ok (.getfield 26, 3) := by decide +kernel
theorem dX6_perform_111 : decode cX6_perform 111 = .ok (.getfield 226, 3) := by decide +kernel
theorem dX6_perform_114 : decode cX6_perform 114 = .ok (.iaload, 1) := by decide +kernel
theorem dX6_perform_115 : decode cX6_perform 115 = .ok (.invokevirtual 229, 3) := by decide +kernel
theorem dX6_perform_118 : decode cX6_perform 118 = .ok (.ireturn, 1) := by decide +kernel
theorem dX6_perform_119 : decode cX6_perform 119 = .ok (.aload_n 0, 1) := by decide +kernel
theorem dX6_perform_120 : decode cX6_perform 120 = .ok (.iload_n 1, 1) := by decide +kernel
theorem dX6_perform_121 : decode cX6_perform 121 = .ok (.iload_n 2, 1) := by decide +kernel
theorem dX6_perform_122 : decode cX6_perform 122 = .ok (.invokevirtual 233, 3) := by decide +kernel
theorem dX6_perform_125 : decode cX6_perform 125 = .ok (.ireturn, 1) := by decide +kernel
theorem dX6_perform_126 : decode cX6_perform 126 = .ok (.aload_n 0, 1) := by decide +kernel
theorem dX6_perform_127 : decode cX6_perform 127 = .ok (.iload_n 1, 1) := by decide +kernel
theorem dX6_perform_128 : decode cX6_perform 128 = .ok (.iload_n 2, 1) := by decide +kernel
theorem dX6_perform_129 : decode cX6_perform 129 = .ok (.invokevirtual 236, 3) := by decide +kernel
theorem dX6_perform_132 : decode cX6_perform 132 = .ok (.ireturn, 1) := by decide +kernel
theorem dX6_perform_133 : decode cX6_perform 133 = .ok (.aload_n 0, 1) := by decide +kernel
theorem dX6_perform_134 : decode cX6_perform 134 = .ok (.iload_n 1, 1) := by decide +kernel
theorem dX6_perform_135 : decode cX6_perform 135 = .ok (.invokevirtual 239, 3) := by decide +kernel
theorem dX6_perform_138 : decode cX6_perform 138 = .ok (.ireturn, 1) := by decide +kernel
theorem dX6_perform_139 : decode cX6_perform 139 = .ok (.aload_n 0, 1) := by decide +kernel
theorem dX6_perform_140 : decode cX6_perform 140 = .ok (.iload_n 1, 1) := by decide +kernel
theorem dX6_perform_141 : decode cX6_perform 141 = .ok (.invokevirtual 242, 3) := by decide +kernel
theorem dX6_perform_144 : decode cX6_perform 144 = .ok (.ireturn, 1) := by decide +kernel
theorem dX6_perform_145 : decode cX6_perform 145 = .ok (.iconst (-1), 1) := by decide +kernel
theorem dX6_perform_146 : decode cX6_perform 146 = .ok (.ireturn, 1) := by decide +kernel
theorem dX6_addLine_0 : decode cX6_addLine 0 = .ok (.iload_n 1, 1) := by decide +kernel
theorem dX6_addLine_1 : decode cX6_addLine 1 = .ok (.ifCond .lt 14, 3) := by decide +kernel
theorem dX6_addLine_4 : decode cX6_addLine 4 = .ok (.iload_n 1, 1) := by decide +kernel
theorem dX6_addLine_5 : decode cX6_addLine 5 = .ok (.aload_n 0, 1) := by decide +kernel
theorem dX6_addLine_6 : decode cX6_addLine 6 = .ok (.getfield 10, 3) := by decide +kernel
theorem dX6_addLine_9 : decode cX6_addLine 9 = .ok (.getfield 102, 3) := by decide +kernel
theorem dX6_addLine_12 : decode cX6_addLine 12 = .ok (.if_icmp .le 5, 3) := by decide +kernel
theorem dX6_addLine_15 : decode cX6_addLine 15 = .ok (.iconst (-1), 1) := by decide +kernel
theorem dX6_addLine_16 : decode cX6_addLine 16 = .ok (.ireturn, 1) := by decide +kernel
theorem dX6_addLine_17 : decode cX6_addLine 17 = .ok (.aload_n 0, 1) := by decide +kernel
theorem dX6_addLine_18 : decode cX6_addLine 18 = .ok (.getfield 10, 3) := by decide +kernel
theorem dX6_addLine_21 : decode cX6_addLine 21 = .ok (.getfield 102, 3) := by decide +kernel
theorem dX6_addLine_24 : decode cX6_addLine 24 = .ok (.bipush 12, 2) := by decide +kernel
theorem dX6_addLine_26 : decode cX6_addLine 26 = .ok (.if_icmp .lt 6, 3) := by decide +kernel
theorem dX6_addLine_29 : decode cX6_addLine 29 = .ok (.bipush (-3), 2) := by decide +kernel
theorem dX6_addLine_31 : decode cX6_addLine 31 = .ok (.ireturn, 1) := by decide +kernel
theorem dX6_addLine_32 : decode cX6_addLine 32 = .ok (.aload_n 0, 1) := by decide +kernel
theorem dX6_addLine_33 : decode cX6_addLine 33 = .ok (.getfield 19, 3) := by decide +kernel
theorem dX6_addLine_36 : decode cX6_addLine 36 = .ok (.aload_n 0, 1) := by decide +kernel
theorem dX6_addLine_37 : decode cX6_addLine 37 = .ok (.getfield 10, 3) := by decide +kernel
theorem dX6_addLine_40 : decode cX6_addLine 40 = .ok (.invokevirtual 79, 3) := by decide +kernel
theorem dX6_addLine_43 : decode cX6_addLine 43 = .ok (.aload_n 0, 1) := by decide +kernel
theorem dX6_addLine_44 : decode cX6_addLine 44 = .ok (.getfield 10, 3) := by decide +kernel
theorem dX6_addLine_47 : decode cX6_addLine 47 = .ok (.iload_n 1, 1) := by decide +kernel
theorem dX6_addLine_48 : decode cX6_addLine 48 = .ok (.invokevirtual 105, 3) := by decide +kernel
theorem dX6_addLine_51 : decode cX6_addLine 51 = .ok (.aload_n 0, 1) := by decide +kernel
theorem dX6_addLine_52 : decode cX6_addLine 52 = .ok (.getfield 26, 3) := by decide +kernel
theorem dX6_addLine_55 : decode cX6_addLine 55 = .ok (.invokevirtual 245, 3) := by decide +kernel
theorem dX6_addLine_58 : decode cX6_addLine 58 = .ok (.ifCond .ne 54, 3) := by decide +kernel
theorem dX6_addLine_61 : decode cX6_addLine 61 = .ok (.aload_n 0, 1) := by decide +kernel
theorem dX6_addLine_62 : decode cX6_addLine 62 = .ok (.getfield 26, 3) := by decide +kernel
theorem dX6_addLine_65 : decode cX6_addLine 65 = .ok (.getfield 226, 3) := by decide +kernel
theorem dX6_addLine_68 : decode cX6_addLine 68 = .ok (.istore_n 2, 1) := by decide +kernel
theorem dX6_addLine_69 : decode cX6_addLine 69 = .ok (.iload_n 2, 1) := by decide +kernel
theorem dX6_addLine_70 : decode cX6_addLine 70 = .ok (.aload_n 0, 1) := by decide +kernel
theorem dX6_addLine_71 : decode cX6_addLine 71 = .ok (.getfield 26, 3) := by decide +kernel
theorem dX6_addLine_74 : decode cX6_addLine 74 = .ok (.getfield 248, 3) := by decide +kernel
theorem dX6_addLine_77 : decode cX6_addLine 77 = .ok (.if_icmp .ge 35, 3) := by decide +kernel
theorem dX6_addLine_80 : decode cX6_addLine 80 = .ok (.aload_n 0, 1) := by decide +kernel
theorem dX6_addLine_81 : decode cX6_addLine 81 = .ok (.getfield 10, 3) := by decide +kernel
theorem dX6_addLine_84 : decode cX6_addLine 84 = .ok (.iload_n 1, 1) := by decide +kernel
theorem dX6_addLine_85 : decode cX6_addLine 85 = .ok (.iload_n 2, 1) := by decide +kernel
theorem dX6_addLine_86 : decode cX6_addLine 86 = .ok (.aload_n 0, 1) := by decide +kernel
theorem dX6_addLine_87 : decode cX6_addLine 87 = .ok (.getfield 26, 3) := by decide +kernel
theorem dX6_addLine_90 : decode cX6_addLine 90 = .ok (.getfield 226, 3) := by decide +kernel
theorem dX6_addLine_93 : decode cX6_addLine 93 = .ok (.isub, 1) := by decide +kernel
theorem dX6_addLine_94 : decode cX6_addLine 94 = .ok (.aload_n 0, 1) := by decide +kernel
theorem dX6_addLine_95 : decode cX6_addLine 95 = .ok (.getfield 26, 3) := by decide +kernel
theorem dX6_addLine_98 : decode cX6_addLine 98 = .ok (.getfield 51, 3) := by decide +kernel
theorem dX6_addLine_101 : decode cX6_addLine 101 = .ok (.iload_n 2, 1) := by decide +kernel
theorem dX6_addLine_102 : decode cX6_addLine 102 = .ok (.iaload, 1) := by decide +kernel
theorem dX6_addLine_103 : decode cX6_addLine 103 = .ok (.invokevirtual 83, 3) := by decide +kernel
theorem dX6_addLine_106 : decode cX6_addLine 106 = .ok (.iinc 2 1, 3) := by decide +kernel
theorem dX6_addLine_109 : decode cX6_addLine 109 = .ok (.goto (-40), 3) := by decide +kernel
theorem dX6_addLine_112 : decode cX6_addLine 112 = .ok (.aload_n 0, 1) := by decide +kernel
theorem dX6_addLine_113 : decode cX6_addLine 113 = .ok (.iload_n 1, 1) := by decide +kernel
theorem dX6_addLine_114 : decode cX6_addLine 114 = .ok (.bipush (-9), 2) := by decide +kernel
theorem dX6_addLine_116 : decode cX6_addLine 116 = .ok (.invokevirtual 87, 3) := by decide +kernel
theorem dX6_addLine_119 : decode cX6_addLine 119 = .ok (.aload_n 0, 1) := by decide +kernel
theorem dX6_addLine_120 : decode cX6_addLine 120 = .ok (.getfield 10, 3) := by decide +kernel
theorem dX6_addLine_123 : decode cX6_addLine 123 = .ok (.getfield 102, 3) := by decide +kernel
theorem dX6_addLine_126 : decode cX6_addLine 126 = .ok (.ireturn, 1) := by decide +kernel
theorem dX6_dropLine_0 : decode cX6_dropLine 0 = .ok (.aload_n 0, 1) := by decide +kernel
theorem dX6_dropLine_1 : decode cX6_dropLine 1 = .ok (.getfield 10, 3) := by decide +kernel
theorem dX6_dropLine_4 : decode cX6_dropLine 4 = .ok (.iload_n 1, 1) := by decide +kernel
theorem dX6_dropLine_5 : decode cX6_dropLine 5 = .ok (.invokevirtual 69, 3) := by decide +kernel
theorem dX6_dropLine_8 : decode cX6_dropLine 8 = .ok (.ifCond .ne 5, 3) := by decide +kernel
theorem dX6_dropLine_11 : decode cX6_dropLine 11 = .ok (.iconst (-1), 1) := by decide +kernel
theorem dX6_dropLine_12 : decode cX6_dropLine 12 = .ok (.ireturn, 1) := by decide +kernel
theorem dX6_dropLine_13 : decode cX6_dropLine 13 = .ok (.aload_n 0, 1) := by decide +kernel
theorem dX6_dropLine_14 : decode cX6_dropLine 14 = .ok (.getfield 19, 3) := by decide +kernel
theorem dX6_dropLine_17 : decode cX6_dropLine 17 = .ok (.aload_n 0, 1) := by decide +kernel
theorem dX6_dropLine_18 : decode cX6_dropLine 18 = .ok (.getfield 10, 3) := by decide +kernel
theorem dX6_dropLine_21 : decode cX6_dropLine 21 = .ok (.invokevirtual 79, 3) := by decide +kernel
theorem dX6_dropLine_24 : decode cX6_dropLine 24 = .ok (.aload_n 0, 1) := by decide +kernel
theorem dX6_dropLine_25 : decode cX6_dropLine 25 = .ok (.getfield 10, 3) := by decide +kernel
theorem dX6_dropLine_28 : decode cX6_dropLine 28 = .ok (.iload_n 1, 1) := by decide +kernel
theorem dX6_dropLine_29 : decode cX6_dropLine 29 = .ok (.invokevirtual 112, 3) := by decide +kernel
theorem dX6_dropLine_32 : decode cX6_dropLine 32 = .ok (.aload_n 0, 1) := by decide +kernel
theorem dX6_dropLine_33 : decode cX6_dropLine 33 = .ok (.bipush (-9), 2) := by decide +kernel
theorem dX6_dropLine_35 : decode cX6_dropLine 35 = .ok (.iload_n 1, 1) := by decide +kernel
theorem dX6_dropLine_36 : decode cX6_dropLine 36 = .ok (.invokevirtual 87, 3) := by decide +kernel
theorem dX6_dropLine_39 : decode cX6_dropLine 39 = .ok (.aload_n 0, 1) := by decide +kernel
theorem dX6_dropLine_40 : decode cX6_dropLine 40 = .ok (.getfield 10, 3) := by decide +kernel
theorem dX6_dropLine_43 : decode cX6_dropLine 43 = .ok (.getfield 102, 3) := by decide +kernel
theorem dX6_dropLine_46 : decode cX6_dropLine 46 = .ok (.ireturn, 1) := by decide +kernel
theorem dX6_setAlign_0 : decode cX6_setAlign 0 = .ok (.iload_n 1, 1) := by decide +kernel
theorem dX6_setAlign_1 : decode cX6_setAlign 1 = .ok (.ifCond .lt 18, 3) := by decide +kernel
theorem dX6_setAlign_4 : decode cX6_setAlign 4 = .ok (.iload_n 1, 1) := by decide +kernel
theorem dX6_setAlign_5 : decode cX6_setAlign 5 = .ok (.bipush 24, 2) := by decide +kernel
theorem dX6_setAlign_7 : decode cX6_setAlign 7 = .ok (.if_icmp .ge 12, 3) := by decide +kernel
theorem dX6_setAlign_10 : decode cX6_setAlign 10 = .ok (.iload_n 2, 1) := by decide +kernel
theorem dX6_setAlign_11 : decode cX6_setAlign 11 = .ok (.ifCond .lt 8, 3) := by decide +kernel
theorem dX6_setAlign_14 : decode cX6_setAlign 14 = .ok (.iload_n 2, 1) := by decide +kernel
theorem dX6_setAlign_15 : decode cX6_setAlign 15 = .ok (.iconst 4, 1) := by decide +kernel
theorem dX6_setAlign_16 : decode cX6_setAlign 16 = .ok (.if_icmp .lt 5, 3) := by decide +kernel
theorem dX6_setAlign_19 : decode cX6_setAlign 19 = .ok (.iconst (-1), 1) := by decide +kernel
theorem dX6_setAlign_20 : decode cX6_setAlign 20 = .ok (.ireturn, 1) := by decide +kernel
theorem dX6_setAlign_21 : decode cX6_setAlign 21 = .ok (.aload_n 0, 1) := by decide +kernel
theorem dX6_setAlign_22 : decode cX6_setAlign 22 = .ok (.getfield 19, 3) := by decide +kernel
theorem dX6_setAlign_25 : decode cX6_setAlign 25 = .ok (.aload_n 0, 1) := by decide +kernel
theorem dX6_setAlign_26 : decode cX6_setAlign 26 = .ok (.getfield 10, 3) := by decide +kernel
theorem dX6_setAlign_29 : decode cX6_setAlign 29 = .ok (.invokevirtual 79, 3) := by decide +kernel
theorem dX6_setAlign_32 : decode cX6_setAlign 32 = .ok (.aload_n 0, 1) := by decide +kernel
theorem dX6_setAlign_33 : decode cX6_setAlign 33 = .ok (.getfield 10, 3) := by decide +kernel
theorem dX6_setAlign_36 : decode cX6_setAlign 36 = .ok (.getfield 173, 3) := by decide +kernel
theorem dX6_setAlign_39 : decode cX6_setAlign 39 = .ok (.iload_n 1, 1) := by decide +kernel
theorem dX6_setAlign_40 : decode cX6_setAlign 40 = .ok (.iload_n 2, 1) := by decide +kernel
theorem dX6_setAlign_41 : decode cX6_setAlign 41 = .ok (.iastore, 1) := by decide +kernel
theorem dX6_setAlign_42 : decode cX6_setAlign 42 = .ok (.aload_n 0, 1) := by decide +kernel
theorem dX6_setAlign_43 : decode cX6_setAlign 43 = .ok (.bipush (-9), 2) := by decide +kernel
theorem dX6_setAlign_45 : decode cX6_setAlign 45 = .ok (.bipush (-9), 2) := by decide +kernel
theorem dX6_setAlign_47 : decode cX6_setAlign 47 = .ok (.invokevirtual 87, 3) := by decide +kernel
theorem dX6_setAlign_50 : decode cX6_setAlign 50 = .ok (.iload_n 2, 1) := by decide +kernel
theorem dX6_setAlign_51 : decode cX6_setAlign 51 = .ok (.ireturn, 1) := by decide +kernel
theorem dX6_setPad_0 : decode cX6_setPad 0 = .ok (.iload_n 1, 1) := by decide +kernel
theorem dX6_setPad_1 : decode cX6_setPad 1 = .ok (.ifCond .lt 8, 3) := by decide +kernel
theorem dX6_setPad_4 : decode cX6_setPad 4 = .ok (.iload_n 1, 1) := by decide +kernel
theorem dX6_setPad_5 : decode cX6_setPad 5 = .ok (.iconst 4, 1) := by decide +kernel
theorem dX6_setPad_6 : decode cX6_setPad 6 = .ok (.if_icmp .le 5, 3) := by decide +kernel
theorem dX6_setPad_9 : decode cX6_setPad 9 = .ok (.iconst (-1), 1) := by decide +kernel
theorem dX6_setPad_10 : decode cX6_setPad 10 = .ok (.ireturn, 1) := by decide +kernel
theorem dX6_setPad_11 : decode cX6_setPad 11 = .ok (.aload_n 0, 1) := by decide +kernel
theorem dX6_setPad_12 : decode cX6_setPad 12 = .ok (.getfield 19, 3) := by decide +kernel
theorem dX6_setPad_15 : decode cX6_setPad 15 = .ok (.aload_n 0, 1) := by decide +kernel
theorem dX6_setPad_16 : decode cX6_setPad 16 = .ok (.getfield 10, 3) := by decide +kernel
theorem dX6_setPad_19 : decode cX6_setPad 19 = .ok (.invokevirtual 79, 3) := by decide +kernel
theorem dX6_setPad_22 : decode cX6_setPad 22 = .ok (.aload_n 0, 1) := by decide +kernel
theorem dX6_setPad_23 : decode cX6_setPad 23 = .ok (.getfield 10, 3) := by decide +kernel
theorem dX6_setPad_26 : decode cX6_setPad 26 = .ok (.iload_n 1, 1) := by decide +kernel
theorem dX6_setPad_27 : decode cX6_setPad 27 = .ok (.putfield 176, 3) := by decide +kernel
theorem dX6_setPad_30 : decode cX6_setPad 30 = .ok (.aload_n 0, 1) := by decide +kernel
theorem dX6_setPad_31 : decode cX6_setPad 31 = .ok (.bipush (-9), 2) := by decide +kernel
theorem dX6_setPad_33 : decode cX6_setPad 33 = .ok (.bipush (-9), 2) := by decide +kernel
theorem dX6_setPad_35 : decode cX6_setPad 35 = .ok (.invokevirtual 87, 3) := by decide +kernel
theorem dX6_setPad_38 : decode cX6_setPad 38 = .ok (.iload_n 1, 1) := by decide +kernel
theorem dX6_setPad_39 : decode cX6_setPad 39 = .ok (.ireturn, 1) := by decide +kernel
theorem dX6_setLeast_0 : decode cX6_setLeast 0 = .ok (.iload_n 1, 1) := by decide +kernel
theorem dX6_setLeast_1 : decode cX6_setLeast 1 = .ok (.ifCond .lt 9, 3) := by decide +kernel
theorem dX6_setLeast_4 : decode cX6_setLeast 4 = .ok (.iload_n 1, 1) := by decide +kernel
theorem dX6_setLeast_5 : decode cX6_setLeast 5 = .ok (.bipush 9, 2) := by decide +kernel
theorem dX6_setLeast_7 : decode cX6_setLeast 7 = .ok (.if_icmp .le 5, 3) := by decide +kernel
theorem dX6_setLeast_10 : decode cX6_setLeast 10 = .ok (.iconst (-1), 1) := by decide +kernel
theorem dX6_setLeast_11 : decode cX6_setLeast 11 = .ok (.ireturn, 1) := by decide +kernel
theorem dX6_setLeast_12 : decode cX6_setLeast 12 = .ok (.aload_n 0, 1) := by decide +kernel
theorem dX6_setLeast_13 : decode cX6_setLeast 13 = .ok (.getfield 19, 3) := by decide +kernel
theorem dX6_setLeast_16 : decode cX6_setLeast 16 = .ok (.aload_n 0, 1) := by decide +kernel
theorem dX6_setLeast_17 : decode cX6_setLeast 17 = .ok (.getfield 10, 3) := by decide +kernel
theorem dX6_setLeast_20 : decode cX6_setLeast 20 = .ok (.invokevirtual 79, 3) := by decide +kernel
theorem dX6_setLeast_23 : decode cX6_setLeast 23 = .ok (.aload_n 0, 1) := by decide +kernel
theorem dX6_setLeast_24 : decode cX6_setLeast 24 = .ok (.getfield 10, 3) := by decide +kernel
theorem dX6_setLeast_27 : decode cX6_setLeast 27 = .ok (.iload_n 1, 1) := by decide +kernel
theorem dX6_setLeast_28 : decode cX6_setLeast 28 = .ok (.putfield 179, 3) := by decide +kernel
theorem dX6_setLeast_31 : decode cX6_setLeast 31 = .ok (.aload_n 0, 1) := by decide +kernel
theorem dX6_setLeast_32 : decode cX6_setLeast 32 = .ok (.bipush (-9), 2) := by decide +kernel
theorem dX6_setLeast_34 : decode cX6_setLeast 34 = .ok (.bipush (-9), 2) := by decide +kernel
theorem dX6_setLeast_36 : decode cX6_setLeast 36 = .ok (.invokevirtual 87, 3) := by decide +kernel
theorem dX6_setLeast_39 : decode cX6_setLeast 39 = .ok (.iload_n 1, 1) := by decide +kernel
theorem dX6_setLeast_40 : decode cX6_setLeast 40 = .ok (.ireturn, 1) := by decide +kernel
theorem dX6_settle_0 : decode cX6_settle 0 = .ok (.aload_n 0, 1) := by decide +kernel
theorem dX6_settle_1 : decode cX6_settle 1 = .ok (.getfield 39, 3) := by decide +kernel
theorem dX6_settle_4 : decode cX6_settle 4 = .ok (.astore_n 3, 1) := by decide +kernel
theorem dX6_settle_5 : decode cX6_settle 5 = .ok (.aload_n 0, 1) := by decide +kernel
theorem dX6_settle_6 : decode cX6_settle 6 = .ok (.aload_n 0, 1) := by decide +kernel
theorem dX6_settle_7 : decode cX6_settle 7 = .ok (.getfield 43, 3) := by decide +kernel
theorem dX6_settle_10 : decode cX6_settle 10 = .ok (.putfield 39, 3) := by decide +kernel
theorem dX6_settle_13 : decode cX6_settle 13 = .ok (.aload_n 0, 1) := by decide +kernel
theorem dX6_settle_14 : decode cX6_settle 14 = .ok (.aload_n 3, 1) := by decide +kernel
theorem dX6_settle_15 : decode cX6_settle 15 = .ok (.putfield 43, 3) := by decide +kernel
theorem dX6_settle_18 : decode cX6_settle 18 = .ok (.aload_n 0, 1) := by decide +kernel
theorem dX6_settle_19 : decode cX6_settle 19 = .ok (.getfield 39, 3) := by decide +kernel
theorem dX6_settle_22 : decode cX6_settle 22 = .ok (.aload_n 0, 1) := by decide +kernel
theorem dX6_settle_23 : decode cX6_settle 23 = .ok (.getfield 10, 3) := by decide +kernel
theorem dX6_settle_26 : decode cX6_settle 26 = .ok (.invokevirtual 128, 3) := by decide +kernel
theorem dX6_settle_29 : decode cX6_settle 29 = .ok (.aload_n 0, 1) := by decide +kernel
theorem dX6_settle_30 : decode cX6_settle 30 = .ok (.iconst 0, 1) := by decide +kernel
theorem dX6_settle_31 : decode cX6_settle 31 = .ok (.putfield 131, 3) := by decide +kernel
theorem dX6_settle_34 : decode cX6_settle 34 = .ok (.iconst 0, 1) := by decide +kernel
theorem dX6_settle_35 : decode cX6_settle 35 = .ok (.istore 4, 2) := by decide +kernel
theorem dX6_settle_37 : decode cX6_settle 37 = .ok (.iload 4, 2) := by decide +kernel
theorem dX6_settle_39 : decode cX6_settle 39 = .ok (.aload_n 0, 1) := by decide +kernel
theorem dX6_settle_40 : decode cX6_settle 40 = .ok (.getfield 10, 3) := by decide +kernel
theorem dX6_settle_43 : decode cX6_settle 43 = .ok (.getfield 102, 3) := by decide +kernel
theorem dX6_settle_46 : decode cX6_settle 46 = .ok (.if_icmp .ge 47, 3) := by decide +kernel
theorem dX6_settle_49 : decode cX6_settle 49 = .ok (.iload 4, 2) := by decide +kernel
theorem dX6_settle_51 : decode cX6_settle 51 = .ok (.iload_n 1, 1) := by decide +kernel
theorem dX6_settle_52 : decode cX6_settle 52 = .ok (.iload_n 2, 1) := by decide +kernel
theorem dX6_settle_53 : decode cX6_settle 53 = .ok (.invokestatic 251, 3) := by decide +kernel
theorem dX6_settle_56 : decode cX6_settle 56 = .ok (.istore 5, 2) := by decide +kernel
theorem dX6_settle_58 : decode cX6_settle 58 = .ok (.iload 5, 2) := by decide +kernel
theorem dX6_settle_60 : decode cX6_settle 60 = .ok (.ifCond .lt 14, 3) := by decide +kernel
theorem dX6_settle_63 : decode cX6_settle 63 = .ok (.aload_n 0, 1) := by decide +kernel
theorem dX6_settle_64 : decode cX6_settle 64 = .ok (.iload 5, 2) := by decide +kernel
theorem dX6_settle_66 : decode cX6_settle 66 = .ok (.iload 4, 2) := by decide +kernel
theorem dX6_settle_68 : decode cX6_settle 68 = .ok (.invokevirtual 254, 3) := by decide +kernel
theorem dX6_settle_71 : decode cX6_settle 71 = .ok (.ifCond .eq 16, 3) := by decide +kernel
theorem dX6_settle_74 : decode cX6_settle 74 = .ok (.aload_n 0, 1) := by decide +kernel
theorem dX6_settle_75 : decode cX6_settle 75 = .ok (.dup, 1) := by decide +kernel
theorem dX6_settle_76 : decode cX6_settle 76 = .ok (.getfield 131, 3) := by decide +kernel
theorem dX6_settle_79 : decode cX6_settle 79 = .ok (.iconst 1, 1) := by decide +kernel
theorem dX6_settle_80 : decode cX6_settle 80 = .ok (.iload 4, 2) := by decide +kernel
theorem dX6_settle_82 : decode cX6_settle 82 = .ok (.ishl, 1) := by decide +kernel
theorem dX6_settle_83 : decode cX6_settle 83 = .ok (.ior, 1) := by decide +kernel
theorem dX6_settle_84 : decode cX6_settle 84 = .ok (.putfield 131, 3) := by decide +kernel
theorem dX6_settle_87 : decode cX6_settle 87 = .ok (.iinc 4 1, 3) := by decide +kernel
theorem dX6_settle_90 : decode cX6_settle 90 = .ok (.goto (-53), 3) := by decide +kernel
theorem dX6_settle_93 : decode cX6_settle 93 = .ok (.return_, 1) := by decide +kernel
theorem dX6_formerPlace_0 : decode cX6_formerPlace 0 = .ok (.iload_n 1, 1) := by decide +kernel
theorem dX6_formerPlace_1 : decode cX6_formerPlace 1 = .ok (.ifCond .lt 22, 3) := by decide +kernel
theorem dX6_formerPlace_4 : decode cX6_formerPlace 4 = .ok (.iload_n 0, 1) := by decide +kernel
theorem dX6_formerPlace_5 : decode cX6_formerPlace 5 = .ok (.iload_n 1, 1) := by decide +kernel
theorem dX6_formerPlace_6 : decode cX6_formerPlace 6 = .ok (.if_icmp .lt 17, 3) := by decide +kernel
theorem dX6_formerPlace_9 : decode cX6_formerPlace 9 = .ok (.iload_n 0, 1) := by decide +kernel
theorem dX6_formerPlace_10 : decode cX6_formerPlace 10 = .ok (.iload_n 1, 1) := by decide +kernel
theorem dX6_formerPlace_11 : decode cX6_formerPlace 11 = .ok (.if_icmp .ne 8, 3) := by decide +kernel
theorem dX6_formerPlace_14 : decode cX6_formerPlace 14 = .ok (.bipush (-9), 2) := by decide +kernel
theorem dX6_formerPlace_16 : decode cX6_formerPlace 16 = .ok (.goto 6, 3) := by decide +kernel
theorem dX6_formerPlace_19 : decode cX6_formerPlace 19 = .ok (.iload_n 0, 1) := by decide +kernel
theorem dX6_formerPlace_20 : decode cX6_formerPlace 20 = .ok (.iconst 1, 1) := by decide +kernel
theorem dX6_formerPlace_21 : decode cX6_formerPlace 21 = .ok (.isub, 1) := by decide +kernel
theorem dX6_formerPlace_22 : decode cX6_formerPlace 22 = .ok (.ireturn, 1) := by decide +kernel
theorem dX6_formerPlace_23 : decode cX6_formerPlace 23 = .ok (.iload_n 2, 1) := by decide +kernel
theorem dX6_formerPlace_24 : decode cX6_formerPlace 24 = .ok (.ifCond .lt 14, 3) := by decide +kernel
theorem dX6_formerPlace_27 : decode cX6_formerPlace 27 = .ok (.iload_n 0, 1) := by decide +kernel
theorem dX6_formerPlace_28 : decode cX6_formerPlace 28 = .ok (.iload_n 2, 1) := by decide +kernel
theorem dX6_formerPlace_29 : decode cX6_formerPlace 29 = .ok (.if_icmp .lt 9, 3) := by decide +kernel
theorem dX6_formerPlace_32 : decode cX6_formerPlace 32 = .ok (.iload_n 0, 1) := by decide +kernel
theorem dX6_formerPlace_33 : decode cX6_formerPlace 33 = .ok (.iconst 1, 1) := by decide +kernel
theorem dX6_formerPlace_34 : decode cX6_formerPlace 34 = .ok (.iadd, 1) := by decide +kernel
theorem dX6_formerPlace_35 : decode cX6_formerPlace 35 = .ok (.goto 4, 3) := by decide +kernel
theorem dX6_formerPlace_38 : decode cX6_formerPlace 38 = .ok (.iload_n 0, 1) := by decide +kernel
theorem dX6_formerPlace_39 : decode cX6_formerPlace 39 = .ok (.ireturn, 1) := by decide +kernel
theorem dX6_isLaidAnew_0 : decode cX6_isLaidAnew 0 = .ok (.aload_n 0, 1) := by decide +kernel
theorem dX6_isLaidAnew_1 : decode cX6_isLaidAnew 1 = .ok (.getfield 10, 3) := by decide +kernel
theorem dX6_isLaidAnew_4 : decode cX6_isLaidAnew 4 = .ok (.iload_n 2, 1) := by decide +kernel
theorem dX6_isLaidAnew_5 : decode cX6_isLaidAnew 5 = .ok (.aload_n 0, 1) := by decide +kernel
theorem dX6_isLaidAnew_6 : decode cX6_isLaidAnew 6 = .ok (.getfield 19, 3) := by decide +kernel
theorem dX6_isLaidAnew_9 : decode cX6_isLaidAnew 9 = .ok (.invokevirtual 118, 3) := by decide +kernel
theorem dX6_isLaidAnew_12 : decode cX6_isLaidAnew 12 = .ok (.iload_n 1, 1) := by decide +kernel
theorem dX6_isLaidAnew_13 : decode cX6_isLaidAnew 13 = .ok (.invokevirtual 257, 3) := by decide +kernel
theorem dX6_isLaidAnew_16 : decode cX6_isLaidAnew 16 = .ok (.ifCond .ne 5, 3) := by decide +kernel
theorem dX6_isLaidAnew_19 : decode cX6_isLaidAnew 19 = .ok (.iconst 1, 1) := by decide +kernel
theorem dX6_isLaidAnew_20 : decode cX6_isLaidAnew 20 = .ok (.ireturn, 1) := by decide +kernel
theorem dX6_isLaidAnew_21 : decode cX6_isLaidAnew 21 = .ok (.iconst 0, 1) := by decide +kernel
theorem dX6_isLaidAnew_22 : decode cX6_isLaidAnew 22 = .ok (.istore_n 3, 1) := by decide +kernel
theorem dX6_isLaidAnew_23 : decode cX6_isLaidAnew 23 = .ok (.iload_n 3, 1) := by decide +kernel
theorem dX6_isLaidAnew_24 : decode cX6_isLaidAnew 24 = .ok (.aload_n 0, 1) := by decide +kernel
theorem dX6_isLaidAnew_25 : decode cX6_isLaidAnew 25 = .ok (.getfield 39, 3) := by decide +kernel
theorem dX6_isLaidAnew_28 : decode cX6_isLaidAnew 28 = .ok (.getfield 134, 3) := by decide +kernel
theorem dX6_isLaidAnew_31 : decode cX6_isLaidAnew 31 = .ok (.iload_n 2, 1) := by decide +kernel
theorem dX6_isLaidAnew_32 : decode cX6_isLaidAnew 32 = .ok (.iaload, 1) := by decide +kernel
theorem dX6_isLaidAnew_33 : decode cX6_isLaidAnew 33 = .ok (.if_icmp .ge 42, 3) := by decide +kernel
theorem dX6_isLaidAnew_36 : decode cX6_isLaidAnew 36 = .ok (.aload_n 0, 1) := by decide +kernel
theorem dX6_isLaidAnew_37 : decode cX6_isLaidAnew 37 = .ok (.getfield 39, 3) := by decide +kernel
theorem dX6_isLaidAnew_40 : decode cX6_isLaidAnew 40 = .ok (.getfield 144, 3) := by decide +kernel
theorem dX6_isLaidAnew_43 : decode cX6_isLaidAnew 43 = .ok (.iload_n 2, 1) := by decide +kernel
theorem dX6_isLaidAnew_44 : decode cX6_isLaidAnew 44 = .ok (.bipush 24, 2) := by decide +kernel
theorem dX6_isLaidAnew_46 : decode cX6_isLaidAnew 46 = .ok (.imul, 1) := by decide +kernel
theorem dX6_isLaidAnew_47 : decode cX6_isLaidAnew 47 = .ok (.iload_n 3, 1) := by decide +kernel
theorem dX6_isLaidAnew_48 : decode cX6_isLaidAnew 48 = .ok (.iadd, 1) := by decide +kernel
theorem dX6_isLaidAnew_49 : decode cX6_isLaidAnew 49 = .ok (.iaload, 1) := by decide +kernel
theorem dX6_isLaidAnew_50 : decode cX6_isLaidAnew 50 = .ok (.aload_n 0, 1) := by decide +kernel
theorem dX6_isLaidAnew_51 : decode cX6_isLaidAnew 51 = .ok (.getfield 43, 3) := by decide +kernel
theorem dX6_isLaidAnew_54 : decode cX6_isLaidAnew 54 = .ok (.getfield 144, 3) := by decide +kernel
theorem dX6_isLaidAnew_57 : decode cX6_isLaidAnew 57 = .ok (.iload_n 1, 1) := by decide +kernel
theorem dX6_isLaidAnew_58 : decode cX6_isLaidAnew 58 = .ok (.bipush 24, 2) := by decide +kernel
theorem dX6_isLaidAnew_60 : decode cX6_isLaidAnew 60 = .ok (.imul, 1) := by decide +kernel
theorem dX6_isLaidAnew_61 : decode cX6_isLaidAnew 61 = .ok (.iload_n 3, 1) := by decide +kernel
theorem dX6_isLaidAnew_62 : decode cX6_isLaidAnew 62 = .ok (.iadd, 1) := by decide +kernel
theorem dX6_isLaidAnew_63 : decode cX6_isLaidAnew 63 = .ok (.iaload, 1) := by decide +kernel
theorem dX6_isLaidAnew_64 : decode cX6_isLaidAnew 64 = .ok (.if_icmp .eq 5, 3) := by decide +kernel
theorem dX6_isLaidAnew_67 : decode cX6_isLaidAnew 67 = .ok (.iconst 1, 1) := by decide +kernel
theorem dX6_isLaidAnew_68 : decode cX6_isLaidAnew 68 = .ok (.ireturn, 1) := by decide +kernel
theorem dX6_isLaidAnew_69 : decode cX6_isLaidAnew 69 = .ok (.iinc 3 1, 3) := by decide +kernel
theorem dX6_isLaidAnew_72 : decode cX6_isLaidAnew 72 = .ok (.goto (-49), 3) := by decide +kernel
theorem dX6_isLaidAnew_75 : decode cX6_isLaidAnew 75 = .ok (.iconst 0, 1) := by decide +kernel
theorem dX6_isLaidAnew_76 : decode cX6_isLaidAnew 76 = .ok (.ireturn, 1) := by decide +kernel
theorem dX7_init_0 : decode cX7_init 0 = .ok (.aload_n 0, 1) := by decide +kernel
theorem dX7_init_1 : decode cX7_init 1 = .ok (.invokespecial 1, 3) := by decide +kernel
theorem dX7_init_4 : decode cX7_init 4 = .ok (.aload_n 0, 1) := by decide +kernel
theorem dX7_init_5 : decode cX7_init 5 = .ok (.sipush 327, 3) := by decide +kernel
theorem dX7_init_8 : decode cX7_init 8 = .ok (.newarray .int, 2) := by decide +kernel
theorem dX7_init_10 : decode cX7_init 10 = .ok (.putfield 7, 3) := by decide +kernel
theorem dX7_init_13 : decode cX7_init 13 = .ok (.aload_n 0, 1) := by decide +kernel
theorem dX7_init_14 : decode cX7_init 14 = .ok (.sipush 327, 3) := by decide +kernel
theorem dX7_init_17 : decode cX7_init 17 = .ok (.newarray .int, 2) := by decide +kernel
theorem dX7_init_19 : decode cX7_init 19 = .ok (.putfield 13, 3) := by decide +kernel
theorem dX7_init_22 : decode cX7_init 22 = .ok (.aload_n 0, 1) := by decide +kernel
theorem dX7_init_23 : decode cX7_init 23 = .ok (.bipush 12, 2) := by decide +kernel
theorem dX7_init_25 : decode cX7_init 25 = .ok (.newarray .int, 2) := by decide +kernel
theorem dX7_init_27 : decode cX7_init 27 = .ok (.putfield 16, 3) := by decide +kernel
theorem dX7_init_30 : decode cX7_init 30 = .ok (.aload_n 0, 1) := by decide +kernel
theorem dX7_init_31 : decode cX7_init 31 = .ok (.sipush 3270, 3) := by decide +kernel
theorem dX7_init_34 : decode cX7_init 34 = .ok (.newarray .int, 2) := by decide +kernel
theorem dX7_init_36 : decode cX7_init 36 = .ok (.putfield 19, 3) := by decide +kernel
theorem dX7_init_39 : decode cX7_init 39 = .ok (.aload_n 0, 1) := by decide +kernel
theorem dX7_init_40 : decode cX7_init 40 = .ok (.sipush 150, 3) := by decide +kernel
theorem dX7_init_43 : decode cX7_init 43 = .ok (.newarray .int, 2) := by decide +kernel
theorem dX7_init_45 : decode cX7_init 45 = .ok (.putfield 22, 3) := by decide +kernel
theorem dX7_init_48 : decode cX7_init 48 = .ok (.aload_n 0, 1) := by decide +kernel
theorem dX7_init_49 : decode cX7_init 49 = .ok (.iconst 2, 1) := by decide +kernel
theorem dX7_init_50 : decode cX7_init 50 = .ok (.newarray .boolean, 2) := by decide +kernel
theorem dX7_init_52 : decode cX7_init 52 = .ok (.putfield 25, 3) := by decide +kernel
theorem dX7_init_55 : decode cX7_init 55 = .ok (.aload_n 0, 1) := by decide +kernel
theorem dX7_init_56 : decode cX7_init 56 = .ok (.sipush 654, 3) := by decide +kernel
theorem dX7_init_59 : decode cX7_init 59 = .ok (.newarray .int, 2) := by decide +kernel
theorem dX7_init_61 : decode cX7_init 61 = .ok (.putfield 29, 3) := by decide +kernel
theorem dX7_init_64 : decode cX7_init 64 = .ok (.aload_n 0, 1) := by decide +kernel
theorem dX7_init_65 : decode cX7_init 65 = .ok (.sipush 6540, 3) := by decide +kernel
theorem dX7_init_68 : decode cX7_init 68 = .ok (.newarray .int, 2) := by decide +kernel
theorem dX7_init_70 : decode cX7_init 70 = .ok (.putfield 32, 3) := by decide +kernel
theorem dX7_init_73 : decode cX7_init 73 = .ok (.aload_n 0, 1) := by decide +kernel
theorem dX7_init_74 : decode cX7_init 74 = .ok (.iconst 2, 1) := by decide +kernel
theorem dX7_init_75 : decode cX7_init 75 = .ok (.newarray .int, 2) := by decide +kernel
theorem dX7_init_77 : decode cX7_init 77 = .ok (.putfield 35, 3) := by decide +kernel
theorem dX7_init_80 : decode cX7_init 80 = .ok (.aload_n 0, 1) := by decide +kernel
theorem dX7_init_81 : decode cX7_init 81 = .ok (.iconst 2, 1) := by decide +kernel
theorem dX7_init_82 : decode cX7_init 82 = .ok (.newarray .int, 2) := by decide +kernel
theorem dX7_init_84 : decode cX7_init 84 = .ok (.putfield 38, 3) := by decide +kernel
theorem dX7_init_87 : decode cX7_init 87 = .ok (.aload_n 0, 1) := by decide +kernel
theorem dX7_init_88 : decode cX7_init 88 = .ok (.getfield 7, 3) := by decide +kernel
theorem dX7_init_91 : decode cX7_init 91 = .ok (.iconst 1, 1) := by decide +kernel
theorem dX7_init_92 : decode cX7_init 92 = .ok (.iconst 1, 1) := by decide +kernel
theorem dX7_init_93 : decode cX7_init 93 = .ok (.iastore, 1) := by decide +kernel
theorem dX7_init_94 : decode cX7_init 94 = .ok (.return_, 1) := by decide +kernel
theorem dX7_in_0 : decode cX7_in 0 = .ok (.iload_n 0, 1) := by decide +kernel
theorem dX7_in_1 : decode cX7_in 1 = .ok (.iload_n 1, 1) := by decide +kernel
theorem dX7_in_2 : decode cX7_in 2 = .ok (.if_icmp .lt 12, 3) := by decide +kernel
theorem dX7_in_5 : decode cX7_in 5 = .ok (.iload_n 0, 1) := by decide +kernel
theorem dX7_in_6 : decode cX7_in 6 = .ok (.iload_n 2, 1) := by decide +kernel
theorem dX7_in_7 : decode cX7_in 7 = .ok (.if_icmp .gt 7, 3) := by decide +kernel
theorem dX7_in_10 : decode cX7_in 10 = .ok (.iconst 1, 1) := by decide +kernel
theorem dX7_in_11 : decode cX7_in 11 = .ok (.goto 4, 3) := by decide +kernel
theorem dX7_in_14 : decode cX7_in 14 = .ok (.iconst 0, 1) := by decide +kernel
theorem dX7_in_15 : decode cX7_in 15 = .ok (.ireturn, 1) := by decide +kernel
theorem dX7_copies_0 : decode cX7_copies 0 = .ok (.iconst 0, 1) := by decide +kernel
theorem dX7_copies_1 : decode cX7_copies 1 = .ok (.istore_n 2, 1) := by decide +kernel
theorem dX7_copies_2 : decode cX7_copies 2 = .ok (.iload_n 2, 1) := by decide +kernel
theorem dX7_copies_3 : decode cX7_copies 3 = .ok (.sipush 327, 3) := by decide +kernel
theorem dX7_copies_6 : decode cX7_copies 6 = .ok (.if_icmp .ge 15, 3) := by decide +kernel
theorem dX7_copies_9 : decode cX7_copies 9 = .ok (.aload_n 1, 1) := by decide +kernel
theorem dX7_copies_10 : decode cX7_copies 10 = .ok (.iload_n 2, 1) := by decide +kernel
theorem dX7_copies_11 : decode cX7_copies 11 = .ok (.aload_n 0, 1) := by decide +kernel
theorem dX7_copies_12 : decode cX7_copies 12 = .ok (.iload_n 2, 1) := by decide +kernel
theorem dX7_copies_13 : decode cX7_copies 13 = .ok (.iaload, 1) := by decide +kernel
theorem dX7_copies_14 : decode cX7_copies 14 = .ok (.iastore, 1) := by decide +kernel
theorem dX7_copies_15 : decode cX7_copies 15 = .ok (.iinc 2 1, 3) := by decide +kernel
theorem dX7_copies_18 : decode cX7_copies 18 = .ok (.goto (-16), 3) := by decide +kernel
theorem dX7_copies_21 : decode cX7_copies 21 = .ok (.return_, 1) := by decide +kernel
theorem dX7_signAt_0 : decode cX7_signAt 0 = .ok (.aload_n 0, 1) := by decide +kernel
theorem dX7_signAt_1 : decode cX7_signAt 1 = .ok (.bipush 15, 2) := by decide +kernel
theorem dX7_signAt_3 : decode cX7_signAt 3 = .ok (.bipush 24, 2) := by decide +kernel
theorem dX7_signAt_5 : decode cX7_signAt 5 = .ok (.iload_n 1, 1) := by decide +kernel
theorem dX7_signAt_6 : decode cX7_signAt 6 = .ok (.imul, 1) := by decide +kernel
theorem dX7_signAt_7 : decode cX7_signAt 7 = .ok (.iadd, 1) := by decide +kernel
theorem dX7_signAt_8 : decode cX7_signAt 8 = .ok (.iload_n 2, 1) := by decide +kernel
theorem dX7_signAt_9 : decode cX7_signAt 9 = .ok (.iadd, 1) := by decide +kernel
theorem dX7_signAt_10 : decode cX7_signAt 10 = .ok (.iaload, 1) := by decide +kernel
theorem dX7_signAt_11 : decode cX7_signAt 11 = .ok (.ireturn, 1) := by decide +kernel
theorem dX7_cellsOf_0 : decode cX7_cellsOf 0 = .ok (.iconst 0, 1) := by decide +kernel
theorem dX7_cellsOf_1 : decode cX7_cellsOf 1 = .ok (.istore_n 2, 1) := by decide +kernel
theorem dX7_cellsOf_2 : decode cX7_cellsOf 2 = .ok (.iconst 0, 1) := by decide +kernel
theorem dX7_cellsOf_3 : decode cX7_cellsOf 3 = .ok (.istore_n 3, 1) := by decide +kernel
theorem dX7_cellsOf_4 : decode cX7_cellsOf 4 = .ok (.iload_n 3, 1) := by decide +kernel
theorem dX7_cellsOf_5 : decode cX7_cellsOf 5 = .ok (.aload_n 0, 1) := by decide +kernel
theorem dX7_cellsOf_6 : decode cX7_cellsOf 6 = .ok (.iconst 3, 1) := by decide +kernel
theorem dX7_cellsOf_7 : decode cX7_cellsOf 7 = .ok (.iload_n 1, 1) := by decide +kernel
theorem dX7_cellsOf_8 : decode cX7_cellsOf 8 = .ok (.iadd, 1) := by decide +kernel
theorem dX7_cellsOf_9 : decode cX7_cellsOf 9 = .ok (.iaload, 1) := by decide +kernel
theorem dX7_cellsOf_10 : decode cX7_cellsOf 10 = .ok (.if_icmp .ge 28, 3) := by decide +kernel
theorem dX7_cellsOf_13 : decode cX7_cellsOf 13 = .ok (.iload_n 2, 1) := by decide +kernel
theorem dX7_cellsOf_14 : decode cX7_cellsOf 14 = .ok (.aload_n 0, 1) := by decide +kernel
theorem dX7_cellsOf_15 : decode cX7_cellsOf 15 = .ok (.iload_n 1, 1) := by decide +kernel
theorem dX7_cellsOf_16 : decode cX7_cellsOf 16 = .ok (.iload_n 3, 1) := by decide +kernel
theorem dX7_cellsOf_17 : decode cX7_cellsOf 17 = .ok (.invokestatic 41, 3) := by decide +kernel
theorem dX7_cellsOf_20 : decode cX7_cellsOf 20 = .ok (.bipush 124, 2) := by decide +kernel
theorem dX7_cellsOf_22 : decode cX7_cellsOf 22 = .ok (.if_icmp .ne 7, 3) := by decide +kernel
theorem dX7_cellsOf_25 : decode cX7_cellsOf 25 = .ok (.iconst 1, 1) := by decide +kernel
theorem dX7_cellsOf_26 : decode cX7_cellsOf 26 = .ok (.goto 4, 3) := by decide +kernel
theorem dX7_cellsOf_29 : decode cX7_cellsOf 29 = .ok (.iconst 0, 1) := by decide +kernel
theorem dX7_cellsOf_30 : decode cX7_cellsOf 30 = .ok (.iadd, 1) := by decide +kernel
theorem dX7_cellsOf_31 : decode cX7_cellsOf 31 = .ok (.istore_n 2, 1) := by decide +kernel
theorem dX7_cellsOf_32 : decode cX7_cellsOf 32 = .ok (.iinc 3 1, 3) := by decide +kernel
theorem dX7_cellsOf_35 : decode cX7_cellsOf 35 = .ok (.goto (-31), 3) := by decide +kernel
theorem dX7_cellsOf_38 : decode cX7_cellsOf 38 = .ok (.iload_n 2, 1) := by decide +kernel
theorem dX7_cellsOf_39 : decode cX7_cellsOf 39 = .ok (.ireturn, 1) := by decide +kernel
theorem dX7_fromOf_0 : decode cX7_fromOf 0 = .ok (.iload_n 2, 1) := by decide +kernel
theorem dX7_fromOf_1 : decode cX7_fromOf 1 = .ok (.istore_n 3, 1) := by decide +kernel
theorem dX7_fromOf_2 : decode cX7_fromOf 2 = .ok (.iconst 0, 1) := by decide +kernel
theorem dX7_fromOf_3 : decode cX7_fromOf 3 = .ok (.istore 4, 2) := by decide +kernel
theorem dX7_fromOf_5 : decode cX7_fromOf 5 = .ok (.iload_n 3, 1) := by decide +kernel
theorem dX7_fromOf_6 : decode cX7_fromOf 6 = .ok (.ifCond .le 29, 3) := by decide +kernel
theorem dX7_fromOf_9 : decode cX7_fromOf 9 = .ok (.iload_n 3, 1) := by decide +kernel
theorem dX7_fromOf_10 : decode cX7_fromOf 10 = .ok (.aload_n 0, 1) := by decide +kernel
theorem dX7_fromOf_11 : decode cX7_fromOf 11 = .ok (.iload_n 1, 1) := by decide +kernel
theorem dX7_fromOf_12 : decode cX7_fromOf 12 = .ok (.iload 4, 2) := by decide +kernel
theorem dX7_fromOf_14 : decode cX7_fromOf 14 = .ok (.invokestatic 41, 3) := by decide +kernel
theorem dX7_fromOf_17 : decode cX7_fromOf 17 = .ok (.bipush 124, 2) := by decide +kernel
theorem dX7_fromOf_19 : decode cX7_fromOf 19 = .ok (.if_icmp .ne 7, 3) := by decide +kernel
theorem dX7_fromOf_22 : decode cX7_fromOf 22 = .ok (.iconst 1, 1) := by decide +kernel
theorem dX7_fromOf_23 : decode cX7_fromOf 23 = .ok (.goto 4, 3) := by decide +kernel
theorem dX7_fromOf_26 : decode cX7_fromOf 26 = .ok (.iconst 0, 1) := by decide +kernel
theorem dX7_fromOf_27 : decode cX7_fromOf 27 = .ok (.isub, 1) := by decide +kernel
theorem dX7_fromOf_28 : decode cX7_fromOf 28 = .ok (.istore_n 3, 1) := by decide +kernel
theorem dX7_fromOf_29 : decode cX7_fromOf 29 = .ok (.iinc 4 1, 3) := by decide +kernel
theorem dX7_fromOf_32 : decode cX7_fromOf 32 = .ok (.goto (-27), 3) := by decide +kernel
theorem dX7_fromOf_35 : decode cX7_fromOf 35 = .ok (.iload 4, 2) := by decide +kernel
theorem dX7_fromOf_37 : decode cX7_fromOf 37 = .ok (.ireturn, 1) := by decide +kernel
theorem dX7_sizeOf_0 : decode cX7_sizeOf 0 = .ok (.aload_n 0, 1) := by decide +kernel
theorem dX7_sizeOf_1 : decode cX7_sizeOf 1 = .ok (.iload_n 1, 1) := by decide +kernel
theorem dX7_sizeOf_2 : decode cX7_sizeOf 2 = .ok (.iload_n 2, 1) := by decide +kernel
theorem dX7_sizeOf_3 : decode cX7_sizeOf 3 = .ok (.invokestatic 45, 3) := by decide +kernel
theorem dX7_sizeOf_6 : decode cX7_sizeOf 6 = .ok (.istore_n 3, 1) := by decide +kernel
theorem dX7_sizeOf_7 : decode cX7_sizeOf 7 = .ok (.iload_n 3, 1) := by decide +kernel
theorem dX7_sizeOf_8 : decode cX7_sizeOf 8 = .ok (.istore 4, 2) := by decide +kernel
theorem dX7_sizeOf_10 : decode cX7_sizeOf 10 = .ok (.iload 4, 2) := by decide +kernel
theorem dX7_sizeOf_12 : decode cX7_sizeOf 12 = .ok (.aload_n 0, 1) := by decide +kernel
theorem dX7_sizeOf_13 : decode cX7_sizeOf 13 = .ok (.iconst 3, 1) := by decide +kernel
theorem dX7_sizeOf_14 : decode cX7_sizeOf 14 = .ok (.iload_n 1, 1) := by decide +kernel
theorem dX7_sizeOf_15 : decode cX7_sizeOf 15 = .ok (.iadd, 1) := by decide +kernel
theorem dX7_sizeOf_16 : decode cX7_sizeOf 16 = .ok (.iaload, 1) := by decide +kernel
theorem dX7_sizeOf_17 : decode cX7_sizeOf 17 = .ok (.if_icmp .ge 21, 3) := by decide +kernel
theorem dX7_sizeOf_20 : decode cX7_sizeOf 20 = .ok (.aload_n 0, 1) := by decide +kernel
theorem dX7_sizeOf_21 : decode cX7_sizeOf 21 = .ok (.iload_n 1, 1) := by decide +kernel
theorem dX7_sizeOf_22 : decode cX7_sizeOf 22 = .ok (.iload 4, 2) := by decide +kernel
theorem dX7_sizeOf_24 : decode cX7_sizeOf 24 = .ok (.invokestatic 41, 3) := by decide +kernel
theorem dX7_sizeOf_27 : decode cX7_sizeOf 27 = .ok (.bipush 124, 2) := by decide +kernel
theorem dX7_sizeOf_29 : decode cX7_sizeOf 29 = .ok (.if_icmp .eq 9, 3) := by decide +kernel
theorem dX7_sizeOf_32 : decode cX7_sizeOf 32 = .ok (.iinc 4 1, 3) := by decide +kernel
theorem dX7_sizeOf_35 : decode cX7_sizeOf 35 = .ok (.goto (-25), 3) := by decide +kernel
theorem dX7_sizeOf_38 : decode cX7_sizeOf 38 = .ok (.iload 4, 2) := by decide +kernel
theorem dX7_sizeOf_40 : decode cX7_sizeOf 40 = .ok (.iload_n 3, 1) := by decide +kernel
theorem dX7_sizeOf_41 : decode cX7_sizeOf 41 = .ok (.isub, 1) := by decide +kernel
theorem dX7_sizeOf_42 : decode cX7_sizeOf 42 = .ok (.ireturn, 1) := by decide +kernel
theorem dX7_aheadOf_0 : decode cX7_aheadOf 0 = .ok (.aload_n 0, 1) := by decide +kernel
theorem dX7_aheadOf_1 : decode cX7_aheadOf 1 = .ok (.iload_n 1, 1) := by decide +kernel
theorem dX7_aheadOf_2 : decode cX7_aheadOf 2 = .ok (.iload_n 2, 1) := by decide +kernel
theorem dX7_aheadOf_3 : decode cX7_aheadOf 3 = .ok (.invokestatic 45, 3) := by decide +kernel
theorem dX7_aheadOf_6 : decode cX7_aheadOf 6 = .ok (.istore_n 3, 1) := by decide +kernel
theorem dX7_aheadOf_7 : decode cX7_aheadOf 7 = .ok (.aload_n 0, 1) := by decide +kernel
theorem dX7_aheadOf_8 : decode cX7_aheadOf 8 = .ok (.iload_n 1, 1) := by decide +kernel
theorem dX7_aheadOf_9 : decode cX7_aheadOf 9 = .ok (.iload_n 2, 1) := by decide +kernel
theorem dX7_aheadOf_10 : decode cX7_aheadOf 10 = .ok (.invokestatic 48, 3) := by decide +kernel
theorem dX7_aheadOf_13 : decode cX7_aheadOf 13 = .ok (.istore 4, 2) := by decide +kernel
theorem dX7_aheadOf_15 : decode cX7_aheadOf 15 = .ok (.iconst 0, 1) := by decide +kernel
theorem dX7_aheadOf_16 : decode cX7_aheadOf 16 = .ok (.istore 5, 2) := by decide +kernel
theorem dX7_aheadOf_18 : decode cX7_aheadOf 18 = .ok (.iload 5, 2) := by decide +kernel
theorem dX7_aheadOf_20 : decode cX7_aheadOf 20 = .ok (.iload 4, 2) := by decide +kernel
theorem dX7_aheadOf_22 : decode cX7_aheadOf 22 = .ok (.if_icmp .ge 23, 3) := by decide +kernel
theorem dX7_aheadOf_25 : decode cX7_aheadOf 25 = .ok (.aload_n 0, 1) := by decide +kernel
theorem dX7_aheadOf_26 : decode cX7_aheadOf 26 = .ok (.iload_n 1, 1) := by decide +kernel
theorem dX7_aheadOf_27 : decode cX7_aheadOf 27 = .ok (.iload_n 3, 1) := by decide +kernel
theorem dX7_aheadOf_28 : decode cX7_aheadOf 28 = .ok (.iload 5, 2) := by decide +kernel
theorem dX7_aheadOf_30 : decode cX7_aheadOf 30 = .ok (.iadd, 1) := by decide +kernel
theorem dX7_aheadOf_31 : decode cX7_aheadOf 31 = .ok (.invokestatic 41, 3) := by decide +kernel
theorem dX7_aheadOf_34 : decode cX7_aheadOf 34 = .ok (.bipush 46, 2) := by decide +kernel
theorem dX7_aheadOf_36 : decode cX7_aheadOf 36 = .ok (.if_icmp .eq 9, 3) := by decide +kernel
theorem dX7_aheadOf_39 : decode cX7_aheadOf 39 = .ok (.iinc 5 1, 3) := by decide +kernel
theorem dX7_aheadOf_42 : decode cX7_aheadOf 42 = .ok (.goto (-24), 3) := by decide +kernel
theorem dX7_aheadOf_45 : decode cX7_aheadOf 45 = .ok (.iload 5, 2) := by decide +kernel
theorem dX7_aheadOf_47 : decode cX7_aheadOf 47 = .ok (.ireturn, 1) := by decide +kernel
theorem dX7_firstOf_0 : decode cX7_firstOf 0 = .ok (.iload_n 1, 1) := by decide +kernel
theorem dX7_firstOf_1 : decode cX7_firstOf 1 = .ok (.istore_n 3, 1) := by decide +kernel
theorem dX7_firstOf_2 : decode cX7_firstOf 2 = .ok (.iload_n 3, 1) := by decide +kernel
theorem dX7_firstOf_3 : decode cX7_firstOf 3 = .ok (.ifCond .le 20, 3) := by decide +kernel
theorem dX7_firstOf_6 : decode cX7_firstOf 6 = .ok (.aload_n 0, 1) := by decide +kernel
theorem dX7_firstOf_7 : decode cX7_firstOf 7 = .ok (.iload_n 3, 1) := by decide +kernel
theorem dX7_firstOf_8 : decode cX7_firstOf 8 = .ok (.iconst 1, 1) := by decide +kernel
theorem dX7_firstOf_9 : decode cX7_firstOf 9 = .ok (.isub, 1) := by decide +kernel
theorem dX7_firstOf_10 : decode cX7_firstOf 10 = .ok (.invokestatic 51, 3) := by decide +kernel
theorem dX7_firstOf_13 : decode cX7_firstOf 13 = .ok (.iload_n 2, 1) := by decide +kernel
theorem dX7_firstOf_14 : decode cX7_firstOf 14 = .ok (.if_icmp .le 9, 3) := by decide +kernel
theorem dX7_firstOf_17 : decode cX7_firstOf 17 = .ok (.iinc 3 (-1), 3) := by decide +kernel
theorem dX7_firstOf_20 : decode cX7_firstOf 20 = .ok (.goto (-18), 3) := by decide +kernel
theorem dX7_firstOf_23 : decode cX7_firstOf 23 = .ok (.iload_n 3, 1) := by decide +kernel
theorem dX7_firstOf_24 : decode cX7_firstOf 24 = .ok (.ireturn, 1) := by decide +kernel
theorem dX7_lastOf_0 : decode cX7_lastOf 0 = .ok (.iload_n 1, 1) := by decide +kernel
theorem dX7_lastOf_1 : decode cX7_lastOf 1 = .ok (.istore_n 3, 1) := by decide +kernel
theorem dX7_lastOf_2 : decode cX7_lastOf 2 = .ok (.iload_n 3, 1) := by decide +kernel
theorem dX7_lastOf_3 : decode cX7_lastOf 3 = .ok (.iconst 1, 1) := by decide +kernel
theorem dX7_lastOf_4 : decode cX7_lastOf 4 = .ok (.iadd, 1) := by decide +kernel
theorem dX7_lastOf_5 : decode cX7_lastOf 5 = .ok (.aload_n 0, 1) := by decide +kernel
theorem dX7_lastOf_6 : decode cX7_lastOf 6 = .ok (.iconst 0, 1) := by decide +kernel
theorem dX7_lastOf_7 : decode cX7_lastOf 7 = .ok (.iaload, 1) := by decide +kernel
theorem dX7_lastOf_8 : decode cX7_lastOf 8 = .ok (.if_icmp .ge 20, 3) := by decide +kernel
theorem dX7_lastOf_11 : decode cX7_lastOf 11 = .ok (.aload_n 0, 1) := by decide +kernel
theorem dX7_lastOf_12 : decode cX7_lastOf 12 = .ok (.iload_n 3, 1) := by decide +kernel
theorem dX7_lastOf_13 : decode cX7_lastOf 13 = .ok (.iconst 1, 1) := by decide +kernel
theorem dX7_lastOf_14 : decode cX7_lastOf 14 = .ok (.iadd, 1) := by decide +kernel
theorem dX7_lastOf_15 : decode cX7_lastOf 15 = .ok (.invokestatic 51, 3) := by decide +kernel
theorem dX7_lastOf_18 : decode cX7_lastOf 18 = .ok (.iload_n 2, 1) := by decide +kernel
theorem dX7_lastOf_19 : decode cX7_lastOf 19 = .ok (.if_icmp .le 9, 3) := by decide +kernel
theorem dX7_lastOf_22 : decode cX7_lastOf 22 = .ok (.iinc 3 1, 3) := by decide +kernel
theorem dX7_lastOf_25 : decode cX7_lastOf 25 = .ok (.goto (-23), 3) := by decide +kernel
theorem dX7_lastOf_28 : decode cX7_lastOf 28 = .ok (.iload_n 3, 1) := by decide +kernel
theorem dX7_lastOf_29 : decode cX7_lastOf 29 = .ok (.ireturn, 1) := by decide +kernel
theorem dX7_mostOf_0 : decode cX7_mostOf 0 = .ok (.aload_n 0, 1) := by decide +kernel
theorem dX7_mostOf_1 : decode cX7_mostOf 1 = .ok (.iload_n 1, 1) := by decide +kernel
theorem dX7_mostOf_2 : decode cX7_mostOf 2 = .ok (.iload_n 2, 1) := by decide +kernel
theorem dX7_mostOf_3 : decode cX7_mostOf 3 = .ok (.invokestatic 55, 3) := by decide +kernel
theorem dX7_mostOf_6 : decode cX7_mostOf 6 = .ok (.istore 4, 2) := by decide +kernel
theorem dX7_mostOf_8 : decode cX7_mostOf 8 = .ok (.iconst 0, 1) := by decide +kernel
theorem dX7_mostOf_9 : decode cX7_mostOf 9 = .ok (.istore 5, 2) := by decide +kernel
theorem dX7_mostOf_11 : decode cX7_mostOf 11 = .ok (.aload_n 0, 1) := by decide +kernel
theorem dX7_mostOf_12 : decode cX7_mostOf 12 = .ok (.iload_n 1, 1) := by decide +kernel
theorem dX7_mostOf_13 : decode cX7_mostOf 13 = .ok (.iload_n 2, 1) := by decide +kernel
theorem dX7_mostOf_14 : decode cX7_mostOf 14 = .ok (.invokestatic 58, 3) := by decide +kernel
theorem dX7_mostOf_17 : decode cX7_mostOf 17 = .ok (.istore 6, 2) := by decide +kernel
theorem dX7_mostOf_19 : decode cX7_mostOf 19 = .ok (.iload 6, 2) := by decide +kernel
theorem dX7_mostOf_21 : decode cX7_mostOf 21 = .ok (.iload 4, 2) := by decide +kernel
theorem dX7_mostOf_23 : decode cX7_mostOf 23 = .ok (.if_icmp .gt 70, 3) := by decide +kernel
theorem dX7_mostOf_26 : decode cX7_mostOf 26 = .ok (.aload_n 0, 1) := by decide +kernel
theorem dX7_mostOf_27 : decode cX7_mostOf 27 = .ok (.iload 6, 2) := by decide +kernel
theorem dX7_mostOf_29 : decode cX7_mostOf 29 = .ok (.iload_n 2, 1) := by decide +kernel
theorem dX7_mostOf_30 : decode cX7_mostOf 30 = .ok (.invokestatic 48, 3) := by decide +kernel
theorem dX7_mostOf_33 : decode cX7_mostOf 33 = .ok (.istore 7, 2) := by decide +kernel
theorem dX7_mostOf_35 : decode cX7_mostOf 35 = .ok (.iload_n 3, 1) := by decide +kernel
theorem dX7_mostOf_36 : decode cX7_mostOf 36 = .ok (.ifCond .ne 8, 3) := by decide +kernel
theorem dX7_mostOf_39 : decode cX7_mostOf 39 = .ok (.iload 7, 2) := by decide +kernel
theorem dX7_mostOf_41 : decode cX7_mostOf 41 = .ok (.goto 28, 3) := by decide +kernel
theorem dX7_mostOf_44 : decode cX7_mostOf 44 = .ok (.iload_n 3, 1) := by decide +kernel
theorem dX7_mostOf_45 : decode cX7_mostOf 45 = .ok (.iconst 1, 1) := by decide +kernel
theorem dX7_mostOf_46 : decode cX7_mostOf 46 = .ok (.if_icmp .ne 13, 3) := by decide +kernel
theorem dX7_mostOf_49 : decode cX7_mostOf 49 = .ok (.aload_n 0, 1) := by decide +kernel
theorem dX7_mostOf_50 : decode cX7_mostOf 50 = .ok (.iload 6, 2) := by decide +kernel
theorem dX7_mostOf_52 : decode cX7_mostOf 52 = .ok (.iload_n 2, 1) := by decide +kernel
theorem dX7_mostOf_53 : decode cX7_mostOf 53 = .ok (.invokestatic 61, 3) := by decide +kernel
theorem dX7_mostOf_56 : decode cX7_mostOf 56 = .ok (.goto 13, 3) := by decide +kernel
theorem dX7_mostOf_59 : decode cX7_mostOf 59 = .ok (.iload 7, 2) := by decide +kernel
theorem dX7_mostOf_61 : decode cX7_mostOf 61 = .ok (.aload_n 0, 1) := by decide +kernel
theorem dX7_mostOf_62 : decode cX7_mostOf 62 = .ok (.iload 6, 2) := by decide +kernel
theorem dX7_mostOf_64 : decode cX7_mostOf 64 = .ok (.iload_n 2, 1) := by decide +kernel
theorem dX7_mostOf_65 : decode cX7_mostOf 65 = .ok (.invokestatic 61, 3) := by decide +kernel
theorem dX7_mostOf_68 : decode cX7_mostOf 68 = .ok (.isub, 1) := by decide +kernel
theorem dX7_mostOf_69 : decode cX7_mostOf 69 = .ok (.istore 8, 2) := by decide +kernel
theorem dX7_mostOf_71 : decode cX7_mostOf 71 = .ok (.iload 8, 2) := by decide +kernel
theorem dX7_mostOf_73 : decode cX7_mostOf 73 = .ok (.iload 5, 2) := by decide +kernel
theorem dX7_mostOf_75 : decode cX7_mostOf 75 = .ok (.if_icmp .le 8, 3) := by decide +kernel
theorem dX7_mostOf_78 : decode cX7_mostOf 78 = .ok (.iload 8, 2) := by decide +kernel
theorem dX7_mostOf_80 : decode cX7_mostOf 80 = .ok (.goto 5, 3) := by decide +kernel
theorem dX7_mostOf_83 : decode cX7_mostOf 83 = .ok (.iload 5, 2) := by decide +kernel
theorem dX7_mostOf_85 : decode cX7_mostOf 85 = .ok (.istore 5, 2) := by decide +kernel
theorem dX7_mostOf_87 : decode cX7_mostOf 87 = .ok (.iinc 6 1, 3) := by decide +kernel
theorem dX7_mostOf_90 : decode cX7_mostOf 90 = .ok (.goto (-71), 3) := by decide +kernel
theorem dX7_mostOf_93 : decode cX7_mostOf 93 = .ok (.iload 5, 2) := by decide +kernel
theorem dX7_mostOf_95 : decode cX7_mostOf 95 = .ok (.ireturn, 1) := by decide +kernel
theorem dX7_needOf_0 : decode cX7_needOf 0 = .ok (.aload_n 0, 1) := by decide +kernel
theorem dX7_needOf_1 : decode cX7_needOf 1 = .ok (.sipush 303, 3) := by decide +kernel
theorem dX7_needOf_4 : decode cX7_needOf 4 = .ok (.iload_n 2, 1) := by decide +kernel
theorem dX7_needOf_5 : decode cX7_needOf 5 = .ok (.iadd, 1) := by decide +kernel
theorem dX7_needOf_6 : decode cX7_needOf 6 = .ok (.iaload, 1) := by decide +kernel
theorem dX7_needOf_7 : decode cX7_needOf 7 = .ok (.iconst 3, 1) := by decide +kernel
theorem dX7_needOf_8 : decode cX7_needOf 8 = .ok (.if_icmp .ne 21, 3) := by decide +kernel
theorem dX7_needOf_11 : decode cX7_needOf 11 = .ok (.aload_n 0, 1) := by decide +kernel
theorem dX7_needOf_12 : decode cX7_needOf 12 = .ok (.iload_n 1, 1) := by decide +kernel
theorem dX7_needOf_13 : decode cX7_needOf 13 = .ok (.iload_n 2, 1) := by decide +kernel
theorem dX7_needOf_14 : decode cX7_needOf 14 = .ok (.iconst 1, 1) := by decide +kernel
theorem dX7_needOf_15 : decode cX7_needOf 15 = .ok (.invokestatic 64, 3) := by decide +kernel
theorem dX7_needOf_18 : decode cX7_needOf 18 = .ok (.aload_n 0, 1) := by decide +kernel
theorem dX7_needOf_19 : decode cX7_needOf 19 = .ok (.iload_n 1, 1) := by decide +kernel
theorem dX7_needOf_20 : decode cX7_needOf 20 = .ok (.iload_n 2, 1) := by decide +kernel
theorem dX7_needOf_21 : decode cX7_needOf 21 = .ok (.iconst 2, 1) := by decide +kernel
theorem dX7_needOf_22 : decode cX7_needOf 22 = .ok (.invokestatic 64, 3) := by decide +kernel
theorem dX7_needOf_25 : decode cX7_needOf 25 = .ok (.iadd, 1) := by decide +kernel
theorem dX7_needOf_26 : decode cX7_needOf 26 = .ok (.goto 10, 3) := by decide +kernel
theorem dX7_needOf_29 : decode cX7_needOf 29 = .ok (.aload_n 0, 1) := by decide +kernel
theorem dX7_needOf_30 : decode cX7_needOf 30 = .ok (.iload_n 1, 1) := by decide +kernel
theorem dX7_needOf_31 : decode cX7_needOf 31 = .ok (.iload_n 2, 1) := by decide +kernel
theorem dX7_needOf_32 : decode cX7_needOf 32 = .ok (.iconst 0, 1) := by decide +kernel
theorem dX7_needOf_33 : decode cX7_needOf 33 = .ok (.invokestatic 64, 3) := by decide +kernel
theorem dX7_needOf_36 : decode cX7_needOf 36 = .ok (.ireturn, 1) := by decide +kernel
theorem dX7_widthOf_0 : decode cX7_widthOf 0 = .ok (.aload_n 0, 1) := by decide +kernel
theorem dX7_widthOf_1 : decode cX7_widthOf 1 = .ok (.iload_n 1, 1) := by decide +kernel
theorem dX7_widthOf_2 : decode cX7_widthOf 2 = .ok (.iload_n 2, 1) := by decide +kernel
theorem dX7_widthOf_3 : decode cX7_widthOf 3 = .ok (.invokestatic 68, 3) := by decide +kernel
theorem dX7_widthOf_6 : decode cX7_widthOf 6 = .ok (.istore_n 3, 1) := by decide +kernel
theorem dX7_widthOf_7 : decode cX7_widthOf 7 = .ok (.iload_n 3, 1) := by decide +kernel
theorem dX7_widthOf_8 : decode cX7_widthOf 8 = .ok (.aload_n 0, 1) := by decide +kernel
theorem dX7_widthOf_9 : decode cX7_widthOf 9 = .ok (.iconst 2, 1) := by decide +kernel
theorem dX7_widthOf_10 : decode cX7_widthOf 10 = .ok (.iaload, 1) := by decide +kernel
theorem dX7_widthOf_11 : decode cX7_widthOf 11 = .ok (.if_icmp .ge 9, 3) := by decide +kernel
theorem dX7_widthOf_14 : decode cX7_widthOf 14 = .ok (.aload_n 0, 1) := by decide +kernel
theorem dX7_widthOf_15 : decode cX7_widthOf 15 = .ok (.iconst 2, 1) := by decide +kernel
theorem dX7_widthOf_16 : decode cX7_widthOf 16 = .ok (.iaload, 1) := by decide +kernel
theorem dX7_widthOf_17 : decode cX7_widthOf 17 = .ok (.goto 4, 3) := by decide +kernel
theorem dX7_widthOf_20 : decode cX7_widthOf 20 = .ok (.iload_n 3, 1) := by decide +kernel
theorem dX7_widthOf_21 : decode cX7_widthOf 21 = .ok (.aload_n 0, 1) := by decide +kernel
theorem dX7_widthOf_22 : decode cX7_widthOf 22 = .ok (.iconst 1, 1) := by decide +kernel
theorem dX7_widthOf_23 : decode cX7_widthOf 23 = .ok (.iaload, 1) := by decide +kernel
theorem dX7_widthOf_24 : decode cX7_widthOf 24 = .ok (.iadd, 1) := by decide +kernel
theorem dX7_widthOf_25 : decode cX7_widthOf 25 = .ok (.ireturn, 1) := by decide +kernel
theorem dX7_beginsOf_0 : decode cX7_beginsOf 0 = .ok (.iconst 0, 1) := by decide +kernel
theorem dX7_beginsOf_1 : decode cX7_beginsOf 1 = .ok (.istore_n 3, 1) := by decide +kernel
theorem dX7_beginsOf_2 : decode cX7_beginsOf 2 = .ok (.iconst 0, 1) := by decide +kernel
theorem dX7_beginsOf_3 : decode cX7_beginsOf 3 = .ok (.istore 4, 2) := by decide +kernel
theorem dX7_beginsOf_5 : decode cX7_beginsOf 5 = .ok (.iload 4, 2) := by decide +kernel
theorem dX7_beginsOf_7 : decode cX7_beginsOf 7 = .ok (.iload_n 2, 1) := by decide +kernel
theorem dX7_beginsOf_8 : decode cX7_beginsOf 8 = .ok (.if_icmp .ge 19, 3) := by decide +kernel
theorem dX7_beginsOf_11 : decode cX7_beginsOf 11 = .ok (.iload_n 3, 1) := by decide +kernel
theorem dX7_beginsOf_12 : decode cX7_beginsOf 12 = .ok (.aload_n 0, 1) := by decide +kernel
theorem dX7_beginsOf_13 : decode cX7_beginsOf 13 = .ok (.iload_n 1, 1) := by decide +kernel
theorem dX7_beginsOf_14 : decode cX7_beginsOf 14 = .ok (.iload 4, 2) := by decide +kernel
theorem dX7_beginsOf_16 : decode cX7_beginsOf 16 = .ok (.invokestatic 71, 3) := by decide +kernel
theorem dX7_beginsOf_19 : decode cX7_beginsOf 19 = .ok (.iadd, 1) := by decide +kernel
theorem dX7_beginsOf_20 : decode cX7_beginsOf 20 = .ok (.istore_n 3, 1) := by decide +kernel
theorem dX7_beginsOf_21 : decode cX7_beginsOf 21 = .ok (.iinc 4 1, 3) := by decide +kernel
theorem dX7_beginsOf_24 : decode cX7_beginsOf 24 = .ok (.goto (-19), 3) := by decide +kernel
theorem dX7_beginsOf_27 : decode cX7_beginsOf 27 = .ok (.iload_n 3, 1) := by decide +kernel
theorem dX7_beginsOf_28 : decode cX7_beginsOf 28 = .ok (.ireturn, 1) := by decide +kernel
theorem dX7_wideOf_0 : decode cX7_wideOf 0 = .ok (.aload_n 0, 1) := by decide +kernel
theorem dX7_wideOf_1 : decode cX7_wideOf 1 = .ok (.iload_n 1, 1) := by decide +kernel
theorem dX7_wideOf_2 : decode cX7_wideOf 2 = .ok (.invokestatic 51, 3) := by decide +kernel
theorem dX7_wideOf_5 : decode cX7_wideOf 5 = .ok (.istore_n 2, 1) := by decide +kernel
theorem dX7_wideOf_6 : decode cX7_wideOf 6 = .ok (.aload_n 0, 1) := by decide +kernel
theorem dX7_wideOf_7 : decode cX7_wideOf 7 = .ok (.iload_n 1, 1) := by decide +kernel
theorem dX7_wideOf_8 : decode cX7_wideOf 8 = .ok (.iload_n 2, 1) := by decide +kernel
theorem dX7_wideOf_9 : decode cX7_wideOf 9 = .ok (.invokestatic 74, 3) := by decide +kernel
theorem dX7_wideOf_12 : decode cX7_wideOf 12 = .ok (.aload_n 0, 1) := by decide +kernel
theorem dX7_wideOf_13 : decode cX7_wideOf 13 = .ok (.iload_n 1, 1) := by decide +kernel
theorem dX7_wideOf_14 : decode cX7_wideOf 14 = .ok (.iload_n 2, 1) := by decide +kernel
theorem dX7_wideOf_15 : decode cX7_wideOf 15 = .ok (.invokestatic 48, 3) := by decide +kernel
theorem dX7_wideOf_18 : decode cX7_wideOf 18 = .ok (.iadd, 1) := by decide +kernel
theorem dX7_wideOf_19 : decode cX7_wideOf 19 = .ok (.ireturn, 1) := by decide +kernel
theorem dX7_allWide_0 : decode cX7_allWide 0 = .ok (.iconst 0, 1) := by decide +kernel
theorem dX7_allWide_1 : decode cX7_allWide 1 = .ok (.istore_n 1, 1) := by decide +kernel
theorem dX7_allWide_2 : decode cX7_allWide 2 = .ok (.iconst 0, 1) := by decide +kernel
theorem dX7_allWide_3 : decode cX7_allWide 3 = .ok (.istore_n 2, 1) := by decide +kernel
theorem dX7_allWide_4 : decode cX7_allWide 4 = .ok (.iload_n 2, 1) := by decide +kernel
theorem dX7_allWide_5 : decode cX7_allWide 5 = .ok (.aload_n 0, 1) := by decide +kernel
theorem dX7_allWide_6 : decode cX7_allWide 6 = .ok (.iconst 0, 1) := by decide +kernel
theorem dX7_allWide_7 : decode cX7_allWide 7 = .ok (.iaload, 1) := by decide +kernel
theorem dX7_allWide_8 : decode cX7_allWide 8 = .ok (.if_icmp .ge 17, 3) := by decide +kernel
theorem dX7_allWide_11 : decode cX7_allWide 11 = .ok (.iload_n 1, 1) := by decide +kernel
theorem dX7_allWide_12 : decode cX7_allWide 12 = .ok (.aload_n 0, 1) := by decide +kernel
theorem dX7_allWide_13 : decode cX7_allWide 13 = .ok (.iload_n 2, 1) := by decide +kernel
theorem dX7_allWide_14 : decode cX7_allWide 14 = .ok (.invokestatic 77, 3) := by decide +kernel
theorem dX7_allWide_17 : decode cX7_allWide 17 = .ok (.iadd, 1) := by decide +kernel
theorem dX7_allWide_18 : decode cX7_allWide 18 = .ok (.istore_n 1, 1) := by decide +kernel
theorem dX7_allWide_19 : decode cX7_allWide 19 = .ok (.iinc 2 1, 3) := by decide +kernel
theorem dX7_allWide_22 : decode cX7_allWide 22 = .ok (.goto (-18), 3) := by decide +kernel
theorem dX7_allWide_25 : decode cX7_allWide 25 = .ok (.iload_n 1, 1) := by decide +kernel
theorem dX7_allWide_26 : decode cX7_allWide 26 = .ok (.ireturn, 1) := by decide +kernel
theorem dX7_isSign_0 : decode cX7_isSign 0 = .ok (.iload_n 0, 1) := by decide +kernel
theorem dX7_isSign_1 : decode cX7_isSign 1 = .ok (.bipush 97, 2) := by decide +kernel
theorem dX7_isSign_3 : decode cX7_isSign 3 = .ok (.bipush 122, 2) := by decide +kernel
theorem dX7_isSign_5 : decode cX7_isSign 5 = .ok (.invokestatic 80, 3) := by decide +kernel
theorem dX7_isSign_8 : decode cX7_isSign 8 = .ok (.ifCond .ne 32, 3) := by decide +kernel
theorem dX7_isSign_11 : decode cX7_isSign 11 = .ok (.iload_n 0, 1) := by decide +kernel
theorem dX7_isSign_12 : decode cX7_isSign 12 = .ok (.bipush 48, 2) := by decide +kernel
theorem dX7_isSign_14 : decode cX7_isSign 14 = .ok (.bipush 57, 2) := by decide +kernel
theorem dX7_isSign_16 : decode cX7_isSign 16 = .ok (.invokestatic 80, 3) := by decide +kernel
theorem dX7_isSign_19 : decode cX7_isSign 19 = .ok (.ifCond .ne 21, 3) := by decide +kernel
theorem dX7_isSign_22 : decode cX7_isSign 22 = .ok (.iload_n 0, 1) := by decide +kernel
theorem dX7_isSign_23 : decode cX7_isSign 23 = .ok (.bipush 46, 2) := by decide +kernel
theorem dX7_isSign_25 : decode cX7_isSign 25 = .ok (.if_icmp .eq 15, 3) := by decide +kernel
theorem dX7_isSign_28 : decode cX7_isSign 28 = .ok (.iload_n 0, 1) := by decide +kernel
theorem dX7_isSign_29 : decode cX7_isSign 29 = .ok (.bipush 45, 2) := by decide +kernel
theorem dX7_isSign_31 : decode cX7_isSign 31 = .ok (.if_icmp .eq 9, 3) := by decide +kernel
theorem dX7_isSign_34 : decode cX7_isSign 34 = .ok (.iload_n 0, 1) := by decide +kernel
theorem dX7_isSign_35 : decode cX7_isSign 35 = .ok (.bipush 124, 2) := by decide +kernel
theorem dX7_isSign_37 : decode cX7_isSign 37 = .ok (.if_icmp .ne 7, 3) := by decide +kernel
theorem dX7_isSign_40 : decode cX7_isSign 40 = .ok (.iconst 1, 1) := by decide +kernel
theorem dX7_isSign_41 : decode cX7_isSign 41 = .ok (.goto 4, 3) := by decide +kernel
theorem dX7_isSign_44 : decode cX7_isSign 44 = .ok (.iconst 0, 1) := by decide +kernel
theorem dX7_isSign_45 : decode cX7_isSign 45 = .ok (.ireturn, 1) := by decide +kernel
theorem dX7_begins_0 : decode cX7_begins 0 = .ok (.aload_n 0, 1) := by decide +kernel
theorem dX7_begins_1 : decode cX7_begins 1 = .ok (.getfield 7, 3) := by decide +kernel
theorem dX7_begins_4 : decode cX7_begins 4 = .ok (.aload_n 0, 1) := by decide +kernel
theorem dX7_begins_5 : decode cX7_begins 5 = .ok (.getfield 13, 3) := by decide +kernel
theorem dX7_begins_8 : decode cX7_begins 8 = .ok (.invokestatic 84, 3) := by decide +kernel
theorem dX7_begins_11 : decode cX7_begins 11 = .ok (.iconst 0, 1) := by decide +kernel
theorem dX7_begins_12 : decode cX7_begins 12 = .ok (.istore_n 1, 1) := by decide +kernel
theorem dX7_begins_13 : decode cX7_begins 13 = .ok (.iload_n 1, 1) := by decide +kernel
theorem dX7_begins_14 : decode cX7_begins 14 = .ok (.bipush 12, 2) := by decide +kernel
theorem dX7_begins_16 : decode cX7_begins 16 = .ok (.if_icmp .ge 16, 3) := by decide +kernel
theorem dX7_begins_19 : decode cX7_begins 19 = .ok (.aload_n 0, 1) := by decide +kernel
theorem dX7_begins_20 : decode cX7_begins 20 = .ok (.getfield 16, 3) := by decide +kernel
theorem dX7_begins_23 : decode cX7_begins 23 = .ok (.iload_n 1, 1) := by decide +kernel
theorem dX7_begins_24 : decode cX7_begins 24 = .ok (.iload_n 1, 1) := by decide +kernel
theorem dX7_begins_25 : decode cX7_begins 25 = .ok (.iastore, 1) := by decide +kernel
theorem dX7_begins_26 : decode cX7_begins 26 = .ok (.iinc 1 1, 3) := by decide +kernel
theorem dX7_begins_29 : decode cX7_begins 29 = .ok (.goto (-16), 3) := by decide +kernel
theorem dX7_begins_32 : decode cX7_begins 32 = .ok (.return_, 1) := by decide +kernel
theorem dX7_isChanged_0 : decode cX7_isChanged 0 = .ok (.aload_n 0, 1) := by decide +kernel
theorem dX7_isChanged_1 : decode cX7_isChanged 1 = .ok (.getfield 16, 3) := by decide +kernel
theorem dX7_isChanged_4 : decode cX7_isChanged 4 = .ok (.iload_n 1, 1) := by decide +kernel
theorem dX7_isChanged_5 : decode cX7_isChanged 5 = .ok (.iaload, 1) := by decide +kernel
theorem dX7_isChanged_6 : decode cX7_isChanged 6 = .ok (.istore_n 2, 1) := by decide +kernel
theorem dX7_isChanged_7 : decode cX7_isChanged 7 = .ok (.iload_n 2, 1) := by decide +kernel
theorem dX7_isChanged_8 : decode cX7_isChanged 8 = .ok (.bipush (-9), 2) := by decide +kernel
theorem dX7_isChanged_10 : decode cX7_isChanged 10 = .ok (.if_icmp .eq 22, 3) := by decide +kernel
theorem dX7_isChanged_13 : decode cX7_isChanged 13 = .ok (.aload_n 0, 1) := by decide +kernel
theorem dX7_isChanged_14 : decode cX7_isChanged 14 = .ok (.getfield 7, 3) := by decide +kernel
theorem dX7_isChanged_17 : decode cX7_isChanged 17 = .ok (.iconst 3, 1) := by decide +kernel
theorem dX7_isChanged_18 : decode cX7_isChanged 18 = .ok (.iload_n 1, 1) := by decide +kernel
theorem dX7_isChanged_19 : decode cX7_isChanged 19 = .ok (.iadd, 1) := by decide +kernel
theorem dX7_isChanged_20 : decode cX7_isChanged 20 = .ok (.iaload, 1) := by decide +kernel
theorem dX7_isChanged_21 : decode cX7_isChanged 21 = .ok (.aload_n 0, 1) := by decide +kernel
theorem dX7_isChanged_22 : decode cX7_isChanged 22 = .ok (.getfield 13, 3) := by decide +kernel
theorem dX7_isChanged_25 : decode cX7_isChanged 25 = .ok (.iconst 3, 1) := by decide +kernel
theorem dX7_isChanged_26 : decode cX7_isChanged 26 = .ok (.iload_n 2, 1) := by decide +kernel
theorem dX7_isChanged_27 : decode cX7_isChanged 27 = .ok (.iadd, 1) := by decide +kernel
theorem dX7_isChanged_28 : decode cX7_isChanged 28 = .ok (.iaload, 1) := by decide +kernel
theorem dX7_isChanged_29 : decode cX7_isChanged 29 = .ok (.if_icmp .eq 5, 3) := by decide +kernel
theorem dX7_isChanged_32 : decode cX7_isChanged 32 = .ok (.iconst 1, 1) := by decide +kernel
theorem dX7_isChanged_33 : decode cX7_isChanged 33 = .ok (.ireturn, 1) := by decide +kernel
theorem dX7_isChanged_34 : decode cX7_isChanged 34 = .ok (.iconst 0, 1) := by decide +kernel
theorem dX7_isChanged_35 : decode cX7_isChanged 35 = .ok (.istore_n 3, 1) := by decide +kernel
theorem dX7_isChanged_36 : decode cX7_isChanged 36 = .ok (.iload_n 3, 1) := by decide +kernel
theorem dX7_isChanged_37 : decode cX7_isChanged 37 = .ok (.aload_n 0, 1) := by decide +kernel
theorem dX7_isChanged_38 : decode cX7_isChanged 38 = .ok (.getfield 7, 3) := by decide +kernel
theorem dX7_isChanged_41 : decode cX7_isChanged 41 = .ok (.iconst 3, 1) := by decide +kernel
theorem dX7_isChanged_42 : decode cX7_isChanged 42 = .ok (.iload_n 1, 1) := by decide +kernel
theorem dX7_isChanged_43 : decode cX7_isChanged 43 = .ok (.iadd, 1) := by decide +kernel
theorem dX7_isChanged_44 : decode cX7_isChanged 44 = .ok (.iaload, 1) := by decide +kernel
theorem dX7_isChanged_45 : decode cX7_isChanged 45 = .ok (.if_icmp .ge 32, 3) := by decide +kernel
theorem dX7_isChanged_48 : decode cX7_isChanged 48 = .ok (.aload_n 0, 1) := by decide +kernel
theorem dX7_isChanged_49 : decode cX7_isChanged 49 = .ok (.getfield 7, 3) := by decide +kernel
theorem dX7_isChanged_52 : decode cX7_isChanged 52 = .ok (.iload_n 1, 1) := by decide +kernel
theorem dX7_isChanged_53 : decode cX7_isChanged 53 = .ok (.iload_n 3, 1) := by decide +kernel
theorem dX7_isChanged_54 : decode cX7_isChanged 54 = .ok (.invokestatic 41, 3) := by decide +kernel
theorem dX7_isChanged_57 : decode cX7_isChanged 57 = .ok (.aload_n 0, 1) := by decide +kernel
theorem dX7_isChanged_58 : decode cX7_isChanged 58 = .ok (.getfield 13, 3) := by decide +kernel
theorem dX7_isChanged_61 : decode cX7_isChanged 61 = .ok (.iload_n 2, 1) := by decide +kernel
theorem dX7_isChanged_62 : decode cX7_isChanged 62 = .ok (.iload_n 3, 1) := by decide +kernel
theorem dX7_isChanged_63 : decode cX7_isChanged 63 = .ok (.invokestatic 41, 3) := by decide +kernel
theorem dX7_isChanged_66 : decode cX7_isChanged 66 = .ok (.if_icmp .eq 5, 3) := by decide +kernel
theorem dX7_isChanged_69 : decode cX7_isChanged 69 = .ok (.iconst 1, 1) := by decide +kernel
theorem dX7_isChanged_70 : decode cX7_isChanged 70 = .ok (.ireturn, 1) := by decide +kernel
theorem dX7_isChanged_71 : decode cX7_isChanged 71 = .ok (.iinc 3 1, 3) := by decide +kernel
theorem dX7_isChanged_74 : decode cX7_isChanged 74 = .ok (.goto (-38), 3) := by decide +kernel
theorem dX7_isChanged_77 : decode cX7_isChanged 77 = .ok (.iconst 0, 1) := by decide +kernel
theorem dX7_isChanged_78 : decode cX7_isChanged 78 = .ok (.istore_n 3, 1) := by decide +kernel
theorem dX7_isChanged_79 : decode cX7_isChanged 79 = .ok (.aload_n 0, 1) := by decide +kernel
theorem dX7_isChanged_80 : decode cX7_isChanged 80 = .ok (.getfield 7, 3) := by decide +kernel
theorem dX7_isChanged_83 : decode cX7_isChanged 83 = .ok (.iload_n 1, 1) := by decide +kernel
theorem dX7_isChanged_84 : decode cX7_isChanged 84 = .ok (.invokestatic 51, 3) := by decide +kernel
theorem dX7_isChanged_87 : decode cX7_isChanged 87 = .ok (.istore 4, 2) := by decide +kernel
theorem dX7_isChanged_89 : decode cX7_isChanged 89 = .ok (.iconst 0, 1) := by decide +kernel
theorem dX7_isChanged_90 : decode cX7_isChanged 90 = .ok (.istore 5, 2) := by decide +kernel
theorem dX7_isChanged_92 : decode cX7_isChanged 92 = .ok (.iload 5, 2) := by decide +kernel
theorem dX7_isChanged_94 : decode cX7_isChanged 94 = .ok (.iload 4, 2) := by decide +kernel
theorem dX7_isChanged_96 : decode cX7_isChanged 96 = .ok (.if_icmp .ge 42, 3) := by decide +kernel
theorem dX7_isChanged_99 : decode cX7_isChanged 99 = .ok (.iload_n 3, 1) := by decide +kernel
theorem dX7_isChanged_100 : decode cX7_isChanged 100 = .ok (.ifCond .ne 26, 3) := by decide +kernel
theorem dX7_isChanged_103 : decode cX7_isChanged 103 = .ok (.aload_n 0, 1) := by decide +kernel
theorem dX7_isChanged_104 : decode cX7_isChanged 104 = .ok (.getfield 7, 3) := by decide +kernel
theorem dX7_isChanged_107 : decode cX7_isChanged 107 = .ok (.iload_n 1, 1) := by decide +kernel
theorem dX7_isChanged_108 : decode cX7_isChanged 108 = .ok (.iload 5, 2) := by decide +kernel
theorem dX7_isChanged_110 : decode cX7_isChanged 110 = .ok (.invokestatic 71, 3) := by decide +kernel
theorem dX7_isChanged_113 : decode cX7_isChanged 113 = .ok (.aload_n 0, 1) := by decide +kernel
theorem dX7_isChanged_114 : decode cX7_isChanged 114 = .ok (.getfield 13, 3) := by decide +kernel
theorem dX7_isChanged_117 : decode cX7_isChanged 117 = .ok (.iload_n 2, 1) := by decide +kernel
theorem dX7_isChanged_118 : decode cX7_isChanged 118 = .ok (.iload 5, 2) := by decide +kernel
theorem dX7_isChanged_120 : decode cX7_isChanged 120 = .ok (.invokestatic 71, 3) := by decide +kernel
theorem dX7_isChanged_123 : decode cX7_isChanged 123 = .ok (.if_icmp .eq 7, 3) := by decide +kernel
theorem dX7_isChanged_126 : decode cX7_isChanged 126 = .ok (.iconst 1, 1) := by decide +kernel
theorem dX7_isChanged_127 : decode cX7_isChanged 127 = .ok (.goto 4, 3) := by decide +kernel
theorem dX7_isChanged_130 : decode cX7_isChanged 130 = .ok (.iconst 0, 1) := by decide +kernel
theorem dX7_isChanged_131 : decode cX7_isChanged 131 = .ok (.istore_n 3, 1) := by decide +kernel
theorem dX7_isChanged_132 : decode cX7_isChanged 132 = .ok (.iinc 5 1, 3) := by decide +kernel
theorem dX7_isChanged_135 : decode cX7_isChanged 135 = .ok (.goto (-43), 3) := by decide +kernel
theorem dX7_isChanged_138 : decode cX7_isChanged 138 = .ok (.iload_n 3, 1) := by decide +kernel
theorem dX7_isChanged_139 : decode cX7_isChanged 139 = .ok (.ireturn, 1) := by decide +kernel
theorem dX7_ends_0 : decode cX7_ends 0 = .ok (.iconst 0, 1) := by decide +kernel
theorem dX7_ends_1 : decode cX7_ends 1 = .ok (.istore_n 1, 1) := by decide +kernel
theorem dX7_ends_2 : decode cX7_ends 2 = .ok (.iload_n 1, 1) := by decide +kernel
theorem dX7_ends_3 : decode cX7_ends 3 = .ok (.sipush 327, 3) := by decide +kernel
theorem dX7_ends_6 : decode cX7_ends 6 = .ok (.if_icmp .ge 30, 3) := by decide +kernel
theorem dX7_ends_9 : decode cX7_ends 9 = .ok (.aload_n 0, 1) := by decide +kernel
theorem dX7_ends_10 : decode cX7_ends 10 = .ok (.getfield 19, 3) := by decide +kernel
theorem dX7_ends_13 : decode cX7_ends 13 = .ok (.sipush 327, 3) := by decide +kernel
theorem dX7_ends_16 : decode cX7_ends 16 = .ok (.aload_n 0, 1) := by decide +kernel
theorem dX7_ends_17 : decode cX7_ends 17 = .ok (.getfield 88, 3) := by decide +kernel
theorem dX7_ends_20 : decode cX7_ends 20 = .ok (.imul, 1) := by decide +kernel
theorem dX7_ends_21 : decode cX7_ends 21 = .ok (.iload_n 1, 1) := by decide +kernel
theorem dX7_ends_22 : decode cX7_ends 22 = .ok (.iadd, 1) := by decide +kernel
theorem dX7_ends_23 : decode cX7_ends 23 = .ok (.aload_n 0, 1) := by decide +kernel
theorem dX7_ends_24 : decode cX7_ends 24 = .ok (.getfield 13, 3) := by decide +kernel
theorem dX7_ends_27 : decode cX7_ends 27 = .ok (.iload_n 1, 1) := by decide +kernel
theorem dX7_ends_28 : decode cX7_ends 28 = .ok (.iaload, 1) := by decide +kernel
theorem dX7_ends_29 : decode cX7_ends 29 = .ok (.iastore, 1) := by decide +kernel
theorem dX7_ends_30 : decode cX7_ends 30 = .ok (.iinc 1 1, 3) := by decide +kernel
theorem dX7_ends_33 : decode cX7_ends 33 = .ok (.goto (-31), 3) := by decide +kernel
theorem dX7_ends_36 : decode cX7_ends 36 = .ok (.aload_n 0, 1) := by decide +kernel
theorem dX7_ends_37 : decode cX7_ends 37 = .ok (.aload_n 0, 1) := by decide +kernel
theorem dX7_ends_38 : decode cX7_ends 38 = .ok (.getfield 88, 3) := by decide +kernel
theorem dX7_ends_41 : decode cX7_ends 41 = .ok (.iconst 1, 1) := by decide +kernel
theorem dX7_ends_42 : decode cX7_ends 42 = .ok (.iadd, 1) := by decide +kernel
theorem dX7_ends_43 : decode cX7_ends 43 = .ok (.bipush 10, 2) := by decide +kernel
theorem dX7_ends_45 : decode cX7_ends 45 = .ok (.irem, 1) := by decide +kernel
theorem dX7_ends_46 : decode cX7_ends 46 = .ok (.putfield 88, 3) := by decide +kernel
theorem dX7_ends_49 : decode cX7_ends 49 = .ok (.aload_n 0, 1) := by decide +kernel
theorem dX7_ends_50 : decode cX7_ends 50 = .ok (.dup, 1) := by decide +kernel
theorem dX7_ends_51 : decode cX7_ends 51 = .ok (.getfield 92, 3) := by decide +kernel
theorem dX7_ends_54 : decode cX7_ends 54 = .ok (.aload_n 0, 1) := by decide +kernel
theorem dX7_ends_55 : decode cX7_ends 55 = .ok (.getfield 92, 3) := by decide +kernel
theorem dX7_ends_58 : decode cX7_ends 58 = .ok (.bipush 10, 2) := by decide +kernel
theorem dX7_ends_60 : decode cX7_ends 60 = .ok (.if_icmp .ge 7, 3) := by decide +kernel
theorem dX7_ends_63 : decode cX7_ends 63 = .ok (.iconst 1, 1) := by decide +kernel
theorem dX7_ends_64 : decode cX7_ends 64 = .ok (.goto 4, 3) := by decide +kernel
theorem dX7_ends_67 : decode cX7_ends 67 = .ok (.iconst 0, 1) := by decide +kernel
theorem dX7_ends_68 : decode cX7_ends 68 = .ok (.iadd, 1) := by decide +kernel
theorem dX7_ends_69 : decode cX7_ends 69 = .ok (.putfield 92, 3) := by decide +kernel
theorem dX7_ends_72 : decode cX7_ends 72 = .ok (.aload_n 0, 1) := by decide +kernel
theorem dX7_ends_73 : decode cX7_ends 73 = .ok (.iconst 0, 1) := by decide +kernel
theorem dX7_ends_74 : decode cX7_ends 74 = .ok (.putfield 95, 3) := by decide +kernel
theorem dX7_ends_77 : decode cX7_ends 77 = .ok (.iconst 0, 1) := by decide +kernel
theorem dX7_ends_78 : decode cX7_ends 78 = .ok (.istore_n 1, 1) := by decide +kernel
theorem dX7_ends_79 : decode cX7_ends 79 = .ok (.iload_n 1, 1) := by decide +kernel
theorem dX7_ends_80 : decode cX7_ends 80 = .ok (.aload_n 0, 1) := by decide +kernel
theorem dX7_ends_81 : decode cX7_ends 81 = .ok (.getfield 7, 3) := by decide +kernel
theorem dX7_ends_84 : decode cX7_ends 84 = .ok (.iconst 0, 1) := by decide +kernel
theorem dX7_ends_85 : decode cX7_ends 85 = .ok (.iaload, 1) := by decide +kernel
theorem dX7_ends_86 : decode cX7_ends 86 = .ok (.if_icmp .ge 33, 3) := by decide +kernel
theorem dX7_ends_89 : decode cX7_ends 89 = .ok (.aload_n 0, 1) := by decide +kernel
theorem dX7_ends_90 : decode cX7_ends 90 = .ok (.dup, 1) := by decide +kernel
theorem dX7_ends_91 : decode cX7_ends 91 = .ok (.getfield 95, 3) := by decide +kernel
theorem dX7_ends_94 : decode cX7_ends 94 = .ok (.aload_n 0, 1) := by decide +kernel
theorem dX7_ends_95 : decode cX7_ends 95 = .ok (.iload_n 1, 1) := by decide +kernel
theorem dX7_ends_96 : decode cX7_ends 96 = .ok (.invokevirtual 98, 3) := by decide +kernel
theorem dX7_ends_99 : decode cX7_ends 99 = .ok (.ifCond .eq 9, 3) := by decide +kernel
theorem dX7_ends_102 : decode cX7_ends 102 = .ok (.iconst 1, 1) := by decide +kernel
theorem dX7_ends_103 : decode cX7_ends 103 = .ok (.iload_n 1, 1) := by decide +kernel
theorem dX7_ends_104 : decode cX7_ends 104 = .ok (.ishl, 1) := by decide +kernel
theorem dX7_ends_105 : decode cX7_ends 105 = .ok (.goto 4, 3) := by decide +kernel
theorem dX7_ends_108 : decode cX7_ends 108 = .ok (.iconst 0, 1) := by decide +kernel
theorem dX7_ends_109 : decode cX7_ends 109 = .ok (.ior, 1) := by decide +kernel
theorem dX7_ends_110 : decode cX7_ends 110 = .ok (.putfield 95, 3) := by decide +kernel
theorem dX7_ends_113 : decode cX7_ends 113 = .ok (.iinc 1 1, 3) := by decide +kernel
theorem dX7_ends_116 : decode cX7_ends 116 = .ok (.goto (-37), 3) := by decide +kernel
theorem dX7_ends_119 : decode cX7_ends 119 = .ok (.return_, 1) := by decide +kernel
theorem dX7_opens_0 : decode cX7_opens 0 = .ok (.aload_n 0, 1) := by decide +kernel
theorem dX7_opens_1 : decode cX7_opens 1 = .ok (.getfield 7, 3) := by decide +kernel
theorem dX7_opens_4 : decode cX7_opens 4 = .ok (.iconst 0, 1) := by decide +kernel
theorem dX7_opens_5 : decode cX7_opens 5 = .ok (.iaload, 1) := by decide +kernel
theorem dX7_opens_6 : decode cX7_opens 6 = .ok (.istore_n 2, 1) := by decide +kernel
theorem dX7_opens_7 : decode cX7_opens 7 = .ok (.iload_n 2, 1) := by decide +kernel
theorem dX7_opens_8 : decode cX7_opens 8 = .ok (.iload_n 1, 1) := by decide +kernel
theorem dX7_opens_9 : decode cX7_opens 9 = .ok (.if_icmp .le 85, 3) := by decide +kernel
theorem dX7_opens_12 : decode cX7_opens 12 = .ok (.aload_n 0, 1) := by decide +kernel
theorem dX7_opens_13 : decode cX7_opens 13 = .ok (.getfield 7, 3) := by decide +kernel
theorem dX7_opens_16 : decode cX7_opens 16 = .ok (.iconst 3, 1) := by decide +kernel
theorem dX7_opens_17 : decode cX7_opens 17 = .ok (.iload_n 2, 1) := by decide +kernel
theorem dX7_opens_18 : decode cX7_opens 18 = .ok (.iadd, 1) := by decide +kernel
theorem dX7_opens_19 : decode cX7_opens 19 = .ok (.aload_n 0, 1) := by decide +kernel
theorem dX7_opens_20 : decode cX7_opens 20 = .ok (.getfield 7, 3) := by decide +kernel
theorem dX7_opens_23 : decode cX7_opens 23 = .ok (.iconst 3, 1) := by decide +kernel
theorem dX7_opens_24 : decode cX7_opens 24 = .ok (.iload_n 2, 1) := by decide +kernel
theorem dX7_opens_25 : decode cX7_opens 25 = .ok (.iadd, 1) := by decide +kernel
theorem dX7_opens_26 : decode cX7_opens 26 = .ok (.iconst 1, 1) := by decide +kernel
theorem dX7_opens_27 : decode cX7_opens 27 = .ok (.isub, 1) := by decide +kernel
theorem dX7_opens_28 : decode cX7_opens 28 = .ok (.iaload, 1) := by decide +kernel
theorem dX7_opens_29 : decode cX7_opens 29 = .ok (.iastore, 1) := by decide +kernel
theorem dX7_opens_30 : decode cX7_opens 30 = .ok (.aload_n 0, 1) := by decide +kernel
theorem dX7_opens_31 : decode cX7_opens 31 = .ok (.getfield 16, 3) := by decide +kernel
theorem dX7_opens_34 : decode cX7_opens 34 = .ok (.iload_n 2, 1) := by decide +kernel
theorem dX7_opens_35 : decode cX7_opens 35 = .ok (.aload_n 0, 1) := by decide +kernel
theorem dX7_opens_36 : decode cX7_opens 36 = .ok (.getfield 16, 3) := by decide +kernel
theorem dX7_opens_39 : decode cX7_opens 39 = .ok (.iload_n 2, 1) := by decide +kernel
theorem dX7_opens_40 : decode cX7_opens 40 = .ok (.iconst 1, 1) := by decide +kernel
theorem dX7_opens_41 : decode cX7_opens 41 = .ok (.isub, 1) := by decide +kernel
theorem dX7_opens_42 : decode cX7_opens 42 = .ok (.iaload, 1) := by decide +kernel
theorem dX7_opens_43 : decode cX7_opens 43 = .ok (.iastore, 1) := by decide +kernel
theorem dX7_opens_44 : decode cX7_opens 44 = .ok (.iconst 0, 1) := by decide +kernel
theorem dX7_opens_45 : decode cX7_opens 45 = .ok (.istore_n 3, 1) := by decide +kernel
theorem dX7_opens_46 : decode cX7_opens 46 = .ok (.iload_n 3, 1) := by decide +kernel
theorem dX7_opens_47 : decode cX7_opens 47 = .ok (.bipush 24, 2) := by decide +kernel
theorem dX7_opens_49 : decode cX7_opens 49 = .ok (.if_icmp .ge 39, 3) := by decide +kernel
theorem dX7_opens_52 : decode cX7_opens 52 = .ok (.aload_n 0, 1) := by decide +kernel
theorem dX7_opens_53 : decode cX7_opens 53 = .ok (.getfield 7, 3) := by decide +kernel
theorem dX7_opens_56 : decode cX7_opens 56 = .ok (.bipush 15, 2) := by decide +kernel
theorem dX7_opens_58 : decode cX7_opens 58 = .ok (.bipush 24, 2) := by decide +kernel
theorem dX7_opens_60 : decode cX7_opens 60 = .ok (.iload_n 2, 1) := by decide +kernel
theorem dX7_opens_61 : decode cX7_opens 61 = .ok (.imul, 1) := by decide +kernel
theorem dX7_opens_62 : decode cX7_opens 62 = .ok (.iadd, 1) := by decide +kernel
theorem dX7_opens_63 : decode cX7_opens 63 = .ok (.iload_n 3, 1) := by decide +kernel
theorem dX7_opens_64 : decode cX7_opens 64 = .ok (.iadd, 1) := by decide +kernel
theorem dX7_opens_65 : decode cX7_opens 65 = .ok (.aload_n 0, 1) := by decide +kernel
theorem dX7_opens_66 : decode cX7_opens 66 = .ok (.getfield 7, 3) := by decide +kernel
theorem dX7_opens_69 : decode cX7_opens 69 = .ok (.bipush 15, 2) := by decide +kernel
theorem dX7_opens_71 : decode cX7_opens 71 = .ok (.bipush 24, 2) := by decide +kernel
theorem dX7_opens_73 : decode cX7_opens 73 = .ok (.iload_n 2, 1) := by decide +kernel
theorem dX7_opens_74 : decode cX7_opens 74 = .ok (.iconst 1, 1) := by decide +kernel
theorem dX7_opens_75 : decode cX7_opens 75 = .ok (.isub, 1) := by decide +kernel
theorem dX7_opens_76 : decode cX7_opens 76 = .ok (.imul, 1) := by decide +kernel
theorem dX7_opens_77 : decode cX7_opens 77 = .ok (.iadd, 1) := by decide +kernel
theorem dX7_opens_78 : decode cX7_opens 78 = .ok (.iload_n 3, 1) := by decide +kernel
theorem dX7_opens_79 : decode cX7_opens 79 = .ok (.iadd, 1) := by decide +kernel
theorem dX7_opens_80 : decode cX7_opens 80 = .ok (.iaload, 1) := by decide +kernel
theorem dX7_opens_81 : decode cX7_opens 81 = .ok (.iastore, 1) := by decide +kernel
theorem dX7_opens_82 : decode cX7_opens 82 = .ok (.iinc 3 1, 3) := by decide +kernel
theorem dX7_opens_85 : decode cX7_opens 85 = .ok (.goto (-39), 3) := by decide +kernel
theorem dX7_opens_88 : decode cX7_opens 88 = .ok (.iinc 2 (-1), 3) := by decide +kernel
theorem dX7_opens_91 : decode cX7_opens 91 = .ok (.goto (-84), 3) := by decide +kernel
theorem dX7_opens_94 : decode cX7_opens 94 = .ok (.aload_n 0, 1) := by decide +kernel
theorem dX7_opens_95 : decode cX7_opens 95 = .ok (.getfield 7, 3) := by decide +kernel
theorem dX7_opens_98 : decode cX7_opens 98 = .ok (.iconst 3, 1) := by decide +kernel
theorem dX7_opens_99 : decode cX7_opens 99 = .ok (.iload_n 1, 1) := by decide +kernel
theorem dX7_opens_100 : decode cX7_opens 100 = .ok (.iadd, 1) := by decide +kernel
theorem dX7_opens_101 : decode cX7_opens 101 = .ok (.iconst 0, 1) := by decide +kernel
theorem dX7_opens_102 : decode cX7_opens 102 = .ok (.iastore, 1) := by decide +kernel
theorem dX7_opens_103 : decode cX7_opens 103 = .ok (.aload_n 0, 1) := by decide +kernel
theorem dX7_opens_104 : decode cX7_opens 104 = .ok (.getfield 16, 3) := by decide +kernel
theorem dX7_opens_107 : decode cX7_opens 107 = .ok (.iload_n 1, 1) := by decide +kernel
theorem dX7_opens_108 : decode cX7_opens 108 = .ok (.bipush (-9), 2) := by decide +kernel
theorem dX7_opens_110 : decode cX7_opens 110 = .ok (.iastore, 1) := by decide +kernel
theorem dX7_opens_111 : decode cX7_opens 111 = .ok (.aload_n 0, 1) := by decide +kernel
theorem dX7_opens_112 : decode cX7_opens 112 = .ok (.getfield 7, 3) := by decide +kernel
theorem dX7_opens_115 : decode cX7_opens 115 = .ok (.iconst 0, 1) := by decide +kernel
theorem dX7_opens_116 : decode cX7_opens 116 = .ok (.dup2, 1) := by decide +kernel
theorem dX7_opens_117 : decode cX7_opens 117 = .ok (.iaload, 1) := by decide +kernel
theorem dX7_opens_118 : decode cX7_opens 118 = .ok (.iconst 1, 1) := by decide +kernel
theorem dX7_opens_119 : decode cX7_opens 119 = .ok (.iadd, 1) := by decide +kernel
theorem dX7_opens_120 : decode cX7_opens 120 = .ok (.iastore, 1) := by decide +kernel
theorem dX7_opens_121 : decode cX7_opens 121 = .ok (.return_, 1) := by decide +kernel
theorem dX7_shuts_0 : decode cX7_shuts 0 = .ok (.aload_n 0, 1) := by decide +kernel
theorem dX7_shuts_1 : decode cX7_shuts 1 = .ok (.getfield 7, 3) := by decide +kernel
theorem dX7_shuts_4 : decode cX7_shuts 4 = .ok (.iconst 0, 1) := by decide +kernel
theorem dX7_shuts_5 : decode cX7_shuts 5 = .ok (.dup2, 1) := by decide +kernel
theorem dX7_shuts_6 : decode cX7_shuts 6 = .ok (.iaload, 1) := by decide +kernel
theorem dX7_shuts_7 : decode cX7_shuts 7 = .ok (.iconst 1, 1) := by decide +kernel
theorem dX7_shuts_8 : decode cX7_shuts 8 = .ok (.isub, 1) := by decide +kernel
theorem dX7_shuts_9 : decode cX7_shuts 9 = .ok (.iastore, 1) := by decide +kernel
theorem dX7_shuts_10 : decode cX7_shuts 10 = .ok (.iload_n 1, 1) := by decide +kernel
theorem dX7_shuts_11 : decode cX7_shuts 11 = .ok (.istore_n 2, 1) := by decide +kernel
theorem dX7_shuts_12 : decode cX7_shuts 12 = .ok (.iload_n 2, 1) := by decide +kernel
theorem dX7_shuts_13 : decode cX7_shuts 13 = .ok (.aload_n 0, 1) := by decide +kernel
theorem dX7_shuts_14 : decode cX7_shuts 14 = .ok (.getfield 7, 3) := by decide +kernel
theorem dX7_shuts_17 : decode cX7_shuts 17 = .ok (.iconst 0, 1) := by decide +kernel
theorem dX7_shuts_18 : decode cX7_shuts 18 = .ok (.iaload, 1) := by decide +kernel
theorem dX7_shuts_19 : decode cX7_shuts 19 = .ok (.if_icmp .ge 85, 3) := by decide +kernel
theorem dX7_shuts_22 : decode cX7_shuts 22 = .ok (.aload_n 0, 1) := by decide +kernel
theorem dX7_shuts_23 : decode cX7_shuts 23 = .ok (.getfield 7, 3) := by decide +kernel
theorem dX7_shuts_26 : decode cX7_shuts 26 = .ok (.iconst 3, 1) := by decide +kernel
theorem dX7_shuts_27 : decode cX7_shuts 27 = .ok (.iload_n 2, 1) := by decide +kernel
theorem dX7_shuts_28 : decode cX7_shuts 28 = .ok (.iadd, 1) := by decide +kernel
theorem dX7_shuts_29 : decode cX7_shuts 29 = .ok (.aload_n 0, 1) := by decide +kernel
theorem dX7_shuts_30 : decode cX7_shuts 30 = .ok (.getfield 7, 3) := by decide +kernel
theorem dX7_shuts_33 : decode cX7_shuts 33 = .ok (.iconst 3, 1) := by decide +kernel
theorem dX7_shuts_34 : decode cX7_shuts 34 = .ok (.iload_n 2, 1) := by decide +kernel
theorem dX7_shuts_35 : decode cX7_shuts 35 = .ok (.iadd, 1) := by decide +kernel
theorem dX7_shuts_36 : decode cX7_shuts 36 = .ok (.iconst 1, 1) := by decide +kernel
theorem dX7_shuts_37 : decode cX7_shuts 37 = .ok (.iadd, 1) := by decide +kernel
theorem dX7_shuts_38 : decode cX7_shuts 38 = .ok (.iaload, 1) := by decide +kernel
theorem dX7_shuts_39 : decode cX7_shuts 39 = .ok (.iastore, 1) := by decide +kernel
theorem dX7_shuts_40 : decode cX7_shuts 40 = .ok (.aload_n 0, 1) := by decide +kernel
theorem dX7_shuts_41 : decode cX7_shuts 41 = .ok (.getfield 16, 3) := by decide +kernel
theorem dX7_shuts_44 : decode cX7_shuts 44 = .ok (.iload_n 2, 1) := by decide +kernel
theorem dX7_shuts_45 : decode cX7_shuts 45 = .ok (.aload_n 0, 1) := by decide +kernel
theorem dX7_shuts_46 : decode cX7_shuts 46 = .ok (.getfield 16, 3) := by decide +kernel
theorem dX7_shuts_49 : decode cX7_shuts 49 = .ok (.iload_n 2, 1) := by decide +kernel
theorem dX7_shuts_50 : decode cX7_shuts 50 = .ok (.iconst 1, 1) := by decide +kernel
theorem dX7_shuts_51 : decode cX7_shuts 51 = .ok (.iadd, 1) := by decide +kernel
theorem dX7_shuts_52 : decode cX7_shuts 52 = .ok (.iaload, 1) := by decide +kernel
theorem dX7_shuts_53 : decode cX7_shuts 53 = .ok (.iastore, 1) := by decide +kernel
theorem dX7_shuts_54 : decode cX7_shuts 54 = .ok (.iconst 0, 1) := by decide +kernel
theorem dX7_shuts_55 : decode cX7_shuts 55 = .ok (.istore_n 3, 1) := by decide +kernel
theorem dX7_shuts_56 : decode cX7_shuts 56 = .ok (.iload_n 3, 1) := by decide +kernel
theorem dX7_shuts_57 : decode cX7_shuts 57 = .ok (.bipush 24, 2) := by decide +kernel
theorem dX7_shuts_59 : decode cX7_shuts 59 = .ok (.if_icmp .ge 39, 3) := by decide +kernel
theorem dX7_shuts_62 : decode cX7_shuts 62 = .ok (.aload_n 0, 1) := by decide +kernel
theorem dX7_shuts_63 : decode cX7_shuts 63 = .ok (.getfield 7, 3) := by decide +kernel
theorem dX7_shuts_66 : decode cX7_shuts 66 = .ok (.bipush 15, 2) := by decide +kernel
theorem dX7_shuts_68 : decode cX7_shuts 68 = .ok (.bipush 24, 2) := by decide +kernel
theorem dX7_shuts_70 : decode cX7_shuts 70 = .ok (.iload_n 2, 1) := by decide +kernel
theorem dX7_shuts_71 : decode cX7_shuts 71 = .ok (.imul, 1) := by decide +kernel
theorem dX7_shuts_72 : decode cX7_shuts 72 = .ok (.iadd, 1) := by decide +kernel
theorem dX7_shuts_73 : decode cX7_shuts 73 = .ok (.iload_n 3, 1) := by decide +kernel
theorem dX7_shuts_74 : decode cX7_shuts 74 = .ok (.iadd, 1) := by decide +kernel
theorem dX7_shuts_75 : decode cX7_shuts 75 = .ok (.aload_n 0, 1) := by decide +kernel
theorem dX7_shuts_76 : decode cX7_shuts 76 = .ok (.getfield 7, 3) := by decide +kernel
theorem dX7_shuts_79 : decode cX7_shuts 79 = .ok (.bipush 15, 2) := by decide +kernel
theorem dX7_shuts_81 : decode cX7_shuts 81 = .ok (.bipush 24, 2) := by decide +kernel
theorem dX7_shuts_83 : decode cX7_shuts 83 = .ok (.iload_n 2, 1) := by decide +kernel
theorem dX7_shuts_84 : decode cX7_shuts 84 = .ok (.iconst 1, 1) := by decide +kernel
theorem dX7_shuts_85 : decode cX7_shuts 85 = .ok (.iadd, 1) := by decide +kernel
theorem dX7_shuts_86 : decode cX7_shuts 86 = .ok (.imul, 1) := by decide +kernel
theorem dX7_shuts_87 : decode cX7_shuts 87 = .ok (.iadd, 1) := by decide +kernel
theorem dX7_shuts_88 : decode cX7_shuts 88 = .ok (.iload_n 3, 1) := by decide +kernel
theorem dX7_shuts_89 : decode cX7_shuts 89 = .ok (.iadd, 1) := by decide +kernel
theorem dX7_shuts_90 : decode cX7_shuts 90 = .ok (.iaload, 1) := by decide +kernel
theorem dX7_shuts_91 : decode cX7_shuts 91 = .ok (.iastore, 1) := by decide +kernel
theorem dX7_shuts_92 : decode cX7_shuts 92 = .ok (.iinc 3 1, 3) := by decide +kernel
theorem dX7_shuts_95 : decode cX7_shuts 95 = .ok (.goto (-39), 3) := by decide +kernel
theorem dX7_shuts_98 : decode cX7_shuts 98 = .ok (.iinc 2 1, 3) := by decide +kernel
theorem dX7_shuts_101 : decode cX7_shuts 101 = .ok (.goto (-89), 3) := by decide +kernel
theorem dX7_shuts_104 : decode cX7_shuts 104 = .ok (.return_, 1) := by decide +kernel
theorem dX7_appends_0 : decode cX7_appends 0 = .ok (.aload_n 0, 1) := by decide +kernel
theorem dX7_appends_1 : decode cX7_appends 1 = .ok (.getfield 7, 3) := by decide +kernel
theorem dX7_appends_4 : decode cX7_appends 4 = .ok (.bipush 15, 2) := by decide +kernel
theorem dX7_appends_6 : decode cX7_appends 6 = .ok (.bipush 24, 2) := by decide +kernel
theorem dX7_appends_8 : decode cX7_appends 8 = .ok (.iload_n 1, 1) := by decide +kernel
theorem dX7_appends_9 : decode cX7_appends 9 = .ok (.imul, 1) := by decide +kernel
theorem dX7_appends_10 : decode cX7_appends 10 = .ok (.iadd, 1) := by decide +kernel
theorem dX7_appends_11 : decode cX7_appends 11 = .ok (.aload_n 0, 1) := by decide +kernel
theorem dX7_appends_12 : decode cX7_appends 12 = .ok (.getfield 7, 3) := by decide +kernel
theorem dX7_appends_15 : decode cX7_appends 15 = .ok (.iconst 3, 1) := by decide +kernel
theorem dX7_appends_16 : decode cX7_appends 16 = .ok (.iload_n 1, 1) := by decide +kernel
theorem dX7_appends_17 : decode cX7_appends 17 = .ok (.iadd, 1) := by decide +kernel
theorem dX7_appends_18 : decode cX7_appends 18 = .ok (.iaload, 1) := by decide +kernel
theorem dX7_appends_19 : decode cX7_appends 19 = .ok (.iadd, 1) := by decide +kernel
theorem dX7_appends_20 : decode cX7_appends 20 = .ok (.iload_n 2, 1) := by decide +kernel
theorem dX7_appends_21 : decode cX7_appends 21 = .ok (.iastore, 1) := by decide +kernel
theorem dX7_appends_22 : decode cX7_appends 22 = .ok (.aload_n 0, 1) := by decide +kernel
theorem dX7_appends_23 : decode cX7_appends 23 = .ok (.getfield 7, 3) := by decide +kernel
theorem dX7_appends_26 : decode cX7_appends 26 = .ok (.iconst 3, 1) := by decide +kernel
theorem dX7_appends_27 : decode cX7_appends 27 = .ok (.iload_n 1, 1) := by decide +kernel
theorem dX7_appends_28 : decode cX7_appends 28 = .ok (.iadd, 1) := by decide +kernel
theorem dX7_appends_29 : decode cX7_appends 29 = .ok (.dup2, 1) := by decide +kernel
theorem dX7_appends_30 : decode cX7_appends 30 = .ok (.iaload, 1) := by decide +kernel
theorem dX7_appends_31 : decode cX7_appends 31 = .ok (.iconst 1, 1) := by decide +kernel
theorem dX7_appends_32 : decode cX7_appends 32 = .ok (.iadd, 1) := by decide +kernel
theorem dX7_appends_33 : decode cX7_appends 33 = .ok (.iastore, 1) := by decide +kernel
theorem dX7_appends_34 : decode cX7_appends 34 = .ok (.return_, 1) := by decide +kernel
theorem dX7_isLine_0 : decode cX7_isLine 0 = .ok (.iload_n 1, 1) := by decide +kernel
theorem dX7_isLine_1 : decode cX7_isLine 1 = .ok (.iconst 0, 1) := by decide +kernel
theorem dX7_isLine_2 : decode cX7_isLine 2 = .ok (.aload_n 0, 1) := by decide +kernel
theorem dX7_isLine_3 : decode cX7_isLine 3 = .ok (.getfield 7, 3) := by decide +kernel
theorem dX7_isLine_6 : decode cX7_isLine 6 = .ok (.iconst 0, 1) := by decide +kernel
theorem dX7_isLine_7 : decode cX7_isLine 7 = .ok (.iaload, 1) := by decide +kernel
theorem dX7_isLine_8 : decode cX7_isLine 8 = .ok (.iconst 1, 1) := by decide +kernel
theorem dX7_isLine_9 : decode cX7_isLine 9 = .ok (.isub, 1) := by decide +kernel
theorem dX7_isLine_10 : decode cX7_isLine 10 = .ok (.invokestatic 80, 3) := by decide +kernel
theorem dX7_isLine_13 : decode cX7_isLine 13 = .ok (.ireturn, 1) := by decide +kernel
theorem dX7_isPlace_0 : decode cX7_isPlace 0 = .ok (.aload_n 0, 1) := by decide +kernel
theorem dX7_isPlace_1 : decode cX7_isPlace 1 = .ok (.iload_n 1, 1) := by decide +kernel
theorem dX7_isPlace_2 : decode cX7_isPlace 2 = .ok (.invokevirtual 102, 3) := by decide +kernel
theorem dX7_isPlace_5 : decode cX7_isPlace 5 = .ok (.ifCond .eq 23, 3) := by decide +kernel
theorem dX7_isPlace_8 : decode cX7_isPlace 8 = .ok (.iload_n 2, 1) := by decide +kernel
theorem dX7_isPlace_9 : decode cX7_isPlace 9 = .ok (.iconst 0, 1) := by decide +kernel
theorem dX7_isPlace_10 : decode cX7_isPlace 10 = .ok (.aload_n 0, 1) := by decide +kernel
theorem dX7_isPlace_11 : decode cX7_isPlace 11 = .ok (.getfield 7, 3) := by decide +kernel
theorem dX7_isPlace_14 : decode cX7_isPlace 14 = .ok (.iconst 3, 1) := by decide +kernel
theorem dX7_isPlace_15 : decode cX7_isPlace 15 = .ok (.iload_n 1, 1) := by decide +kernel
theorem dX7_isPlace_16 : decode cX7_isPlace 16 = .ok (.iadd, 1) := by decide +kernel
theorem dX7_isPlace_17 : decode cX7_isPlace 17 = .ok (.iaload, 1) := by decide +kernel
theorem dX7_isPlace_18 : decode cX7_isPlace 18 = .ok (.invokestatic 80, 3) := by decide +kernel
theorem dX7_isPlace_21 : decode cX7_isPlace 21 = .ok (.ifCond .eq 7, 3) := by decide +kernel
theorem dX7_isPlace_24 : decode cX7_isPlace 24 = .ok (.iconst 1, 1) := by decide +kernel
theorem dX7_isPlace_25 : decode cX7_isPlace 25 = .ok (.goto 4, 3) := by decide +kernel
theorem dX7_isPlace_28 : decode cX7_isPlace 28 = .ok (.iconst 0, 1) := by decide +kernel
theorem dX7_isPlace_29 : decode cX7_isPlace 29 = .ok (.ireturn, 1) := by decide +kernel
theorem dX7_put_0 : decode cX7_put 0 = .ok (.aload_n 0, 1) := by decide +kernel
theorem dX7_put_1 : decode cX7_put 1 = .ok (.iload_n 1, 1) := by decide +kernel
theorem dX7_put_2 : decode cX7_put 2 = .ok (.iload_n 2, 1) := by decide +kernel
theorem dX7_put_3 : decode cX7_put 3 = .ok (.invokevirtual 105, 3) := by decide +kernel
theorem dX7_put_6 : decode cX7_put 6 = .ok (.ifCond .eq 10, 3) := by decide +kernel
theorem dX7_put_9 : decode cX7_put 9 = .ok (.iload_n 3, 1) := by decide +kernel
theorem dX7_put_10 : decode cX7_put 10 = .ok (.invokestatic 109, 3) := by decide +kernel
theorem dX7_put_13 : decode cX7_put 13 = .ok (.ifCond .ne 5, 3) := by decide +kernel
theorem dX7_put_16 : decode cX7_put 16 = .ok (.iconst (-1), 1) := by decide +kernel
theorem dX7_put_17 : decode cX7_put 17 = .ok (.ireturn, 1) := by decide +kernel
theorem dX7_put_18 : decode cX7_put 18 = .ok (.aload_n 0, 1) := by decide +kernel
theorem dX7_put_19 : decode cX7_put 19 = .ok (.getfield 7, 3) := by decide +kernel
theorem dX7_put_22 : decode cX7_put 22 = .ok (.iconst 3, 1) := by decide +kernel
theorem dX7_put_23 : decode cX7_put 23 = .ok (.iload_n 1, 1) := by decide +kernel
theorem dX7_put_24 : decode cX7_put 24 = .ok (.iadd, 1) := by decide +kernel
theorem dX7_put_25 : decode cX7_put 25 = .ok (.iaload, 1) := by decide +kernel
theorem dX7_put_26 : decode cX7_put 26 = .ok (.bipush 24, 2) := by decide +kernel
theorem dX7_put_28 : decode cX7_put 28 = .ok (.if_icmp .ne 6, 3) := by decide +kernel
theorem dX7_put_31 : decode cX7_put 31 = .ok (.bipush (-3), 2) := by decide +kernel
theorem dX7_put_33 : decode cX7_put 33 = .ok (.ireturn, 1) := by decide +kernel
theorem dX7_put_34 : decode cX7_put 34 = .ok (.aload_n 0, 1) := by decide +kernel
theorem dX7_put_35 : decode cX7_put 35 = .ok (.invokevirtual 112, 3) := by decide +kernel
theorem dX7_put_38 : decode cX7_put 38 = .ok (.aload_n 0, 1) := by decide +kernel
theorem dX7_put_39 : decode cX7_put 39 = .ok (.getfield 7, 3) := by decide +kernel
theorem dX7_put_42 : decode cX7_put 42 = .ok (.iconst 3, 1) := by decide +kernel
theorem dX7_put_43 : decode cX7_put 43 = .ok (.iload_n 1, 1) := by decide +kernel
theorem dX7_put_44 : decode cX7_put 44 = .ok (.iadd, 1) := by decide +kernel
theorem dX7_put_45 : decode cX7_put 45 = .ok (.iaload, 1) := by decide +kernel
theorem dX7_put_46 : decode cX7_put 46 = .ok (.istore 4, 2) := by decide +kernel
theorem dX7_put_48 : decode cX7_put 48 = .ok (.iload 4, 2) := by decide +kernel
theorem dX7_put_50 : decode cX7_put 50 = .ok (.iload_n 2, 1) := by decide +kernel
theorem dX7_put_51 : decode cX7_put 51 = .ok (.if_icmp .le 36, 3) := by decide +kernel
theorem dX7_put_54 : decode cX7_put 54 = .ok (.aload_n 0, 1) := by decide +kernel
theorem dX7_put_55 : decode cX7_put 55 = .ok (.getfield 7, 3) := by decide +kernel
theorem dX7_put_58 : decode cX7_put 58 = .ok (.bipush 15, 2) := by decide +kernel
theorem dX7_put_60 : decode cX7_put 60 = .ok (.bipush 24, 2) := by decide +kernel
theorem dX7_put_62 : decode cX7_put 62 = .ok (.iload_n 1, 1) := by decide +kernel
theorem dX7_put_63 : decode cX7_put 63 = .ok (.imul, 1) := by decide +kernel
theorem dX7_put_64 : decode cX7_put 64 = .ok (.iadd, 1) := by decide +kernel
theorem dX7_put_65 : decode cX7_put 65 = .ok (.iload 4, 2) := by decide +kernel
theorem dX7_put_67 : decode cX7_put 67 = .ok (.iadd, 1) := by decide +kernel
theorem dX7_put_68 : decode cX7_put 68 = .ok (.aload_n 0, 1) := by decide +kernel
theorem dX7_put_69 : decode cX7_put 69 = .ok (.getfield 7, 3) := by decide +kernel
theorem dX7_put_72 : decode cX7_put 72 = .ok (.iload_n 1, 1) := by decide +kernel
theorem dX7_put_73 : decode cX7_put 73 = .ok (.iload 4, 2) := by decide +kernel
theorem dX7_put_75 : decode cX7_put 75 = .ok (.iconst 1, 1) := by decide +kernel
theorem dX7_put_76 : decode cX7_put 76 = .ok (.isub, 1) := by decide +kernel
theorem dX7_put_77 : decode cX7_put 77 = .ok (.invokestatic 41, 3) := by decide +kernel
theorem dX7_put_80 : decode cX7_put 80 = .ok (.iastore, 1) := by decide +kernel
theorem dX7_put_81 : decode cX7_put 81 = .ok (.iinc 4 (-1), 3) := by decide +kernel
theorem dX7_put_84 : decode cX7_put 84 = .ok (.goto (-36), 3) := by decide +kernel
theorem dX7_put_87 : decode cX7_put 87 = .ok (.aload_n 0, 1) := by decide +kernel
theorem dX7_put_88 : decode cX7_put 88 = .ok (.getfield 7, 3) := by decide +kernel
theorem dX7_put_91 : decode cX7_put 91 = .ok (.bipush 15, 2) := by decide +kernel
theorem dX7_put_93 : decode cX7_put 93 = .ok (.bipush 24, 2) := by decide +kernel
theorem dX7_put_95 : decode cX7_put 95 = .ok (.iload_n 1, 1) := by decide +kernel
theorem dX7_put_96 : decode cX7_put 96 = .ok (.imul, 1) := by decide +kernel
theorem dX7_put_97 : decode cX7_put 97 = .ok (.iadd, 1) := by decide +kernel
theorem dX7_put_98 : decode cX7_put 98 = .ok (.iload_n 2, 1) := by decide +kernel
theorem dX7_put_99 : decode cX7_put 99 = .ok (.iadd, 1) := by decide +kernel
theorem dX7_put_100 : decode cX7_put 100 = .ok (.iload_n 3, 1) := by decide +kernel
theorem dX7_put_101 : decode cX7_put 101 = .ok (.iastore, 1) := by decide +kernel
theorem dX7_put_102 : decode cX7_put 102 = .ok (.aload_n 0, 1) := by decide +kernel
theorem dX7_put_103 : decode cX7_put 103 = .ok (.getfield 7, 3) := by decide +kernel
theorem dX7_put_106 : decode cX7_put 106 = .ok (.iconst 3, 1) := by decide +kernel
theorem dX7_put_107 : decode cX7_put 107 = .ok (.iload_n 1, 1) := by decide +kernel
theorem dX7_put_108 : decode cX7_put 108 = .ok (.iadd, 1) := by decide +kernel
theorem dX7_put_109 : decode cX7_put 109 = .ok (.dup2, 1) := by decide +kernel
theorem dX7_put_110 : decode cX7_put 110 = .ok (.iaload, 1) := by decide +kernel
theorem dX7_put_111 : decode cX7_put 111 = .ok (.iconst 1, 1) := by decide +kernel
theorem dX7_put_112 : decode cX7_put 112 = .ok (.iadd, 1) := by decide +kernel
theorem dX7_put_113 : decode cX7_put 113 = .ok (.iastore, 1) := by decide +kernel
theorem dX7_put_114 : decode cX7_put 114 = .ok (.aload_n 0, 1) := by decide +kernel
theorem dX7_put_115 : decode cX7_put 115 = .ok (.invokevirtual 115, 3) := by decide +kernel
theorem dX7_put_118 : decode cX7_put 118 = .ok (.aload_n 0, 1) := by decide +kernel
theorem dX7_put_119 : decode cX7_put 119 = .ok (.getfield 7, 3) := by decide +kernel
theorem dX7_put_122 : decode cX7_put 122 = .ok (.iconst 3, 1) := by decide +kernel
theorem dX7_put_123 : decode cX7_put 123 = .ok (.iload_n 1, 1) := by decide +kernel
theorem dX7_put_124 : decode cX7_put 124 = .ok (.iadd, 1) := by decide +kernel
theorem dX7_put_125 : decode cX7_put 125 = .ok (.iaload, 1) := by decide +kernel
theorem dX7_put_126 : decode cX7_put 126 = .ok (.ireturn, 1) := by decide +kernel
theorem dX7_cut_0 : decode cX7_cut 0 = .ok (.aload_n 0, 1) := by decide +kernel
theorem dX7_cut_1 : decode cX7_cut 1 = .ok (.iload_n 1, 1) := by decide +kernel
theorem dX7_cut_2 : decode cX7_cut 2 = .ok (.iload_n 2, 1) := by decide +kernel
theorem dX7_cut_3 : decode cX7_cut 3 = .ok (.invokevirtual 105, 3) := by decide +kernel
theorem dX7_cut_6 : decode cX7_cut 6 = .ok (.ifCond .eq 15, 3) := by decide +kernel
theorem dX7_cut_9 : decode cX7_cut 9 = .ok (.iload_n 2, 1) := by decide +kernel
theorem dX7_cut_10 : decode cX7_cut 10 = .ok (.aload_n 0, 1) := by decide +kernel
theorem dX7_cut_11 : decode cX7_cut 11 = .ok (.getfield 7, 3) := by decide +kernel
theorem dX7_cut_14 : decode cX7_cut 14 = .ok (.iconst 3, 1) := by decide +kernel
theorem dX7_cut_15 : decode cX7_cut 15 = .ok (.iload_n 1, 1) := by decide +kernel
theorem dX7_cut_16 : decode cX7_cut 16 = .ok (.iadd, 1) := by decide +kernel
theorem dX7_cut_17 : decode cX7_cut 17 = .ok (.iaload, 1) := by decide +kernel
theorem dX7_cut_18 : decode cX7_cut 18 = .ok (.if_icmp .ne 5, 3) := by decide +kernel
theorem dX7_cut_21 : decode cX7_cut 21 = .ok (.iconst (-1), 1) := by decide +kernel
theorem dX7_cut_22 : decode cX7_cut 22 = .ok (.ireturn, 1) := by decide +kernel
theorem dX7_cut_23 : decode cX7_cut 23 = .ok (.aload_n 0, 1) := by decide +kernel
theorem dX7_cut_24 : decode cX7_cut 24 = .ok (.invokevirtual 112, 3) := by decide +kernel
theorem dX7_cut_27 : decode cX7_cut 27 = .ok (.aload_n 0, 1) := by decide +kernel
theorem dX7_cut_28 : decode cX7_cut 28 = .ok (.getfield 7, 3) := by decide +kernel
theorem dX7_cut_31 : decode cX7_cut 31 = .ok (.iload_n 1, 1) := by decide +kernel
theorem dX7_cut_32 : decode cX7_cut 32 = .ok (.iload_n 2, 1) := by decide +kernel
theorem dX7_cut_33 : decode cX7_cut 33 = .ok (.invokestatic 41, 3) := by decide +kernel
theorem dX7_cut_36 : decode cX7_cut 36 = .ok (.istore_n 3, 1) := by decide +kernel
theorem dX7_cut_37 : decode cX7_cut 37 = .ok (.aload_n 0, 1) := by decide +kernel
theorem dX7_cut_38 : decode cX7_cut 38 = .ok (.getfield 7, 3) := by decide +kernel
theorem dX7_cut_41 : decode cX7_cut 41 = .ok (.iconst 3, 1) := by decide +kernel
theorem dX7_cut_42 : decode cX7_cut 42 = .ok (.iload_n 1, 1) := by decide +kernel
theorem dX7_cut_43 : decode cX7_cut 43 = .ok (.iadd, 1) := by decide +kernel
theorem dX7_cut_44 : decode cX7_cut 44 = .ok (.dup2, 1) := by decide +kernel
theorem dX7_cut_45 : decode cX7_cut 45 = .ok (.iaload, 1) := by decide +kernel
theorem dX7_cut_46 : decode cX7_cut 46 = .ok (.iconst 1, 1) := by decide +kernel
theorem dX7_cut_47 : decode cX7_cut 47 = .ok (.isub, 1) := by decide +kernel
theorem dX7_cut_48 : decode cX7_cut 48 = .ok (.iastore, 1) := by decide +kernel
theorem dX7_cut_49 : decode cX7_cut 49 = .ok (.iload_n 2, 1) := by decide +kernel
theorem dX7_cut_50 : decode cX7_cut 50 = .ok (.istore 4, 2) := by decide +kernel
theorem dX7_cut_52 : decode cX7_cut 52 = .ok (.iload 4, 2) := by decide +kernel
theorem dX7_cut_54 : decode cX7_cut 54 = .ok (.aload_n 0, 1) := by decide +kernel
theorem dX7_cut_55 : decode cX7_cut 55 = .ok (.getfield 7, 3) := by decide +kernel
theorem dX7_cut_58 : decode cX7_cut 58 = .ok (.iconst 3, 1) := by decide +kernel
theorem dX7_cut_59 : decode cX7_cut 59 = .ok (.iload_n 1, 1) := by decide +kernel
theorem dX7_cut_60 : decode cX7_cut 60 = .ok (.iadd, 1) := by decide +kernel
theorem dX7_cut_61 : decode cX7_cut 61 = .ok (.iaload, 1) := by decide +kernel
theorem dX7_cut_62 : decode cX7_cut 62 = .ok (.if_icmp .ge 36, 3) := by decide +kernel
theorem dX7_cut_65 : decode cX7_cut 65 = .ok (.aload_n 0, 1) := by decide +kernel
theorem dX7_cut_66 : decode cX7_cut 66 = .ok (.getfield 7, 3) := by decide +kernel
theorem dX7_cut_69 : decode cX7_cut 69 = .ok (.bipush 15, 2) := by decide +kernel
theorem dX7_cut_71 : decode cX7_cut 71 = .ok (.bipush 24, 2) := by decide +kernel
theorem dX7_cut_73 : decode cX7_cut 73 = .ok (.iload_n 1, 1) := by decide +kernel
theorem dX7_cut_74 : decode cX7_cut 74 = .ok (.imul, 1) := by decide +kernel
theorem dX7_cut_75 : decode cX7_cut 75 = .ok (.iadd, 1) := by decide +kernel
theorem dX7_cut_76 : decode cX7_cut 76 = .ok (.iload 4, 2) := by decide +kernel
theorem dX7_cut_78 : decode cX7_cut 78 = .ok (.iadd, 1) := by decide +kernel
theorem dX7_cut_79 : decode cX7_cut 79 = .ok (.aload_n 0, 1) := by decide +kernel
theorem dX7_cut_80 : decode cX7_cut 80 = .ok (.getfield 7, 3) := by decide +kernel
theorem dX7_cut_83 : decode cX7_cut 83 = .ok (.iload_n 1, 1) := by decide +kernel
theorem dX7_cut_84 : decode cX7_cut 84 = .ok (.iload 4, 2) := by decide +kernel
theorem dX7_cut_86 : decode cX7_cut 86 = .ok (.iconst 1, 1) := by decide +kernel
theorem dX7_cut_87 : decode cX7_cut 87 = .ok (.iadd, 1) := by decide +kernel
theorem dX7_cut_88 : decode cX7_cut 88 = .ok (.invokestatic 41, 3) := by decide +kernel
theorem dX7_cut_91 : decode cX7_cut 91 = .ok (.iastore, 1) := by decide +kernel
theorem dX7_cut_92 : decode cX7_cut 92 = .ok (.iinc 4 1, 3) := by decide +kernel
theorem dX7_cut_95 : decode cX7_cut 95 = .ok (.goto (-43), 3) := by decide +kernel
theorem dX7_cut_98 : decode cX7_cut 98 = .ok (.aload_n 0, 1) := by decide +kernel
theorem dX7_cut_99 : decode cX7_cut 99 = .ok (.invokevirtual 115, 3) := by decide +kernel
theorem dX7_cut_102 : decode cX7_cut 102 = .ok (.iload_n 3, 1) := by decide +kernel
theorem dX7_cut_103 : decode cX7_cut 103 = .ok (.ireturn, 1) := by decide +kernel
theorem dX7_split_0 : decode cX7_split 0 = .ok (.aload_n 0, 1) := by decide +kernel
theorem dX7_split_1 : decode cX7_split 1 = .ok (.iload_n 1, 1) := by decide +kernel
theorem dX7_split_2 : decode cX7_split 2 = .ok (.iload_n 2, 1) := by decide +kernel
theorem dX7_split_3 : decode cX7_split 3 = .ok (.invokevirtual 105, 3) := by decide +kernel
theorem dX7_split_6 : decode cX7_split 6 = .ok (.ifCond .ne 5, 3) := by decide +kernel
theorem dX7_split_9 : decode cX7_split 9 = .ok (.iconst (-1), 1) := by decide +kernel
theorem dX7_split_10 : decode cX7_split 10 = .ok (.ireturn, 1) := by decide +kernel
theorem dX7_split_11 : decode cX7_split 11 = .ok (.aload_n 0, 1) := by decide +kernel
theorem dX7_split_12 : decode cX7_split 12 = .ok (.getfield 7, 3) := by decide +kernel
theorem dX7_split_15 : decode cX7_split 15 = .ok (.iconst 0, 1) := by decide +kernel
theorem dX7_split_16 : decode cX7_split 16 = .ok (.iaload, 1) := by decide +kernel
theorem dX7_split_17 : decode cX7_split 17 = .ok (.bipush 12, 2) := by decide +kernel
theorem dX7_split_19 : decode cX7_split 19 = .ok (.if_icmp .ne 6, 3) := by decide +kernel
theorem dX7_split_22 : decode cX7_split 22 = .ok (.bipush (-3), 2) := by decide +kernel
theorem dX7_split_24 : decode cX7_split 24 = .ok (.ireturn, 1) := by decide +kernel
theorem dX7_split_25 : decode cX7_split 25 = .ok (.aload_n 0, 1) := by decide +kernel
theorem dX7_split_26 : decode cX7_split 26 = .ok (.invokevirtual 112, 3) := by decide +kernel
theorem dX7_split_29 : decode cX7_split 29 = .ok (.aload_n 0, 1) := by decide +kernel
theorem dX7_split_30 : decode cX7_split 30 = .ok (.iload_n 1, 1) := by decide +kernel
theorem dX7_split_31 : decode cX7_split 31 = .ok (.iconst 1, 1) := by decide +kernel
theorem dX7_split_32 : decode cX7_split 32 = .ok (.iadd, 1) := by decide +kernel
theorem dX7_split_33 : decode cX7_split 33 = .ok (.invokevirtual 118, 3) := by decide +kernel
theorem dX7_split_36 : decode cX7_split 36 = .ok (.iload_n 2, 1) := by decide +kernel
theorem dX7_split_37 : decode cX7_split 37 = .ok (.istore_n 3, 1) := by decide +kernel
theorem dX7_split_38 : decode cX7_split 38 = .ok (.iload_n 3, 1) := by decide +kernel
theorem dX7_split_39 : decode cX7_split 39 = .ok (.aload_n 0, 1) := by decide +kernel
theorem dX7_split_40 : decode cX7_split 40 = .ok (.getfield 7, 3) := by decide +kernel
theorem dX7_split_43 : decode cX7_split 43 = .ok (.iconst 3, 1) := by decide +kernel
theorem dX7_split_44 : decode cX7_split 44 = .ok (.iload_n 1, 1) := by decide +kernel
theorem dX7_split_45 : decode cX7_split 45 = .ok (.iadd, 1) := by decide +kernel
theorem dX7_split_46 : decode cX7_split 46 = .ok (.iaload, 1) := by decide +kernel
theorem dX7_split_47 : decode cX7_split 47 = .ok (.if_icmp .ge 25, 3) := by decide +kernel
theorem dX7_split_50 : decode cX7_split 50 = .ok (.aload_n 0, 1) := by decide +kernel
theorem dX7_split_51 : decode cX7_split 51 = .ok (.iload_n 1, 1) := by decide +kernel
theorem dX7_split_52 : decode cX7_split 52 = .ok (.iconst 1, 1) := by decide +kernel
theorem dX7_split_53 : decode cX7_split 53 = .ok (.iadd, 1) := by decide +kernel
theorem dX7_split_54 : decode cX7_split 54 = .ok (.aload_n 0, 1) := by decide +kernel
theorem dX7_split_55 : decode cX7_split 55 = .ok (.getfield 7, 3) := by decide +kernel
theorem dX7_split_58 : decode cX7_split 58 = .ok (.iload_n 1, 1) := by decide +kernel
theorem dX7_split_59 : decode cX7_split 59 = .ok (.iload_n 3, 1) := by decide +kernel
theorem dX7_split_60 : decode cX7_split 60 = .ok (.invokestatic 41, 3) := by decide +kernel
theorem dX7_split_63 : decode cX7_split 63 = .ok (.invokevirtual 122, 3) := by decide +kernel
theorem dX7_split_66 : decode cX7_split 66 = .ok (.iinc 3 1, 3) := by decide +kernel
theorem dX7_split_69 : decode cX7_split 69 = .ok (.goto (-31), 3) := by decide +kernel
theorem dX7_split_72 : decode cX7_split 72 = .ok (.aload_n 0, 1) := by decide +kernel
theorem dX7_split_73 : decode cX7_split 73 = .ok (.getfield 7, 3) := by decide +kernel
theorem dX7_split_76 : decode cX7_split 76 = .ok (.iconst 3, 1) := by decide +kernel
theorem dX7_split_77 : decode cX7_split 77 = .ok (.iload_n 1, 1) := by decide +kernel
theorem dX7_split_78 : decode cX7_split 78 = .ok (.iadd, 1) := by decide +kernel
theorem dX7_split_79 : decode cX7_split 79 = .ok (.iload_n 2, 1) := by decide +kernel
theorem dX7_split_80 : decode cX7_split 80 = .ok (.iastore, 1) := by decide +kernel
theorem dX7_split_81 : decode cX7_split 81 = .ok (.aload_n 0, 1) := by decide +kernel
theorem dX7_split_82 : decode cX7_split 82 = .ok (.invokevirtual 115, 3) := by decide +kernel
theorem dX7_split_85 : decode cX7_split 85 = .ok (.aload_n 0, 1) := by decide +kernel
theorem dX7_split_86 : decode cX7_split 86 = .ok (.getfield 7, 3) := by decide +kernel
theorem dX7_split_89 : decode cX7_split 89 = .ok (.iconst 0, 1) := by decide +kernel
theorem dX7_split_90 : decode cX7_split 90 = .ok (.iaload, 1) := by decide +kernel
theorem dX7_split_91 : decode cX7_split 91 = .ok (.ireturn, 1) := by decide +kernel
theorem dX7_join_0 : decode cX7_join 0 = .ok (.aload_n 0, 1) := by decide +kernel
theorem dX7_join_1 : decode cX7_join 1 = .ok (.iload_n 1, 1) := by decide +kernel
theorem dX7_join_2 : decode cX7_join 2 = .ok (.invokevirtual 102, 3) := by decide +kernel
theorem dX7_join_5 : decode cX7_join 5 = .ok (.ifCond .eq 13, 3) := by decide +kernel
theorem dX7_join_8 : decode cX7_join 8 = .ok (.aload_n 0, 1) := by decide +kernel
theorem dX7_join_9 : decode cX7_join 9 = .ok (.iload_n 1, 1) := by decide +kernel
theorem dX7_join_10 : decode cX7_join 10 = .ok (.iconst 1, 1) := by decide +kernel
theorem dX7_join_11 : decode cX7_join 11 = .ok (.iadd, 1) := by decide +kernel
theorem dX7_join_12 : decode cX7_join 12 = .ok (.invokevirtual 102, 3) := by decide +kernel
theorem dX7_join_15 : decode cX7_join 15 = .ok (.ifCond .ne 5, 3) := by decide +kernel
theorem dX7_join_18 : decode cX7_join 18 = .ok (.iconst (-1), 1) := by decide +kernel
theorem dX7_join_19 : decode cX7_join 19 = .ok (.ireturn, 1) := by decide +kernel
theorem dX7_join_20 : decode cX7_join 20 = .ok (.aload_n 0, 1) := by decide +kernel
theorem dX7_join_21 : decode cX7_join 21 = .ok (.getfield 7, 3) := by decide +kernel
theorem dX7_join_24 : decode cX7_join 24 = .ok (.iconst 3, 1) := by decide +kernel
theorem dX7_join_25 : decode cX7_join 25 = .ok (.iload_n 1, 1) := by decide +kernel
theorem dX7_join_26 : decode cX7_join 26 = .ok (.iadd, 1) := by decide +kernel
theorem dX7_join_27 : decode cX7_join 27 = .ok (.iaload, 1) := by decide +kernel
theorem dX7_join_28 : decode cX7_join 28 = .ok (.aload_n 0, 1) := by decide +kernel
theorem dX7_join_29 : decode cX7_join 29 = .ok (.getfield 7, 3) := by decide +kernel
theorem dX7_join_32 : decode cX7_join 32 = .ok (.iconst 3, 1) := by decide +kernel
theorem dX7_join_33 : decode cX7_join 33 = .ok (.iload_n 1, 1) := by decide +kernel
theorem dX7_join_34 : decode cX7_join 34 = .ok (.iadd, 1) := by decide +kernel
theorem dX7_join_35 : decode cX7_join 35 = .ok (.iconst 1, 1) := by decide +kernel
theorem dX7_join_36 : decode cX7_join 36 = .ok (.iadd, 1) := by decide +kernel
theorem dX7_join_37 : decode cX7_join 37 = .ok (.iaload, 1) := by decide +kernel
theorem dX7_join_38 : decode cX7_join 38 = .ok (.iadd, 1) := by decide +kernel
theorem dX7_join_39 : decode cX7_join 39 = .ok (.bipush 24, 2) := by decide +kernel
theorem dX7_join_41 : decode cX7_join 41 = .ok (.if_icmp .le 6, 3) := by decide +kernel
theorem dX7_join_44 : decode cX7_join 44 = .ok (.bipush (-3), 2) := by decide +kernel
theorem dX7_join_46 : decode cX7_join 46 = .ok (.ireturn, 1) := by decide +kernel
theorem dX7_join_47 : decode cX7_join 47 = .ok (.aload_n 0, 1) := by decide +kernel
theorem dX7_join_48 : decode cX7_join 48 = .ok (.invokevirtual 112, 3) := by decide +kernel
theorem dX7_join_51 : decode cX7_join 51 = .ok (.iconst 0, 1) := by decide +kernel
theorem dX7_join_52 : decode cX7_join 52 = .ok (.istore_n 2, 1) := by decide +kernel
theorem dX7_join_53 : decode cX7_join 53 = .ok (.iload_n 2, 1) := by decide +kernel
theorem dX7_join_54 : decode cX7_join 54 = .ok (.aload_n 0, 1) := by decide +kernel
theorem dX7_join_55 : decode cX7_join 55 = .ok (.getfield 7, 3) := by decide +kernel
theorem dX7_join_58 : decode cX7_join 58 = .ok (.iconst 3, 1) := by decide +kernel
theorem dX7_join_59 : decode cX7_join 59 = .ok (.iload_n 1, 1) := by decide +kernel
theorem dX7_join_60 : decode cX7_join 60 = .ok (.iadd, 1) := by decide +kernel
theorem dX7_join_61 : decode cX7_join 61 = .ok (.iconst 1, 1) := by decide +kernel
theorem dX7_join_62 : decode cX7_join 62 = .ok (.iadd, 1) := by decide +kernel
theorem dX7_join_63 : decode cX7_join 63 = .ok (.iaload, 1) := by decide +kernel
theorem dX7_join_64 : decode cX7_join 64 = .ok (.if_icmp .ge 25, 3) := by decide +kernel
theorem dX7_join_67 : decode cX7_join 67 = .ok (.aload_n 0, 1) := by decide +kernel
theorem dX7_join_68 : decode cX7_join 68 = .ok (.iload_n 1, 1) := by decide +kernel
theorem dX7_join_69 : decode cX7_join 69 = .ok (.aload_n 0, 1) := by decide +kernel
theorem dX7_join_70 : decode cX7_join 70 = .ok (.getfield 7, 3) := by decide +kernel
theorem dX7_join_73 : decode cX7_join 73 = .ok (.iload_n 1, 1) := by decide +kernel
theorem dX7_join_74 : decode cX7_join 74 = .ok (.iconst 1, 1) := by decide +kernel
theorem dX7_join_75 : decode cX7_join 75 = .ok (.iadd, 1) := by decide +kernel
theorem dX7_join_76 : decode cX7_join 76 = .ok (.iload_n 2, 1) := by decide +kernel
theorem dX7_join_77 : decode cX7_join 77 = .ok (.invokestatic 41, 3) := by decide +kernel
theorem dX7_join_80 : decode cX7_join 80 = .ok (.invokevirtual 122, 3) := by decide +kernel
theorem dX7_join_83 : decode cX7_join 83 = .ok (.iinc 2 1, 3) := by decide +kernel
theorem dX7_join_86 : decode cX7_join 86 = .ok (.goto (-33), 3) := by decide +kernel
theorem dX7_join_89 : decode cX7_join 89 = .ok (.aload_n 0, 1) := by decide +kernel
theorem dX7_join_90 : decode cX7_join 90 = .ok (.iload_n 1, 1) := by decide +kernel
theorem dX7_join_91 : decode cX7_join 91 = .ok (.iconst 1, 1) := by decide +kernel
theorem dX7_join_92 : decode cX7_join 92 = .ok (.iadd, 1) := by decide +kernel
theorem dX7_join_93 : decode cX7_join 93 = .ok (.invokevirtual 126, 3) := by decide +kernel
theorem dX7_join_96 : decode cX7_join 96 = .ok (.aload_n 0, 1) := by decide +kernel
theorem dX7_join_97 : decode cX7_join 97 = .ok (.invokevirtual 115, 3) := by decide +kernel
theorem dX7_join_100 : decode cX7_join 100 = .ok (.aload_n 0, 1) := by decide +kernel
theorem dX7_join_101 : decode cX7_join 101 = .ok (.getfield 7, 3) := by decide +kernel
theorem dX7_join_104 : decode cX7_join 104 = .ok (.iconst 0, 1) := by decide +kernel
theorem dX7_join_105 : decode cX7_join 105 = .ok (.iaload, 1) := by decide +kernel
theorem dX7_join_106 : decode cX7_join 106 = .ok (.ireturn, 1) := by decide +kernel
theorem dX7_undo_0 : decode cX7_undo 0 = .ok (.aload_n 0, 1) := by decide +kernel
theorem dX7_undo_1 : decode cX7_undo 1 = .ok (.getfield 92, 3) := by decide +kernel
theorem dX7_undo_4 : decode cX7_undo 4 = .ok (.ifCond .ne 6, 3) := by decide +kernel
theorem dX7_undo_7 : decode cX7_undo 7 = .ok (.bipush (-2), 2) := by decide +kernel
theorem dX7_undo_9 : decode cX7_undo 9 = .ok (.ireturn, 1) := by decide +kernel
theorem dX7_undo_10 : decode cX7_undo 10 = .ok (.aload_n 0, 1) := by decide +kernel
theorem dX7_undo_11 : decode cX7_undo 11 = .ok (.aload_n 0, 1) := by decide +kernel
theorem dX7_undo_12 : decode cX7_undo 12 = .ok (.getfield 88, 3) := by decide +kernel
theorem dX7_undo_15 : decode cX7_undo 15 = .ok (.bipush 10, 2) := by decide +kernel
theorem dX7_undo_17 : decode cX7_undo 17 = .ok (.iadd, 1) := by decide +kernel
theorem dX7_undo_18 : decode cX7_undo 18 = .ok (.iconst 1, 1) := by decide +kernel
theorem dX7_undo_19 : decode cX7_undo 19 = .ok (.isub, 1) := by decide +kernel
theorem dX7_undo_20 : decode cX7_undo 20 = .ok (.bipush 10, 2) := by decide +kernel
theorem dX7_undo_22 : decode cX7_undo 22 = .ok (.irem, 1) := by decide +kernel
theorem dX7_undo_23 : decode cX7_undo 23 = .ok (.putfield 88, 3) := by decide +kernel
theorem dX7_undo_26 : decode cX7_undo 26 = .ok (.aload_n 0, 1) := by decide +kernel
theorem dX7_undo_27 : decode cX7_undo 27 = .ok (.dup, 1) := by decide +kernel
theorem dX7_undo_28 : decode cX7_undo 28 = .ok (.getfield 92, 3) := by decide +kernel
theorem dX7_undo_31 : decode cX7_undo 31 = .ok (.iconst 1, 1) := by decide +kernel
theorem dX7_undo_32 : decode cX7_undo 32 = .ok (.isub, 1) := by decide +kernel
theorem dX7_undo_33 : decode cX7_undo 33 = .ok (.putfield 92, 3) := by decide +kernel
theorem dX7_undo_36 : decode cX7_undo 36 = .ok (.iconst 0, 1) := by decide +kernel
theorem dX7_undo_37 : decode cX7_undo 37 = .ok (.istore_n 1, 1) := by decide +kernel
theorem dX7_undo_38 : decode cX7_undo 38 = .ok (.iload_n 1, 1) := by decide +kernel
theorem dX7_undo_39 : decode cX7_undo 39 = .ok (.sipush 327, 3) := by decide +kernel
theorem dX7_undo_42 : decode cX7_undo 42 = .ok (.if_icmp .ge 30, 3) := by decide +kernel
theorem dX7_undo_45 : decode cX7_undo 45 = .ok (.aload_n 0, 1) := by decide +kernel
theorem dX7_undo_46 : decode cX7_undo 46 = .ok (.getfield 7, 3) := by decide +kernel
theorem dX7_undo_49 : decode cX7_undo 49 = .ok (.iload_n 1, 1) := by decide +kernel
theorem dX7_undo_50 : decode cX7_undo 50 = .ok (.aload_n 0, 1) := by decide +kernel
theorem dX7_undo_51 : decode cX7_undo 51 = .ok (.getfield 19, 3) := by decide +kernel
theorem dX7_undo_54 : decode cX7_undo 54 = .ok (.sipush 327, 3) := by decide +kernel
theorem dX7_undo_57 : decode cX7_undo 57 = .ok (.aload_n 0, 1) := by decide +kernel
theorem dX7_undo_58 : decode cX7_undo 58 = .ok (.getfield 88, 3) := by decide +kernel
theorem dX7_undo_61 : decode cX7_undo 61 = .ok (.imul, 1) := by decide +kernel
theorem dX7_undo_62 : decode cX7_undo 62 = .ok (.iload_n 1, 1) := by decide +kernel
theorem dX7_undo_63 : decode cX7_undo 63 = .ok (.iadd, 1) := by decide +kernel
theorem dX7_undo_64 : decode cX7_undo 64 = .ok (.iaload, 1) := by decide +kernel
theorem dX7_undo_65 : decode cX7_undo 65 = .ok (.iastore, 1) := by decide +kernel
theorem dX7_undo_66 : decode cX7_undo 66 = .ok (.iinc 1 1, 3) := by decide +kernel
theorem dX7_undo_69 : decode cX7_undo 69 = .ok (.goto (-31), 3) := by decide +kernel
theorem dX7_undo_72 : decode cX7_undo 72 = .ok (.aload_n 0, 1) := by decide +kernel
theorem dX7_undo_73 : decode cX7_undo 73 = .ok (.iconst 0, 1) := by decide +kernel
theorem dX7_undo_74 : decode cX7_undo 74 = .ok (.putfield 95, 3) := by decide +kernel
theorem dX7_undo_77 : decode cX7_undo 77 = .ok (.aload_n 0, 1) := by decide +kernel
theorem dX7_undo_78 : decode cX7_undo 78 = .ok (.getfield 92, 3) := by decide +kernel
theorem dX7_undo_81 : decode cX7_undo 81 = .ok (.ireturn, 1) := by decide +kernel
theorem dX7_type_0 : decode cX7_type 0 = .ok (.iload_n 1, 1) := by decide +kernel
theorem dX7_type_1 : decode cX7_type 1 = .ok (.iconst 0, 1) := by decide +kernel
theorem dX7_type_2 : decode cX7_type 2 = .ok (.sipush 255, 3) := by decide +kernel
theorem dX7_type_5 : decode cX7_type 5 = .ok (.invokestatic 80, 3) := by decide +kernel
theorem dX7_type_8 : decode cX7_type 8 = .ok (.ifCond .ne 5, 3) := by decide +kernel
theorem dX7_type_11 : decode cX7_type 11 = .ok (.iconst (-1), 1) := by decide +kernel
theorem dX7_type_12 : decode cX7_type 12 = .ok (.ireturn, 1) := by decide +kernel
theorem dX7_type_13 : decode cX7_type 13 = .ok (.aload_n 0, 1) := by decide +kernel
theorem dX7_type_14 : decode cX7_type 14 = .ok (.getfield 129, 3) := by decide +kernel
theorem dX7_type_17 : decode cX7_type 17 = .ok (.sipush 150, 3) := by decide +kernel
theorem dX7_type_20 : decode cX7_type 20 = .ok (.if_icmp .ne 6, 3) := by decide +kernel
theorem dX7_type_23 : decode cX7_type 23 = .ok (.bipush (-3), 2) := by decide +kernel
theorem dX7_type_25 : decode cX7_type 25 = .ok (.ireturn, 1) := by decide +kernel
theorem dX7_type_26 : decode cX7_type 26 = .ok (.aload_n 0, 1) := by decide +kernel
theorem dX7_type_27 : decode cX7_type 27 = .ok (.getfield 22, 3) := by decide +kernel
theorem dX7_type_30 : decode cX7_type 30 = .ok (.aload_n 0, 1) := by decide +kernel
theorem dX7_type_31 : decode cX7_type 31 = .ok (.getfield 129, 3) := by decide +kernel
theorem dX7_type_34 : decode cX7_type 34 = .ok (.iload_n 1, 1) := by decide +kernel
theorem dX7_type_35 : decode cX7_type 35 = .ok (.iastore, 1) := by decide +kernel
theorem dX7_type_36 : decode cX7_type 36 = .ok (.aload_n 0, 1) := by decide +kernel
theorem dX7_type_37 : decode cX7_type 37 = .ok (.dup, 1) := by decide +kernel
theorem dX7_type_38 : decode cX7_type 38 = .ok (.getfield 129, 3) := by decide +kernel
theorem dX7_type_41 : decode cX7_type 41 = .ok (.iconst 1, 1) := by decide +kernel
theorem dX7_type_42 : decode cX7_type 42 = .ok (.iadd, 1) := by decide +kernel
theorem dX7_type_43 : decode cX7_type 43 = .ok (.putfield 129, 3) := by decide +kernel
theorem dX7_type_46 : decode cX7_type 46 = .ok (.aload_n 0, 1) := by decide +kernel
theorem dX7_type_47 : decode cX7_type 47 = .ok (.getfield 129, 3) := by decide +kernel
theorem dX7_type_50 : decode cX7_type 50 = .ok (.ireturn, 1) := by decide +kernel
theorem dX7_clear_0 : decode cX7_clear 0 = .ok (.aload_n 0, 1) := by decide +kernel
theorem dX7_clear_1 : decode cX7_clear 1 = .ok (.getfield 129, 3) := by decide +kernel
theorem dX7_clear_4 : decode cX7_clear 4 = .ok (.istore_n 1, 1) := by decide +kernel
theorem dX7_clear_5 : decode cX7_clear 5 = .ok (.aload_n 0, 1) := by decide +kernel
theorem dX7_clear_6 : decode cX7_clear 6 = .ok (.iconst 0, 1) := by decide +kernel
theorem dX7_clear_7 : decode cX7_clear 7 = .ok (.putfield 129, 3) := by decide +kernel
theorem dX7_clear_10 : decode cX7_clear 10 = .ok (.iload_n 1, 1) := by decide +kernel
theorem dX7_clear_11 : decode cX7_clear 11 = .ok (.ireturn, 1) := by decide +kernel
theorem dX7_blanks_0 : decode cX7_blanks 0 = .ok (.aload_n 0, 1) := by decide +kernel
theorem dX7_blanks_1 : decode cX7_blanks 1 = .ok (.getfield 132, 3) := by decide +kernel
theorem dX7_blanks_4 : decode cX7_blanks 4 = .ok (.aload_n 0, 1) := by decide +kernel
theorem dX7_blanks_5 : decode cX7_blanks 5 = .ok (.getfield 129, 3) := by decide +kernel
theorem dX7_blanks_8 : decode cX7_blanks 8 = .ok (.if_icmp .ge 30, 3) := by decide +kernel
theorem dX7_blanks_11 : decode cX7_blanks 11 = .ok (.aload_n 0, 1) := by decide +kernel
theorem dX7_blanks_12 : decode cX7_blanks 12 = .ok (.getfield 22, 3) := by decide +kernel
theorem dX7_blanks_15 : decode cX7_blanks 15 = .ok (.aload_n 0, 1) := by decide +kernel
theorem dX7_blanks_16 : decode cX7_blanks 16 = .ok (.getfield 132, 3) := by decide +kernel
theorem dX7_blanks_19 : decode cX7_blanks 19 = .ok (.iaload, 1) := by decide +kernel
theorem dX7_blanks_20 : decode cX7_blanks 20 = .ok (.bipush 32, 2) := by decide +kernel
theorem dX7_blanks_22 : decode cX7_blanks 22 = .ok (.if_icmp .ne 16, 3) := by decide +kernel
theorem dX7_blanks_25 : decode cX7_blanks 25 = .ok (.aload_n 0, 1) := by decide +kernel
theorem dX7_blanks_26 : decode cX7_blanks 26 = .ok (.dup, 1) := by decide +kernel
theorem dX7_blanks_27 : decode cX7_blanks 27 = .ok (.getfield 132, 3) := by decide +kernel
theorem dX7_blanks_30 : decode cX7_blanks 30 = .ok (.iconst 1, 1) := by decide +kernel
theorem dX7_blanks_31 : decode cX7_blanks 31 = .ok (.iadd, 1) := by decide +kernel
theorem dX7_blanks_32 : decode cX7_blanks 32 = .ok (.putfield 132, 3) := by decide +kernel
theorem dX7_blanks_35 : decode cX7_blanks 35 = .ok (.goto (-35), 3) := by decide +kernel
theorem dX7_blanks_38 : decode cX7_blanks 38 = .ok (.return_, 1) := by decide +kernel
theorem dX7_fails_0 : decode cX7_fails 0 = .ok (.aload_n 0, 1) := by decide +kernel
theorem dX7_fails_1 : decode cX7_fails 1 = .ok (.iload_n 1, 1) := by decide +kernel
theorem dX7_fails_2 : decode cX7_fails 2 = .ok (.putfield 135, 3) := by decide +kernel
theorem dX7_fails_5 : decode cX7_fails 5 = .ok (.iconst 0, 1) := by decide +kernel
theorem dX7_fails_6 : decode cX7_fails 6 = .ok (.ireturn, 1) := by decide +kernel
theorem dX7_word_0 : decode cX7_word 0 = .ok (.aload_n 0, 1) := by decide +kernel
theorem dX7_word_1 : decode cX7_word 1 = .ok (.invokevirtual 138, 3) := by decide +kernel
theorem dX7_word_4 : decode cX7_word 4 = .ok (.aload_n 0, 1) := by decide +kernel
theorem dX7_word_5 : decode cX7_word 5 = .ok (.aload_n 0, 1) := by decide +kernel
theorem dX7_word_6 : decode cX7_word 6 = .ok (.getfield 132, 3) := by decide +kernel
theorem dX7_word_9 : decode cX7_word 9 = .ok (.putfield 141, 3) := by decide +kernel
theorem dX7_word_12 : decode cX7_word 12 = .ok (.aload_n 0, 1) := by decide +kernel
theorem dX7_word_13 : decode cX7_word 13 = .ok (.getfield 132, 3) := by decide +kernel
theorem dX7_word_16 : decode cX7_word 16 = .ok (.aload_n 0, 1) := by decide +kernel
theorem dX7_word_17 : decode cX7_word 17 = .ok (.getfield 129, 3) := by decide +kernel
theorem dX7_word_20 : decode cX7_word 20 = .ok (.if_icmp .ge 31, 3) := by decide +kernel
theorem dX7_word_23 : decode cX7_word 23 = .ok (.aload_n 0, 1) := by decide +kernel
theorem dX7_word_24 : decode cX7_word 24 = .ok (.getfield 22, 3) := by decide +kernel
theorem dX7_word_27 : decode cX7_word 27 = .ok (.aload_n 0, 1) := by decide +kernel
theorem dX7_word_28 : decode cX7_word 28 = .ok (.getfield 132, 3) := by decide +kernel
theorem dX7_word_31 : decode cX7_word 31 = .ok (.iaload, 1) := by decide +kernel
theorem dX7_word_32 : decode cX7_word 32 = .ok (.invokestatic 109, 3) := by decide +kernel
theorem dX7_word_35 : decode cX7_word 35 = .ok (.ifCond .eq 16, 3) := by decide +kernel
theorem dX7_word_38 : decode cX7_word 38 = .ok (.aload_n 0, 1) := by decide +kernel
theorem dX7_word_39 : decode cX7_word 39 = .ok (.dup, 1) := by decide +kernel
theorem dX7_word_40 : decode cX7_word 40 = .ok (.getfield 132, 3) := by decide +kernel
theorem dX7_word_43 : decode cX7_word 43 = .ok (.iconst 1, 1) := by decide +kernel
theorem dX7_word_44 : decode cX7_word 44 = .ok (.iadd, 1) := by decide +kernel
theorem dX7_word_45 : decode cX7_word 45 = .ok (.putfield 132, 3) := by decide +kernel
theorem dX7_word_48 : decode cX7_word 48 = .ok (.goto (-36), 3) := by decide +kernel
theorem dX7_word_51 : decode cX7_word 51 = .ok (.aload_n 0, 1) := by decide +kernel
theorem dX7_word_52 : decode cX7_word 52 = .ok (.aload_n 0, 1) := by decide +kernel
theorem dX7_word_53 : decode cX7_word 53 = .ok (.getfield 132, 3) := by decide +kernel
theorem dX7_word_56 : decode cX7_word 56 = .ok (.aload_n 0, 1) := by decide +kernel
theorem dX7_word_57 : decode cX7_word 57 = .ok (.getfield 141, 3) := by decide +kernel
theorem dX7_word_60 : decode cX7_word 60 = .ok (.isub, 1) := by decide +kernel
theorem dX7_word_61 : decode cX7_word 61 = .ok (.putfield 144, 3) := by decide +kernel
theorem dX7_word_64 : decode cX7_word 64 = .ok (.aload_n 0, 1) := by decide +kernel
theorem dX7_word_65 : decode cX7_word 65 = .ok (.getfield 144, 3) := by decide +kernel
theorem dX7_word_68 : decode cX7_word 68 = .ok (.ifCond .gt 14, 3) := by decide +kernel
theorem dX7_word_71 : decode cX7_word 71 = .ok (.aload_n 0, 1) := by decide +kernel
theorem dX7_word_72 : decode cX7_word 72 = .ok (.aload_n 0, 1) := by decide +kernel
theorem dX7_word_73 : decode cX7_word 73 = .ok (.getfield 141, 3) := by decide +kernel
theorem dX7_word_76 : decode cX7_word 76 = .ok (.invokevirtual 147, 3) := by decide +kernel
theorem dX7_word_79 : decode cX7_word 79 = .ok (.ifCond .eq 7, 3) := by decide +kernel
theorem dX7_word_82 : decode cX7_word 82 = .ok (.iconst 1, 1) := by decide +kernel
theorem dX7_word_83 : decode cX7_word 83 = .ok (.goto 4, 3) := by decide +kernel
theorem dX7_word_86 : decode cX7_word 86 = .ok (.iconst 0, 1) := by decide +kernel
theorem dX7_word_87 : decode cX7_word 87 = .ok (.ireturn, 1) := by decide +kernel
theorem dX7_letters_0 : decode cX7_letters 0 = .ok (.iconst 0, 1) := by decide +kernel
theorem dX7_letters_1 : decode cX7_letters 1 = .ok (.istore_n 1, 1) := by decide +kernel
theorem dX7_letters_2 : decode cX7_letters 2 = .ok (.aload_n 0, 1) := by decide +kernel
theorem dX7_letters_3 : decode cX7_letters 3 = .ok (.getfield 144, 3) := by decide +kernel
theorem dX7_letters_6 : decode cX7_letters 6 = .ok (.bipush 6, 2) := by decide +kernel
theorem dX7_letters_8 : decode cX7_letters 8 = .ok (.if_icmp .gt 7, 3) := by decide +kernel
theorem dX7_letters_11 : decode cX7_letters 11 = .ok (.iconst 1, 1) := by decide +kernel
theorem dX7_letters_12 : decode cX7_letters 12 = .ok (.goto 4, 3) := by decide +kernel
theorem dX7_letters_15 : decode cX7_letters 15 = .ok (.iconst 0, 1) := by decide +kernel
theorem dX7_letters_16 : decode cX7_letters 16 = .ok (.istore_n 2, 1) := by decide +kernel
theorem dX7_letters_17 : decode cX7_letters 17 = .ok (.aload_n 0, 1) := by decide +kernel
theorem dX7_letters_18 : decode cX7_letters 18 = .ok (.getfield 141, 3) := by decide +kernel
theorem dX7_letters_21 : decode cX7_letters 21 = .ok (.istore_n 3, 1) := by decide +kernel
theorem dX7_letters_22 : decode cX7_letters 22 = .ok (.iload_n 3, 1) := by decide +kernel
theorem dX7_letters_23 : decode cX7_letters 23 = .ok (.aload_n 0, 1) := by decide +kernel
theorem dX7_letters_24 : decode cX7_letters 24 = .ok (.getfield 141, 3) := by decide +kernel
theorem dX7_letters_27 : decode cX7_letters 27 = .ok (.aload_n 0, 1) := by decide +kernel
theorem dX7_letters_28 : decode cX7_letters 28 = .ok (.getfield 144, 3) := by decide +kernel
theorem dX7_letters_31 : decode cX7_letters 31 = .ok (.iadd, 1) := by decide +kernel
theorem dX7_letters_32 : decode cX7_letters 32 = .ok (.if_icmp .ge 42, 3) := by decide +kernel
theorem dX7_letters_35 : decode cX7_letters 35 = .ok (.iload_n 2, 1) := by decide +kernel
theorem dX7_letters_36 : decode cX7_letters 36 = .ok (.ifCond .eq 38, 3) := by decide +kernel
theorem dX7_letters_39 : decode cX7_letters 39 = .ok (.aload_n 0, 1) := by decide +kernel
theorem dX7_letters_40 : decode cX7_letters 40 = .ok (.getfield 22, 3) := by decide +kernel
theorem dX7_letters_43 : decode cX7_letters 43 = .ok (.iload_n 3, 1) := by decide +kernel
theorem dX7_letters_44 : decode cX7_letters 44 = .ok (.iaload, 1) := by decide +kernel
theorem dX7_letters_45 : decode cX7_letters 45 = .ok (.bipush 97, 2) := by decide +kernel
theorem dX7_letters_47 : decode cX7_letters 47 = .ok (.bipush 122, 2) := by decide +kernel
theorem dX7_letters_49 : decode cX7_letters 49 = .ok (.invokestatic 80, 3) := by decide +kernel
theorem dX7_letters_52 : decode cX7_letters 52 = .ok (.istore_n 2, 1) := by decide +kernel
theorem dX7_letters_53 : decode cX7_letters 53 = .ok (.bipush 27, 2) := by decide +kernel
theorem dX7_letters_55 : decode cX7_letters 55 = .ok (.iload_n 1, 1) := by decide +kernel
theorem dX7_letters_56 : decode cX7_letters 56 = .ok (.imul, 1) := by decide +kernel
theorem dX7_letters_57 : decode cX7_letters 57 = .ok (.aload_n 0, 1) := by decide +kernel
theorem dX7_letters_58 : decode cX7_letters 58 = .ok (.getfield 22, 3) := by decide +kernel
theorem dX7_letters_61 : decode cX7_letters 61 = .ok (.iload_n 3, 1) := by decide +kernel
theorem dX7_letters_62 : decode cX7_letters 62 = .ok (.iaload, 1) := by decide +kernel
theorem dX7_letters_63 : decode cX7_letters 63 = .ok (.iadd, 1) := by decide +kernel
theorem dX7_letters_64 : decode cX7_letters 64 = .ok (.bipush 96, 2) := by decide +kernel
theorem dX7_letters_66 : decode cX7_letters 66 = .ok (.isub, 1) := by decide +kernel
theorem dX7_letters_67 : decode cX7_letters 67 = .ok (.istore_n 1, 1) := by decide +kernel
theorem dX7_letters_68 : decode cX7_letters 68 = .ok (.iinc 3 1, 3) := by decide +kernel
theorem dX7_letters_71 : decode cX7_letters 71 = .ok (.goto (-49), 3) := by decide +kernel
theorem dX7_letters_74 : decode cX7_letters 74 = .ok (.iload_n 2, 1) := by decide +kernel
theorem dX7_letters_75 : decode cX7_letters 75 = .ok (.ifCond .eq 7, 3) := by decide +kernel
theorem dX7_letters_78 : decode cX7_letters 78 = .ok (.iload_n 1, 1) := by decide +kernel
theorem dX7_letters_79 : decode cX7_letters 79 = .ok (.goto 4, 3) := by decide +kernel
theorem dX7_letters_82 : decode cX7_letters 82 = .ok (.iconst 0, 1) := by decide +kernel
theorem dX7_letters_83 : decode cX7_letters 83 = .ok (.ireturn, 1) := by decide +kernel
theorem dX7_command_0 : decode cX7_command 0 = .ok (.aload_n 0, 1) := by decide +kernel
theorem dX7_command_1 : decode cX7_command 1 = .ok (.invokevirtual 150, 3) := by decide +kernel
theorem dX7_command_4 : decode cX7_command 4 = .ok (.lookupswitch 105 #[(841, 84), (2774, 94), (11695, 99), (12251, 92), (92275, 86), (208022, 90), (774401, 96), (6476969, 102), (10421318, 88)], 84) := by decide +kernel
theorem dX7_command_88 : decode cX7_command 88 = .ok (.iconst 0, 1) := by decide +kernel
theorem dX7_command_89 : decode cX7_command 89 = .ok (.ireturn, 1) := by decide +kernel
theorem dX7_command_90 : decode cX7_command 90 = .ok (.iconst 1, 1) := by decide +kernel
theorem dX7_command_91 : decode cX7_command 91 = .ok (.ireturn, 1) := by decide +kernel
theorem dX7_command_92 : decode cX7_command 92 = .ok (.iconst 2, 1) := by decide +kernel
theorem dX7_command_93 : decode cX7_command 93 = .ok (.ireturn, 1) := by decide +kernel
theorem dX7_command_94 : decode cX7_command 94 = .ok (.iconst 3, 1) := by decide +kernel
theorem dX7_command_95 : decode cX7_command 95 = .ok (.ireturn, 1) := by decide +kernel
theorem dX7_command_96 : decode cX7_command 96 = .ok (.iconst 4, 1) := by decide +kernel
theorem dX7_command_97 : decode cX7_command 97 = .ok (.ireturn, 1) := by decide +kernel
theorem dX7_command_98 : decode cX7_command 98 = .ok (.iconst 5, 1) := by decide +kernel
theorem dX7_command_99 : decode cX7_command 99 = .ok (.ireturn, 1) := by decide +kernel
theorem dX7_command_100 : decode cX7_command 100 = .ok (.bipush 6, 2) := by decide +kernel
theorem dX7_command_102 : decode cX7_command 102 = .ok (.ireturn, 1) := by decide +kernel
theorem dX7_command_103 : decode cX7_command 103 = .ok (.bipush 7, 2) := by decide +kernel
theorem dX7_command_105 : decode cX7_command 105 = .ok (.ireturn, 1) := by decide +kernel
theorem dX7_command_106 : decode cX7_command 106 = .ok (.bipush 8, 2) := by decide +kernel
theorem dX7_command_108 : decode cX7_command 108 = .ok (.ireturn, 1) := by decide +kernel
theorem dX7_command_109 : decode cX7_command 109 = .ok (.bipush (-9), 2) := by decide +kernel
theorem dX7_command_111 : decode cX7_command 111 = .ok (.ireturn, 1) := by decide +kernel
theorem dX7_way_0 : decode cX7_way 0 = .ok (.aload_n 0, 1) := by decide +kernel
theorem dX7_way_1 : decode cX7_way 1 = .ok (.invokevirtual 150, 3) := by decide +kernel
theorem dX7_way_4 : decode cX7_way 4 = .ok (.lookupswitch 52 #[(240023, 44), (8805260, 50), (9748424, 46), (191400737, 48)], 44) := by decide +kernel
theorem dX7_way_48 : decode cX7_way 48 = .ok (.iconst 0, 1) := by decide +kernel
theorem dX7_way_49 : decode cX7_way 49 = .ok (.ireturn, 1) := by decide +kernel
theorem dX7_way_50 : decode cX7_way 50 = .ok (.iconst 1, 1) := by decide +kernel
theorem dX7_way_51 : decode cX7_way 51 = .ok (.ireturn, 1) := by decide +kernel
theorem dX7_way_52 : decode cX7_way 52 = .ok (.iconst 2, 1) := by decide +kernel
theorem dX7_way_53 : decode cX7_way 53 = .ok (.ireturn, 1) := by decide +kernel
theorem dX7_way_54 : decode cX7_way 54 = .ok (.iconst 3, 1) := by decide +kernel
theorem dX7_way_55 : decode cX7_way 55 = .ok (.ireturn, 1) := by decide +kernel
theorem dX7_way_56 : decode cX7_way 56 = .ok (.bipush (-9), 2) := by decide +kernel
theorem dX7_way_58 : decode cX7_way 58 = .ok (.ireturn, 1) := by decide +kernel
theorem dX7_number_0 : decode cX7_number 0 = .ok (.aload_n 0, 1) := by decide +kernel
theorem dX7_number_1 : decode cX7_number 1 = .ok (.invokevirtual 154, 3) := by decide +kernel
theorem dX7_number_4 : decode cX7_number 4 = .ok (.ifCond .ne 5, 3) := by decide +kernel
theorem dX7_number_7 : decode cX7_number 7 = .ok (.iconst 0, 1) := by decide +kernel
theorem dX7_number_8 : decode cX7_number 8 = .ok (.ireturn, 1) := by decide +kernel
theorem dX7_number_9 : decode cX7_number 9 = .ok (.aload_n 0, 1) := by decide +kernel
theorem dX7_number_10 : decode cX7_number 10 = .ok (.iconst 0, 1) := by decide +kernel
theorem dX7_number_11 : decode cX7_number 11 = .ok (.putfield 158, 3) := by decide +kernel
theorem dX7_number_14 : decode cX7_number 14 = .ok (.aload_n 0, 1) := by decide +kernel
theorem dX7_number_15 : decode cX7_number 15 = .ok (.getfield 144, 3) := by decide +kernel
theorem dX7_number_18 : decode cX7_number 18 = .ok (.iconst 3, 1) := by decide +kernel
theorem dX7_number_19 : decode cX7_number 19 = .ok (.if_icmp .gt 29, 3) := by decide +kernel
theorem dX7_number_22 : decode cX7_number 22 = .ok (.aload_n 0, 1) := by decide +kernel
theorem dX7_number_23 : decode cX7_number 23 = .ok (.getfield 144, 3) := by decide +kernel
theorem dX7_number_26 : decode cX7_number 26 = .ok (.iconst 1, 1) := by decide +kernel
theorem dX7_number_27 : decode cX7_number 27 = .ok (.if_icmp .eq 17, 3) := by decide +kernel
theorem dX7_number_30 : decode cX7_number 30 = .ok (.aload_n 0, 1) := by decide +kernel
theorem dX7_number_31 : decode cX7_number 31 = .ok (.getfield 22, 3) := by decide +kernel
theorem dX7_number_34 : decode cX7_number 34 = .ok (.aload_n 0, 1) := by decide +kernel
theorem dX7_number_35 : decode cX7_number 35 = .ok (.getfield 141, 3) := by decide +kernel
theorem dX7_number_38 : decode cX7_number 38 = .ok (.iaload, 1) := by decide +kernel
theorem dX7_number_39 : decode cX7_number 39 = .ok (.bipush 48, 2) := by decide +kernel
theorem dX7_number_41 : decode cX7_number 41 = .ok (.if_icmp .eq 7, 3) := by decide +kernel
theorem dX7_number_44 : decode cX7_number 44 = .ok (.iconst 1, 1) := by decide +kernel
theorem dX7_number_45 : decode cX7_number 45 = .ok (.goto 4, 3) := by decide +kernel
theorem dX7_number_48 : decode cX7_number 48 = .ok (.iconst 0, 1) := by decide +kernel
theorem dX7_number_49 : decode cX7_number 49 = .ok (.istore_n 1, 1) := by decide +kernel
theorem dX7_number_50 : decode cX7_number 50 = .ok (.aload_n 0, 1) := by decide +kernel
theorem dX7_number_51 : decode cX7_number 51 = .ok (.getfield 141, 3) := by decide +kernel
theorem dX7_number_54 : decode cX7_number 54 = .ok (.istore_n 2, 1) := by decide +kernel
theorem dX7_number_55 : decode cX7_number 55 = .ok (.iload_n 2, 1) := by decide +kernel
theorem dX7_number_56 : decode cX7_number 56 = .ok (.aload_n 0, 1) := by decide +kernel
theorem dX7_number_57 : decode cX7_number 57 = .ok (.getfield 132, 3) := by decide +kernel
theorem dX7_number_60 : decode cX7_number 60 = .ok (.if_icmp .ge 48, 3) := by decide +kernel
theorem dX7_number_63 : decode cX7_number 63 = .ok (.iload_n 1, 1) := by decide +kernel
theorem dX7_number_64 : decode cX7_number 64 = .ok (.ifCond .eq 44, 3) := by decide +kernel
theorem dX7_number_67 : decode cX7_number 67 = .ok (.aload_n 0, 1) := by decide +kernel
theorem dX7_number_68 : decode cX7_number 68 = .ok (.getfield 22, 3) := by decide +kernel
theorem dX7_number_71 : decode cX7_number 71 = .ok (.iload_n 2, 1) := by decide +kernel
theorem dX7_number_72 : decode cX7_number 72 = .ok (.iaload, 1) := by decide +kernel
theorem dX7_number_73 : decode cX7_number 73 = .ok (.bipush 48, 2) := by decide +kernel
theorem dX7_number_75 : decode cX7_number 75 = .ok (.bipush 57, 2) := by decide +kernel
theorem dX7_number_77 : decode cX7_number 77 = .ok (.invokestatic 80, 3) := by decide +kernel
theorem dX7_number_80 : decode cX7_number 80 = .ok (.istore_n 1, 1) := by decide +kernel
theorem dX7_number_81 : decode cX7_number 81 = .ok (.aload_n 0, 1) := by decide +kernel
theorem dX7_number_82 : decode cX7_number 82 = .ok (.bipush 10, 2) := by decide +kernel
theorem dX7_number_84 : decode cX7_number 84 = .ok (.aload_n 0, 1) := by decide +kernel
theorem dX7_number_85 : decode cX7_number 85 = .ok (.getfield 158, 3) := by decide +kernel
theorem dX7_number_88 : decode cX7_number 88 = .ok (.imul, 1) := by decide +kernel
theorem dX7_number_89 : decode cX7_number 89 = .ok (.aload_n 0, 1) := by decide +kernel
theorem dX7_number_90 : decode cX7_number 90 = .ok (.getfield 22, 3) := by decide +kernel
theorem dX7_number_93 : decode cX7_number 93 = .ok (.iload_n 2, 1) := by decide +kernel
theorem dX7_number_94 : decode cX7_number 94 = .ok (.iaload, 1) := by decide +kernel
theorem dX7_number_95 : decode cX7_number 95 = .ok (.iadd, 1) := by decide +kernel
theorem dX7_number_96 : decode cX7_number 96 = .ok (.bipush 48, 2) := by decide +kernel
theorem dX7_number_98 : decode cX7_number 98 = .ok (.isub, 1) := by decide +kernel
theorem dX7_number_99 : decode cX7_number 99 = .ok (.putfield 158, 3) := by decide +kernel
theorem dX7_number_102 : decode cX7_number 102 = .ok (.iinc 2 1, 3) := by decide +kernel
theorem dX7_number_105 : decode cX7_number 105 = .ok (.goto (-50), 3) := by decide +kernel
theorem dX7_number_108 : decode cX7_number 108 = .ok (.iload_n 1, 1) := by decide +kernel
theorem dX7_number_109 : decode cX7_number 109 = .ok (.ifCond .ne 14, 3) := by decide +kernel
theorem dX7_number_112 : decode cX7_number 112 = .ok (.aload_n 0, 1) := by decide +kernel
theorem dX7_number_113 : decode cX7_number 113 = .ok (.aload_n 0, 1) := by decide +kernel
theorem dX7_number_114 : decode cX7_number 114 = .ok (.getfield 141, 3) := by decide +kernel
theorem dX7_number_117 : decode cX7_number 117 = .ok (.invokevirtual 147, 3) := by decide +kernel
theorem dX7_number_120 : decode cX7_number 120 = .ok (.ifCond .eq 7, 3) := by decide +kernel
theorem dX7_number_123 : decode cX7_number 123 = .ok (.iconst 1, 1) := by decide +kernel
theorem dX7_number_124 : decode cX7_number 124 = .ok (.goto 4, 3) := by decide +kernel
theorem dX7_number_127 : decode cX7_number 127 = .ok (.iconst 0, 1) := by decide +kernel
theorem dX7_number_128 : decode cX7_number 128 = .ok (.ireturn, 1) := by decide +kernel
theorem dX7_sign_0 : decode cX7_sign 0 = .ok (.aload_n 0, 1) := by decide +kernel
theorem dX7_sign_1 : decode cX7_sign 1 = .ok (.invokevirtual 154, 3) := by decide +kernel
theorem dX7_sign_4 : decode cX7_sign 4 = .ok (.ifCond .eq 26, 3) := by decide +kernel
theorem dX7_sign_7 : decode cX7_sign 7 = .ok (.aload_n 0, 1) := by decide +kernel
theorem dX7_sign_8 : decode cX7_sign 8 = .ok (.getfield 144, 3) := by decide +kernel
theorem dX7_sign_11 : decode cX7_sign 11 = .ok (.iconst 1, 1) := by decide +kernel
theorem dX7_sign_12 : decode cX7_sign 12 = .ok (.if_icmp .eq 14, 3) := by decide +kernel
theorem dX7_sign_15 : decode cX7_sign 15 = .ok (.aload_n 0, 1) := by decide +kernel
theorem dX7_sign_16 : decode cX7_sign 16 = .ok (.aload_n 0, 1) := by decide +kernel
theorem dX7_sign_17 : decode cX7_sign 17 = .ok (.getfield 141, 3) := by decide +kernel
theorem dX7_sign_20 : decode cX7_sign 20 = .ok (.invokevirtual 147, 3) := by decide +kernel
theorem dX7_sign_23 : decode cX7_sign 23 = .ok (.ifCond .eq 7, 3) := by decide +kernel
theorem dX7_sign_26 : decode cX7_sign 26 = .ok (.iconst 1, 1) := by decide +kernel
theorem dX7_sign_27 : decode cX7_sign 27 = .ok (.goto 4, 3) := by decide +kernel
theorem dX7_sign_30 : decode cX7_sign 30 = .ok (.iconst 0, 1) := by decide +kernel
theorem dX7_sign_31 : decode cX7_sign 31 = .ok (.ireturn, 1) := by decide +kernel
theorem dX7_signs_0 : decode cX7_signs 0 = .ok (.aload_n 0, 1) := by decide +kernel
theorem dX7_signs_1 : decode cX7_signs 1 = .ok (.invokevirtual 154, 3) := by decide +kernel
theorem dX7_signs_4 : decode cX7_signs 4 = .ok (.ifCond .eq 27, 3) := by decide +kernel
theorem dX7_signs_7 : decode cX7_signs 7 = .ok (.aload_n 0, 1) := by decide +kernel
theorem dX7_signs_8 : decode cX7_signs 8 = .ok (.getfield 144, 3) := by decide +kernel
theorem dX7_signs_11 : decode cX7_signs 11 = .ok (.bipush 24, 2) := by decide +kernel
theorem dX7_signs_13 : decode cX7_signs 13 = .ok (.if_icmp .le 14, 3) := by decide +kernel
theorem dX7_signs_16 : decode cX7_signs 16 = .ok (.aload_n 0, 1) := by decide +kernel
theorem dX7_signs_17 : decode cX7_signs 17 = .ok (.aload_n 0, 1) := by decide +kernel
theorem dX7_signs_18 : decode cX7_signs 18 = .ok (.getfield 141, 3) := by decide +kernel
theorem dX7_signs_21 : decode cX7_signs 21 = .ok (.invokevirtual 147, 3) := by decide +kernel
theorem dX7_signs_24 : decode cX7_signs 24 = .ok (.ifCond .eq 7, 3) := by decide +kernel
theorem dX7_signs_27 : decode cX7_signs 27 = .ok (.iconst 1, 1) := by decide +kernel
theorem dX7_signs_28 : decode cX7_signs 28 = .ok (.goto 4, 3) := by decide +kernel
theorem dX7_signs_31 : decode cX7_signs 31 = .ok (.iconst 0, 1) := by decide +kernel
theorem dX7_signs_32 : decode cX7_signs 32 = .ok (.ireturn, 1) := by decide +kernel
theorem dX7_aligned_0 : decode cX7_aligned 0 = .ok (.aload_n 0, 1) := by decide +kernel
theorem dX7_aligned_1 : decode cX7_aligned 1 = .ok (.invokevirtual 154, 3) := by decide +kernel
theorem dX7_aligned_4 : decode cX7_aligned 4 = .ok (.ifCond .eq 27, 3) := by decide +kernel
theorem dX7_aligned_7 : decode cX7_aligned 7 = .ok (.aload_n 0, 1) := by decide +kernel
theorem dX7_aligned_8 : decode cX7_aligned 8 = .ok (.invokevirtual 161, 3) := by decide +kernel
theorem dX7_aligned_11 : decode cX7_aligned 11 = .ok (.bipush (-9), 2) := by decide +kernel
theorem dX7_aligned_13 : decode cX7_aligned 13 = .ok (.if_icmp .ne 14, 3) := by decide +kernel
theorem dX7_aligned_16 : decode cX7_aligned 16 = .ok (.aload_n 0, 1) := by decide +kernel
theorem dX7_aligned_17 : decode cX7_aligned 17 = .ok (.aload_n 0, 1) := by decide +kernel
theorem dX7_aligned_18 : decode cX7_aligned 18 = .ok (.getfield 141, 3) := by decide +kernel
theorem dX7_aligned_21 : decode cX7_aligned 21 = .ok (.invokevirtual 147, 3) := by decide +kernel
theorem dX7_aligned_24 : decode cX7_aligned 24 = .ok (.ifCond .eq 7, 3) := by decide +kernel
theorem dX7_aligned_27 : decode cX7_aligned 27 = .ok (.iconst 1, 1) := by decide +kernel
theorem dX7_aligned_28 : decode cX7_aligned 28 = .ok (.goto 4, 3) := by decide +kernel
theorem dX7_aligned_31 : decode cX7_aligned 31 = .ok (.iconst 0, 1) := by decide +kernel
theorem dX7_aligned_32 : decode cX7_aligned 32 = .ok (.ireturn, 1) := by decide +kernel
theorem dX7_stops_0 : decode cX7_stops 0 = .ok (.aload_n 0, 1) := by decide +kernel
theorem dX7_stops_1 : decode cX7_stops 1 = .ok (.invokevirtual 138, 3) := by decide +kernel
theorem dX7_stops_4 : decode cX7_stops 4 = .ok (.aload_n 0, 1) := by decide +kernel
theorem dX7_stops_5 : decode cX7_stops 5 = .ok (.getfield 132, 3) := by decide +kernel
theorem dX7_stops_8 : decode cX7_stops 8 = .ok (.aload_n 0, 1) := by decide +kernel
theorem dX7_stops_9 : decode cX7_stops 9 = .ok (.getfield 129, 3) := by decide +kernel
theorem dX7_stops_12 : decode cX7_stops 12 = .ok (.if_icmp .ge 21, 3) := by decide +kernel
theorem dX7_stops_15 : decode cX7_stops 15 = .ok (.aload_n 0, 1) := by decide +kernel
theorem dX7_stops_16 : decode cX7_stops 16 = .ok (.getfield 22, 3) := by decide +kernel
theorem dX7_stops_19 : decode cX7_stops 19 = .ok (.aload_n 0, 1) := by decide +kernel
theorem dX7_stops_20 : decode cX7_stops 20 = .ok (.getfield 132, 3) := by decide +kernel
theorem dX7_stops_23 : decode cX7_stops 23 = .ok (.iaload, 1) := by decide +kernel
theorem dX7_stops_24 : decode cX7_stops 24 = .ok (.bipush 59, 2) := by decide +kernel
theorem dX7_stops_26 : decode cX7_stops 26 = .ok (.if_icmp .ne 7, 3) := by decide +kernel
theorem dX7_stops_29 : decode cX7_stops 29 = .ok (.iconst 1, 1) := by decide +kernel
theorem dX7_stops_30 : decode cX7_stops 30 = .ok (.goto 4, 3) := by decide +kernel
theorem dX7_stops_33 : decode cX7_stops 33 = .ok (.iconst 0, 1) := by decide +kernel
theorem dX7_stops_34 : decode cX7_stops 34 = .ok (.istore_n 1, 1) := by decide +kernel
theorem dX7_stops_35 : decode cX7_stops 35 = .ok (.iload_n 1, 1) := by decide +kernel
theorem dX7_stops_36 : decode cX7_stops 36 = .ok (.ifCond .ne 12, 3) := by decide +kernel
theorem dX7_stops_39 : decode cX7_stops 39 = .ok (.aload_n 0, 1) := by decide +kernel
theorem dX7_stops_40 : decode cX7_stops 40 = .ok (.aload_n 0, 1) := by decide +kernel
theorem dX7_stops_41 : decode cX7_stops 41 = .ok (.getfield 132, 3) := by decide +kernel
theorem dX7_stops_44 : decode cX7_stops 44 = .ok (.invokevirtual 147, 3) := by decide +kernel
theorem dX7_stops_47 : decode cX7_stops 47 = .ok (.ireturn, 1) := by decide +kernel
theorem dX7_stops_48 : decode cX7_stops 48 = .ok (.aload_n 0, 1) := by decide +kernel
theorem dX7_stops_49 : decode cX7_stops 49 = .ok (.dup, 1) := by decide +kernel
theorem dX7_stops_50 : decode cX7_stops 50 = .ok (.getfield 132, 3) := by decide +kernel
theorem dX7_stops_53 : decode cX7_stops 53 = .ok (.iconst 1, 1) := by decide +kernel
theorem dX7_stops_54 : decode cX7_stops 54 = .ok (.iadd, 1) := by decide +kernel
theorem dX7_stops_55 : decode cX7_stops 55 = .ok (.putfield 132, 3) := by decide +kernel
theorem dX7_stops_58 : decode cX7_stops 58 = .ok (.iconst 1, 1) := by decide +kernel
theorem dX7_stops_59 : decode cX7_stops 59 = .ok (.ireturn, 1) := by decide +kernel
theorem dX7_reads_0 : decode cX7_reads 0 = .ok (.aload_n 0, 1) := by decide +kernel
theorem dX7_reads_1 : decode cX7_reads 1 = .ok (.invokevirtual 154, 3) := by decide +kernel
theorem dX7_reads_4 : decode cX7_reads 4 = .ok (.ifCond .ne 5, 3) := by decide +kernel
theorem dX7_reads_7 : decode cX7_reads 7 = .ok (.iconst 0, 1) := by decide +kernel
theorem dX7_reads_8 : decode cX7_reads 8 = .ok (.ireturn, 1) := by decide +kernel
theorem dX7_reads_9 : decode cX7_reads 9 = .ok (.aload_n 0, 1) := by decide +kernel
theorem dX7_reads_10 : decode cX7_reads 10 = .ok (.aload_n 0, 1) := by decide +kernel
theorem dX7_reads_11 : decode cX7_reads 11 = .ok (.invokevirtual 164, 3) := by decide +kernel
theorem dX7_reads_14 : decode cX7_reads 14 = .ok (.putfield 167, 3) := by decide +kernel
theorem dX7_reads_17 : decode cX7_reads 17 = .ok (.aload_n 0, 1) := by decide +kernel
theorem dX7_reads_18 : decode cX7_reads 18 = .ok (.getfield 167, 3) := by decide +kernel
theorem dX7_reads_21 : decode cX7_reads 21 = .ok (.bipush (-9), 2) := by decide +kernel
theorem dX7_reads_23 : decode cX7_reads 23 = .ok (.if_icmp .ne 12, 3) := by decide +kernel
theorem dX7_reads_26 : decode cX7_reads 26 = .ok (.aload_n 0, 1) := by decide +kernel
theorem dX7_reads_27 : decode cX7_reads 27 = .ok (.aload_n 0, 1) := by decide +kernel
theorem dX7_reads_28 : decode cX7_reads 28 = .ok (.getfield 141, 3) := by decide +kernel
theorem dX7_reads_31 : decode cX7_reads 31 = .ok (.invokevirtual 147, 3) := by decide +kernel
theorem dX7_reads_34 : decode cX7_reads 34 = .ok (.ireturn, 1) := by decide +kernel
theorem dX7_reads_35 : decode cX7_reads 35 = .ok (.aload_n 0, 1) := by decide +kernel
theorem dX7_reads_36 : decode cX7_reads 36 = .ok (.invokevirtual 170, 3) := by decide +kernel
theorem dX7_reads_39 : decode cX7_reads 39 = .ok (.ifCond .ne 5, 3) := by decide +kernel
theorem dX7_reads_42 : decode cX7_reads 42 = .ok (.iconst 0, 1) := by decide +kernel
theorem dX7_reads_43 : decode cX7_reads 43 = .ok (.ireturn, 1) := by decide +kernel
theorem dX7_reads_44 : decode cX7_reads 44 = .ok (.aload_n 0, 1) := by decide +kernel
theorem dX7_reads_45 : decode cX7_reads 45 = .ok (.aload_n 0, 1) := by decide +kernel
theorem dX7_reads_46 : decode cX7_reads 46 = .ok (.getfield 158, 3) := by decide +kernel
theorem dX7_reads_49 : decode cX7_reads 49 = .ok (.putfield 173, 3) := by decide +kernel
theorem dX7_reads_52 : decode cX7_reads 52 = .ok (.aload_n 0, 1) := by decide +kernel
theorem dX7_reads_53 : decode cX7_reads 53 = .ok (.getfield 167, 3) := by decide +kernel
theorem dX7_reads_56 : decode cX7_reads 56 = .ok (.iconst 2, 1) := by decide +kernel
theorem dX7_reads_57 : decode cX7_reads 57 = .ok (.if_icmp .eq 19, 3) := by decide +kernel
theorem dX7_reads_60 : decode cX7_reads 60 = .ok (.aload_n 0, 1) := by decide +kernel
theorem dX7_reads_61 : decode cX7_reads 61 = .ok (.getfield 167, 3) := by decide +kernel
theorem dX7_reads_64 : decode cX7_reads 64 = .ok (.iconst 4, 1) := by decide +kernel
theorem dX7_reads_65 : decode cX7_reads 65 = .ok (.if_icmp .eq 11, 3) := by decide +kernel
theorem dX7_reads_68 : decode cX7_reads 68 = .ok (.aload_n 0, 1) := by decide +kernel
theorem dX7_reads_69 : decode cX7_reads 69 = .ok (.getfield 167, 3) := by decide +kernel
theorem dX7_reads_72 : decode cX7_reads 72 = .ok (.iconst 5, 1) := by decide +kernel
theorem dX7_reads_73 : decode cX7_reads 73 = .ok (.if_icmp .ne 20, 3) := by decide +kernel
theorem dX7_reads_76 : decode cX7_reads 76 = .ok (.aload_n 0, 1) := by decide +kernel
theorem dX7_reads_77 : decode cX7_reads 77 = .ok (.invokevirtual 170, 3) := by decide +kernel
theorem dX7_reads_80 : decode cX7_reads 80 = .ok (.ifCond .ne 5, 3) := by decide +kernel
theorem dX7_reads_83 : decode cX7_reads 83 = .ok (.iconst 0, 1) := by decide +kernel
theorem dX7_reads_84 : decode cX7_reads 84 = .ok (.ireturn, 1) := by decide +kernel
theorem dX7_reads_85 : decode cX7_reads 85 = .ok (.aload_n 0, 1) := by decide +kernel
theorem dX7_reads_86 : decode cX7_reads 86 = .ok (.aload_n 0, 1) := by decide +kernel
theorem dX7_reads_87 : decode cX7_reads 87 = .ok (.getfield 158, 3) := by decide +kernel
theorem dX7_reads_90 : decode cX7_reads 90 = .ok (.putfield 176, 3) := by decide +kernel
theorem dX7_reads_93 : decode cX7_reads 93 = .ok (.aload_n 0, 1) := by decide +kernel
theorem dX7_reads_94 : decode cX7_reads 94 = .ok (.getfield 167, 3) := by decide +kernel
theorem dX7_reads_97 : decode cX7_reads 97 = .ok (.ifCond .ne 10, 3) := by decide +kernel
theorem dX7_reads_100 : decode cX7_reads 100 = .ok (.aload_n 0, 1) := by decide +kernel
theorem dX7_reads_101 : decode cX7_reads 101 = .ok (.invokevirtual 179, 3) := by decide +kernel
theorem dX7_reads_104 : decode cX7_reads 104 = .ok (.goto 39, 3) := by decide +kernel
theorem dX7_reads_107 : decode cX7_reads 107 = .ok (.aload_n 0, 1) := by decide +kernel
theorem dX7_reads_108 : decode cX7_reads 108 = .ok (.getfield 167, 3) := by decide +kernel
theorem dX7_reads_111 : decode cX7_reads 111 = .ok (.iconst 4, 1) := by decide +kernel
theorem dX7_reads_112 : decode cX7_reads 112 = .ok (.if_icmp .ne 10, 3) := by decide +kernel
theorem dX7_reads_115 : decode cX7_reads 115 = .ok (.aload_n 0, 1) := by decide +kernel
theorem dX7_reads_116 : decode cX7_reads 116 = .ok (.invokevirtual 182, 3) := by decide +kernel
theorem dX7_reads_119 : decode cX7_reads 119 = .ok (.goto 24, 3) := by decide +kernel
theorem dX7_reads_122 : decode cX7_reads 122 = .ok (.aload_n 0, 1) := by decide +kernel
theorem dX7_reads_123 : decode cX7_reads 123 = .ok (.getfield 167, 3) := by decide +kernel
theorem dX7_reads_126 : decode cX7_reads 126 = .ok (.bipush 6, 2) := by decide +kernel
theorem dX7_reads_128 : decode cX7_reads 128 = .ok (.if_icmp .ne 10, 3) := by decide +kernel
theorem dX7_reads_131 : decode cX7_reads 131 = .ok (.aload_n 0, 1) := by decide +kernel
theorem dX7_reads_132 : decode cX7_reads 132 = .ok (.invokevirtual 185, 3) := by decide +kernel
theorem dX7_reads_135 : decode cX7_reads 135 = .ok (.ifCond .eq 7, 3) := by decide +kernel
theorem dX7_reads_138 : decode cX7_reads 138 = .ok (.iconst 1, 1) := by decide +kernel
theorem dX7_reads_139 : decode cX7_reads 139 = .ok (.goto 4, 3) := by decide +kernel
theorem dX7_reads_142 : decode cX7_reads 142 = .ok (.iconst 0, 1) := by decide +kernel
theorem dX7_reads_143 : decode cX7_reads 143 = .ok (.istore_n 1, 1) := by decide +kernel
theorem dX7_reads_144 : decode cX7_reads 144 = .ok (.iload_n 1, 1) := by decide +kernel
theorem dX7_reads_145 : decode cX7_reads 145 = .ok (.ifCond .eq 14, 3) := by decide +kernel
theorem dX7_reads_148 : decode cX7_reads 148 = .ok (.aload_n 0, 1) := by decide +kernel
theorem dX7_reads_149 : decode cX7_reads 149 = .ok (.invokevirtual 188, 3) := by decide +kernel
theorem dX7_reads_152 : decode cX7_reads 152 = .ok (.ifCond .eq 7, 3) := by decide +kernel
theorem dX7_reads_155 : decode cX7_reads 155 = .ok (.iconst 1, 1) := by decide +kernel
theorem dX7_reads_156 : decode cX7_reads 156 = .ok (.goto 4, 3) := by decide +kernel
theorem dX7_reads_159 : decode cX7_reads 159 = .ok (.iconst 0, 1) := by decide +kernel
theorem dX7_reads_160 : decode cX7_reads 160 = .ok (.ireturn, 1) := by decide +kernel
theorem dX7_adds_0 : decode cX7_adds 0 = .ok (.aload_n 0, 1) := by decide +kernel
theorem dX7_adds_1 : decode cX7_adds 1 = .ok (.getfield 173, 3) := by decide +kernel
theorem dX7_adds_4 : decode cX7_adds 4 = .ok (.iconst 0, 1) := by decide +kernel
theorem dX7_adds_5 : decode cX7_adds 5 = .ok (.aload_n 0, 1) := by decide +kernel
theorem dX7_adds_6 : decode cX7_adds 6 = .ok (.getfield 7, 3) := by decide +kernel
theorem dX7_adds_9 : decode cX7_adds 9 = .ok (.iconst 0, 1) := by decide +kernel
theorem dX7_adds_10 : decode cX7_adds 10 = .ok (.iaload, 1) := by decide +kernel
theorem dX7_adds_11 : decode cX7_adds 11 = .ok (.invokestatic 80, 3) := by decide +kernel
theorem dX7_adds_14 : decode cX7_adds 14 = .ok (.ifCond .eq 14, 3) := by decide +kernel
theorem dX7_adds_17 : decode cX7_adds 17 = .ok (.aload_n 0, 1) := by decide +kernel
theorem dX7_adds_18 : decode cX7_adds 18 = .ok (.getfield 7, 3) := by decide +kernel
theorem dX7_adds_21 : decode cX7_adds 21 = .ok (.iconst 0, 1) := by decide +kernel
theorem dX7_adds_22 : decode cX7_adds 22 = .ok (.iaload, 1) := by decide +kernel
theorem dX7_adds_23 : decode cX7_adds 23 = .ok (.bipush 12, 2) := by decide +kernel
theorem dX7_adds_25 : decode cX7_adds 25 = .ok (.if_icmp .ne 5, 3) := by decide +kernel
theorem dX7_adds_28 : decode cX7_adds 28 = .ok (.iconst (-1), 1) := by decide +kernel
theorem dX7_adds_29 : decode cX7_adds 29 = .ok (.ireturn, 1) := by decide +kernel
theorem dX7_adds_30 : decode cX7_adds 30 = .ok (.aload_n 0, 1) := by decide +kernel
theorem dX7_adds_31 : decode cX7_adds 31 = .ok (.invokevirtual 112, 3) := by decide +kernel
theorem dX7_adds_34 : decode cX7_adds 34 = .ok (.aload_n 0, 1) := by decide +kernel
theorem dX7_adds_35 : decode cX7_adds 35 = .ok (.aload_n 0, 1) := by decide +kernel
theorem dX7_adds_36 : decode cX7_adds 36 = .ok (.getfield 173, 3) := by decide +kernel
theorem dX7_adds_39 : decode cX7_adds 39 = .ok (.invokevirtual 118, 3) := by decide +kernel
theorem dX7_adds_42 : decode cX7_adds 42 = .ok (.aload_n 0, 1) := by decide +kernel
theorem dX7_adds_43 : decode cX7_adds 43 = .ok (.getfield 144, 3) := by decide +kernel
theorem dX7_adds_46 : decode cX7_adds 46 = .ok (.iconst 1, 1) := by decide +kernel
theorem dX7_adds_47 : decode cX7_adds 47 = .ok (.if_icmp .ne 21, 3) := by decide +kernel
theorem dX7_adds_50 : decode cX7_adds 50 = .ok (.aload_n 0, 1) := by decide +kernel
theorem dX7_adds_51 : decode cX7_adds 51 = .ok (.getfield 22, 3) := by decide +kernel
theorem dX7_adds_54 : decode cX7_adds 54 = .ok (.aload_n 0, 1) := by decide +kernel
theorem dX7_adds_55 : decode cX7_adds 55 = .ok (.getfield 141, 3) := by decide +kernel
theorem dX7_adds_58 : decode cX7_adds 58 = .ok (.iaload, 1) := by decide +kernel
theorem dX7_adds_59 : decode cX7_adds 59 = .ok (.bipush 45, 2) := by decide +kernel
theorem dX7_adds_61 : decode cX7_adds 61 = .ok (.if_icmp .ne 7, 3) := by decide +kernel
theorem dX7_adds_64 : decode cX7_adds 64 = .ok (.iconst 1, 1) := by decide +kernel
theorem dX7_adds_65 : decode cX7_adds 65 = .ok (.goto 4, 3) := by decide +kernel
theorem dX7_adds_68 : decode cX7_adds 68 = .ok (.iconst 0, 1) := by decide +kernel
theorem dX7_adds_69 : decode cX7_adds 69 = .ok (.istore_n 1, 1) := by decide +kernel
theorem dX7_adds_70 : decode cX7_adds 70 = .ok (.iconst 0, 1) := by decide +kernel
theorem dX7_adds_71 : decode cX7_adds 71 = .ok (.istore_n 2, 1) := by decide +kernel
theorem dX7_adds_72 : decode cX7_adds 72 = .ok (.iload_n 2, 1) := by decide +kernel
theorem dX7_adds_73 : decode cX7_adds 73 = .ok (.aload_n 0, 1) := by decide +kernel
theorem dX7_adds_74 : decode cX7_adds 74 = .ok (.getfield 144, 3) := by decide +kernel
theorem dX7_adds_77 : decode cX7_adds 77 = .ok (.if_icmp .ge 32, 3) := by decide +kernel
theorem dX7_adds_80 : decode cX7_adds 80 = .ok (.iload_n 1, 1) := by decide +kernel
theorem dX7_adds_81 : decode cX7_adds 81 = .ok (.ifCond .ne 28, 3) := by decide +kernel
theorem dX7_adds_84 : decode cX7_adds 84 = .ok (.aload_n 0, 1) := by decide +kernel
theorem dX7_adds_85 : decode cX7_adds 85 = .ok (.aload_n 0, 1) := by decide +kernel
theorem dX7_adds_86 : decode cX7_adds 86 = .ok (.getfield 173, 3) := by decide +kernel
theorem dX7_adds_89 : decode cX7_adds 89 = .ok (.aload_n 0, 1) := by decide +kernel
theorem dX7_adds_90 : decode cX7_adds 90 = .ok (.getfield 22, 3) := by decide +kernel
theorem dX7_adds_93 : decode cX7_adds 93 = .ok (.aload_n 0, 1) := by decide +kernel
theorem dX7_adds_94 : decode cX7_adds 94 = .ok (.getfield 141, 3) := by decide +kernel
theorem dX7_adds_97 : decode cX7_adds 97 = .ok (.iload_n 2, 1) := by decide +kernel
theorem dX7_adds_98 : decode cX7_adds 98 = .ok (.iadd, 1) := by decide +kernel
theorem dX7_adds_99 : decode cX7_adds 99 = .ok (.iaload, 1) := by decide +kernel
theorem dX7_adds_100 : decode cX7_adds 100 = .ok (.invokevirtual 122, 3) := by decide +kernel
theorem dX7_adds_103 : decode cX7_adds 103 = .ok (.iinc 2 1, 3) := by decide +kernel
theorem dX7_adds_106 : decode cX7_adds 106 = .ok (.goto (-34), 3) := by decide +kernel
theorem dX7_adds_109 : decode cX7_adds 109 = .ok (.aload_n 0, 1) := by decide +kernel
theorem dX7_adds_110 : decode cX7_adds 110 = .ok (.invokevirtual 115, 3) := by decide +kernel
theorem dX7_adds_113 : decode cX7_adds 113 = .ok (.iconst 1, 1) := by decide +kernel
theorem dX7_adds_114 : decode cX7_adds 114 = .ok (.ireturn, 1) := by decide +kernel
theorem dX7_drops_0 : decode cX7_drops 0 = .ok (.aload_n 0, 1) := by decide +kernel
theorem dX7_drops_1 : decode cX7_drops 1 = .ok (.aload_n 0, 1) := by decide +kernel
theorem dX7_drops_2 : decode cX7_drops 2 = .ok (.getfield 173, 3) := by decide +kernel
theorem dX7_drops_5 : decode cX7_drops 5 = .ok (.invokevirtual 102, 3) := by decide +kernel
theorem dX7_drops_8 : decode cX7_drops 8 = .ok (.ifCond .ne 5, 3) := by decide +kernel
theorem dX7_drops_11 : decode cX7_drops 11 = .ok (.iconst (-1), 1) := by decide +kernel
theorem dX7_drops_12 : decode cX7_drops 12 = .ok (.ireturn, 1) := by decide +kernel
theorem dX7_drops_13 : decode cX7_drops 13 = .ok (.aload_n 0, 1) := by decide +kernel
theorem dX7_drops_14 : decode cX7_drops 14 = .ok (.invokevirtual 112, 3) := by decide +kernel
theorem dX7_drops_17 : decode cX7_drops 17 = .ok (.aload_n 0, 1) := by decide +kernel
theorem dX7_drops_18 : decode cX7_drops 18 = .ok (.aload_n 0, 1) := by decide +kernel
theorem dX7_drops_19 : decode cX7_drops 19 = .ok (.getfield 173, 3) := by decide +kernel
theorem dX7_drops_22 : decode cX7_drops 22 = .ok (.invokevirtual 126, 3) := by decide +kernel
theorem dX7_drops_25 : decode cX7_drops 25 = .ok (.aload_n 0, 1) := by decide +kernel
theorem dX7_drops_26 : decode cX7_drops 26 = .ok (.invokevirtual 115, 3) := by decide +kernel
theorem dX7_drops_29 : decode cX7_drops 29 = .ok (.iconst 1, 1) := by decide +kernel
theorem dX7_drops_30 : decode cX7_drops 30 = .ok (.ireturn, 1) := by decide +kernel
theorem dX7_becomes_0 : decode cX7_becomes 0 = .ok (.iload_n 3, 1) := by decide +kernel
theorem dX7_becomes_1 : decode cX7_becomes 1 = .ok (.ifCond .ne 5, 3) := by decide +kernel
theorem dX7_becomes_4 : decode cX7_becomes 4 = .ok (.iconst (-1), 1) := by decide +kernel
theorem dX7_becomes_5 : decode cX7_becomes 5 = .ok (.ireturn, 1) := by decide +kernel
theorem dX7_becomes_6 : decode cX7_becomes 6 = .ok (.aload_n 0, 1) := by decide +kernel
theorem dX7_becomes_7 : decode cX7_becomes 7 = .ok (.invokevirtual 112, 3) := by decide +kernel
theorem dX7_becomes_10 : decode cX7_becomes 10 = .ok (.aload_n 0, 1) := by decide +kernel
theorem dX7_becomes_11 : decode cX7_becomes 11 = .ok (.getfield 7, 3) := by decide +kernel
theorem dX7_becomes_14 : decode cX7_becomes 14 = .ok (.iload_n 1, 1) := by decide +kernel
theorem dX7_becomes_15 : decode cX7_becomes 15 = .ok (.iload_n 2, 1) := by decide +kernel
theorem dX7_becomes_16 : decode cX7_becomes 16 = .ok (.iastore, 1) := by decide +kernel
theorem dX7_becomes_17 : decode cX7_becomes 17 = .ok (.aload_n 0, 1) := by decide +kernel
theorem dX7_becomes_18 : decode cX7_becomes 18 = .ok (.invokevirtual 115, 3) := by decide +kernel
theorem dX7_becomes_21 : decode cX7_becomes 21 = .ok (.iconst 1, 1) := by decide +kernel
theorem dX7_becomes_22 : decode cX7_becomes 22 = .ok (.ireturn, 1) := by decide +kernel
theorem dX7_does_0 : decode cX7_does 0 = .ok (.aload_n 0, 1) := by decide +kernel
theorem dX7_does_1 : decode cX7_does 1 = .ok (.getfield 167, 3) := by decide +kernel
theorem dX7_does_4 : decode cX7_does 4 = .ok (.tableswitch 169 0 7 #[48, 53, 58, 71, 80, 102, 115, 146], 48) := by decide +kernel
theorem dX7_does_52 : decode cX7_does 52 = .ok (.aload_n 0, 1) := by decide +kernel
theorem dX7_does_53 : decode cX7_does 53 = .ok (.invokevirtual 191, 3) := by decide +kernel
theorem dX7_does_56 : decode cX7_does 56 = .ok (.ireturn, 1) := by decide +kernel
theorem dX7_does_57 : decode cX7_does 57 = .ok (.aload_n 0, 1) := by decide +kernel
theorem dX7_does_58 : decode cX7_does 58 = .ok (.invokevirtual 194, 3) := by decide +kernel
theorem dX7_does_61 : decode cX7_does 61 = .ok (.ireturn, 1) := by decide +kernel
theorem dX7_does_62 : decode cX7_does 62 = .ok (.aload_n 0, 1) := by decide +kernel
theorem dX7_does_63 : decode cX7_does 63 = .ok (.aload_n 0, 1) := by decide +kernel
theorem dX7_does_64 : decode cX7_does 64 = .ok (.getfield 173, 3) := by decide +kernel
theorem dX7_does_67 : decode cX7_does 67 = .ok (.aload_n 0, 1) := by decide +kernel
theorem dX7_does_68 : decode cX7_does 68 = .ok (.getfield 176, 3) := by decide +kernel
theorem dX7_does_71 : decode cX7_does 71 = .ok (.invokevirtual 197, 3) := by decide +kernel
theorem dX7_does_74 : decode cX7_does 74 = .ok (.ireturn, 1) := by decide +kernel
theorem dX7_does_75 : decode cX7_does 75 = .ok (.aload_n 0, 1) := by decide +kernel
theorem dX7_does_76 : decode cX7_does 76 = .ok (.aload_n 0, 1) := by decide +kernel
theorem dX7_does_77 : decode cX7_does 77 = .ok (.getfield 173, 3) := by decide +kernel
theorem dX7_does_80 : decode cX7_does 80 = .ok (.invokevirtual 201, 3) := by decide +kernel
theorem dX7_does_83 : decode cX7_does 83 = .ok (.ireturn, 1) := by decide +kernel
theorem dX7_does_84 : decode cX7_does 84 = .ok (.aload_n 0, 1) := by decide +kernel
theorem dX7_does_85 : decode cX7_does 85 = .ok (.aload_n 0, 1) := by decide +kernel
theorem dX7_does_86 : decode cX7_does 86 = .ok (.getfield 173, 3) := by decide +kernel
theorem dX7_does_89 : decode cX7_does 89 = .ok (.aload_n 0, 1) := by decide +kernel
theorem dX7_does_90 : decode cX7_does 90 = .ok (.getfield 176, 3) := by decide +kernel
theorem dX7_does_93 : decode cX7_does 93 = .ok (.aload_n 0, 1) := by decide +kernel
theorem dX7_does_94 : decode cX7_does 94 = .ok (.getfield 22, 3) := by decide +kernel
theorem dX7_does_97 : decode cX7_does 97 = .ok (.aload_n 0, 1) := by decide +kernel
theorem dX7_does_98 : decode cX7_does 98 = .ok (.getfield 141, 3) := by decide +kernel
theorem dX7_does_101 : decode cX7_does 101 = .ok (.iaload, 1) := by decide +kernel
theorem dX7_does_102 : decode cX7_does 102 = .ok (.invokevirtual 205, 3) := by decide +kernel
theorem dX7_does_105 : decode cX7_does 105 = .ok (.ireturn, 1) := by decide +kernel
theorem dX7_does_106 : decode cX7_does 106 = .ok (.aload_n 0, 1) := by decide +kernel
theorem dX7_does_107 : decode cX7_does 107 = .ok (.aload_n 0, 1) := by decide +kernel
theorem dX7_does_108 : decode cX7_does 108 = .ok (.getfield 173, 3) := by decide +kernel
theorem dX7_does_111 : decode cX7_does 111 = .ok (.aload_n 0, 1) := by decide +kernel
theorem dX7_does_112 : decode cX7_does 112 = .ok (.getfield 176, 3) := by decide +kernel
theorem dX7_does_115 : decode cX7_does 115 = .ok (.invokevirtual 209, 3) := by decide +kernel
theorem dX7_does_118 : decode cX7_does 118 = .ok (.ireturn, 1) := by decide +kernel
theorem dX7_does_119 : decode cX7_does 119 = .ok (.aload_n 0, 1) := by decide +kernel
theorem dX7_does_120 : decode cX7_does 120 = .ok (.sipush 303, 3) := by decide +kernel
theorem dX7_does_123 : decode cX7_does 123 = .ok (.aload_n 0, 1) := by decide +kernel
theorem dX7_does_124 : decode cX7_does 124 = .ok (.getfield 173, 3) := by decide +kernel
theorem dX7_does_127 : decode cX7_does 127 = .ok (.iadd, 1) := by decide +kernel
theorem dX7_does_128 : decode cX7_does 128 = .ok (.aload_n 0, 1) := by decide +kernel
theorem dX7_does_129 : decode cX7_does 129 = .ok (.invokevirtual 161, 3) := by decide +kernel
theorem dX7_does_132 : decode cX7_does 132 = .ok (.aload_n 0, 1) := by decide +kernel
theorem dX7_does_133 : decode cX7_does 133 = .ok (.getfield 173, 3) := by decide +kernel
theorem dX7_does_136 : decode cX7_does 136 = .ok (.bipush 24, 2) := by decide +kernel
theorem dX7_does_138 : decode cX7_does 138 = .ok (.if_icmp .ge 7, 3) := by decide +kernel
theorem dX7_does_141 : decode cX7_does 141 = .ok (.iconst 1, 1) := by decide +kernel
theorem dX7_does_142 : decode cX7_does 142 = .ok (.goto 4, 3) := by decide +kernel
theorem dX7_does_145 : decode cX7_does 145 = .ok (.iconst 0, 1) := by decide +kernel
theorem dX7_does_146 : decode cX7_does 146 = .ok (.invokevirtual 212, 3) := by decide +kernel
theorem dX7_does_149 : decode cX7_does 149 = .ok (.ireturn, 1) := by decide +kernel
theorem dX7_does_150 : decode cX7_does 150 = .ok (.aload_n 0, 1) := by decide +kernel
theorem dX7_does_151 : decode cX7_does 151 = .ok (.iconst 1, 1) := by decide +kernel
theorem dX7_does_152 : decode cX7_does 152 = .ok (.aload_n 0, 1) := by decide +kernel
theorem dX7_does_153 : decode cX7_does 153 = .ok (.getfield 173, 3) := by decide +kernel
theorem dX7_does_156 : decode cX7_does 156 = .ok (.aload_n 0, 1) := by decide +kernel
theorem dX7_does_157 : decode cX7_does 157 = .ok (.getfield 173, 3) := by decide +kernel
theorem dX7_does_160 : decode cX7_does 160 = .ok (.iconst 5, 1) := by decide +kernel
theorem dX7_does_161 : decode cX7_does 161 = .ok (.if_icmp .ge 7, 3) := by decide +kernel
theorem dX7_does_164 : decode cX7_does 164 = .ok (.iconst 1, 1) := by decide +kernel
theorem dX7_does_165 : decode cX7_does 165 = .ok (.goto 4, 3) := by decide +kernel
theorem dX7_does_168 : decode cX7_does 168 = .ok (.iconst 0, 1) := by decide +kernel
theorem dX7_does_169 : decode cX7_does 169 = .ok (.invokevirtual 212, 3) := by decide +kernel
theorem dX7_does_172 : decode cX7_does 172 = .ok (.ireturn, 1) := by decide +kernel
theorem dX7_does_173 : decode cX7_does 173 = .ok (.aload_n 0, 1) := by decide +kernel
theorem dX7_does_174 : decode cX7_does 174 = .ok (.iconst 2, 1) := by decide +kernel
theorem dX7_does_175 : decode cX7_does 175 = .ok (.aload_n 0, 1) := by decide +kernel
theorem dX7_does_176 : decode cX7_does 176 = .ok (.getfield 173, 3) := by decide +kernel
theorem dX7_does_179 : decode cX7_does 179 = .ok (.aload_n 0, 1) := by decide +kernel
theorem dX7_does_180 : decode cX7_does 180 = .ok (.getfield 173, 3) := by decide +kernel
theorem dX7_does_183 : decode cX7_does 183 = .ok (.bipush 10, 2) := by decide +kernel
theorem dX7_does_185 : decode cX7_does 185 = .ok (.if_icmp .ge 7, 3) := by decide +kernel
theorem dX7_does_188 : decode cX7_does 188 = .ok (.iconst 1, 1) := by decide +kernel
theorem dX7_does_189 : decode cX7_does 189 = .ok (.goto 4, 3) := by decide +kernel
theorem dX7_does_192 : decode cX7_does 192 = .ok (.iconst 0, 1) := by decide +kernel
theorem dX7_does_193 : decode cX7_does 193 = .ok (.invokevirtual 212, 3) := by decide +kernel
theorem dX7_does_196 : decode cX7_does 196 = .ok (.ireturn, 1) := by decide +kernel
theorem dX7_run_0 : decode cX7_run 0 = .ok (.aload_n 0, 1) := by decide +kernel
theorem dX7_run_1 : decode cX7_run 1 = .ok (.iconst 0, 1) := by decide +kernel
theorem dX7_run_2 : decode cX7_run 2 = .ok (.putfield 132, 3) := by decide +kernel
theorem dX7_run_5 : decode cX7_run 5 = .ok (.aload_n 0, 1) := by decide +kernel
theorem dX7_run_6 : decode cX7_run 6 = .ok (.invokevirtual 138, 3) := by decide +kernel
theorem dX7_run_9 : decode cX7_run 9 = .ok (.aload_n 0, 1) := by decide +kernel
theorem dX7_run_10 : decode cX7_run 10 = .ok (.getfield 132, 3) := by decide +kernel
theorem dX7_run_13 : decode cX7_run 13 = .ok (.aload_n 0, 1) := by decide +kernel
theorem dX7_run_14 : decode cX7_run 14 = .ok (.getfield 129, 3) := by decide +kernel
theorem dX7_run_17 : decode cX7_run 17 = .ok (.if_icmp .ge 25, 3) := by decide +kernel
theorem dX7_run_20 : decode cX7_run 20 = .ok (.aload_n 0, 1) := by decide +kernel
theorem dX7_run_21 : decode cX7_run 21 = .ok (.invokevirtual 216, 3) := by decide +kernel
theorem dX7_run_24 : decode cX7_run 24 = .ok (.ifCond .ne 11, 3) := by decide +kernel
theorem dX7_run_27 : decode cX7_run 27 = .ok (.bipush (-10), 2) := by decide +kernel
theorem dX7_run_29 : decode cX7_run 29 = .ok (.aload_n 0, 1) := by decide +kernel
theorem dX7_run_30 : decode cX7_run 30 = .ok (.getfield 135, 3) := by decide +kernel
theorem dX7_run_33 : decode cX7_run 33 = .ok (.isub, 1) := by decide +kernel
theorem dX7_run_34 : decode cX7_run 34 = .ok (.ireturn, 1) := by decide +kernel
theorem dX7_run_35 : decode cX7_run 35 = .ok (.aload_n 0, 1) := by decide +kernel
theorem dX7_run_36 : decode cX7_run 36 = .ok (.invokevirtual 138, 3) := by decide +kernel
theorem dX7_run_39 : decode cX7_run 39 = .ok (.goto (-30), 3) := by decide +kernel
theorem dX7_run_42 : decode cX7_run 42 = .ok (.aload_n 0, 1) := by decide +kernel
theorem dX7_run_43 : decode cX7_run 43 = .ok (.iconst 0, 1) := by decide +kernel
theorem dX7_run_44 : decode cX7_run 44 = .ok (.putfield 132, 3) := by decide +kernel
theorem dX7_run_47 : decode cX7_run 47 = .ok (.aload_n 0, 1) := by decide +kernel
theorem dX7_run_48 : decode cX7_run 48 = .ok (.invokevirtual 138, 3) := by decide +kernel
theorem dX7_run_51 : decode cX7_run 51 = .ok (.iconst 0, 1) := by decide +kernel
theorem dX7_run_52 : decode cX7_run 52 = .ok (.istore_n 1, 1) := by decide +kernel
theorem dX7_run_53 : decode cX7_run 53 = .ok (.aload_n 0, 1) := by decide +kernel
theorem dX7_run_54 : decode cX7_run 54 = .ok (.getfield 132, 3) := by decide +kernel
theorem dX7_run_57 : decode cX7_run 57 = .ok (.aload_n 0, 1) := by decide +kernel
theorem dX7_run_58 : decode cX7_run 58 = .ok (.getfield 129, 3) := by decide +kernel
theorem dX7_run_61 : decode cX7_run 61 = .ok (.if_icmp .ge 30, 3) := by decide +kernel
theorem dX7_run_64 : decode cX7_run 64 = .ok (.aload_n 0, 1) := by decide +kernel
theorem dX7_run_65 : decode cX7_run 65 = .ok (.invokevirtual 216, 3) := by decide +kernel
theorem dX7_run_68 : decode cX7_run 68 = .ok (.pop, 1) := by decide +kernel
theorem dX7_run_69 : decode cX7_run 69 = .ok (.iload_n 1, 1) := by decide +kernel
theorem dX7_run_70 : decode cX7_run 70 = .ok (.aload_n 0, 1) := by decide +kernel
theorem dX7_run_71 : decode cX7_run 71 = .ok (.invokevirtual 219, 3) := by decide +kernel
theorem dX7_run_74 : decode cX7_run 74 = .ok (.ifCond .lt 7, 3) := by decide +kernel
theorem dX7_run_77 : decode cX7_run 77 = .ok (.iconst 1, 1) := by decide +kernel
theorem dX7_run_78 : decode cX7_run 78 = .ok (.goto 4, 3) := by decide +kernel
theorem dX7_run_81 : decode cX7_run 81 = .ok (.iconst 0, 1) := by decide +kernel
theorem dX7_run_82 : decode cX7_run 82 = .ok (.iadd, 1) := by decide +kernel
theorem dX7_run_83 : decode cX7_run 83 = .ok (.istore_n 1, 1) := by decide +kernel
theorem dX7_run_84 : decode cX7_run 84 = .ok (.aload_n 0, 1) := by decide +kernel
theorem dX7_run_85 : decode cX7_run 85 = .ok (.invokevirtual 138, 3) := by decide +kernel
theorem dX7_run_88 : decode cX7_run 88 = .ok (.goto (-35), 3) := by decide +kernel
theorem dX7_run_91 : decode cX7_run 91 = .ok (.aload_n 0, 1) := by decide +kernel
theorem dX7_run_92 : decode cX7_run 92 = .ok (.iconst 0, 1) := by decide +kernel
theorem dX7_run_93 : decode cX7_run 93 = .ok (.putfield 129, 3) := by decide +kernel
theorem dX7_run_96 : decode cX7_run 96 = .ok (.iload_n 1, 1) := by decide +kernel
theorem dX7_run_97 : decode cX7_run 97 = .ok (.ireturn, 1) := by decide +kernel
theorem dX7_line_0 : decode cX7_line 0 = .ok (.aload_n 0, 1) := by decide +kernel
theorem dX7_line_1 : decode cX7_line 1 = .ok (.iload_n 1, 1) := by decide +kernel
theorem dX7_line_2 : decode cX7_line 2 = .ok (.invokevirtual 102, 3) := by decide +kernel
theorem dX7_line_5 : decode cX7_line 5 = .ok (.ifCond .ne 5, 3) := by decide +kernel
theorem dX7_line_8 : decode cX7_line 8 = .ok (.iconst (-1), 1) := by decide +kernel
theorem dX7_line_9 : decode cX7_line 9 = .ok (.ireturn, 1) := by decide +kernel
theorem dX7_line_10 : decode cX7_line 10 = .ok (.iload_n 2, 1) := by decide +kernel
theorem dX7_line_11 : decode cX7_line 11 = .ok (.tableswitch 73 0 3 #[29, 38, 47, 56], 29) := by decide +kernel
theorem dX7_line_40 : decode cX7_line 40 = .ok (.aload_n 0, 1) := by decide +kernel
theorem dX7_line_41 : decode cX7_line 41 = .ok (.getfield 7, 3) := by decide +kernel
theorem dX7_line_44 : decode cX7_line 44 = .ok (.iconst 3, 1) := by decide +kernel
theorem dX7_line_45 : decode cX7_line 45 = .ok (.iload_n 1, 1) := by decide +kernel
theorem dX7_line_46 : decode cX7_line 46 = .ok (.iadd, 1) := by decide +kernel
theorem dX7_line_47 : decode cX7_line 47 = .ok (.iaload, 1) := by decide +kernel
theorem dX7_line_48 : decode cX7_line 48 = .ok (.ireturn, 1) := by decide +kernel
theorem dX7_line_49 : decode cX7_line 49 = .ok (.aload_n 0, 1) := by decide +kernel
theorem dX7_line_50 : decode cX7_line 50 = .ok (.getfield 7, 3) := by decide +kernel
theorem dX7_line_53 : decode cX7_line 53 = .ok (.iload_n 1, 1) := by decide +kernel
theorem dX7_line_54 : decode cX7_line 54 = .ok (.invokestatic 51, 3) := by decide +kernel
theorem dX7_line_57 : decode cX7_line 57 = .ok (.ireturn, 1) := by decide +kernel
theorem dX7_line_58 : decode cX7_line 58 = .ok (.aload_n 0, 1) := by decide +kernel
theorem dX7_line_59 : decode cX7_line 59 = .ok (.getfield 7, 3) := by decide +kernel
theorem dX7_line_62 : decode cX7_line 62 = .ok (.iload_n 1, 1) := by decide +kernel
theorem dX7_line_63 : decode cX7_line 63 = .ok (.invokestatic 77, 3) := by decide +kernel
theorem dX7_line_66 : decode cX7_line 66 = .ok (.ireturn, 1) := by decide +kernel
theorem dX7_line_67 : decode cX7_line 67 = .ok (.aload_n 0, 1) := by decide +kernel
theorem dX7_line_68 : decode cX7_line 68 = .ok (.getfield 7, 3) := by decide +kernel
theorem dX7_line_71 : decode cX7_line 71 = .ok (.iload_n 1, 1) := by decide +kernel
theorem dX7_line_72 : decode cX7_line 72 = .ok (.aload_n 0, 1) := by decide +kernel
theorem dX7_line_73 : decode cX7_line 73 = .ok (.getfield 7, 3) := by decide +kernel
theorem dX7_line_76 : decode cX7_line 76 = .ok (.iload_n 1, 1) := by decide +kernel
theorem dX7_line_77 : decode cX7_line 77 = .ok (.invokestatic 51, 3) := by decide +kernel
theorem dX7_line_80 : decode cX7_line 80 = .ok (.invokestatic 74, 3) := by decide +kernel
theorem dX7_line_83 : decode cX7_line 83 = .ok (.ireturn, 1) := by decide +kernel
theorem dX7_line_84 : decode cX7_line 84 = .ok (.iconst (-1), 1) := by decide +kernel
theorem dX7_line_85 : decode cX7_line 85 = .ok (.ireturn, 1) := by decide +kernel
theorem dX7_sign__0 : decode cX7_sign_ 0 = .ok (.aload_n 0, 1) := by decide +kernel
theorem dX7_sign__1 : decode cX7_sign_ 1 = .ok (.iload_n 1, 1) := by decide +kernel
theorem dX7_sign__2 : decode cX7_sign_ 2 = .ok (.iload_n 2, 1) := by decide +kernel
theorem dX7_sign__3 : decode cX7_sign_ 3 = .ok (.invokevirtual 105, 3) := by decide +kernel
theorem dX7_sign__6 : decode cX7_sign_ 6 = .ok (.ifCond .eq 27, 3) := by decide +kernel
theorem dX7_sign__9 : decode cX7_sign_ 9 = .ok (.iload_n 2, 1) := by decide +kernel
theorem dX7_sign__10 : decode cX7_sign_ 10 = .ok (.aload_n 0, 1) := by decide +kernel
theorem dX7_sign__11 : decode cX7_sign_ 11 = .ok (.getfield 7, 3) := by decide +kernel
theorem dX7_sign__14 : decode cX7_sign_ 14 = .ok (.iconst 3, 1) := by decide +kernel
theorem dX7_sign__15 : decode cX7_sign_ 15 = .ok (.iload_n 1, 1) := by decide +kernel
theorem dX7_sign__16 : decode cX7_sign_ 16 = .ok (.iadd, 1) := by decide +kernel
theorem dX7_sign__17 : decode cX7_sign_ 17 = .ok (.iaload, 1) := by decide +kernel
theorem dX7_sign__18 : decode cX7_sign_ 18 = .ok (.if_icmp .ge 15, 3) := by decide +kernel
theorem dX7_sign__21 : decode cX7_sign_ 21 = .ok (.aload_n 0, 1) := by decide +kernel
theorem dX7_sign__22 : decode cX7_sign_ 22 = .ok (.getfield 7, 3) := by decide +kernel
theorem dX7_sign__25 : decode cX7_sign_ 25 = .ok (.iload_n 1, 1) := by decide +kernel
theorem dX7_sign__26 : decode cX7_sign_ 26 = .ok (.iload_n 2, 1) := by decide +kernel
theorem dX7_sign__27 : decode cX7_sign_ 27 = .ok (.invokestatic 41, 3) := by decide +kernel
theorem dX7_sign__30 : decode cX7_sign_ 30 = .ok (.goto 4, 3) := by decide +kernel
theorem dX7_sign__33 : decode cX7_sign_ 33 = .ok (.iconst (-1), 1) := by decide +kernel
theorem dX7_sign__34 : decode cX7_sign_ 34 = .ok (.ireturn, 1) := by decide +kernel
theorem dX7_widest_0 : decode cX7_widest 0 = .ok (.aload_n 0, 1) := by decide +kernel
theorem dX7_widest_1 : decode cX7_widest 1 = .ok (.getfield 7, 3) := by decide +kernel
theorem dX7_widest_4 : decode cX7_widest 4 = .ok (.iload_n 1, 1) := by decide +kernel
theorem dX7_widest_5 : decode cX7_widest 5 = .ok (.iload_n 2, 1) := by decide +kernel
theorem dX7_widest_6 : decode cX7_widest 6 = .ok (.invokestatic 68, 3) := by decide +kernel
theorem dX7_widest_9 : decode cX7_widest 9 = .ok (.aload_n 0, 1) := by decide +kernel
theorem dX7_widest_10 : decode cX7_widest 10 = .ok (.getfield 7, 3) := by decide +kernel
theorem dX7_widest_13 : decode cX7_widest 13 = .ok (.iconst 2, 1) := by decide +kernel
theorem dX7_widest_14 : decode cX7_widest 14 = .ok (.iaload, 1) := by decide +kernel
theorem dX7_widest_15 : decode cX7_widest 15 = .ok (.if_icmp .ge 6, 3) := by decide +kernel
theorem dX7_widest_18 : decode cX7_widest 18 = .ok (.bipush (-9), 2) := by decide +kernel
theorem dX7_widest_20 : decode cX7_widest 20 = .ok (.ireturn, 1) := by decide +kernel
theorem dX7_widest_21 : decode cX7_widest 21 = .ok (.aload_n 0, 1) := by decide +kernel
theorem dX7_widest_22 : decode cX7_widest 22 = .ok (.getfield 7, 3) := by decide +kernel
theorem dX7_widest_25 : decode cX7_widest 25 = .ok (.sipush 303, 3) := by decide +kernel
theorem dX7_widest_28 : decode cX7_widest 28 = .ok (.iload_n 2, 1) := by decide +kernel
theorem dX7_widest_29 : decode cX7_widest 29 = .ok (.iadd, 1) := by decide +kernel
theorem dX7_widest_30 : decode cX7_widest 30 = .ok (.iaload, 1) := by decide +kernel
theorem dX7_widest_31 : decode cX7_widest 31 = .ok (.iconst 3, 1) := by decide +kernel
theorem dX7_widest_32 : decode cX7_widest 32 = .ok (.if_icmp .ne 7, 3) := by decide +kernel
theorem dX7_widest_35 : decode cX7_widest 35 = .ok (.iconst 1, 1) := by decide +kernel
theorem dX7_widest_36 : decode cX7_widest 36 = .ok (.goto 4, 3) := by decide +kernel
theorem dX7_widest_39 : decode cX7_widest 39 = .ok (.iconst 0, 1) := by decide +kernel
theorem dX7_widest_40 : decode cX7_widest 40 = .ok (.istore_n 3, 1) := by decide +kernel
theorem dX7_widest_41 : decode cX7_widest 41 = .ok (.aload_n 0, 1) := by decide +kernel
theorem dX7_widest_42 : decode cX7_widest 42 = .ok (.getfield 7, 3) := by decide +kernel
theorem dX7_widest_45 : decode cX7_widest 45 = .ok (.iload_n 1, 1) := by decide +kernel
theorem dX7_widest_46 : decode cX7_widest 46 = .ok (.iload_n 2, 1) := by decide +kernel
theorem dX7_widest_47 : decode cX7_widest 47 = .ok (.iload_n 3, 1) := by decide +kernel
theorem dX7_widest_48 : decode cX7_widest 48 = .ok (.ifCond .eq 7, 3) := by decide +kernel
theorem dX7_widest_51 : decode cX7_widest 51 = .ok (.iconst 1, 1) := by decide +kernel
theorem dX7_widest_52 : decode cX7_widest 52 = .ok (.goto 4, 3) := by decide +kernel
theorem dX7_widest_55 : decode cX7_widest 55 = .ok (.iconst 0, 1) := by decide +kernel
theorem dX7_widest_56 : decode cX7_widest 56 = .ok (.invokestatic 64, 3) := by decide +kernel
theorem dX7_widest_59 : decode cX7_widest 59 = .ok (.istore 4, 2) := by decide +kernel
theorem dX7_widest_61 : decode cX7_widest 61 = .ok (.aload_n 0, 1) := by decide +kernel
theorem dX7_widest_62 : decode cX7_widest 62 = .ok (.getfield 7, 3) := by decide +kernel
theorem dX7_widest_65 : decode cX7_widest 65 = .ok (.iload_n 1, 1) := by decide +kernel
theorem dX7_widest_66 : decode cX7_widest 66 = .ok (.iload_n 2, 1) := by decide +kernel
theorem dX7_widest_67 : decode cX7_widest 67 = .ok (.invokestatic 58, 3) := by decide +kernel
theorem dX7_widest_70 : decode cX7_widest 70 = .ok (.istore 5, 2) := by decide +kernel
theorem dX7_widest_72 : decode cX7_widest 72 = .ok (.iload_n 3, 1) := by decide +kernel
theorem dX7_widest_73 : decode cX7_widest 73 = .ok (.ifCond .eq 16, 3) := by decide +kernel
theorem dX7_widest_76 : decode cX7_widest 76 = .ok (.aload_n 0, 1) := by decide +kernel
theorem dX7_widest_77 : decode cX7_widest 77 = .ok (.getfield 7, 3) := by decide +kernel
theorem dX7_widest_80 : decode cX7_widest 80 = .ok (.iload 5, 2) := by decide +kernel
theorem dX7_widest_82 : decode cX7_widest 82 = .ok (.iload_n 2, 1) := by decide +kernel
theorem dX7_widest_83 : decode cX7_widest 83 = .ok (.invokestatic 61, 3) := by decide +kernel
theorem dX7_widest_86 : decode cX7_widest 86 = .ok (.goto 13, 3) := by decide +kernel
theorem dX7_widest_89 : decode cX7_widest 89 = .ok (.aload_n 0, 1) := by decide +kernel
theorem dX7_widest_90 : decode cX7_widest 90 = .ok (.getfield 7, 3) := by decide +kernel
theorem dX7_widest_93 : decode cX7_widest 93 = .ok (.iload 5, 2) := by decide +kernel
theorem dX7_widest_95 : decode cX7_widest 95 = .ok (.iload_n 2, 1) := by decide +kernel
theorem dX7_widest_96 : decode cX7_widest 96 = .ok (.invokestatic 48, 3) := by decide +kernel
theorem dX7_widest_99 : decode cX7_widest 99 = .ok (.iload 4, 2) := by decide +kernel
theorem dX7_widest_101 : decode cX7_widest 101 = .ok (.if_icmp .ge 9, 3) := by decide +kernel
theorem dX7_widest_104 : decode cX7_widest 104 = .ok (.iinc 5 1, 3) := by decide +kernel
theorem dX7_widest_107 : decode cX7_widest 107 = .ok (.goto (-35), 3) := by decide +kernel
theorem dX7_widest_110 : decode cX7_widest 110 = .ok (.iload 5, 2) := by decide +kernel
theorem dX7_widest_112 : decode cX7_widest 112 = .ok (.ireturn, 1) := by decide +kernel
theorem dX7_saves_0 : decode cX7_saves 0 = .ok (.aload_n 0, 1) := by decide +kernel
theorem dX7_saves_1 : decode cX7_saves 1 = .ok (.getfield 7, 3) := by decide +kernel
theorem dX7_saves_4 : decode cX7_saves 4 = .ok (.iload_n 1, 1) := by decide +kernel
theorem dX7_saves_5 : decode cX7_saves 5 = .ok (.iload_n 2, 1) := by decide +kernel
theorem dX7_saves_6 : decode cX7_saves 6 = .ok (.invokestatic 48, 3) := by decide +kernel
theorem dX7_saves_9 : decode cX7_saves 9 = .ok (.istore_n 3, 1) := by decide +kernel
theorem dX7_saves_10 : decode cX7_saves 10 = .ok (.iload_n 3, 1) := by decide +kernel
theorem dX7_saves_11 : decode cX7_saves 11 = .ok (.ifCond .ne 5, 3) := by decide +kernel
theorem dX7_saves_14 : decode cX7_saves 14 = .ok (.iconst 0, 1) := by decide +kernel
theorem dX7_saves_15 : decode cX7_saves 15 = .ok (.ireturn, 1) := by decide +kernel
theorem dX7_saves_16 : decode cX7_saves 16 = .ok (.aload_n 0, 1) := by decide +kernel
theorem dX7_saves_17 : decode cX7_saves 17 = .ok (.getfield 7, 3) := by decide +kernel
theorem dX7_saves_20 : decode cX7_saves 20 = .ok (.aload_n 0, 1) := by decide +kernel
theorem dX7_saves_21 : decode cX7_saves 21 = .ok (.getfield 13, 3) := by decide +kernel
theorem dX7_saves_24 : decode cX7_saves 24 = .ok (.invokestatic 84, 3) := by decide +kernel
theorem dX7_saves_27 : decode cX7_saves 27 = .ok (.aload_n 0, 1) := by decide +kernel
theorem dX7_saves_28 : decode cX7_saves 28 = .ok (.getfield 13, 3) := by decide +kernel
theorem dX7_saves_31 : decode cX7_saves 31 = .ok (.iconst 3, 1) := by decide +kernel
theorem dX7_saves_32 : decode cX7_saves 32 = .ok (.iload_n 1, 1) := by decide +kernel
theorem dX7_saves_33 : decode cX7_saves 33 = .ok (.iadd, 1) := by decide +kernel
theorem dX7_saves_34 : decode cX7_saves 34 = .ok (.dup2, 1) := by decide +kernel
theorem dX7_saves_35 : decode cX7_saves 35 = .ok (.iaload, 1) := by decide +kernel
theorem dX7_saves_36 : decode cX7_saves 36 = .ok (.iconst 1, 1) := by decide +kernel
theorem dX7_saves_37 : decode cX7_saves 37 = .ok (.isub, 1) := by decide +kernel
theorem dX7_saves_38 : decode cX7_saves 38 = .ok (.iastore, 1) := by decide +kernel
theorem dX7_saves_39 : decode cX7_saves 39 = .ok (.aload_n 0, 1) := by decide +kernel
theorem dX7_saves_40 : decode cX7_saves 40 = .ok (.getfield 7, 3) := by decide +kernel
theorem dX7_saves_43 : decode cX7_saves 43 = .ok (.iload_n 1, 1) := by decide +kernel
theorem dX7_saves_44 : decode cX7_saves 44 = .ok (.iload_n 2, 1) := by decide +kernel
theorem dX7_saves_45 : decode cX7_saves 45 = .ok (.invokestatic 45, 3) := by decide +kernel
theorem dX7_saves_48 : decode cX7_saves 48 = .ok (.iload_n 3, 1) := by decide +kernel
theorem dX7_saves_49 : decode cX7_saves 49 = .ok (.iadd, 1) := by decide +kernel
theorem dX7_saves_50 : decode cX7_saves 50 = .ok (.iconst 1, 1) := by decide +kernel
theorem dX7_saves_51 : decode cX7_saves 51 = .ok (.isub, 1) := by decide +kernel
theorem dX7_saves_52 : decode cX7_saves 52 = .ok (.istore 4, 2) := by decide +kernel
theorem dX7_saves_54 : decode cX7_saves 54 = .ok (.iload 4, 2) := by decide +kernel
theorem dX7_saves_56 : decode cX7_saves 56 = .ok (.aload_n 0, 1) := by decide +kernel
theorem dX7_saves_57 : decode cX7_saves 57 = .ok (.getfield 13, 3) := by decide +kernel
theorem dX7_saves_60 : decode cX7_saves 60 = .ok (.iconst 3, 1) := by decide +kernel
theorem dX7_saves_61 : decode cX7_saves 61 = .ok (.iload_n 1, 1) := by decide +kernel
theorem dX7_saves_62 : decode cX7_saves 62 = .ok (.iadd, 1) := by decide +kernel
theorem dX7_saves_63 : decode cX7_saves 63 = .ok (.iaload, 1) := by decide +kernel
theorem dX7_saves_64 : decode cX7_saves 64 = .ok (.if_icmp .ge 36, 3) := by decide +kernel
theorem dX7_saves_67 : decode cX7_saves 67 = .ok (.aload_n 0, 1) := by decide +kernel
theorem dX7_saves_68 : decode cX7_saves 68 = .ok (.getfield 13, 3) := by decide +kernel
theorem dX7_saves_71 : decode cX7_saves 71 = .ok (.bipush 15, 2) := by decide +kernel
theorem dX7_saves_73 : decode cX7_saves 73 = .ok (.bipush 24, 2) := by decide +kernel
theorem dX7_saves_75 : decode cX7_saves 75 = .ok (.iload_n 1, 1) := by decide +kernel
theorem dX7_saves_76 : decode cX7_saves 76 = .ok (.imul, 1) := by decide +kernel
theorem dX7_saves_77 : decode cX7_saves 77 = .ok (.iadd, 1) := by decide +kernel
theorem dX7_saves_78 : decode cX7_saves 78 = .ok (.iload 4, 2) := by decide +kernel
theorem dX7_saves_80 : decode cX7_saves 80 = .ok (.iadd, 1) := by decide +kernel
theorem dX7_saves_81 : decode cX7_saves 81 = .ok (.aload_n 0, 1) := by decide +kernel
theorem dX7_saves_82 : decode cX7_saves 82 = .ok (.getfield 7, 3) := by decide +kernel
theorem dX7_saves_85 : decode cX7_saves 85 = .ok (.iload_n 1, 1) := by decide +kernel
theorem dX7_saves_86 : decode cX7_saves 86 = .ok (.iload 4, 2) := by decide +kernel
theorem dX7_saves_88 : decode cX7_saves 88 = .ok (.iconst 1, 1) := by decide +kernel
theorem dX7_saves_89 : decode cX7_saves 89 = .ok (.iadd, 1) := by decide +kernel
theorem dX7_saves_90 : decode cX7_saves 90 = .ok (.invokestatic 41, 3) := by decide +kernel
theorem dX7_saves_93 : decode cX7_saves 93 = .ok (.iastore, 1) := by decide +kernel
theorem dX7_saves_94 : decode cX7_saves 94 = .ok (.iinc 4 1, 3) := by decide +kernel
theorem dX7_saves_97 : decode cX7_saves 97 = .ok (.goto (-43), 3) := by decide +kernel
theorem dX7_saves_100 : decode cX7_saves 100 = .ok (.aload_n 0, 1) := by decide +kernel
theorem dX7_saves_101 : decode cX7_saves 101 = .ok (.getfield 7, 3) := by decide +kernel
theorem dX7_saves_104 : decode cX7_saves 104 = .ok (.invokestatic 222, 3) := by decide +kernel
theorem dX7_saves_107 : decode cX7_saves 107 = .ok (.aload_n 0, 1) := by decide +kernel
theorem dX7_saves_108 : decode cX7_saves 108 = .ok (.getfield 13, 3) := by decide +kernel
theorem dX7_saves_111 : decode cX7_saves 111 = .ok (.invokestatic 222, 3) := by decide +kernel
theorem dX7_saves_114 : decode cX7_saves 114 = .ok (.isub, 1) := by decide +kernel
theorem dX7_saves_115 : decode cX7_saves 115 = .ok (.ireturn, 1) := by decide +kernel
theorem dX7_cell_0 : decode cX7_cell 0 = .ok (.aload_n 0, 1) := by decide +kernel
theorem dX7_cell_1 : decode cX7_cell 1 = .ok (.iload_n 1, 1) := by decide +kernel
theorem dX7_cell_2 : decode cX7_cell 2 = .ok (.invokevirtual 102, 3) := by decide +kernel
theorem dX7_cell_5 : decode cX7_cell 5 = .ok (.ifCond .eq 21, 3) := by decide +kernel
theorem dX7_cell_8 : decode cX7_cell 8 = .ok (.iload_n 2, 1) := by decide +kernel
theorem dX7_cell_9 : decode cX7_cell 9 = .ok (.iconst 0, 1) := by decide +kernel
theorem dX7_cell_10 : decode cX7_cell 10 = .ok (.aload_n 0, 1) := by decide +kernel
theorem dX7_cell_11 : decode cX7_cell 11 = .ok (.getfield 7, 3) := by decide +kernel
theorem dX7_cell_14 : decode cX7_cell 14 = .ok (.iload_n 1, 1) := by decide +kernel
theorem dX7_cell_15 : decode cX7_cell 15 = .ok (.invokestatic 51, 3) := by decide +kernel
theorem dX7_cell_18 : decode cX7_cell 18 = .ok (.iconst 1, 1) := by decide +kernel
theorem dX7_cell_19 : decode cX7_cell 19 = .ok (.isub, 1) := by decide +kernel
theorem dX7_cell_20 : decode cX7_cell 20 = .ok (.invokestatic 80, 3) := by decide +kernel
theorem dX7_cell_23 : decode cX7_cell 23 = .ok (.ifCond .ne 5, 3) := by decide +kernel
theorem dX7_cell_26 : decode cX7_cell 26 = .ok (.iconst (-1), 1) := by decide +kernel
theorem dX7_cell_27 : decode cX7_cell 27 = .ok (.ireturn, 1) := by decide +kernel
theorem dX7_cell_28 : decode cX7_cell 28 = .ok (.iload_n 3, 1) := by decide +kernel
theorem dX7_cell_29 : decode cX7_cell 29 = .ok (.tableswitch 107 0 6 #[43, 53, 63, 73, 83, 93, 100], 43) := by decide +kernel
theorem dX7_cell_72 : decode cX7_cell 72 = .ok (.aload_n 0, 1) := by decide +kernel
theorem dX7_cell_73 : decode cX7_cell 73 = .ok (.getfield 7, 3) := by decide +kernel
theorem dX7_cell_76 : decode cX7_cell 76 = .ok (.iload_n 1, 1) := by decide +kernel
theorem dX7_cell_77 : decode cX7_cell 77 = .ok (.iload_n 2, 1) := by decide +kernel
theorem dX7_cell_78 : decode cX7_cell 78 = .ok (.invokestatic 48, 3) := by decide +kernel
theorem dX7_cell_81 : decode cX7_cell 81 = .ok (.ireturn, 1) := by decide +kernel
theorem dX7_cell_82 : decode cX7_cell 82 = .ok (.aload_n 0, 1) := by decide +kernel
theorem dX7_cell_83 : decode cX7_cell 83 = .ok (.getfield 7, 3) := by decide +kernel
theorem dX7_cell_86 : decode cX7_cell 86 = .ok (.iload_n 1, 1) := by decide +kernel
theorem dX7_cell_87 : decode cX7_cell 87 = .ok (.iload_n 2, 1) := by decide +kernel
theorem dX7_cell_88 : decode cX7_cell 88 = .ok (.invokestatic 71, 3) := by decide +kernel
theorem dX7_cell_91 : decode cX7_cell 91 = .ok (.ireturn, 1) := by decide +kernel
theorem dX7_cell_92 : decode cX7_cell 92 = .ok (.aload_n 0, 1) := by decide +kernel
theorem dX7_cell_93 : decode cX7_cell 93 = .ok (.getfield 7, 3) := by decide +kernel
theorem dX7_cell_96 : decode cX7_cell 96 = .ok (.iload_n 1, 1) := by decide +kernel
theorem dX7_cell_97 : decode cX7_cell 97 = .ok (.iload_n 2, 1) := by decide +kernel
theorem dX7_cell_98 : decode cX7_cell 98 = .ok (.invokestatic 74, 3) := by decide +kernel
theorem dX7_cell_101 : decode cX7_cell 101 = .ok (.ireturn, 1) := by decide +kernel
theorem dX7_cell_102 : decode cX7_cell 102 = .ok (.aload_n 0, 1) := by decide +kernel
theorem dX7_cell_103 : decode cX7_cell 103 = .ok (.getfield 7, 3) := by decide +kernel
theorem dX7_cell_106 : decode cX7_cell 106 = .ok (.iload_n 1, 1) := by decide +kernel
theorem dX7_cell_107 : decode cX7_cell 107 = .ok (.iload_n 2, 1) := by decide +kernel
theorem dX7_cell_108 : decode cX7_cell 108 = .ok (.invokestatic 58, 3) := by decide +kernel
theorem dX7_cell_111 : decode cX7_cell 111 = .ok (.ireturn, 1) := by decide +kernel
theorem dX7_cell_112 : decode cX7_cell 112 = .ok (.aload_n 0, 1) := by decide +kernel
theorem dX7_cell_113 : decode cX7_cell 113 = .ok (.getfield 7, 3) := by decide +kernel
theorem dX7_cell_116 : decode cX7_cell 116 = .ok (.iload_n 1, 1) := by decide +kernel
theorem dX7_cell_117 : decode cX7_cell 117 = .ok (.iload_n 2, 1) := by decide +kernel
theorem dX7_cell_118 : decode cX7_cell 118 = .ok (.invokestatic 55, 3) := by decide +kernel
theorem dX7_cell_121 : decode cX7_cell 121 = .ok (.ireturn, 1) := by decide +kernel
theorem dX7_cell_122 : decode cX7_cell 122 = .ok (.aload_n 0, 1) := by decide +kernel
theorem dX7_cell_123 : decode cX7_cell 123 = .ok (.iload_n 1, 1) := by decide +kernel
theorem dX7_cell_124 : decode cX7_cell 124 = .ok (.iload_n 2, 1) := by decide +kernel
theorem dX7_cell_125 : decode cX7_cell 125 = .ok (.invokevirtual 226, 3) := by decide +kernel
theorem dX7_cell_128 : decode cX7_cell 128 = .ok (.ireturn, 1) := by decide +kernel
theorem dX7_cell_129 : decode cX7_cell 129 = .ok (.aload_n 0, 1) := by decide +kernel
theorem dX7_cell_130 : decode cX7_cell 130 = .ok (.iload_n 1, 1) := by decide +kernel
theorem dX7_cell_131 : decode cX7_cell 131 = .ok (.iload_n 2, 1) := by decide +kernel
theorem dX7_cell_132 : decode cX7_cell 132 = .ok (.invokevirtual 229, 3) := by decide +kernel
theorem dX7_cell_135 : decode cX7_cell 135 = .ok (.ireturn, 1) := by decide +kernel
theorem dX7_cell_136 : decode cX7_cell 136 = .ok (.iconst (-1), 1) := by decide +kernel
theorem dX7_cell_137 : decode cX7_cell 137 = .ok (.ireturn, 1) := by decide +kernel
theorem dX7_startOf_0 : decode cX7_startOf 0 = .ok (.aload_n 0, 1) := by decide +kernel
theorem dX7_startOf_1 : decode cX7_startOf 1 = .ok (.getfield 7, 3) := by decide +kernel
theorem dX7_startOf_4 : decode cX7_startOf 4 = .ok (.iload_n 1, 1) := by decide +kernel
theorem dX7_startOf_5 : decode cX7_startOf 5 = .ok (.iload_n 2, 1) := by decide +kernel
theorem dX7_startOf_6 : decode cX7_startOf 6 = .ok (.invokestatic 74, 3) := by decide +kernel
theorem dX7_startOf_9 : decode cX7_startOf 9 = .ok (.istore_n 3, 1) := by decide +kernel
theorem dX7_startOf_10 : decode cX7_startOf 10 = .ok (.iload_n 2, 1) := by decide +kernel
theorem dX7_startOf_11 : decode cX7_startOf 11 = .ok (.aload_n 0, 1) := by decide +kernel
theorem dX7_startOf_12 : decode cX7_startOf 12 = .ok (.getfield 7, 3) := by decide +kernel
theorem dX7_startOf_15 : decode cX7_startOf 15 = .ok (.iload_n 1, 1) := by decide +kernel
theorem dX7_startOf_16 : decode cX7_startOf 16 = .ok (.invokestatic 51, 3) := by decide +kernel
theorem dX7_startOf_19 : decode cX7_startOf 19 = .ok (.if_icmp .ne 5, 3) := by decide +kernel
theorem dX7_startOf_22 : decode cX7_startOf 22 = .ok (.iload_n 3, 1) := by decide +kernel
theorem dX7_startOf_23 : decode cX7_startOf 23 = .ok (.ireturn, 1) := by decide +kernel
theorem dX7_startOf_24 : decode cX7_startOf 24 = .ok (.aload_n 0, 1) := by decide +kernel
theorem dX7_startOf_25 : decode cX7_startOf 25 = .ok (.getfield 7, 3) := by decide +kernel
theorem dX7_startOf_28 : decode cX7_startOf 28 = .ok (.iload_n 1, 1) := by decide +kernel
theorem dX7_startOf_29 : decode cX7_startOf 29 = .ok (.iload_n 2, 1) := by decide +kernel
theorem dX7_startOf_30 : decode cX7_startOf 30 = .ok (.invokestatic 71, 3) := by decide +kernel
theorem dX7_startOf_33 : decode cX7_startOf 33 = .ok (.aload_n 0, 1) := by decide +kernel
theorem dX7_startOf_34 : decode cX7_startOf 34 = .ok (.getfield 7, 3) := by decide +kernel
theorem dX7_startOf_37 : decode cX7_startOf 37 = .ok (.iconst 1, 1) := by decide +kernel
theorem dX7_startOf_38 : decode cX7_startOf 38 = .ok (.iaload, 1) := by decide +kernel
theorem dX7_startOf_39 : decode cX7_startOf 39 = .ok (.isub, 1) := by decide +kernel
theorem dX7_startOf_40 : decode cX7_startOf 40 = .ok (.aload_n 0, 1) := by decide +kernel
theorem dX7_startOf_41 : decode cX7_startOf 41 = .ok (.getfield 7, 3) := by decide +kernel
theorem dX7_startOf_44 : decode cX7_startOf 44 = .ok (.iload_n 1, 1) := by decide +kernel
theorem dX7_startOf_45 : decode cX7_startOf 45 = .ok (.iload_n 2, 1) := by decide +kernel
theorem dX7_startOf_46 : decode cX7_startOf 46 = .ok (.invokestatic 48, 3) := by decide +kernel
theorem dX7_startOf_49 : decode cX7_startOf 49 = .ok (.isub, 1) := by decide +kernel
theorem dX7_startOf_50 : decode cX7_startOf 50 = .ok (.istore 4, 2) := by decide +kernel
theorem dX7_startOf_52 : decode cX7_startOf 52 = .ok (.aload_n 0, 1) := by decide +kernel
theorem dX7_startOf_53 : decode cX7_startOf 53 = .ok (.getfield 7, 3) := by decide +kernel
theorem dX7_startOf_56 : decode cX7_startOf 56 = .ok (.sipush 303, 3) := by decide +kernel
theorem dX7_startOf_59 : decode cX7_startOf 59 = .ok (.iload_n 2, 1) := by decide +kernel
theorem dX7_startOf_60 : decode cX7_startOf 60 = .ok (.iadd, 1) := by decide +kernel
theorem dX7_startOf_61 : decode cX7_startOf 61 = .ok (.iaload, 1) := by decide +kernel
theorem dX7_startOf_62 : decode cX7_startOf 62 = .ok (.tableswitch 61 1 3 #[26, 31, 38], 26) := by decide +kernel
theorem dX7_startOf_88 : decode cX7_startOf 88 = .ok (.iload_n 3, 1) := by decide +kernel
theorem dX7_startOf_89 : decode cX7_startOf 89 = .ok (.iload 4, 2) := by decide +kernel
theorem dX7_startOf_91 : decode cX7_startOf 91 = .ok (.iadd, 1) := by decide +kernel
theorem dX7_startOf_92 : decode cX7_startOf 92 = .ok (.ireturn, 1) := by decide +kernel
theorem dX7_startOf_93 : decode cX7_startOf 93 = .ok (.iload_n 3, 1) := by decide +kernel
theorem dX7_startOf_94 : decode cX7_startOf 94 = .ok (.iload 4, 2) := by decide +kernel
theorem dX7_startOf_96 : decode cX7_startOf 96 = .ok (.iconst 2, 1) := by decide +kernel
theorem dX7_startOf_97 : decode cX7_startOf 97 = .ok (.idiv, 1) := by decide +kernel
theorem dX7_startOf_98 : decode cX7_startOf 98 = .ok (.iadd, 1) := by decide +kernel
theorem dX7_startOf_99 : decode cX7_startOf 99 = .ok (.ireturn, 1) := by decide +kernel
theorem dX7_startOf_100 : decode cX7_startOf 100 = .ok (.iload_n 3, 1) := by decide +kernel
theorem dX7_startOf_101 : decode cX7_startOf 101 = .ok (.aload_n 0, 1) := by decide +kernel
theorem dX7_startOf_102 : decode cX7_startOf 102 = .ok (.getfield 7, 3) := by decide +kernel
theorem dX7_startOf_105 : decode cX7_startOf 105 = .ok (.iload_n 1, 1) := by decide +kernel
theorem dX7_startOf_106 : decode cX7_startOf 106 = .ok (.iload_n 2, 1) := by decide +kernel
theorem dX7_startOf_107 : decode cX7_startOf 107 = .ok (.iconst 1, 1) := by decide +kernel
theorem dX7_startOf_108 : decode cX7_startOf 108 = .ok (.invokestatic 64, 3) := by decide +kernel
theorem dX7_startOf_111 : decode cX7_startOf 111 = .ok (.iadd, 1) := by decide +kernel
theorem dX7_startOf_112 : decode cX7_startOf 112 = .ok (.aload_n 0, 1) := by decide +kernel
theorem dX7_startOf_113 : decode cX7_startOf 113 = .ok (.getfield 7, 3) := by decide +kernel
theorem dX7_startOf_116 : decode cX7_startOf 116 = .ok (.iload_n 1, 1) := by decide +kernel
theorem dX7_startOf_117 : decode cX7_startOf 117 = .ok (.iload_n 2, 1) := by decide +kernel
theorem dX7_startOf_118 : decode cX7_startOf 118 = .ok (.invokestatic 61, 3) := by decide +kernel
theorem dX7_startOf_121 : decode cX7_startOf 121 = .ok (.isub, 1) := by decide +kernel
theorem dX7_startOf_122 : decode cX7_startOf 122 = .ok (.ireturn, 1) := by decide +kernel
theorem dX7_startOf_123 : decode cX7_startOf 123 = .ok (.iload_n 3, 1) := by decide +kernel
theorem dX7_startOf_124 : decode cX7_startOf 124 = .ok (.ireturn, 1) := by decide +kernel
theorem dX7_shownAt_0 : decode cX7_shownAt 0 = .ok (.aload_n 0, 1) := by decide +kernel
theorem dX7_shownAt_1 : decode cX7_shownAt 1 = .ok (.getfield 7, 3) := by decide +kernel
theorem dX7_shownAt_4 : decode cX7_shownAt 4 = .ok (.iload_n 1, 1) := by decide +kernel
theorem dX7_shownAt_5 : decode cX7_shownAt 5 = .ok (.invokestatic 51, 3) := by decide +kernel
theorem dX7_shownAt_8 : decode cX7_shownAt 8 = .ok (.istore_n 3, 1) := by decide +kernel
theorem dX7_shownAt_9 : decode cX7_shownAt 9 = .ok (.iconst 0, 1) := by decide +kernel
theorem dX7_shownAt_10 : decode cX7_shownAt 10 = .ok (.istore 4, 2) := by decide +kernel
theorem dX7_shownAt_12 : decode cX7_shownAt 12 = .ok (.iload 4, 2) := by decide +kernel
theorem dX7_shownAt_14 : decode cX7_shownAt 14 = .ok (.iload_n 3, 1) := by decide +kernel
theorem dX7_shownAt_15 : decode cX7_shownAt 15 = .ok (.if_icmp .gt 63, 3) := by decide +kernel
theorem dX7_shownAt_18 : decode cX7_shownAt 18 = .ok (.iload_n 2, 1) := by decide +kernel
theorem dX7_shownAt_19 : decode cX7_shownAt 19 = .ok (.aload_n 0, 1) := by decide +kernel
theorem dX7_shownAt_20 : decode cX7_shownAt 20 = .ok (.iload_n 1, 1) := by decide +kernel
theorem dX7_shownAt_21 : decode cX7_shownAt 21 = .ok (.iload 4, 2) := by decide +kernel
theorem dX7_shownAt_23 : decode cX7_shownAt 23 = .ok (.invokevirtual 232, 3) := by decide +kernel
theorem dX7_shownAt_26 : decode cX7_shownAt 26 = .ok (.isub, 1) := by decide +kernel
theorem dX7_shownAt_27 : decode cX7_shownAt 27 = .ok (.istore 5, 2) := by decide +kernel
theorem dX7_shownAt_29 : decode cX7_shownAt 29 = .ok (.iload 5, 2) := by decide +kernel
theorem dX7_shownAt_31 : decode cX7_shownAt 31 = .ok (.iconst 0, 1) := by decide +kernel
theorem dX7_shownAt_32 : decode cX7_shownAt 32 = .ok (.aload_n 0, 1) := by decide +kernel
theorem dX7_shownAt_33 : decode cX7_shownAt 33 = .ok (.getfield 7, 3) := by decide +kernel
theorem dX7_shownAt_36 : decode cX7_shownAt 36 = .ok (.iload_n 1, 1) := by decide +kernel
theorem dX7_shownAt_37 : decode cX7_shownAt 37 = .ok (.iload 4, 2) := by decide +kernel
theorem dX7_shownAt_39 : decode cX7_shownAt 39 = .ok (.invokestatic 48, 3) := by decide +kernel
theorem dX7_shownAt_42 : decode cX7_shownAt 42 = .ok (.iconst 1, 1) := by decide +kernel
theorem dX7_shownAt_43 : decode cX7_shownAt 43 = .ok (.isub, 1) := by decide +kernel
theorem dX7_shownAt_44 : decode cX7_shownAt 44 = .ok (.invokestatic 80, 3) := by decide +kernel
theorem dX7_shownAt_47 : decode cX7_shownAt 47 = .ok (.ifCond .eq 25, 3) := by decide +kernel
theorem dX7_shownAt_50 : decode cX7_shownAt 50 = .ok (.aload_n 0, 1) := by decide +kernel
theorem dX7_shownAt_51 : decode cX7_shownAt 51 = .ok (.getfield 7, 3) := by decide +kernel
theorem dX7_shownAt_54 : decode cX7_shownAt 54 = .ok (.iload_n 1, 1) := by decide +kernel
theorem dX7_shownAt_55 : decode cX7_shownAt 55 = .ok (.aload_n 0, 1) := by decide +kernel
theorem dX7_shownAt_56 : decode cX7_shownAt 56 = .ok (.getfield 7, 3) := by decide +kernel
theorem dX7_shownAt_59 : decode cX7_shownAt 59 = .ok (.iload_n 1, 1) := by decide +kernel
theorem dX7_shownAt_60 : decode cX7_shownAt 60 = .ok (.iload 4, 2) := by decide +kernel
theorem dX7_shownAt_62 : decode cX7_shownAt 62 = .ok (.invokestatic 45, 3) := by decide +kernel
theorem dX7_shownAt_65 : decode cX7_shownAt 65 = .ok (.iload 5, 2) := by decide +kernel
theorem dX7_shownAt_67 : decode cX7_shownAt 67 = .ok (.iadd, 1) := by decide +kernel
theorem dX7_shownAt_68 : decode cX7_shownAt 68 = .ok (.invokestatic 41, 3) := by decide +kernel
theorem dX7_shownAt_71 : decode cX7_shownAt 71 = .ok (.ireturn, 1) := by decide +kernel
theorem dX7_shownAt_72 : decode cX7_shownAt 72 = .ok (.iinc 4 1, 3) := by decide +kernel
theorem dX7_shownAt_75 : decode cX7_shownAt 75 = .ok (.goto (-63), 3) := by decide +kernel
theorem dX7_shownAt_78 : decode cX7_shownAt 78 = .ok (.bipush 32, 2) := by decide +kernel
theorem dX7_shownAt_80 : decode cX7_shownAt 80 = .ok (.ireturn, 1) := by decide +kernel
theorem dX7_shown_0 : decode cX7_shown 0 = .ok (.aload_n 0, 1) := by decide +kernel
theorem dX7_shown_1 : decode cX7_shown 1 = .ok (.iload_n 1, 1) := by decide +kernel
theorem dX7_shown_2 : decode cX7_shown 2 = .ok (.invokevirtual 102, 3) := by decide +kernel
theorem dX7_shown_5 : decode cX7_shown 5 = .ok (.ifCond .eq 30, 3) := by decide +kernel
theorem dX7_shown_8 : decode cX7_shown 8 = .ok (.iload_n 2, 1) := by decide +kernel
theorem dX7_shown_9 : decode cX7_shown 9 = .ok (.iconst 0, 1) := by decide +kernel
theorem dX7_shown_10 : decode cX7_shown 10 = .ok (.aload_n 0, 1) := by decide +kernel
theorem dX7_shown_11 : decode cX7_shown 11 = .ok (.getfield 7, 3) := by decide +kernel
theorem dX7_shown_14 : decode cX7_shown 14 = .ok (.iload_n 1, 1) := by decide +kernel
theorem dX7_shown_15 : decode cX7_shown 15 = .ok (.invokestatic 77, 3) := by decide +kernel
theorem dX7_shown_18 : decode cX7_shown 18 = .ok (.iconst 1, 1) := by decide +kernel
theorem dX7_shown_19 : decode cX7_shown 19 = .ok (.isub, 1) := by decide +kernel
theorem dX7_shown_20 : decode cX7_shown 20 = .ok (.invokestatic 80, 3) := by decide +kernel
theorem dX7_shown_23 : decode cX7_shown 23 = .ok (.ifCond .eq 12, 3) := by decide +kernel
theorem dX7_shown_26 : decode cX7_shown 26 = .ok (.aload_n 0, 1) := by decide +kernel
theorem dX7_shown_27 : decode cX7_shown 27 = .ok (.iload_n 1, 1) := by decide +kernel
theorem dX7_shown_28 : decode cX7_shown 28 = .ok (.iload_n 2, 1) := by decide +kernel
theorem dX7_shown_29 : decode cX7_shown 29 = .ok (.invokevirtual 235, 3) := by decide +kernel
theorem dX7_shown_32 : decode cX7_shown 32 = .ok (.goto 4, 3) := by decide +kernel
theorem dX7_shown_35 : decode cX7_shown 35 = .ok (.iconst (-1), 1) := by decide +kernel
theorem dX7_shown_36 : decode cX7_shown 36 = .ok (.ireturn, 1) := by decide +kernel
theorem dX7_align_0 : decode cX7_align 0 = .ok (.iload_n 1, 1) := by decide +kernel
theorem dX7_align_1 : decode cX7_align 1 = .ok (.iconst 0, 1) := by decide +kernel
theorem dX7_align_2 : decode cX7_align 2 = .ok (.bipush 23, 2) := by decide +kernel
theorem dX7_align_4 : decode cX7_align 4 = .ok (.invokestatic 80, 3) := by decide +kernel
theorem dX7_align_7 : decode cX7_align 7 = .ok (.ifCond .eq 16, 3) := by decide +kernel
theorem dX7_align_10 : decode cX7_align 10 = .ok (.aload_n 0, 1) := by decide +kernel
theorem dX7_align_11 : decode cX7_align 11 = .ok (.getfield 7, 3) := by decide +kernel
theorem dX7_align_14 : decode cX7_align 14 = .ok (.sipush 303, 3) := by decide +kernel
theorem dX7_align_17 : decode cX7_align 17 = .ok (.iload_n 1, 1) := by decide +kernel
theorem dX7_align_18 : decode cX7_align 18 = .ok (.iadd, 1) := by decide +kernel
theorem dX7_align_19 : decode cX7_align 19 = .ok (.iaload, 1) := by decide +kernel
theorem dX7_align_20 : decode cX7_align 20 = .ok (.goto 4, 3) := by decide +kernel
theorem dX7_align_23 : decode cX7_align 23 = .ok (.iconst (-1), 1) := by decide +kernel
theorem dX7_align_24 : decode cX7_align 24 = .ok (.ireturn, 1) := by decide +kernel
theorem dX7_blocks_0 : decode cX7_blocks 0 = .ok (.iconst 0, 1) := by decide +kernel
theorem dX7_blocks_1 : decode cX7_blocks 1 = .ok (.istore_n 1, 1) := by decide +kernel
theorem dX7_blocks_2 : decode cX7_blocks 2 = .ok (.iconst 0, 1) := by decide +kernel
theorem dX7_blocks_3 : decode cX7_blocks 3 = .ok (.istore_n 2, 1) := by decide +kernel
theorem dX7_blocks_4 : decode cX7_blocks 4 = .ok (.iload_n 2, 1) := by decide +kernel
theorem dX7_blocks_5 : decode cX7_blocks 5 = .ok (.aload_n 0, 1) := by decide +kernel
theorem dX7_blocks_6 : decode cX7_blocks 6 = .ok (.getfield 7, 3) := by decide +kernel
theorem dX7_blocks_9 : decode cX7_blocks 9 = .ok (.iconst 0, 1) := by decide +kernel
theorem dX7_blocks_10 : decode cX7_blocks 10 = .ok (.iaload, 1) := by decide +kernel
theorem dX7_blocks_11 : decode cX7_blocks 11 = .ok (.if_icmp .ge 55, 3) := by decide +kernel
theorem dX7_blocks_14 : decode cX7_blocks 14 = .ok (.iload_n 2, 1) := by decide +kernel
theorem dX7_blocks_15 : decode cX7_blocks 15 = .ok (.ifCond .le 16, 3) := by decide +kernel
theorem dX7_blocks_18 : decode cX7_blocks 18 = .ok (.aload_n 0, 1) := by decide +kernel
theorem dX7_blocks_19 : decode cX7_blocks 19 = .ok (.getfield 7, 3) := by decide +kernel
theorem dX7_blocks_22 : decode cX7_blocks 22 = .ok (.iload_n 2, 1) := by decide +kernel
theorem dX7_blocks_23 : decode cX7_blocks 23 = .ok (.iconst 1, 1) := by decide +kernel
theorem dX7_blocks_24 : decode cX7_blocks 24 = .ok (.isub, 1) := by decide +kernel
theorem dX7_blocks_25 : decode cX7_blocks 25 = .ok (.invokestatic 51, 3) := by decide +kernel
theorem dX7_blocks_28 : decode cX7_blocks 28 = .ok (.goto 4, 3) := by decide +kernel
theorem dX7_blocks_31 : decode cX7_blocks 31 = .ok (.iconst 0, 1) := by decide +kernel
theorem dX7_blocks_32 : decode cX7_blocks 32 = .ok (.istore_n 3, 1) := by decide +kernel
theorem dX7_blocks_33 : decode cX7_blocks 33 = .ok (.aload_n 0, 1) := by decide +kernel
theorem dX7_blocks_34 : decode cX7_blocks 34 = .ok (.getfield 7, 3) := by decide +kernel
theorem dX7_blocks_37 : decode cX7_blocks 37 = .ok (.iload_n 2, 1) := by decide +kernel
theorem dX7_blocks_38 : decode cX7_blocks 38 = .ok (.invokestatic 51, 3) := by decide +kernel
theorem dX7_blocks_41 : decode cX7_blocks 41 = .ok (.istore 4, 2) := by decide +kernel
theorem dX7_blocks_43 : decode cX7_blocks 43 = .ok (.iload_n 1, 1) := by decide +kernel
theorem dX7_blocks_44 : decode cX7_blocks 44 = .ok (.iload 4, 2) := by decide +kernel
theorem dX7_blocks_46 : decode cX7_blocks 46 = .ok (.iload_n 3, 1) := by decide +kernel
theorem dX7_blocks_47 : decode cX7_blocks 47 = .ok (.if_icmp .le 10, 3) := by decide +kernel
theorem dX7_blocks_50 : decode cX7_blocks 50 = .ok (.iload 4, 2) := by decide +kernel
theorem dX7_blocks_52 : decode cX7_blocks 52 = .ok (.iload_n 3, 1) := by decide +kernel
theorem dX7_blocks_53 : decode cX7_blocks 53 = .ok (.isub, 1) := by decide +kernel
theorem dX7_blocks_54 : decode cX7_blocks 54 = .ok (.goto 4, 3) := by decide +kernel
theorem dX7_blocks_57 : decode cX7_blocks 57 = .ok (.iconst 0, 1) := by decide +kernel
theorem dX7_blocks_58 : decode cX7_blocks 58 = .ok (.iadd, 1) := by decide +kernel
theorem dX7_blocks_59 : decode cX7_blocks 59 = .ok (.istore_n 1, 1) := by decide +kernel
theorem dX7_blocks_60 : decode cX7_blocks 60 = .ok (.iinc 2 1, 3) := by decide +kernel
theorem dX7_blocks_63 : decode cX7_blocks 63 = .ok (.goto (-59), 3) := by decide +kernel
theorem dX7_blocks_66 : decode cX7_blocks 66 = .ok (.iload_n 1, 1) := by decide +kernel
theorem dX7_blocks_67 : decode cX7_blocks 67 = .ok (.ireturn, 1) := by decide +kernel
theorem dX7_widestLine_0 : decode cX7_widestLine 0 = .ok (.iconst 0, 1) := by decide +kernel
theorem dX7_widestLine_1 : decode cX7_widestLine 1 = .ok (.istore_n 1, 1) := by decide +kernel
theorem dX7_widestLine_2 : decode cX7_widestLine 2 = .ok (.iconst 0, 1) := by decide +kernel
theorem dX7_widestLine_3 : decode cX7_widestLine 3 = .ok (.istore_n 2, 1) := by decide +kernel
theorem dX7_widestLine_4 : decode cX7_widestLine 4 = .ok (.iload_n 2, 1) := by decide +kernel
theorem dX7_widestLine_5 : decode cX7_widestLine 5 = .ok (.aload_n 0, 1) := by decide +kernel
theorem dX7_widestLine_6 : decode cX7_widestLine 6 = .ok (.getfield 7, 3) := by decide +kernel
theorem dX7_widestLine_9 : decode cX7_widestLine 9 = .ok (.iconst 0, 1) := by decide +kernel
theorem dX7_widestLine_10 : decode cX7_widestLine 10 = .ok (.iaload, 1) := by decide +kernel
theorem dX7_widestLine_11 : decode cX7_widestLine 11 = .ok (.if_icmp .ge 34, 3) := by decide +kernel
theorem dX7_widestLine_14 : decode cX7_widestLine 14 = .ok (.aload_n 0, 1) := by decide +kernel
theorem dX7_widestLine_15 : decode cX7_widestLine 15 = .ok (.getfield 7, 3) := by decide +kernel
theorem dX7_widestLine_18 : decode cX7_widestLine 18 = .ok (.iload_n 2, 1) := by decide +kernel
theorem dX7_widestLine_19 : decode cX7_widestLine 19 = .ok (.invokestatic 77, 3) := by decide +kernel
theorem dX7_widestLine_22 : decode cX7_widestLine 22 = .ok (.iload_n 1, 1) := by decide +kernel
theorem dX7_widestLine_23 : decode cX7_widestLine 23 = .ok (.if_icmp .le 14, 3) := by decide +kernel
theorem dX7_widestLine_26 : decode cX7_widestLine 26 = .ok (.aload_n 0, 1) := by decide +kernel
theorem dX7_widestLine_27 : decode cX7_widestLine 27 = .ok (.getfield 7, 3) := by decide +kernel
theorem dX7_widestLine_30 : decode cX7_widestLine 30 = .ok (.iload_n 2, 1) := by decide +kernel
theorem dX7_widestLine_31 : decode cX7_widestLine 31 = .ok (.invokestatic 77, 3) := by decide +kernel
theorem dX7_widestLine_34 : decode cX7_widestLine 34 = .ok (.goto 4, 3) := by decide +kernel
theorem dX7_widestLine_37 : decode cX7_widestLine 37 = .ok (.iload_n 1, 1) := by decide +kernel
theorem dX7_widestLine_38 : decode cX7_widestLine 38 = .ok (.istore_n 1, 1) := by decide +kernel
theorem dX7_widestLine_39 : decode cX7_widestLine 39 = .ok (.iinc 2 1, 3) := by decide +kernel
theorem dX7_widestLine_42 : decode cX7_widestLine 42 = .ok (.goto (-38), 3) := by decide +kernel
theorem dX7_widestLine_45 : decode cX7_widestLine 45 = .ok (.iload_n 1, 1) := by decide +kernel
theorem dX7_widestLine_46 : decode cX7_widestLine 46 = .ok (.ireturn, 1) := by decide +kernel
theorem dX7_count_0 : decode cX7_count 0 = .ok (.iload_n 1, 1) := by decide +kernel
theorem dX7_count_1 : decode cX7_count 1 = .ok (.tableswitch 105 0 8 #[51, 58, 65, 72, 77, 82, 87, 95, 100], 51) := by decide +kernel
theorem dX7_count_52 : decode cX7_count 52 = .ok (.aload_n 0, 1) := by decide +kernel
theorem dX7_count_53 : decode cX7_count 53 = .ok (.getfield 7, 3) := by decide +kernel
theorem dX7_count_56 : decode cX7_count 56 = .ok (.iconst 0, 1) := by decide +kernel
theorem dX7_count_57 : decode cX7_count 57 = .ok (.iaload, 1) := by decide +kernel
theorem dX7_count_58 : decode cX7_count 58 = .ok (.ireturn, 1) := by decide +kernel
theorem dX7_count_59 : decode cX7_count 59 = .ok (.aload_n 0, 1) := by decide +kernel
theorem dX7_count_60 : decode cX7_count 60 = .ok (.getfield 7, 3) := by decide +kernel
theorem dX7_count_63 : decode cX7_count 63 = .ok (.iconst 1, 1) := by decide +kernel
theorem dX7_count_64 : decode cX7_count 64 = .ok (.iaload, 1) := by decide +kernel
theorem dX7_count_65 : decode cX7_count 65 = .ok (.ireturn, 1) := by decide +kernel
theorem dX7_count_66 : decode cX7_count 66 = .ok (.aload_n 0, 1) := by decide +kernel
theorem dX7_count_67 : decode cX7_count 67 = .ok (.getfield 7, 3) := by decide +kernel
theorem dX7_count_70 : decode cX7_count 70 = .ok (.iconst 2, 1) := by decide +kernel
theorem dX7_count_71 : decode cX7_count 71 = .ok (.iaload, 1) := by decide +kernel
theorem dX7_count_72 : decode cX7_count 72 = .ok (.ireturn, 1) := by decide +kernel
theorem dX7_count_73 : decode cX7_count 73 = .ok (.aload_n 0, 1) := by decide +kernel
theorem dX7_count_74 : decode cX7_count 74 = .ok (.getfield 95, 3) := by decide +kernel
theorem dX7_count_77 : decode cX7_count 77 = .ok (.ireturn, 1) := by decide +kernel
theorem dX7_count_78 : decode cX7_count 78 = .ok (.aload_n 0, 1) := by decide +kernel
theorem dX7_count_79 : decode cX7_count 79 = .ok (.invokevirtual 238, 3) := by decide +kernel
theorem dX7_count_82 : decode cX7_count 82 = .ok (.ireturn, 1) := by decide +kernel
theorem dX7_count_83 : decode cX7_count 83 = .ok (.aload_n 0, 1) := by decide +kernel
theorem dX7_count_84 : decode cX7_count 84 = .ok (.invokevirtual 241, 3) := by decide +kernel
theorem dX7_count_87 : decode cX7_count 87 = .ok (.ireturn, 1) := by decide +kernel
theorem dX7_count_88 : decode cX7_count 88 = .ok (.aload_n 0, 1) := by decide +kernel
theorem dX7_count_89 : decode cX7_count 89 = .ok (.getfield 7, 3) := by decide +kernel
theorem dX7_count_92 : decode cX7_count 92 = .ok (.invokestatic 222, 3) := by decide +kernel
theorem dX7_count_95 : decode cX7_count 95 = .ok (.ireturn, 1) := by decide +kernel
theorem dX7_count_96 : decode cX7_count 96 = .ok (.aload_n 0, 1) := by decide +kernel
theorem dX7_count_97 : decode cX7_count 97 = .ok (.getfield 92, 3) := by decide +kernel
theorem dX7_count_100 : decode cX7_count 100 = .ok (.ireturn, 1) := by decide +kernel
theorem dX7_count_101 : decode cX7_count 101 = .ok (.aload_n 0, 1) := by decide +kernel
theorem dX7_count_102 : decode cX7_count 102 = .ok (.getfield 129, 3) := by decide +kernel
theorem dX7_count_105 : decode cX7_count 105 = .ok (.ireturn, 1) := by decide +kernel
theorem dX7_count_106 : decode cX7_count 106 = .ok (.iconst (-1), 1) := by decide +kernel
theorem dX7_count_107 : decode cX7_count 107 = .ok (.ireturn, 1) := by decide +kernel
theorem dX7_digest_0 : decode cX7_digest 0 = .ok (.ldc2_w 244, 3) := by decide +kernel
theorem dX7_digest_3 : decode cX7_digest 3 = .ok (.lstore_n 1, 1) := by decide +kernel
theorem dX7_digest_4 : decode cX7_digest 4 = .ok (.iconst 0, 1) := by decide +kernel
theorem dX7_digest_5 : decode cX7_digest 5 = .ok (.istore_n 3, 1) := by decide +kernel
theorem dX7_digest_6 : decode cX7_digest 6 = .ok (.iload_n 3, 1) := by decide +kernel
theorem dX7_digest_7 : decode cX7_digest 7 = .ok (.aload_n 0, 1) := by decide +kernel
theorem dX7_digest_8 : decode cX7_digest 8 = .ok (.getfield 7, 3) := by decide +kernel
theorem dX7_digest_11 : decode cX7_digest 11 = .ok (.iconst 0, 1) := by decide +kernel
theorem dX7_digest_12 : decode cX7_digest 12 = .ok (.iaload, 1) := by decide +kernel
theorem dX7_digest_13 : decode cX7_digest 13 = .ok (.if_icmp .ge 60, 3) := by decide +kernel
theorem dX7_digest_16 : decode cX7_digest 16 = .ok (.aload_n 0, 1) := by decide +kernel
theorem dX7_digest_17 : decode cX7_digest 17 = .ok (.getfield 7, 3) := by decide +kernel
theorem dX7_digest_20 : decode cX7_digest 20 = .ok (.iload_n 3, 1) := by decide +kernel
theorem dX7_digest_21 : decode cX7_digest 21 = .ok (.invokestatic 77, 3) := by decide +kernel
theorem dX7_digest_24 : decode cX7_digest 24 = .ok (.istore 4, 2) := by decide +kernel
theorem dX7_digest_26 : decode cX7_digest 26 = .ok (.ldc2_w 246, 3) := by decide +kernel
theorem dX7_digest_29 : decode cX7_digest 29 = .ok (.lload_n 1, 1) := by decide +kernel
theorem dX7_digest_30 : decode cX7_digest 30 = .ok (.lmul, 1) := by decide +kernel
theorem dX7_digest_31 : decode cX7_digest 31 = .ok (.iload 4, 2) := by decide +kernel
theorem dX7_digest_33 : decode cX7_digest 33 = .ok (.i2l, 1) := by decide +kernel
theorem dX7_digest_34 : decode cX7_digest 34 = .ok (.ladd, 1) := by decide +kernel
theorem dX7_digest_35 : decode cX7_digest 35 = .ok (.lstore_n 1, 1) := by decide +kernel
theorem dX7_digest_36 : decode cX7_digest 36 = .ok (.iconst 0, 1) := by decide +kernel
theorem dX7_digest_37 : decode cX7_digest 37 = .ok (.istore 5, 2) := by decide +kernel
theorem dX7_digest_39 : decode cX7_digest 39 = .ok (.iload 5, 2) := by decide +kernel
theorem dX7_digest_41 : decode cX7_digest 41 = .ok (.iload 4, 2) := by decide +kernel
theorem dX7_digest_43 : decode cX7_digest 43 = .ok (.if_icmp .ge 24, 3) := by decide +kernel
theorem dX7_digest_46 : decode cX7_digest 46 = .ok (.ldc2_w 246, 3) := by decide +kernel
theorem dX7_digest_49 : decode cX7_digest 49 = .ok (.lload_n 1, 1) := by decide +kernel
theorem dX7_digest_50 : decode cX7_digest 50 = .ok (.lmul, 1) := by decide +kernel
theorem dX7_digest_51 : decode cX7_digest 51 = .ok (.aload_n 0, 1) := by decide +kernel
theorem dX7_digest_52 : decode cX7_digest 52 = .ok (.iload_n 3, 1) := by decide +kernel
theorem dX7_digest_53 : decode cX7_digest 53 = .ok (.iload 5, 2) := by decide +kernel
theorem dX7_digest_55 : decode cX7_digest 55 = .ok (.invokevirtual 235, 3) := by decide +kernel
theorem dX7_digest_58 : decode cX7_digest 58 = .ok (.i2l, 1) := by decide +kernel
theorem dX7_digest_59 : decode cX7_digest 59 = .ok (.ladd, 1) := by decide +kernel
theorem dX7_digest_60 : decode cX7_digest 60 = .ok (.lstore_n 1, 1) := by decide +kernel
theorem dX7_digest_61 : decode cX7_digest 61 = .ok (.iinc 5 1, 3) := by decide +kernel
theorem dX7_digest_64 : decode cX7_digest 64 = .ok (.goto (-25), 3) := by decide +kernel
theorem dX7_digest_67 : decode cX7_digest 67 = .ok (.iinc 3 1, 3) := by decide +kernel
theorem dX7_digest_70 : decode cX7_digest 70 = .ok (.goto (-64), 3) := by decide +kernel
theorem dX7_digest_73 : decode cX7_digest 73 = .ok (.lload_n 1, 1) := by decide +kernel
theorem dX7_digest_74 : decode cX7_digest 74 = .ok (.lreturn, 1) := by decide +kernel
theorem dX7_keep_0 : decode cX7_keep 0 = .ok (.iload_n 1, 1) := by decide +kernel
theorem dX7_keep_1 : decode cX7_keep 1 = .ok (.iconst 0, 1) := by decide +kernel
theorem dX7_keep_2 : decode cX7_keep 2 = .ok (.iconst 1, 1) := by decide +kernel
theorem dX7_keep_3 : decode cX7_keep 3 = .ok (.invokestatic 80, 3) := by decide +kernel
theorem dX7_keep_6 : decode cX7_keep 6 = .ok (.ifCond .ne 5, 3) := by decide +kernel
theorem dX7_keep_9 : decode cX7_keep 9 = .ok (.iconst (-1), 1) := by decide +kernel
theorem dX7_keep_10 : decode cX7_keep 10 = .ok (.ireturn, 1) := by decide +kernel
theorem dX7_keep_11 : decode cX7_keep 11 = .ok (.aload_n 0, 1) := by decide +kernel
theorem dX7_keep_12 : decode cX7_keep 12 = .ok (.getfield 25, 3) := by decide +kernel
theorem dX7_keep_15 : decode cX7_keep 15 = .ok (.iload_n 1, 1) := by decide +kernel
theorem dX7_keep_16 : decode cX7_keep 16 = .ok (.iconst 1, 1) := by decide +kernel
theorem dX7_keep_17 : decode cX7_keep 17 = .ok (.bastore, 1) := by decide +kernel
theorem dX7_keep_18 : decode cX7_keep 18 = .ok (.iconst 0, 1) := by decide +kernel
theorem dX7_keep_19 : decode cX7_keep 19 = .ok (.istore_n 2, 1) := by decide +kernel
theorem dX7_keep_20 : decode cX7_keep 20 = .ok (.iload_n 2, 1) := by decide +kernel
theorem dX7_keep_21 : decode cX7_keep 21 = .ok (.sipush 327, 3) := by decide +kernel
theorem dX7_keep_24 : decode cX7_keep 24 = .ok (.if_icmp .ge 27, 3) := by decide +kernel
theorem dX7_keep_27 : decode cX7_keep 27 = .ok (.aload_n 0, 1) := by decide +kernel
theorem dX7_keep_28 : decode cX7_keep 28 = .ok (.getfield 29, 3) := by decide +kernel
theorem dX7_keep_31 : decode cX7_keep 31 = .ok (.sipush 327, 3) := by decide +kernel
theorem dX7_keep_34 : decode cX7_keep 34 = .ok (.iload_n 1, 1) := by decide +kernel
theorem dX7_keep_35 : decode cX7_keep 35 = .ok (.imul, 1) := by decide +kernel
theorem dX7_keep_36 : decode cX7_keep 36 = .ok (.iload_n 2, 1) := by decide +kernel
theorem dX7_keep_37 : decode cX7_keep 37 = .ok (.iadd, 1) := by decide +kernel
theorem dX7_keep_38 : decode cX7_keep 38 = .ok (.aload_n 0, 1) := by decide +kernel
theorem dX7_keep_39 : decode cX7_keep 39 = .ok (.getfield 7, 3) := by decide +kernel
theorem dX7_keep_42 : decode cX7_keep 42 = .ok (.iload_n 2, 1) := by decide +kernel
theorem dX7_keep_43 : decode cX7_keep 43 = .ok (.iaload, 1) := by decide +kernel
theorem dX7_keep_44 : decode cX7_keep 44 = .ok (.iastore, 1) := by decide +kernel
theorem dX7_keep_45 : decode cX7_keep 45 = .ok (.iinc 2 1, 3) := by decide +kernel
theorem dX7_keep_48 : decode cX7_keep 48 = .ok (.goto (-28), 3) := by decide +kernel
theorem dX7_keep_51 : decode cX7_keep 51 = .ok (.iconst 0, 1) := by decide +kernel
theorem dX7_keep_52 : decode cX7_keep 52 = .ok (.istore_n 2, 1) := by decide +kernel
theorem dX7_keep_53 : decode cX7_keep 53 = .ok (.iload_n 2, 1) := by decide +kernel
theorem dX7_keep_54 : decode cX7_keep 54 = .ok (.sipush 3270, 3) := by decide +kernel
theorem dX7_keep_57 : decode cX7_keep 57 = .ok (.if_icmp .ge 27, 3) := by decide +kernel
theorem dX7_keep_60 : decode cX7_keep 60 = .ok (.aload_n 0, 1) := by decide +kernel
theorem dX7_keep_61 : decode cX7_keep 61 = .ok (.getfield 32, 3) := by decide +kernel
theorem dX7_keep_64 : decode cX7_keep 64 = .ok (.sipush 3270, 3) := by decide +kernel
theorem dX7_keep_67 : decode cX7_keep 67 = .ok (.iload_n 1, 1) := by decide +kernel
theorem dX7_keep_68 : decode cX7_keep 68 = .ok (.imul, 1) := by decide +kernel
theorem dX7_keep_69 : decode cX7_keep 69 = .ok (.iload_n 2, 1) := by decide +kernel
theorem dX7_keep_70 : decode cX7_keep 70 = .ok (.iadd, 1) := by decide +kernel
theorem dX7_keep_71 : decode cX7_keep 71 = .ok (.aload_n 0, 1) := by decide +kernel
theorem dX7_keep_72 : decode cX7_keep 72 = .ok (.getfield 19, 3) := by decide +kernel
theorem dX7_keep_75 : decode cX7_keep 75 = .ok (.iload_n 2, 1) := by decide +kernel
theorem dX7_keep_76 : decode cX7_keep 76 = .ok (.iaload, 1) := by decide +kernel
theorem dX7_keep_77 : decode cX7_keep 77 = .ok (.iastore, 1) := by decide +kernel
theorem dX7_keep_78 : decode cX7_keep 78 = .ok (.iinc 2 1, 3) := by decide +kernel
theorem dX7_keep_81 : decode cX7_keep 81 = .ok (.goto (-28), 3) := by decide +kernel
theorem dX7_keep_84 : decode cX7_keep 84 = .ok (.aload_n 0, 1) := by decide +kernel
theorem dX7_keep_85 : decode cX7_keep 85 = .ok (.getfield 35, 3) := by decide +kernel
theorem dX7_keep_88 : decode cX7_keep 88 = .ok (.iload_n 1, 1) := by decide +kernel
theorem dX7_keep_89 : decode cX7_keep 89 = .ok (.aload_n 0, 1) := by decide +kernel
theorem dX7_keep_90 : decode cX7_keep 90 = .ok (.getfield 92, 3) := by decide +kernel
theorem dX7_keep_93 : decode cX7_keep 93 = .ok (.iastore, 1) := by decide +kernel
theorem dX7_keep_94 : decode cX7_keep 94 = .ok (.aload_n 0, 1) := by decide +kernel
theorem dX7_keep_95 : decode cX7_keep 95 = .ok (.getfield 38, 3) := by decide +kernel
theorem dX7_keep_98 : decode cX7_keep 98 = .ok (.iload_n 1, 1) := by decide +kernel
theorem dX7_keep_99 : decode cX7_keep 99 = .ok (.aload_n 0, 1) := by decide +kernel
theorem dX7_keep_100 : decode cX7_keep 100 = .ok (.getfield 88, 3) := by decide +kernel
theorem dX7_keep_103 : decode cX7_keep 103 = .ok (.iastore, 1) := by decide +kernel
theorem dX7_keep_104 : decode cX7_keep 104 = .ok (.aload_n 0, 1) := by decide +kernel
theorem dX7_keep_105 : decode cX7_keep 105 = .ok (.getfield 7, 3) := by decide +kernel
theorem dX7_keep_108 : decode cX7_keep 108 = .ok (.iconst 0, 1) := by decide +kernel
theorem dX7_keep_109 : decode cX7_keep 109 = .ok (.iaload, 1) := by decide +kernel
theorem dX7_keep_110 : decode cX7_keep 110 = .ok (.ireturn, 1) := by decide +kernel
theorem dX7_back_0 : decode cX7_back 0 = .ok (.iload_n 1, 1) := by decide +kernel
theorem dX7_back_1 : decode cX7_back 1 = .ok (.iconst 0, 1) := by decide +kernel
theorem dX7_back_2 : decode cX7_back 2 = .ok (.iconst 1, 1) := by decide +kernel
theorem dX7_back_3 : decode cX7_back 3 = .ok (.invokestatic 80, 3) := by decide +kernel
theorem dX7_back_6 : decode cX7_back 6 = .ok (.ifCond .ne 5, 3) := by decide +kernel
theorem dX7_back_9 : decode cX7_back 9 = .ok (.iconst (-1), 1) := by decide +kernel
theorem dX7_back_10 : decode cX7_back 10 = .ok (.ireturn, 1) := by decide +kernel
theorem dX7_back_11 : decode cX7_back 11 = .ok (.aload_n 0, 1) := by decide +kernel
theorem dX7_back_12 : decode cX7_back 12 = .ok (.getfield 25, 3) := by decide +kernel
theorem dX7_back_15 : decode cX7_back 15 = .ok (.iload_n 1, 1) := by decide +kernel
theorem dX7_back_16 : decode cX7_back 16 = .ok (.baload, 1) := by decide +kernel
theorem dX7_back_17 : decode cX7_back 17 = .ok (.ifCond .ne 6, 3) := by decide +kernel
theorem dX7_back_20 : decode cX7_back 20 = .ok (.bipush (-2), 2) := by decide +kernel
theorem dX7_back_22 : decode cX7_back 22 = .ok (.ireturn, 1) := by decide +kernel
theorem dX7_back_23 : decode cX7_back 23 = .ok (.iconst 0, 1) := by decide +kernel
theorem dX7_back_24 : decode cX7_back 24 = .ok (.istore_n 2, 1) := by decide +kernel
theorem dX7_back_25 : decode cX7_back 25 = .ok (.iload_n 2, 1) := by decide +kernel
theorem dX7_back_26 : decode cX7_back 26 = .ok (.sipush 327, 3) := by decide +kernel
theorem dX7_back_29 : decode cX7_back 29 = .ok (.if_icmp .ge 27, 3) := by decide +kernel
theorem dX7_back_32 : decode cX7_back 32 = .ok (.aload_n 0, 1) := by decide +kernel
theorem dX7_back_33 : decode cX7_back 33 = .ok (.getfield 7, 3) := by decide +kernel
theorem dX7_back_36 : decode cX7_back 36 = .ok (.iload_n 2, 1) := by decide +kernel
theorem dX7_back_37 : decode cX7_back 37 = .ok (.aload_n 0, 1) := by decide +kernel
theorem dX7_back_38 : decode cX7_back 38 = .ok (.getfield 29, 3) := by decide +kernel
theorem dX7_back_41 : decode cX7_back 41 = .ok (.sipush 327, 3) := by decide +kernel
theorem dX7_back_44 : decode cX7_back 44 = .ok (.iload_n 1, 1) := by decide +kernel
theorem dX7_back_45 : decode cX7_back 45 = .ok (.imul, 1) := by decide +kernel
theorem dX7_back_46 : decode cX7_back 46 = .ok (.iload_n 2, 1) := by decide +kernel
theorem dX7_back_47 : decode cX7_back 47 = .ok (.iadd, 1) := by decide +kernel
theorem dX7_back_48 : decode cX7_back 48 = .ok (.iaload, 1) := by decide +kernel
theorem dX7_back_49 : decode cX7_back 49 = .ok (.iastore, 1) := by decide +kernel
theorem dX7_back_50 : decode cX7_back 50 = .ok (.iinc 2 1, 3) := by decide +kernel
theorem dX7_back_53 : decode cX7_back 53 = .ok (.goto (-28), 3) := by decide +kernel
theorem dX7_back_56 : decode cX7_back 56 = .ok (.iconst 0, 1) := by decide +kernel
theorem dX7_back_57 : decode cX7_back 57 = .ok (.istore_n 2, 1) := by decide +kernel
theorem dX7_back_58 : decode cX7_back 58 = .ok (.iload_n 2, 1) := by decide +kernel
theorem dX7_back_59 : decode cX7_back 59 = .ok (.sipush 3270, 3) := by decide +kernel
theorem dX7_back_62 : decode cX7_back 62 = .ok (.if_icmp .ge 27, 3) := by decide +kernel
theorem dX7_back_65 : decode cX7_back 65 = .ok (.aload_n 0, 1) := by decide +kernel
theorem dX7_back_66 : decode cX7_back 66 = .ok (.getfield 19, 3) := by decide +kernel
theorem dX7_back_69 : decode cX7_back 69 = .ok (.iload_n 2, 1) := by decide +kernel
theorem dX7_back_70 : decode cX7_back 70 = .ok (.aload_n 0, 1) := by decide +kernel
theorem dX7_back_71 : decode cX7_back 71 = .ok (.getfield 32, 3) := by decide +kernel
theorem dX7_back_74 : decode cX7_back 74 = .ok (.sipush 3270, 3) := by decide +kernel
theorem dX7_back_77 : decode cX7_back 77 = .ok (.iload_n 1, 1) := by decide +kernel
theorem dX7_back_78 : decode cX7_back 78 = .ok (.imul, 1) := by decide +kernel
theorem dX7_back_79 : decode cX7_back 79 = .ok (.iload_n 2, 1) := by decide +kernel
theorem dX7_back_80 : decode cX7_back 80 = .ok (.iadd, 1) := by decide +kernel
theorem dX7_back_81 : decode cX7_back 81 = .ok (.iaload, 1) := by decide +kernel
theorem dX7_back_82 : decode cX7_back 82 = .ok (.iastore, 1) := by decide +kernel
theorem dX7_back_83 : decode cX7_back 83 = .ok (.iinc 2 1, 3) := by decide +kernel
theorem dX7_back_86 : decode cX7_back 86 = .ok (.goto (-28), 3) := by decide +kernel
theorem dX7_back_89 : decode cX7_back 89 = .ok (.aload_n 0, 1) := by decide +kernel
theorem dX7_back_90 : decode cX7_back 90 = .ok (.aload_n 0, 1) := by decide +kernel
theorem dX7_back_91 : decode cX7_back 91 = .ok (.getfield 35, 3) := by decide +kernel
theorem dX7_back_94 : decode cX7_back 94 = .ok (.iload_n 1, 1) := by decide +kernel
theorem dX7_back_95 : decode cX7_back 95 = .ok (.iaload, 1) := by decide +kernel
theorem dX7_back_96 : decode cX7_back 96 = .ok (.putfield 92, 3) := by decide +kernel
theorem dX7_back_99 : decode cX7_back 99 = .ok (.aload_n 0, 1) := by decide +kernel
theorem dX7_back_100 : decode cX7_back 100 = .ok (.aload_n 0, 1) := by decide +kernel
theorem dX7_back_101 : decode cX7_back 101 = .ok (.getfield 38, 3) := by decide +kernel
theorem dX7_back_104 : decode cX7_back 104 = .ok (.iload_n 1, 1) := by decide +kernel
theorem dX7_back_105 : decode cX7_back 105 = .ok (.iaload, 1) := by decide +kernel
theorem dX7_back_106 : decode cX7_back 106 = .ok (.putfield 88, 3) := by decide +kernel
theorem dX7_back_109 : decode cX7_back 109 = .ok (.aload_n 0, 1) := by decide +kernel
theorem dX7_back_110 : decode cX7_back 110 = .ok (.iconst 0, 1) := by decide +kernel
theorem dX7_back_111 : decode cX7_back 111 = .ok (.putfield 95, 3) := by decide +kernel
theorem dX7_back_114 : decode cX7_back 114 = .ok (.aload_n 0, 1) := by decide +kernel
theorem dX7_back_115 : decode cX7_back 115 = .ok (.getfield 7, 3) := by decide +kernel
theorem dX7_back_118 : decode cX7_back 118 = .ok (.iconst 0, 1) := by decide +kernel
theorem dX7_back_119 : decode cX7_back 119 = .ok (.iaload, 1) := by decide +kernel
theorem dX7_back_120 : decode cX7_back 120 = .ok (.ireturn, 1) := by decide +kernel
theorem dJ9_max_7cf53_0 : decode cJ9_max_7cf53 0 = .ok (.iload_n 0, 1) := by decide +kernel
theorem dJ9_max_7cf53_1 : decode cJ9_max_7cf53 1 = .ok (.iload_n 1, 1) := by decide +kernel
theorem dJ9_max_7cf53_2 : decode cJ9_max_7cf53 2 = .ok (.if_icmp .lt 7, 3) := by decide +kernel
theorem dJ9_max_7cf53_5 : decode cJ9_max_7cf53 5 = .ok (.iload_n 0, 1) := by decide +kernel
theorem dJ9_max_7cf53_6 : decode cJ9_max_7cf53 6 = .ok (.goto 4, 3) := by decide +kernel
theorem dJ9_max_7cf53_9 : decode cJ9_max_7cf53 9 = .ok (.iload_n 1, 1) := by decide +kernel
theorem dJ9_max_7cf53_10 : decode cJ9_max_7cf53 10 = .ok (.ireturn, 1) := by decide +kernel
theorem dJ9_min_7cf53_0 : decode cJ9_min_7cf53 0 = .ok (.iload_n 0, 1) := by decide +kernel
theorem dJ9_min_7cf53_1 : decode cJ9_min_7cf53 1 = .ok (.iload_n 1, 1) := by decide +kernel
theorem dJ9_min_7cf53_2 : decode cJ9_min_7cf53 2 = .ok (.if_icmp .gt 7, 3) := by decide +kernel
theorem dJ9_min_7cf53_5 : decode cJ9_min_7cf53 5 = .ok (.iload_n 0, 1) := by decide +kernel
theorem dJ9_min_7cf53_6 : decode cJ9_min_7cf53 6 = .ok (.goto 4, 3) := by decide +kernel
theorem dJ9_min_7cf53_9 : decode cJ9_min_7cf53 9 = .ok (.iload_n 1, 1) := by decide +kernel
theorem dJ9_min_7cf53_10 : decode cJ9_min_7cf53 10 = .ok (.ireturn, 1) := by decide +kernel
theorem dJ0_length_8abf5_0 : decode cJ0_length_8abf5 0 = .ok (.aload_n 0, 1) := by decide +kernel
theorem dJ0_length_8abf5_1 : decode cJ0_length_8abf5 1 = .ok (.getfield 9, 3) := by decide +kernel
theorem dJ0_length_8abf5_4 : decode cJ0_length_8abf5 4 = .ok (.arraylength, 1) := by decide +kernel
theorem dJ0_length_8abf5_5 : decode cJ0_length_8abf5 5 = .ok (.aload_n 0, 1) := by decide +kernel
theorem dJ0_length_8abf5_6 : decode cJ0_length_8abf5 6 = .ok (.invokevirtual 335, 3) := by decide +kernel
theorem dJ0_length_8abf5_9 : decode cJ0_length_8abf5 9 = .ok (.ishr, 1) := by decide +kernel
theorem dJ0_length_8abf5_10 : decode cJ0_length_8abf5 10 = .ok (.ireturn, 1) := by decide +kernel
theorem dJ0_charAt_5068e_0 : decode cJ0_charAt_5068e 0 = .ok (.aload_n 0, 1) := by decide +kernel
theorem dJ0_charAt_5068e_1 : decode cJ0_charAt_5068e 1 = .ok (.invokevirtual 492, 3) := by decide +kernel
theorem dJ0_charAt_5068e_4 : decode cJ0_charAt_5068e 4 = .ok (.ifCond .eq 12, 3) := by decide +kernel
theorem dJ0_charAt_5068e_7 : decode cJ0_charAt_5068e 7 = .ok (.aload_n 0, 1) := by decide +kernel
theorem dJ0_charAt_5068e_8 : decode cJ0_charAt_5068e 8 = .ok (.getfield 9, 3) := by decide +kernel
theorem dJ0_charAt_5068e_11 : decode cJ0_charAt_5068e 11 = .ok (.iload_n 1, 1) := by decide +kernel
theorem dJ0_charAt_5068e_12 : decode cJ0_charAt_5068e 12 = .ok (.invokestatic 495, 3) := by decide +kernel
theorem dJ0_charAt_5068e_15 : decode cJ0_charAt_5068e 15 = .ok (.ireturn, 1) := by decide +kernel
theorem dJ0_charAt_5068e_16 : decode cJ0_charAt_5068e 16 = .ok (.aload_n 0, 1) := by decide +kernel
theorem dJ0_charAt_5068e_17 : decode cJ0_charAt_5068e 17 = .ok (.getfield 9, 3) := by decide +kernel
theorem dJ0_charAt_5068e_20 : decode cJ0_charAt_5068e 20 = .ok (.iload_n 1, 1) := by decide +kernel
theorem dJ0_charAt_5068e_21 : decode cJ0_charAt_5068e 21 = .ok (.invokestatic 498, 3) := by decide +kernel
theorem dJ0_charAt_5068e_24 : decode cJ0_charAt_5068e 24 = .ok (.ireturn, 1) := by decide +kernel
theorem dJ0_coder_7d493_0 : decode cJ0_coder_7d493 0 = .ok (.getstatic 38, 3) := by decide +kernel
theorem dJ0_coder_7d493_3 : decode cJ0_coder_7d493 3 = .ok (.ifCond .eq 10, 3) := by decide +kernel
theorem dJ0_coder_7d493_6 : decode cJ0_coder_7d493 6 = .ok (.aload_n 0, 1) := by decide +kernel
theorem dJ0_coder_7d493_7 : decode cJ0_coder_7d493 7 = .ok (.getfield 15, 3) := by decide +kernel
theorem dJ0_coder_7d493_10 : decode cJ0_coder_7d493 10 = .ok (.goto 4, 3) := by decide +kernel
theorem dJ0_coder_7d493_13 : decode cJ0_coder_7d493 13 = .ok (.iconst 1, 1) := by decide +kernel
theorem dJ0_coder_7d493_14 : decode cJ0_coder_7d493 14 = .ok (.ireturn, 1) := by decide +kernel
theorem dJ0_isLatin1_aae02_0 : decode cJ0_isLatin1_aae02 0 = .ok (.getstatic 38, 3) := by decide +kernel
theorem dJ0_isLatin1_aae02_3 : decode cJ0_isLatin1_aae02 3 = .ok (.ifCond .eq 14, 3) := by decide +kernel
theorem dJ0_isLatin1_aae02_6 : decode cJ0_isLatin1_aae02 6 = .ok (.aload_n 0, 1) := by decide +kernel
theorem dJ0_isLatin1_aae02_7 : decode cJ0_isLatin1_aae02 7 = .ok (.getfield 15, 3) := by decide +kernel
theorem dJ0_isLatin1_aae02_10 : decode cJ0_isLatin1_aae02 10 = .ok (.ifCond .ne 7, 3) := by decide +kernel
theorem dJ0_isLatin1_aae02_13 : decode cJ0_isLatin1_aae02 13 = .ok (.iconst 1, 1) := by decide +kernel
theorem dJ0_isLatin1_aae02_14 : decode cJ0_isLatin1_aae02 14 = .ok (.goto 4, 3) := by decide +kernel
theorem dJ0_isLatin1_aae02_17 : decode cJ0_isLatin1_aae02 17 = .ok (.iconst 0, 1) := by decide +kernel
theorem dJ0_isLatin1_aae02_18 : decode cJ0_isLatin1_aae02 18 = .ok (.ireturn, 1) := by decide +kernel
theorem dJ0_checkIndex_df160_0 : decode cJ0_checkIndex_df160 0 = .ok (.iload_n 0, 1) := by decide +kernel
theorem dJ0_checkIndex_df160_1 : decode cJ0_checkIndex_df160 1 = .ok (.iload_n 1, 1) := by decide +kernel
theorem dJ0_checkIndex_df160_2 : decode cJ0_checkIndex_df160 2 = .ok (.getstatic 1053, 3) := by decide +kernel
theorem dJ0_checkIndex_df160_5 : decode cJ0_checkIndex_df160 5 = .ok (.invokestatic 1059, 3) := by decide +kernel
theorem dJ0_checkIndex_df160_8 : decode cJ0_checkIndex_df160 8 = .ok (.pop, 1) := by decide +kernel
theorem dJ0_checkIndex_df160_9 : decode cJ0_checkIndex_df160 9 = .ok (.return_, 1) := by decide +kernel
theorem dJ1_charAt_3b067_0 : decode cJ1_charAt_3b067 0 = .ok (.iload_n 1, 1) := by decide +kernel
theorem dJ1_charAt_3b067_1 : decode cJ1_charAt_3b067 1 = .ok (.aload_n 0, 1) := by decide +kernel
theorem dJ1_charAt_3b067_2 : decode cJ1_charAt_3b067 2 = .ok (.arraylength, 1) := by decide +kernel
theorem dJ1_charAt_3b067_3 : decode cJ1_charAt_3b067 3 = .ok (.invokestatic 9, 3) := by decide +kernel
theorem dJ1_charAt_3b067_6 : decode cJ1_charAt_3b067 6 = .ok (.aload_n 0, 1) := by decide +kernel
theorem dJ1_charAt_3b067_7 : decode cJ1_charAt_3b067 7 = .ok (.iload_n 1, 1) := by decide +kernel
theorem dJ1_charAt_3b067_8 : decode cJ1_charAt_3b067 8 = .ok (.baload, 1) := by decide +kernel
theorem dJ1_charAt_3b067_9 : decode cJ1_charAt_3b067 9 = .ok (.sipush 255, 3) := by decide +kernel
theorem dJ1_charAt_3b067_12 : decode cJ1_charAt_3b067 12 = .ok (.iand, 1) := by decide +kernel
theorem dJ1_charAt_3b067_13 : decode cJ1_charAt_3b067 13 = .ok (.i2c, 1) := by decide +kernel
theorem dJ1_charAt_3b067_14 : decode cJ1_charAt_3b067 14 = .ok (.ireturn, 1) := by decide +kernel
theorem dJ2_getChar_3b067_0 : decode cJ2_getChar_3b067 0 = .ok (.getstatic 44, 3) := by decide +kernel
theorem dJ2_getChar_3b067_3 : decode cJ2_getChar_3b067 3 = .ok (.ifCond .ne 25, 3) := by decide +kernel
theorem dJ2_getChar_3b067_6 : decode cJ2_getChar_3b067 6 = .ok (.iload_n 1, 1) := by decide +kernel
theorem dJ2_getChar_3b067_7 : decode cJ2_getChar_3b067 7 = .ok (.ifCond .lt 11, 3) := by decide +kernel
theorem dJ2_getChar_3b067_10 : decode cJ2_getChar_3b067 10 = .ok (.iload_n 1, 1) := by decide +kernel
theorem dJ2_getChar_3b067_11 : decode cJ2_getChar_3b067 11 = .ok (.aload_n 0, 1) := by decide +kernel
theorem dJ2_getChar_3b067_12 : decode cJ2_getChar_3b067 12 = .ok (.invokestatic 48, 3) := by decide +kernel
theorem dJ2_getChar_3b067_15 : decode cJ2_getChar_3b067 15 = .ok (.if_icmp .lt 13, 3) := by decide +kernel
theorem dJ2_getChar_3b067_18 : decode cJ2_getChar_3b067 18 = .ok (.new 52, 3) := by decide +kernel
theorem dJ2_getChar_3b067_21 : decode cJ2_getChar_3b067 21 = .ok (.dup, 1) := by decide +kernel
theorem dJ2_getChar_3b067_22 : decode cJ2_getChar_3b067 22 = .ok (.ldc 54, 2) := by decide +kernel
theorem dJ2_getChar_3b067_24 : decode cJ2_getChar_3b067 24 = .ok (.invokespecial 56, 3) := by decide +kernel
theorem dJ2_getChar_3b067_27 : decode cJ2_getChar_3b067 27 = .ok (.athrow, 1) := by decide +kernel
theorem dJ2_getChar_3b067_28 : decode cJ2_getChar_3b067 28 = .ok (.iload_n 1, 1) := by decide +kernel
theorem dJ2_getChar_3b067_29 : decode cJ2_getChar_3b067 29 = .ok (.iconst 1, 1) := by decide +kernel
theorem dJ2_getChar_3b067_30 : decode cJ2_getChar_3b067 30 = .ok (.ishl, 1) := by decide +kernel
theorem dJ2_getChar_3b067_31 : decode cJ2_getChar_3b067 31 = .ok (.istore_n 1, 1) := by decide +kernel
theorem dJ2_getChar_3b067_32 : decode cJ2_getChar_3b067 32 = .ok (.aload_n 0, 1) := by decide +kernel
theorem dJ2_getChar_3b067_33 : decode cJ2_getChar_3b067 33 = .ok (.iload_n 1, 1) := by decide +kernel
theorem dJ2_getChar_3b067_34 : decode cJ2_getChar_3b067 34 = .ok (.iinc 1 1, 3) := by decide +kernel
theorem dJ2_getChar_3b067_37 : decode cJ2_getChar_3b067 37 = .ok (.baload, 1) := by decide +kernel
theorem dJ2_getChar_3b067_38 : decode cJ2_getChar_3b067 38 = .ok (.sipush 255, 3) := by decide +kernel
theorem dJ2_getChar_3b067_41 : decode cJ2_getChar_3b067 41 = .ok (.iand, 1) := by decide +kernel
theorem dJ2_getChar_3b067_42 : decode cJ2_getChar_3b067 42 = .ok (.getstatic 59, 3) := by decide +kernel
theorem dJ2_getChar_3b067_45 : decode cJ2_getChar_3b067 45 = .ok (.ishl, 1) := by decide +kernel
theorem dJ2_getChar_3b067_46 : decode cJ2_getChar_3b067 46 = .ok (.aload_n 0, 1) := by decide +kernel
theorem dJ2_getChar_3b067_47 : decode cJ2_getChar_3b067 47 = .ok (.iload_n 1, 1) := by decide +kernel
theorem dJ2_getChar_3b067_48 : decode cJ2_getChar_3b067 48 = .ok (.baload, 1) := by decide +kernel
theorem dJ2_getChar_3b067_49 : decode cJ2_getChar_3b067 49 = .ok (.sipush 255, 3) := by decide +kernel
theorem dJ2_getChar_3b067_52 : decode cJ2_getChar_3b067 52 = .ok (.iand, 1) := by decide +kernel
theorem dJ2_getChar_3b067_53 : decode cJ2_getChar_3b067 53 = .ok (.getstatic 63, 3) := by decide +kernel
theorem dJ2_getChar_3b067_56 : decode cJ2_getChar_3b067 56 = .ok (.ishl, 1) := by decide +kernel
theorem dJ2_getChar_3b067_57 : decode cJ2_getChar_3b067 57 = .ok (.ior, 1) := by decide +kernel
theorem dJ2_getChar_3b067_58 : decode cJ2_getChar_3b067 58 = .ok (.i2c, 1) := by decide +kernel
theorem dJ2_getChar_3b067_59 : decode cJ2_getChar_3b067 59 = .ok (.ireturn, 1) := by decide +kernel
theorem dJ2_length_9d52b_0 : decode cJ2_length_9d52b 0 = .ok (.aload_n 0, 1) := by decide +kernel
theorem dJ2_length_9d52b_1 : decode cJ2_length_9d52b 1 = .ok (.arraylength, 1) := by decide +kernel
theorem dJ2_length_9d52b_2 : decode cJ2_length_9d52b 2 = .ok (.iconst 1, 1) := by decide +kernel
theorem dJ2_length_9d52b_3 : decode cJ2_length_9d52b 3 = .ok (.ishr, 1) := by decide +kernel
theorem dJ2_length_9d52b_4 : decode cJ2_length_9d52b 4 = .ok (.ireturn, 1) := by decide +kernel
theorem dJ2_charAt_3b067_0 : decode cJ2_charAt_3b067 0 = .ok (.iload_n 1, 1) := by decide +kernel
theorem dJ2_charAt_3b067_1 : decode cJ2_charAt_3b067 1 = .ok (.aload_n 0, 1) := by decide +kernel
theorem dJ2_charAt_3b067_2 : decode cJ2_charAt_3b067 2 = .ok (.invokestatic 67, 3) := by decide +kernel
theorem dJ2_charAt_3b067_5 : decode cJ2_charAt_3b067 5 = .ok (.aload_n 0, 1) := by decide +kernel
theorem dJ2_charAt_3b067_6 : decode cJ2_charAt_3b067 6 = .ok (.iload_n 1, 1) := by decide +kernel
theorem dJ2_charAt_3b067_7 : decode cJ2_charAt_3b067 7 = .ok (.invokestatic 71, 3) := by decide +kernel
theorem dJ2_charAt_3b067_10 : decode cJ2_charAt_3b067 10 = .ok (.ireturn, 1) := by decide +kernel
theorem dJ2_checkIndex_2214a_0 : decode cJ2_checkIndex_2214a 0 = .ok (.iload_n 0, 1) := by decide +kernel
theorem dJ2_checkIndex_2214a_1 : decode cJ2_checkIndex_2214a 1 = .ok (.aload_n 1, 1) := by decide +kernel
theorem dJ2_checkIndex_2214a_2 : decode cJ2_checkIndex_2214a 2 = .ok (.invokestatic 48, 3) := by decide +kernel
theorem dJ2_checkIndex_2214a_5 : decode cJ2_checkIndex_2214a 5 = .ok (.invokestatic 414, 3) := by decide +kernel
theorem dJ2_checkIndex_2214a_8 : decode cJ2_checkIndex_2214a 8 = .ok (.return_, 1) := by decide +kernel
theorem dJ3_checkIndex_8e157_0 : decode cJ3_checkIndex_8e157 0 = .ok (.iload_n 0, 1) := by decide +kernel
theorem dJ3_checkIndex_8e157_1 : decode cJ3_checkIndex_8e157 1 = .ok (.ifCond .lt 8, 3) := by decide +kernel
theorem dJ3_checkIndex_8e157_4 : decode cJ3_checkIndex_8e157 4 = .ok (.iload_n 0, 1) := by decide +kernel
theorem dJ3_checkIndex_8e157_5 : decode cJ3_checkIndex_8e157 5 = .ok (.iload_n 1, 1) := by decide +kernel
theorem dJ3_checkIndex_8e157_6 : decode cJ3_checkIndex_8e157 6 = .ok (.if_icmp .lt 10, 3) := by decide +kernel
theorem dJ3_checkIndex_8e157_9 : decode cJ3_checkIndex_8e157 9 = .ok (.aload_n 2, 1) := by decide +kernel
theorem dJ3_checkIndex_8e157_10 : decode cJ3_checkIndex_8e157 10 = .ok (.iload_n 0, 1) := by decide +kernel
theorem dJ3_checkIndex_8e157_11 : decode cJ3_checkIndex_8e157 11 = .ok (.iload_n 1, 1) := by decide +kernel
theorem dJ3_checkIndex_8e157_12 : decode cJ3_checkIndex_8e157 12 = .ok (.invokestatic 95, 3) := by decide +kernel
theorem dJ3_checkIndex_8e157_15 : decode cJ3_checkIndex_8e157 15 = .ok (.athrow, 1) := by decide +kernel
theorem dJ3_checkIndex_8e157_16 : decode cJ3_checkIndex_8e157 16 = .ok (.iload_n 0, 1) := by decide +kernel
theorem dJ3_checkIndex_8e157_17 : decode cJ3_checkIndex_8e157 17 = .ok (.ireturn, 1) := by decide +kernel
theorem dL_law_0 : decode cL_law 0 = .ok (.new 7, 3) := by decide +kernel
theorem dL_law_3 : decode cL_law 3 = .ok (.dup, 1) := by decide +kernel
theorem dL_law_4 : decode cL_law 4 = .ok (.invokespecial 9, 3) := by decide +kernel
theorem dL_law_7 : decode cL_law 7 = .ok (.astore_n 1, 1) := by decide +kernel
theorem dL_law_8 : decode cL_law 8 = .ok (.new 10, 3) := by decide +kernel
theorem dL_law_11 : decode cL_law 11 = .ok (.dup, 1) := by decide +kernel
theorem dL_law_12 : decode cL_law 12 = .ok (.invokespecial 12, 3) := by decide +kernel
theorem dL_law_15 : decode cL_law 15 = .ok (.astore_n 2, 1) := by decide +kernel
theorem dL_law_16 : decode cL_law 16 = .ok (.iconst 0, 1) := by decide +kernel
theorem dL_law_17 : decode cL_law 17 = .ok (.istore_n 3, 1) := by decide +kernel
theorem dL_law_18 : decode cL_law 18 = .ok (.iload_n 3, 1) := by decide +kernel
theorem dL_law_19 : decode cL_law 19 = .ok (.aload_n 0, 1) := by decide +kernel
theorem dL_law_20 : decode cL_law 20 = .ok (.arraylength, 1) := by decide +kernel
theorem dL_law_21 : decode cL_law 21 = .ok (.iconst 4, 1) := by decide +kernel
theorem dL_law_22 : decode cL_law 22 = .ok (.isub, 1) := by decide +kernel
theorem dL_law_23 : decode cL_law 23 = .ok (.if_icmp .gt 541, 3) := by decide +kernel
theorem dL_law_26 : decode cL_law 26 = .ok (.aload_n 0, 1) := by decide +kernel
theorem dL_law_27 : decode cL_law 27 = .ok (.iload_n 3, 1) := by decide +kernel
theorem dL_law_28 : decode cL_law 28 = .ok (.iaload, 1) := by decide +kernel
theorem dL_law_29 : decode cL_law 29 = .ok (.bipush 31, 2) := by decide +kernel
theorem dL_law_31 : decode cL_law 31 = .ok (.iand, 1) := by decide +kernel
theorem dL_law_32 : decode cL_law 32 = .ok (.tableswitch 526 0 16 #[84, 107, 120, 133, 176, 209, 242, 265, 278, 311, 344, 387, 420, 443, 466, 480, 503], 84) := by decide +kernel
theorem dL_law_116 : decode cL_law 116 = .ok (.aload_n 1, 1) := by decide +kernel
theorem dL_law_117 : decode cL_law 117 = .ok (.aload_n 0, 1) := by decide +kernel
theorem dL_law_118 : decode cL_law 118 = .ok (.iload_n 3, 1) := by decide +kernel
theorem dL_law_119 : decode cL_law 119 = .ok (.iconst 1, 1) := by decide +kernel
theorem dL_law_120 : decode cL_law 120 = .ok (.iadd, 1) := by decide +kernel
theorem dL_law_121 : decode cL_law 121 = .ok (.iaload, 1) := by decide +kernel
theorem dL_law_122 : decode cL_law 122 = .ok (.invokevirtual 13, 3) := by decide +kernel
theorem dL_law_125 : decode cL_law 125 = .ok (.aload_n 2, 1) := by decide +kernel
theorem dL_law_126 : decode cL_law 126 = .ok (.aload_n 0, 1) := by decide +kernel
theorem dL_law_127 : decode cL_law 127 = .ok (.iload_n 3, 1) := by decide +kernel
theorem dL_law_128 : decode cL_law 128 = .ok (.iconst 1, 1) := by decide +kernel
theorem dL_law_129 : decode cL_law 129 = .ok (.iadd, 1) := by decide +kernel
theorem dL_law_130 : decode cL_law 130 = .ok (.iaload, 1) := by decide +kernel
theorem dL_law_131 : decode cL_law 131 = .ok (.invokevirtual 17, 3) := by decide +kernel
theorem dL_law_134 : decode cL_law 134 = .ok (.if_icmp .eq 424, 3) := by decide +kernel
theorem dL_law_137 : decode cL_law 137 = .ok (.iconst 0, 1) := by decide +kernel
theorem dL_law_138 : decode cL_law 138 = .ok (.ireturn, 1) := by decide +kernel
theorem dL_law_139 : decode cL_law 139 = .ok (.aload_n 1, 1) := by decide +kernel
theorem dL_law_140 : decode cL_law 140 = .ok (.invokevirtual 18, 3) := by decide +kernel
theorem dL_law_143 : decode cL_law 143 = .ok (.aload_n 2, 1) := by decide +kernel
theorem dL_law_144 : decode cL_law 144 = .ok (.invokevirtual 22, 3) := by decide +kernel
theorem dL_law_147 : decode cL_law 147 = .ok (.if_icmp .eq 411, 3) := by decide +kernel
theorem dL_law_150 : decode cL_law 150 = .ok (.iconst 0, 1) := by decide +kernel
theorem dL_law_151 : decode cL_law 151 = .ok (.ireturn, 1) := by decide +kernel
theorem dL_law_152 : decode cL_law 152 = .ok (.aload_n 1, 1) := by decide +kernel
theorem dL_law_153 : decode cL_law 153 = .ok (.invokevirtual 23, 3) := by decide +kernel
theorem dL_law_156 : decode cL_law 156 = .ok (.aload_n 2, 1) := by decide +kernel
theorem dL_law_157 : decode cL_law 157 = .ok (.invokevirtual 26, 3) := by decide +kernel
theorem dL_law_160 : decode cL_law 160 = .ok (.if_icmp .eq 398, 3) := by decide +kernel
theorem dL_law_163 : decode cL_law 163 = .ok (.iconst 0, 1) := by decide +kernel
theorem dL_law_164 : decode cL_law 164 = .ok (.ireturn, 1) := by decide +kernel
theorem dL_law_165 : decode cL_law 165 = .ok (.aload_n 1, 1) := by decide +kernel
theorem dL_law_166 : decode cL_law 166 = .ok (.aload_n 0, 1) := by decide +kernel
theorem dL_law_167 : decode cL_law 167 = .ok (.iload_n 3, 1) := by decide +kernel
theorem dL_law_168 : decode cL_law 168 = .ok (.iconst 1, 1) := by decide +kernel
theorem dL_law_169 : decode cL_law 169 = .ok (.iadd, 1) := by decide +kernel
theorem dL_law_170 : decode cL_law 170 = .ok (.iaload, 1) := by decide +kernel
theorem dL_law_171 : decode cL_law 171 = .ok (.aload_n 0, 1) := by decide +kernel
theorem dL_law_172 : decode cL_law 172 = .ok (.iload_n 3, 1) := by decide +kernel
theorem dL_law_173 : decode cL_law 173 = .ok (.iconst 2, 1) := by decide +kernel
theorem dL_law_174 : decode cL_law 174 = .ok (.iadd, 1) := by decide +kernel
theorem dL_law_175 : decode cL_law 175 = .ok (.iaload, 1) := by decide +kernel
theorem dL_law_176 : decode cL_law 176 = .ok (.aload_n 0, 1) := by decide +kernel
theorem dL_law_177 : decode cL_law 177 = .ok (.iload_n 3, 1) := by decide +kernel
theorem dL_law_178 : decode cL_law 178 = .ok (.iconst 3, 1) := by decide +kernel
theorem dL_law_179 : decode cL_law 179 = .ok (.iadd, 1) := by decide +kernel
theorem dL_law_180 : decode cL_law 180 = .ok (.iaload, 1) := by decide +kernel
theorem dL_law_181 : decode cL_law 181 = .ok (.invokevirtual 27, 3) := by decide +kernel
theorem dL_law_184 : decode cL_law 184 = .ok (.aload_n 2, 1) := by decide +kernel
theorem dL_law_185 : decode cL_law 185 = .ok (.aload_n 0, 1) := by decide +kernel
theorem dL_law_186 : decode cL_law 186 = .ok (.iload_n 3, 1) := by decide +kernel
theorem dL_law_187 : decode cL_law 187 = .ok (.iconst 1, 1) := by decide +kernel
theorem dL_law_188 : decode cL_law 188 = .ok (.iadd, 1) := by decide +kernel
theorem dL_law_189 : decode cL_law 189 = .ok (.iaload, 1) := by decide +kernel
theorem dL_law_190 : decode cL_law 190 = .ok (.aload_n 0, 1) := by decide +kernel
theorem dL_law_191 : decode cL_law 191 = .ok (.iload_n 3, 1) := by decide +kernel
theorem dL_law_192 : decode cL_law 192 = .ok (.iconst 2, 1) := by decide +kernel
theorem dL_law_193 : decode cL_law 193 = .ok (.iadd, 1) := by decide +kernel
theorem dL_law_194 : decode cL_law 194 = .ok (.iaload, 1) := by decide +kernel
theorem dL_law_195 : decode cL_law 195 = .ok (.aload_n 0, 1) := by decide +kernel
theorem dL_law_196 : decode cL_law 196 = .ok (.iload_n 3, 1) := by decide +kernel
theorem dL_law_197 : decode cL_law 197 = .ok (.iconst 3, 1) := by decide +kernel
theorem dL_law_198 : decode cL_law 198 = .ok (.iadd, 1) := by decide +kernel
theorem dL_law_199 : decode cL_law 199 = .ok (.iaload, 1) := by decide +kernel
theorem dL_law_200 : decode cL_law 200 = .ok (.invokevirtual 31, 3) := by decide +kernel
theorem dL_law_203 : decode cL_law 203 = .ok (.if_icmp .eq 355, 3) := by decide +kernel
theorem dL_law_206 : decode cL_law 206 = .ok (.iconst 0, 1) := by decide +kernel
theorem dL_law_207 : decode cL_law 207 = .ok (.ireturn, 1) := by decide +kernel
theorem dL_law_208 : decode cL_law 208 = .ok (.aload_n 1, 1) := by decide +kernel
theorem dL_law_209 : decode cL_law 209 = .ok (.aload_n 0, 1) := by decide +kernel
theorem dL_law_210 : decode cL_law 210 = .ok (.iload_n 3, 1) := by decide +kernel
theorem dL_law_211 : decode cL_law 211 = .ok (.iconst 1, 1) := by decide +kernel
theorem dL_law_212 : decode cL_law 212 = .ok (.iadd, 1) := by decide +kernel
theorem dL_law_213 : decode cL_law 213 = .ok (.iaload, 1) := by decide +kernel
theorem dL_law_214 : decode cL_law 214 = .ok (.aload_n 0, 1) := by decide +kernel
theorem dL_law_215 : decode cL_law 215 = .ok (.iload_n 3, 1) := by decide +kernel
theorem dL_law_216 : decode cL_law 216 = .ok (.iconst 2, 1) := by decide +kernel
theorem dL_law_217 : decode cL_law 217 = .ok (.iadd, 1) := by decide +kernel
theorem dL_law_218 : decode cL_law 218 = .ok (.iaload, 1) := by decide +kernel
theorem dL_law_219 : decode cL_law 219 = .ok (.invokevirtual 32, 3) := by decide +kernel
theorem dL_law_222 : decode cL_law 222 = .ok (.aload_n 2, 1) := by decide +kernel
theorem dL_law_223 : decode cL_law 223 = .ok (.aload_n 0, 1) := by decide +kernel
theorem dL_law_224 : decode cL_law 224 = .ok (.iload_n 3, 1) := by decide +kernel
theorem dL_law_225 : decode cL_law 225 = .ok (.iconst 1, 1) := by decide +kernel
theorem dL_law_226 : decode cL_law 226 = .ok (.iadd, 1) := by decide +kernel
theorem dL_law_227 : decode cL_law 227 = .ok (.iaload, 1) := by decide +kernel
theorem dL_law_228 : decode cL_law 228 = .ok (.aload_n 0, 1) := by decide +kernel
theorem dL_law_229 : decode cL_law 229 = .ok (.iload_n 3, 1) := by decide +kernel
theorem dL_law_230 : decode cL_law 230 = .ok (.iconst 2, 1) := by decide +kernel
theorem dL_law_231 : decode cL_law 231 = .ok (.iadd, 1) := by decide +kernel
theorem dL_law_232 : decode cL_law 232 = .ok (.iaload, 1) := by decide +kernel
theorem dL_law_233 : decode cL_law 233 = .ok (.invokevirtual 36, 3) := by decide +kernel
theorem dL_law_236 : decode cL_law 236 = .ok (.if_icmp .eq 322, 3) := by decide +kernel
theorem dL_law_239 : decode cL_law 239 = .ok (.iconst 0, 1) := by decide +kernel
theorem dL_law_240 : decode cL_law 240 = .ok (.ireturn, 1) := by decide +kernel
theorem dL_law_241 : decode cL_law 241 = .ok (.aload_n 1, 1) := by decide +kernel
theorem dL_law_242 : decode cL_law 242 = .ok (.aload_n 0, 1) := by decide +kernel
theorem dL_law_243 : decode cL_law 243 = .ok (.iload_n 3, 1) := by decide +kernel
theorem dL_law_244 : decode cL_law 244 = .ok (.iconst 1, 1) := by decide +kernel
theorem dL_law_245 : decode cL_law 245 = .ok (.iadd, 1) := by decide +kernel
theorem dL_law_246 : decode cL_law 246 = .ok (.iaload, 1) := by decide +kernel
theorem dL_law_247 : decode cL_law 247 = .ok (.aload_n 0, 1) := by decide +kernel
theorem dL_law_248 : decode cL_law 248 = .ok (.iload_n 3, 1) := by decide +kernel
theorem dL_law_249 : decode cL_law 249 = .ok (.iconst 2, 1) := by decide +kernel
theorem dL_law_250 : decode cL_law 250 = .ok (.iadd, 1) := by decide +kernel
theorem dL_law_251 : decode cL_law 251 = .ok (.iaload, 1) := by decide +kernel
theorem dL_law_252 : decode cL_law 252 = .ok (.invokevirtual 37, 3) := by decide +kernel
theorem dL_law_255 : decode cL_law 255 = .ok (.aload_n 2, 1) := by decide +kernel
theorem dL_law_256 : decode cL_law 256 = .ok (.aload_n 0, 1) := by decide +kernel
theorem dL_law_257 : decode cL_law 257 = .ok (.iload_n 3, 1) := by decide +kernel
theorem dL_law_258 : decode cL_law 258 = .ok (.iconst 1, 1) := by decide +kernel
theorem dL_law_259 : decode cL_law 259 = .ok (.iadd, 1) := by decide +kernel
theorem dL_law_260 : decode cL_law 260 = .ok (.iaload, 1) := by decide +kernel
theorem dL_law_261 : decode cL_law 261 = .ok (.aload_n 0, 1) := by decide +kernel
theorem dL_law_262 : decode cL_law 262 = .ok (.iload_n 3, 1) := by decide +kernel
theorem dL_law_263 : decode cL_law 263 = .ok (.iconst 2, 1) := by decide +kernel
theorem dL_law_264 : decode cL_law 264 = .ok (.iadd, 1) := by decide +kernel
theorem dL_law_265 : decode cL_law 265 = .ok (.iaload, 1) := by decide +kernel
theorem dL_law_266 : decode cL_law 266 = .ok (.invokevirtual 40, 3) := by decide +kernel
theorem dL_law_269 : decode cL_law 269 = .ok (.if_icmp .eq 289, 3) := by decide +kernel
theorem dL_law_272 : decode cL_law 272 = .ok (.iconst 0, 1) := by decide +kernel
theorem dL_law_273 : decode cL_law 273 = .ok (.ireturn, 1) := by decide +kernel
theorem dL_law_274 : decode cL_law 274 = .ok (.aload_n 1, 1) := by decide +kernel
theorem dL_law_275 : decode cL_law 275 = .ok (.aload_n 0, 1) := by decide +kernel
theorem dL_law_276 : decode cL_law 276 = .ok (.iload_n 3, 1) := by decide +kernel
theorem dL_law_277 : decode cL_law 277 = .ok (.iconst 1, 1) := by decide +kernel
theorem dL_law_278 : decode cL_law 278 = .ok (.iadd, 1) := by decide +kernel
theorem dL_law_279 : decode cL_law 279 = .ok (.iaload, 1) := by decide +kernel
theorem dL_law_280 : decode cL_law 280 = .ok (.invokevirtual 41, 3) := by decide +kernel
theorem dL_law_283 : decode cL_law 283 = .ok (.aload_n 2, 1) := by decide +kernel
theorem dL_law_284 : decode cL_law 284 = .ok (.aload_n 0, 1) := by decide +kernel
theorem dL_law_285 : decode cL_law 285 = .ok (.iload_n 3, 1) := by decide +kernel
theorem dL_law_286 : decode cL_law 286 = .ok (.iconst 1, 1) := by decide +kernel
theorem dL_law_287 : decode cL_law 287 = .ok (.iadd, 1) := by decide +kernel
theorem dL_law_288 : decode cL_law 288 = .ok (.iaload, 1) := by decide +kernel
theorem dL_law_289 : decode cL_law 289 = .ok (.invokevirtual 44, 3) := by decide +kernel
theorem dL_law_292 : decode cL_law 292 = .ok (.if_icmp .eq 266, 3) := by decide +kernel
theorem dL_law_295 : decode cL_law 295 = .ok (.iconst 0, 1) := by decide +kernel
theorem dL_law_296 : decode cL_law 296 = .ok (.ireturn, 1) := by decide +kernel
theorem dL_law_297 : decode cL_law 297 = .ok (.aload_n 1, 1) := by decide +kernel
theorem dL_law_298 : decode cL_law 298 = .ok (.invokevirtual 45, 3) := by decide +kernel
theorem dL_law_301 : decode cL_law 301 = .ok (.aload_n 2, 1) := by decide +kernel
theorem dL_law_302 : decode cL_law 302 = .ok (.invokevirtual 48, 3) := by decide +kernel
theorem dL_law_305 : decode cL_law 305 = .ok (.if_icmp .eq 253, 3) := by decide +kernel
theorem dL_law_308 : decode cL_law 308 = .ok (.iconst 0, 1) := by decide +kernel
theorem dL_law_309 : decode cL_law 309 = .ok (.ireturn, 1) := by decide +kernel
theorem dL_law_310 : decode cL_law 310 = .ok (.aload_n 1, 1) := by decide +kernel
theorem dL_law_311 : decode cL_law 311 = .ok (.aload_n 0, 1) := by decide +kernel
theorem dL_law_312 : decode cL_law 312 = .ok (.iload_n 3, 1) := by decide +kernel
theorem dL_law_313 : decode cL_law 313 = .ok (.iconst 1, 1) := by decide +kernel
theorem dL_law_314 : decode cL_law 314 = .ok (.iadd, 1) := by decide +kernel
theorem dL_law_315 : decode cL_law 315 = .ok (.iaload, 1) := by decide +kernel
theorem dL_law_316 : decode cL_law 316 = .ok (.aload_n 0, 1) := by decide +kernel
theorem dL_law_317 : decode cL_law 317 = .ok (.iload_n 3, 1) := by decide +kernel
theorem dL_law_318 : decode cL_law 318 = .ok (.iconst 2, 1) := by decide +kernel
theorem dL_law_319 : decode cL_law 319 = .ok (.iadd, 1) := by decide +kernel
theorem dL_law_320 : decode cL_law 320 = .ok (.iaload, 1) := by decide +kernel
theorem dL_law_321 : decode cL_law 321 = .ok (.invokevirtual 49, 3) := by decide +kernel
theorem dL_law_324 : decode cL_law 324 = .ok (.aload_n 2, 1) := by decide +kernel
theorem dL_law_325 : decode cL_law 325 = .ok (.aload_n 0, 1) := by decide +kernel
theorem dL_law_326 : decode cL_law 326 = .ok (.iload_n 3, 1) := by decide +kernel
theorem dL_law_327 : decode cL_law 327 = .ok (.iconst 1, 1) := by decide +kernel
theorem dL_law_328 : decode cL_law 328 = .ok (.iadd, 1) := by decide +kernel
theorem dL_law_329 : decode cL_law 329 = .ok (.iaload, 1) := by decide +kernel
theorem dL_law_330 : decode cL_law 330 = .ok (.aload_n 0, 1) := by decide +kernel
theorem dL_law_331 : decode cL_law 331 = .ok (.iload_n 3, 1) := by decide +kernel
theorem dL_law_332 : decode cL_law 332 = .ok (.iconst 2, 1) := by decide +kernel
theorem dL_law_333 : decode cL_law 333 = .ok (.iadd, 1) := by decide +kernel
theorem dL_law_334 : decode cL_law 334 = .ok (.iaload, 1) := by decide +kernel
theorem dL_law_335 : decode cL_law 335 = .ok (.invokevirtual 52, 3) := by decide +kernel
theorem dL_law_338 : decode cL_law 338 = .ok (.if_icmp .eq 220, 3) := by decide +kernel
theorem dL_law_341 : decode cL_law 341 = .ok (.iconst 0, 1) := by decide +kernel
theorem dL_law_342 : decode cL_law 342 = .ok (.ireturn, 1) := by decide +kernel
theorem dL_law_343 : decode cL_law 343 = .ok (.aload_n 1, 1) := by decide +kernel
theorem dL_law_344 : decode cL_law 344 = .ok (.aload_n 0, 1) := by decide +kernel
theorem dL_law_345 : decode cL_law 345 = .ok (.iload_n 3, 1) := by decide +kernel
theorem dL_law_346 : decode cL_law 346 = .ok (.iconst 1, 1) := by decide +kernel
theorem dL_law_347 : decode cL_law 347 = .ok (.iadd, 1) := by decide +kernel
theorem dL_law_348 : decode cL_law 348 = .ok (.iaload, 1) := by decide +kernel
theorem dL_law_349 : decode cL_law 349 = .ok (.aload_n 0, 1) := by decide +kernel
theorem dL_law_350 : decode cL_law 350 = .ok (.iload_n 3, 1) := by decide +kernel
theorem dL_law_351 : decode cL_law 351 = .ok (.iconst 2, 1) := by decide +kernel
theorem dL_law_352 : decode cL_law 352 = .ok (.iadd, 1) := by decide +kernel
theorem dL_law_353 : decode cL_law 353 = .ok (.iaload, 1) := by decide +kernel
theorem dL_law_354 : decode cL_law 354 = .ok (.invokevirtual 53, 3) := by decide +kernel
theorem dL_law_357 : decode cL_law 357 = .ok (.aload_n 2, 1) := by decide +kernel
theorem dL_law_358 : decode cL_law 358 = .ok (.aload_n 0, 1) := by decide +kernel
theorem dL_law_359 : decode cL_law 359 = .ok (.iload_n 3, 1) := by decide +kernel
theorem dL_law_360 : decode cL_law 360 = .ok (.iconst 1, 1) := by decide +kernel
theorem dL_law_361 : decode cL_law 361 = .ok (.iadd, 1) := by decide +kernel
theorem dL_law_362 : decode cL_law 362 = .ok (.iaload, 1) := by decide +kernel
theorem dL_law_363 : decode cL_law 363 = .ok (.aload_n 0, 1) := by decide +kernel
theorem dL_law_364 : decode cL_law 364 = .ok (.iload_n 3, 1) := by decide +kernel
theorem dL_law_365 : decode cL_law 365 = .ok (.iconst 2, 1) := by decide +kernel
theorem dL_law_366 : decode cL_law 366 = .ok (.iadd, 1) := by decide +kernel
theorem dL_law_367 : decode cL_law 367 = .ok (.iaload, 1) := by decide +kernel
theorem dL_law_368 : decode cL_law 368 = .ok (.invokevirtual 56, 3) := by decide +kernel
theorem dL_law_371 : decode cL_law 371 = .ok (.if_icmp .eq 187, 3) := by decide +kernel
theorem dL_law_374 : decode cL_law 374 = .ok (.iconst 0, 1) := by decide +kernel
theorem dL_law_375 : decode cL_law 375 = .ok (.ireturn, 1) := by decide +kernel
theorem dL_law_376 : decode cL_law 376 = .ok (.aload_n 1, 1) := by decide +kernel
theorem dL_law_377 : decode cL_law 377 = .ok (.aload_n 0, 1) := by decide +kernel
theorem dL_law_378 : decode cL_law 378 = .ok (.iload_n 3, 1) := by decide +kernel
theorem dL_law_379 : decode cL_law 379 = .ok (.iconst 1, 1) := by decide +kernel
theorem dL_law_380 : decode cL_law 380 = .ok (.iadd, 1) := by decide +kernel
theorem dL_law_381 : decode cL_law 381 = .ok (.iaload, 1) := by decide +kernel
theorem dL_law_382 : decode cL_law 382 = .ok (.aload_n 0, 1) := by decide +kernel
theorem dL_law_383 : decode cL_law 383 = .ok (.iload_n 3, 1) := by decide +kernel
theorem dL_law_384 : decode cL_law 384 = .ok (.iconst 2, 1) := by decide +kernel
theorem dL_law_385 : decode cL_law 385 = .ok (.iadd, 1) := by decide +kernel
theorem dL_law_386 : decode cL_law 386 = .ok (.iaload, 1) := by decide +kernel
theorem dL_law_387 : decode cL_law 387 = .ok (.aload_n 0, 1) := by decide +kernel
theorem dL_law_388 : decode cL_law 388 = .ok (.iload_n 3, 1) := by decide +kernel
theorem dL_law_389 : decode cL_law 389 = .ok (.iconst 3, 1) := by decide +kernel
theorem dL_law_390 : decode cL_law 390 = .ok (.iadd, 1) := by decide +kernel
theorem dL_law_391 : decode cL_law 391 = .ok (.iaload, 1) := by decide +kernel
theorem dL_law_392 : decode cL_law 392 = .ok (.invokevirtual 57, 3) := by decide +kernel
theorem dL_law_395 : decode cL_law 395 = .ok (.aload_n 2, 1) := by decide +kernel
theorem dL_law_396 : decode cL_law 396 = .ok (.aload_n 0, 1) := by decide +kernel
theorem dL_law_397 : decode cL_law 397 = .ok (.iload_n 3, 1) := by decide +kernel
theorem dL_law_398 : decode cL_law 398 = .ok (.iconst 1, 1) := by decide +kernel
theorem dL_law_399 : decode cL_law 399 = .ok (.iadd, 1) := by decide +kernel
theorem dL_law_400 : decode cL_law 400 = .ok (.iaload, 1) := by decide +kernel
theorem dL_law_401 : decode cL_law 401 = .ok (.aload_n 0, 1) := by decide +kernel
theorem dL_law_402 : decode cL_law 402 = .ok (.iload_n 3, 1) := by decide +kernel
theorem dL_law_403 : decode cL_law 403 = .ok (.iconst 2, 1) := by decide +kernel
theorem dL_law_404 : decode cL_law 404 = .ok (.iadd, 1) := by decide +kernel
theorem dL_law_405 : decode cL_law 405 = .ok (.iaload, 1) := by decide +kernel
theorem dL_law_406 : decode cL_law 406 = .ok (.aload_n 0, 1) := by decide +kernel
theorem dL_law_407 : decode cL_law 407 = .ok (.iload_n 3, 1) := by decide +kernel
theorem dL_law_408 : decode cL_law 408 = .ok (.iconst 3, 1) := by decide +kernel
theorem dL_law_409 : decode cL_law 409 = .ok (.iadd, 1) := by decide +kernel
theorem dL_law_410 : decode cL_law 410 = .ok (.iaload, 1) := by decide +kernel
theorem dL_law_411 : decode cL_law 411 = .ok (.invokevirtual 60, 3) := by decide +kernel
theorem dL_law_414 : decode cL_law 414 = .ok (.if_icmp .eq 144, 3) := by decide +kernel
theorem dL_law_417 : decode cL_law 417 = .ok (.iconst 0, 1) := by decide +kernel
theorem dL_law_418 : decode cL_law 418 = .ok (.ireturn, 1) := by decide +kernel
theorem dL_law_419 : decode cL_law 419 = .ok (.aload_n 1, 1) := by decide +kernel
theorem dL_law_420 : decode cL_law 420 = .ok (.aload_n 0, 1) := by decide +kernel
theorem dL_law_421 : decode cL_law 421 = .ok (.iload_n 3, 1) := by decide +kernel
theorem dL_law_422 : decode cL_law 422 = .ok (.iconst 1, 1) := by decide +kernel
theorem dL_law_423 : decode cL_law 423 = .ok (.iadd, 1) := by decide +kernel
theorem dL_law_424 : decode cL_law 424 = .ok (.iaload, 1) := by decide +kernel
theorem dL_law_425 : decode cL_law 425 = .ok (.aload_n 0, 1) := by decide +kernel
theorem dL_law_426 : decode cL_law 426 = .ok (.iload_n 3, 1) := by decide +kernel
theorem dL_law_427 : decode cL_law 427 = .ok (.iconst 2, 1) := by decide +kernel
theorem dL_law_428 : decode cL_law 428 = .ok (.iadd, 1) := by decide +kernel
theorem dL_law_429 : decode cL_law 429 = .ok (.iaload, 1) := by decide +kernel
theorem dL_law_430 : decode cL_law 430 = .ok (.invokevirtual 61, 3) := by decide +kernel
theorem dL_law_433 : decode cL_law 433 = .ok (.aload_n 2, 1) := by decide +kernel
theorem dL_law_434 : decode cL_law 434 = .ok (.aload_n 0, 1) := by decide +kernel
theorem dL_law_435 : decode cL_law 435 = .ok (.iload_n 3, 1) := by decide +kernel
theorem dL_law_436 : decode cL_law 436 = .ok (.iconst 1, 1) := by decide +kernel
theorem dL_law_437 : decode cL_law 437 = .ok (.iadd, 1) := by decide +kernel
theorem dL_law_438 : decode cL_law 438 = .ok (.iaload, 1) := by decide +kernel
theorem dL_law_439 : decode cL_law 439 = .ok (.aload_n 0, 1) := by decide +kernel
theorem dL_law_440 : decode cL_law 440 = .ok (.iload_n 3, 1) := by decide +kernel
theorem dL_law_441 : decode cL_law 441 = .ok (.iconst 2, 1) := by decide +kernel
theorem dL_law_442 : decode cL_law 442 = .ok (.iadd, 1) := by decide +kernel
theorem dL_law_443 : decode cL_law 443 = .ok (.iaload, 1) := by decide +kernel
theorem dL_law_444 : decode cL_law 444 = .ok (.invokevirtual 64, 3) := by decide +kernel
theorem dL_law_447 : decode cL_law 447 = .ok (.if_icmp .eq 111, 3) := by decide +kernel
theorem dL_law_450 : decode cL_law 450 = .ok (.iconst 0, 1) := by decide +kernel
theorem dL_law_451 : decode cL_law 451 = .ok (.ireturn, 1) := by decide +kernel
theorem dL_law_452 : decode cL_law 452 = .ok (.aload_n 1, 1) := by decide +kernel
theorem dL_law_453 : decode cL_law 453 = .ok (.aload_n 0, 1) := by decide +kernel
theorem dL_law_454 : decode cL_law 454 = .ok (.iload_n 3, 1) := by decide +kernel
theorem dL_law_455 : decode cL_law 455 = .ok (.iconst 1, 1) := by decide +kernel
theorem dL_law_456 : decode cL_law 456 = .ok (.iadd, 1) := by decide +kernel
theorem dL_law_457 : decode cL_law 457 = .ok (.iaload, 1) := by decide +kernel
theorem dL_law_458 : decode cL_law 458 = .ok (.invokevirtual 65, 3) := by decide +kernel
theorem dL_law_461 : decode cL_law 461 = .ok (.aload_n 2, 1) := by decide +kernel
theorem dL_law_462 : decode cL_law 462 = .ok (.aload_n 0, 1) := by decide +kernel
theorem dL_law_463 : decode cL_law 463 = .ok (.iload_n 3, 1) := by decide +kernel
theorem dL_law_464 : decode cL_law 464 = .ok (.iconst 1, 1) := by decide +kernel
theorem dL_law_465 : decode cL_law 465 = .ok (.iadd, 1) := by decide +kernel
theorem dL_law_466 : decode cL_law 466 = .ok (.iaload, 1) := by decide +kernel
theorem dL_law_467 : decode cL_law 467 = .ok (.invokevirtual 68, 3) := by decide +kernel
theorem dL_law_470 : decode cL_law 470 = .ok (.if_icmp .eq 88, 3) := by decide +kernel
theorem dL_law_473 : decode cL_law 473 = .ok (.iconst 0, 1) := by decide +kernel
theorem dL_law_474 : decode cL_law 474 = .ok (.ireturn, 1) := by decide +kernel
theorem dL_law_475 : decode cL_law 475 = .ok (.aload_n 1, 1) := by decide +kernel
theorem dL_law_476 : decode cL_law 476 = .ok (.aload_n 0, 1) := by decide +kernel
theorem dL_law_477 : decode cL_law 477 = .ok (.iload_n 3, 1) := by decide +kernel
theorem dL_law_478 : decode cL_law 478 = .ok (.iconst 1, 1) := by decide +kernel
theorem dL_law_479 : decode cL_law 479 = .ok (.iadd, 1) := by decide +kernel
theorem dL_law_480 : decode cL_law 480 = .ok (.iaload, 1) := by decide +kernel
theorem dL_law_481 : decode cL_law 481 = .ok (.invokevirtual 69, 3) := by decide +kernel
theorem dL_law_484 : decode cL_law 484 = .ok (.aload_n 2, 1) := by decide +kernel
theorem dL_law_485 : decode cL_law 485 = .ok (.aload_n 0, 1) := by decide +kernel
theorem dL_law_486 : decode cL_law 486 = .ok (.iload_n 3, 1) := by decide +kernel
theorem dL_law_487 : decode cL_law 487 = .ok (.iconst 1, 1) := by decide +kernel
theorem dL_law_488 : decode cL_law 488 = .ok (.iadd, 1) := by decide +kernel
theorem dL_law_489 : decode cL_law 489 = .ok (.iaload, 1) := by decide +kernel
theorem dL_law_490 : decode cL_law 490 = .ok (.invokevirtual 72, 3) := by decide +kernel
theorem dL_law_493 : decode cL_law 493 = .ok (.if_icmp .eq 65, 3) := by decide +kernel
theorem dL_law_496 : decode cL_law 496 = .ok (.iconst 0, 1) := by decide +kernel
theorem dL_law_497 : decode cL_law 497 = .ok (.ireturn, 1) := by decide +kernel
theorem dL_law_498 : decode cL_law 498 = .ok (.aload_n 1, 1) := by decide +kernel
theorem dL_law_499 : decode cL_law 499 = .ok (.invokevirtual 73, 3) := by decide +kernel
theorem dL_law_502 : decode cL_law 502 = .ok (.aload_n 2, 1) := by decide +kernel
theorem dL_law_503 : decode cL_law 503 = .ok (.invokevirtual 77, 3) := by decide +kernel
theorem dL_law_506 : decode cL_law 506 = .ok (.lcmp, 1) := by decide +kernel
theorem dL_law_507 : decode cL_law 507 = .ok (.ifCond .eq 51, 3) := by decide +kernel
theorem dL_law_510 : decode cL_law 510 = .ok (.iconst 0, 1) := by decide +kernel
theorem dL_law_511 : decode cL_law 511 = .ok (.ireturn, 1) := by decide +kernel
theorem dL_law_512 : decode cL_law 512 = .ok (.aload_n 1, 1) := by decide +kernel
theorem dL_law_513 : decode cL_law 513 = .ok (.aload_n 0, 1) := by decide +kernel
theorem dL_law_514 : decode cL_law 514 = .ok (.iload_n 3, 1) := by decide +kernel
theorem dL_law_515 : decode cL_law 515 = .ok (.iconst 1, 1) := by decide +kernel
theorem dL_law_516 : decode cL_law 516 = .ok (.iadd, 1) := by decide +kernel
theorem dL_law_517 : decode cL_law 517 = .ok (.iaload, 1) := by decide +kernel
theorem dL_law_518 : decode cL_law 518 = .ok (.invokevirtual 78, 3) := by decide +kernel
theorem dL_law_521 : decode cL_law 521 = .ok (.aload_n 2, 1) := by decide +kernel
theorem dL_law_522 : decode cL_law 522 = .ok (.aload_n 0, 1) := by decide +kernel
theorem dL_law_523 : decode cL_law 523 = .ok (.iload_n 3, 1) := by decide +kernel
theorem dL_law_524 : decode cL_law 524 = .ok (.iconst 1, 1) := by decide +kernel
theorem dL_law_525 : decode cL_law 525 = .ok (.iadd, 1) := by decide +kernel
theorem dL_law_526 : decode cL_law 526 = .ok (.iaload, 1) := by decide +kernel
theorem dL_law_527 : decode cL_law 527 = .ok (.invokevirtual 81, 3) := by decide +kernel
theorem dL_law_530 : decode cL_law 530 = .ok (.if_icmp .eq 28, 3) := by decide +kernel
theorem dL_law_533 : decode cL_law 533 = .ok (.iconst 0, 1) := by decide +kernel
theorem dL_law_534 : decode cL_law 534 = .ok (.ireturn, 1) := by decide +kernel
theorem dL_law_535 : decode cL_law 535 = .ok (.aload_n 1, 1) := by decide +kernel
theorem dL_law_536 : decode cL_law 536 = .ok (.aload_n 0, 1) := by decide +kernel
theorem dL_law_537 : decode cL_law 537 = .ok (.iload_n 3, 1) := by decide +kernel
theorem dL_law_538 : decode cL_law 538 = .ok (.iconst 1, 1) := by decide +kernel
theorem dL_law_539 : decode cL_law 539 = .ok (.iadd, 1) := by decide +kernel
theorem dL_law_540 : decode cL_law 540 = .ok (.iaload, 1) := by decide +kernel
theorem dL_law_541 : decode cL_law 541 = .ok (.invokevirtual 82, 3) := by decide +kernel
theorem dL_law_544 : decode cL_law 544 = .ok (.aload_n 2, 1) := by decide +kernel
theorem dL_law_545 : decode cL_law 545 = .ok (.aload_n 0, 1) := by decide +kernel
theorem dL_law_546 : decode cL_law 546 = .ok (.iload_n 3, 1) := by decide +kernel
theorem dL_law_547 : decode cL_law 547 = .ok (.iconst 1, 1) := by decide +kernel
theorem dL_law_548 : decode cL_law 548 = .ok (.iadd, 1) := by decide +kernel
theorem dL_law_549 : decode cL_law 549 = .ok (.iaload, 1) := by decide +kernel
theorem dL_law_550 : decode cL_law 550 = .ok (.invokevirtual 85, 3) := by decide +kernel
theorem dL_law_553 : decode cL_law 553 = .ok (.if_icmp .eq 5, 3) := by decide +kernel
theorem dL_law_556 : decode cL_law 556 = .ok (.iconst 0, 1) := by decide +kernel
theorem dL_law_557 : decode cL_law 557 = .ok (.ireturn, 1) := by decide +kernel
theorem dL_law_558 : decode cL_law 558 = .ok (.iinc 3 4, 3) := by decide +kernel
theorem dL_law_561 : decode cL_law 561 = .ok (.goto (-543), 3) := by decide +kernel
theorem dL_law_564 : decode cL_law 564 = .ok (.iconst 1, 1) := by decide +kernel
theorem dL_law_565 : decode cL_law 565 = .ok (.ireturn, 1) := by decide +kernel
abbrev vwCl : List vw_C := [(RX0, TX0, 5), (RX1, TX1, 3), (RX2, TX2, 13), (RX3, TX3, 6), (RX4, TX4, 3), (RX5, TX5, 9), (RX6, TX6, 7), (RX7, TX7, 22)]
end
section
/-- the words that every contract carries: the tables' words that a call may pass on -/
def tw : List Cond := lw_tbl.filter goodWord
theorem tw_mem {w : Cond} (h : w ∈ lw_tbl) (g : goodWord w = true) : w ∈ tw := List.mem_filter.mpr ⟨h, g⟩
theorem tw_tb {w : Cond} (h : w ∈ tables_1) (g : goodWord w = true) : w ∈ tw := tw_mem (List.mem_append_right _ h) g
theorem tw_sel {w : Cond} (h : w ∈ k2_sels lw_privs) (g : goodWord w = true) : w ∈ tw := tw_mem (List.mem_append_left _ h) g
theorem tw_good : GoodIn tw tw := fun w h => ⟨h, good_of_word (List.mem_filter.mp h).2⟩
theorem iniL : Cond.initialized RL ∈ tw := tw_tb (List.mem_of_getElem? (i := 0) (by decide +kernel)) (by decide +kernel)
theorem iniX6 : Cond.initialized RX6 ∈ tw := tw_tb (List.mem_of_getElem? (i := 1) (by decide +kernel)) (by decide +kernel)
theorem iniX3 : Cond.initialized RX3 ∈ tw := tw_tb (List.mem_of_getElem? (i := 2) (by decide +kernel)) (by decide +kernel)
theorem iniX4 : Cond.initialized RX4 ∈ tw := tw_tb (List.mem_of_getElem? (i := 3) (by decide +kernel)) (by decide +kernel)
theorem iniX5 : Cond.initialized RX5 ∈ tw := tw_tb (List.mem_of_getElem? (i := 4) (by decide +kernel)) (by decide +kernel)
theorem iniX2 : Cond.initialized RX2 ∈ tw := tw_tb (List.mem_of_getElem? (i := 5) (by decide +kernel)) (by decide +kernel)
theorem iniX0 : Cond.initialized RX0 ∈ tw := tw_tb (List.mem_of_getElem? (i := 6) (by decide +kernel)) (by decide +kernel)
theorem iniX1 : Cond.initialized RX1 ∈ tw := tw_tb (List.mem_of_getElem? (i := 7) (by decide +kernel)) (by decide +kernel)
theorem iniX7 : Cond.initialized RX7 ∈ tw := tw_tb (List.mem_of_getElem? (i := 8) (by decide +kernel)) (by decide +kernel)
theorem iniJ0 : Cond.initialized RJ0 ∈ tw := tw_tb (List.mem_of_getElem? (i := 9) (by decide +kernel)) (by decide +kernel)
theorem iniJ1 : Cond.initialized RJ1 ∈ tw := tw_tb (List.mem_of_getElem? (i := 10) (by decide +kernel)) (by decide +kernel)
theorem iniJ3 : Cond.initialized RJ3 ∈ tw := tw_tb (List.mem_of_getElem? (i := 11) (by decide +kernel)) (by decide +kernel)
theorem iniJ2 : Cond.initialized RJ2 ∈ tw := tw_tb (List.mem_of_getElem? (i := 12) (by decide +kernel)) (by decide +kernel)
theorem iniJ10 : Cond.initialized RJ10 ∈ tw := tw_tb (List.mem_of_getElem? (i := 13) (by decide +kernel)) (by decide +kernel)
theorem iniJ9 : Cond.initialized RJ9 ∈ tw := tw_tb (List.mem_of_getElem? (i := 14) (by decide +kernel)) (by decide +kernel)
theorem clL_7 : Cond.classLink RL 7 RX6 ∈ tw := tw_tb (List.mem_of_getElem? (i := 15) (by decide +kernel)) (by decide +kernel)
theorem insX6 : Cond.instantiable RX6 7 ∈ tw := tw_tb (List.mem_of_getElem? (i := 16) (by decide +kernel)) (by decide +kernel)
theorem mlL_9 : Cond.methodLink RL 9 yX6_init ∈ tw := tw_tb (List.mem_of_getElem? (i := 17) (by decide +kernel)) (by decide +kernel)
theorem imX6_init : Cond.instanceMethod yX6_init ∈ tw := tw_tb (List.mem_of_getElem? (i := 18) (by decide +kernel)) (by decide +kernel)
theorem coX6_init : Cond.code yX6_init cX6_init 2 (none) ∈ tw := tw_tb (List.mem_of_getElem? (i := 19) (by decide +kernel)) (by decide +kernel)
theorem mlX6_1 : Cond.methodLink RX6 1 objectInit ∈ tw := tw_tb (List.mem_of_getElem? (i := 20) (by decide +kernel)) (by decide +kernel)
theorem imObj : Cond.instanceMethod objectInit ∈ tw := tw_tb (List.mem_of_getElem? (i := 21) (by decide +kernel)) (by decide +kernel)
theorem coObj : Cond.code objectInit ⟨#[0xb1]⟩ 1 none ∈ tw := tw_tb (List.mem_of_getElem? (i := 22) (by decide +kernel)) (by decide +kernel)
theorem clX6_7 : Cond.classLink RX6 7 RX3 ∈ tw := tw_tb (List.mem_of_getElem? (i := 23) (by decide +kernel)) (by decide +kernel)
theorem insX3 : Cond.instantiable RX3 6 ∈ tw := tw_tb (List.mem_of_getElem? (i := 24) (by decide +kernel)) (by decide +kernel)
theorem mlX6_9 : Cond.methodLink RX6 9 yX3_init ∈ tw := tw_tb (List.mem_of_getElem? (i := 25) (by decide +kernel)) (by decide +kernel)
theorem imX3_init : Cond.instanceMethod yX3_init ∈ tw := tw_tb (List.mem_of_getElem? (i := 26) (by decide +kernel)) (by decide +kernel)
theorem coX3_init : Cond.code yX3_init cX3_init 1 (none) ∈ tw := tw_tb (List.mem_of_getElem? (i := 27) (by decide +kernel)) (by decide +kernel)
theorem mlX3_3 : Cond.methodLink RX3 3 objectInit ∈ tw := tw_tb (List.mem_of_getElem? (i := 28) (by decide +kernel)) (by decide +kernel)
theorem flX3_25 : Cond.fieldLink RX3 25 "ElasticTabs$Page" "lines" "I" ∈ tw := tw_tb (List.mem_of_getElem? (i := 29) (by decide +kernel)) (by decide +kernel)
theorem flX2_49 : Cond.fieldLink RX2 49 "ElasticTabs$Page" "lines" "I" ∈ tw := tw_tb (List.mem_of_getElem? (i := 30) (by decide +kernel)) (by decide +kernel)
theorem flX6_102 : Cond.fieldLink RX6 102 "ElasticTabs$Page" "lines" "I" ∈ tw := tw_tb (List.mem_of_getElem? (i := 31) (by decide +kernel)) (by decide +kernel)
theorem flX3_9 : Cond.fieldLink RX3 9 "ElasticTabs$Page" "pad" "I" ∈ tw := tw_tb (List.mem_of_getElem? (i := 32) (by decide +kernel)) (by decide +kernel)
theorem flX2_114 : Cond.fieldLink RX2 114 "ElasticTabs$Page" "pad" "I" ∈ tw := tw_tb (List.mem_of_getElem? (i := 33) (by decide +kernel)) (by decide +kernel)
theorem flX6_176 : Cond.fieldLink RX6 176 "ElasticTabs$Page" "pad" "I" ∈ tw := tw_tb (List.mem_of_getElem? (i := 34) (by decide +kernel)) (by decide +kernel)
theorem flX3_28 : Cond.fieldLink RX3 28 "ElasticTabs$Page" "least" "I" ∈ tw := tw_tb (List.mem_of_getElem? (i := 35) (by decide +kernel)) (by decide +kernel)
theorem flX2_111 : Cond.fieldLink RX2 111 "ElasticTabs$Page" "least" "I" ∈ tw := tw_tb (List.mem_of_getElem? (i := 36) (by decide +kernel)) (by decide +kernel)
theorem flX6_179 : Cond.fieldLink RX6 179 "ElasticTabs$Page" "least" "I" ∈ tw := tw_tb (List.mem_of_getElem? (i := 37) (by decide +kernel)) (by decide +kernel)
theorem flX3_15 : Cond.fieldLink RX3 15 "ElasticTabs$Page" "sizes" "[I" ∈ tw := tw_tb (List.mem_of_getElem? (i := 38) (by decide +kernel)) (by decide +kernel)
theorem flX2_74 : Cond.fieldLink RX2 74 "ElasticTabs$Page" "sizes" "[I" ∈ tw := tw_tb (List.mem_of_getElem? (i := 39) (by decide +kernel)) (by decide +kernel)
theorem flX6_73 : Cond.fieldLink RX6 73 "ElasticTabs$Page" "sizes" "[I" ∈ tw := tw_tb (List.mem_of_getElem? (i := 40) (by decide +kernel)) (by decide +kernel)
theorem flX3_19 : Cond.fieldLink RX3 19 "ElasticTabs$Page" "signs" "[I" ∈ tw := tw_tb (List.mem_of_getElem? (i := 41) (by decide +kernel)) (by decide +kernel)
theorem flX3_22 : Cond.fieldLink RX3 22 "ElasticTabs$Page" "aligns" "[I" ∈ tw := tw_tb (List.mem_of_getElem? (i := 42) (by decide +kernel)) (by decide +kernel)
theorem flX2_105 : Cond.fieldLink RX2 105 "ElasticTabs$Page" "aligns" "[I" ∈ tw := tw_tb (List.mem_of_getElem? (i := 43) (by decide +kernel)) (by decide +kernel)
theorem flX6_173 : Cond.fieldLink RX6 173 "ElasticTabs$Page" "aligns" "[I" ∈ tw := tw_tb (List.mem_of_getElem? (i := 44) (by decide +kernel)) (by decide +kernel)
theorem ac_int : Cond.arrayClass .int ∈ tw := tw_tb (List.mem_of_getElem? (i := 58) (by decide +kernel)) (by decide +kernel)
theorem clX6_16 : Cond.classLink RX6 16 RX4 ∈ tw := tw_tb (List.mem_of_getElem? (i := 59) (by decide +kernel)) (by decide +kernel)
theorem insX4 : Cond.instantiable RX4 3 ∈ tw := tw_tb (List.mem_of_getElem? (i := 60) (by decide +kernel)) (by decide +kernel)
theorem mlX6_18 : Cond.methodLink RX6 18 yX4_init ∈ tw := tw_tb (List.mem_of_getElem? (i := 61) (by decide +kernel)) (by decide +kernel)
theorem imX4_init : Cond.instanceMethod yX4_init ∈ tw := tw_tb (List.mem_of_getElem? (i := 62) (by decide +kernel)) (by decide +kernel)
theorem coX4_init : Cond.code yX4_init cX4_init 2 (none) ∈ tw := tw_tb (List.mem_of_getElem? (i := 63) (by decide +kernel)) (by decide +kernel)
theorem mlX4_3 : Cond.methodLink RX4 3 objectInit ∈ tw := tw_tb (List.mem_of_getElem? (i := 64) (by decide +kernel)) (by decide +kernel)
theorem clX4_9 : Cond.classLink RX4 9 RX3 ∈ tw := tw_tb (List.mem_of_getElem? (i := 65) (by decide +kernel)) (by decide +kernel)
theorem mlX4_17 : Cond.methodLink RX4 17 yX3_init ∈ tw := tw_tb (List.mem_of_getElem? (i := 67) (by decide +kernel)) (by decide +kernel)
theorem flX4_22 : Cond.fieldLink RX4 22 "ElasticTabs$Past" "known" "I" ∈ tw := tw_tb (List.mem_of_getElem? (i := 68) (by decide +kernel)) (by decide +kernel)
theorem flX6_115 : Cond.fieldLink RX6 115 "ElasticTabs$Past" "known" "I" ∈ tw := tw_tb (List.mem_of_getElem? (i := 69) (by decide +kernel)) (by decide +kernel)
theorem flX4_18 : Cond.fieldLink RX4 18 "ElasticTabs$Past" "oldest" "I" ∈ tw := tw_tb (List.mem_of_getElem? (i := 70) (by decide +kernel)) (by decide +kernel)
theorem flX4_11 : Cond.fieldLink RX4 11 "ElasticTabs$Past" "pages" "[LElasticTabs$Page;" ∈ tw := tw_tb (List.mem_of_getElem? (i := 71) (by decide +kernel)) (by decide +kernel)
theorem clX6_23 : Cond.classLink RX6 23 RX5 ∈ tw := tw_tb (List.mem_of_getElem? (i := 79) (by decide +kernel)) (by decide +kernel)
theorem insX5 : Cond.instantiable RX5 9 ∈ tw := tw_tb (List.mem_of_getElem? (i := 80) (by decide +kernel)) (by decide +kernel)
theorem mlX6_25 : Cond.methodLink RX6 25 yX5_init ∈ tw := tw_tb (List.mem_of_getElem? (i := 81) (by decide +kernel)) (by decide +kernel)
theorem imX5_init : Cond.instanceMethod yX5_init ∈ tw := tw_tb (List.mem_of_getElem? (i := 82) (by decide +kernel)) (by decide +kernel)
theorem coX5_init : Cond.code yX5_init cX5_init 1 (none) ∈ tw := tw_tb (List.mem_of_getElem? (i := 83) (by decide +kernel)) (by decide +kernel)
theorem mlX5_3 : Cond.methodLink RX5 3 objectInit ∈ tw := tw_tb (List.mem_of_getElem? (i := 84) (by decide +kernel)) (by decide +kernel)
theorem flX5_9 : Cond.fieldLink RX5 9 "ElasticTabs$Script" "bytes" "[I" ∈ tw := tw_tb (List.mem_of_getElem? (i := 85) (by decide +kernel)) (by decide +kernel)
theorem flX6_51 : Cond.fieldLink RX6 51 "ElasticTabs$Script" "bytes" "[I" ∈ tw := tw_tb (List.mem_of_getElem? (i := 86) (by decide +kernel)) (by decide +kernel)
theorem flX6_47 : Cond.fieldLink RX6 47 "ElasticTabs$Script" "size" "I" ∈ tw := tw_tb (List.mem_of_getElem? (i := 87) (by decide +kernel)) (by decide +kernel)
theorem flX5_32 : Cond.fieldLink RX5 32 "ElasticTabs$Script" "size" "I" ∈ tw := tw_tb (List.mem_of_getElem? (i := 88) (by decide +kernel)) (by decide +kernel)
theorem flX5_42 : Cond.fieldLink RX5 42 "ElasticTabs$Script" "verb" "I" ∈ tw := tw_tb (List.mem_of_getElem? (i := 89) (by decide +kernel)) (by decide +kernel)
theorem flX6_210 : Cond.fieldLink RX6 210 "ElasticTabs$Script" "verb" "I" ∈ tw := tw_tb (List.mem_of_getElem? (i := 90) (by decide +kernel)) (by decide +kernel)
theorem flX5_88 : Cond.fieldLink RX5 88 "ElasticTabs$Script" "first" "I" ∈ tw := tw_tb (List.mem_of_getElem? (i := 91) (by decide +kernel)) (by decide +kernel)
theorem flX6_204 : Cond.fieldLink RX6 204 "ElasticTabs$Script" "first" "I" ∈ tw := tw_tb (List.mem_of_getElem? (i := 92) (by decide +kernel)) (by decide +kernel)
theorem flX5_91 : Cond.fieldLink RX5 91 "ElasticTabs$Script" "second" "I" ∈ tw := tw_tb (List.mem_of_getElem? (i := 93) (by decide +kernel)) (by decide +kernel)
theorem flX6_207 : Cond.fieldLink RX6 207 "ElasticTabs$Script" "second" "I" ∈ tw := tw_tb (List.mem_of_getElem? (i := 94) (by decide +kernel)) (by decide +kernel)
theorem flX5_45 : Cond.fieldLink RX5 45 "ElasticTabs$Script" "from" "I" ∈ tw := tw_tb (List.mem_of_getElem? (i := 95) (by decide +kernel)) (by decide +kernel)
theorem flX6_226 : Cond.fieldLink RX6 226 "ElasticTabs$Script" "from" "I" ∈ tw := tw_tb (List.mem_of_getElem? (i := 96) (by decide +kernel)) (by decide +kernel)
theorem flX5_75 : Cond.fieldLink RX5 75 "ElasticTabs$Script" "to" "I" ∈ tw := tw_tb (List.mem_of_getElem? (i := 97) (by decide +kernel)) (by decide +kernel)
theorem flX6_248 : Cond.fieldLink RX6 248 "ElasticTabs$Script" "to" "I" ∈ tw := tw_tb (List.mem_of_getElem? (i := 98) (by decide +kernel)) (by decide +kernel)
theorem flX5_15 : Cond.fieldLink RX5 15 "ElasticTabs$Script" "at" "I" ∈ tw := tw_tb (List.mem_of_getElem? (i := 99) (by decide +kernel)) (by decide +kernel)
theorem flX5_19 : Cond.fieldLink RX5 19 "ElasticTabs$Script" "fault" "I" ∈ tw := tw_tb (List.mem_of_getElem? (i := 100) (by decide +kernel)) (by decide +kernel)
theorem clX6_30 : Cond.classLink RX6 30 RX1 ∈ tw := tw_tb (List.mem_of_getElem? (i := 120) (by decide +kernel)) (by decide +kernel)
theorem clX6_36 : Cond.classLink RX6 36 RX2 ∈ tw := tw_tb (List.mem_of_getElem? (i := 122) (by decide +kernel)) (by decide +kernel)
theorem insX2 : Cond.instantiable RX2 13 ∈ tw := tw_tb (List.mem_of_getElem? (i := 123) (by decide +kernel)) (by decide +kernel)
theorem mlX6_38 : Cond.methodLink RX6 38 yX2_init ∈ tw := tw_tb (List.mem_of_getElem? (i := 124) (by decide +kernel)) (by decide +kernel)
theorem imX2_init : Cond.instanceMethod yX2_init ∈ tw := tw_tb (List.mem_of_getElem? (i := 125) (by decide +kernel)) (by decide +kernel)
theorem coX2_init : Cond.code yX2_init cX2_init 1 (none) ∈ tw := tw_tb (List.mem_of_getElem? (i := 126) (by decide +kernel)) (by decide +kernel)
theorem mlX2_3 : Cond.methodLink RX2 3 objectInit ∈ tw := tw_tb (List.mem_of_getElem? (i := 127) (by decide +kernel)) (by decide +kernel)
theorem clX2_33 : Cond.classLink RX2 33 RX0 ∈ tw := tw_tb (List.mem_of_getElem? (i := 128) (by decide +kernel)) (by decide +kernel)
theorem insX0 : Cond.instantiable RX0 5 ∈ tw := tw_tb (List.mem_of_getElem? (i := 129) (by decide +kernel)) (by decide +kernel)
theorem mlX2_35 : Cond.methodLink RX2 35 yX0_init ∈ tw := tw_tb (List.mem_of_getElem? (i := 130) (by decide +kernel)) (by decide +kernel)
theorem imX0_init : Cond.instanceMethod yX0_init ∈ tw := tw_tb (List.mem_of_getElem? (i := 131) (by decide +kernel)) (by decide +kernel)
theorem coX0_init : Cond.code yX0_init cX0_init 1 (none) ∈ tw := tw_tb (List.mem_of_getElem? (i := 132) (by decide +kernel)) (by decide +kernel)
theorem mlX0_1 : Cond.methodLink RX0 1 objectInit ∈ tw := tw_tb (List.mem_of_getElem? (i := 133) (by decide +kernel)) (by decide +kernel)
theorem flX2_79 : Cond.fieldLink RX2 79 "ElasticTabs$Block" "first" "I" ∈ tw := tw_tb (List.mem_of_getElem? (i := 134) (by decide +kernel)) (by decide +kernel)
theorem flX2_82 : Cond.fieldLink RX2 82 "ElasticTabs$Block" "last" "I" ∈ tw := tw_tb (List.mem_of_getElem? (i := 135) (by decide +kernel)) (by decide +kernel)
theorem flX2_88 : Cond.fieldLink RX2 88 "ElasticTabs$Block" "mostAhead" "I" ∈ tw := tw_tb (List.mem_of_getElem? (i := 136) (by decide +kernel)) (by decide +kernel)
theorem flX2_108 : Cond.fieldLink RX2 108 "ElasticTabs$Block" "need" "I" ∈ tw := tw_tb (List.mem_of_getElem? (i := 137) (by decide +kernel)) (by decide +kernel)
theorem flX2_85 : Cond.fieldLink RX2 85 "ElasticTabs$Block" "width" "I" ∈ tw := tw_tb (List.mem_of_getElem? (i := 138) (by decide +kernel)) (by decide +kernel)
theorem flX2_60 : Cond.fieldLink RX2 60 "ElasticTabs$Layout" "blocks" "I" ∈ tw := tw_tb (List.mem_of_getElem? (i := 150) (by decide +kernel)) (by decide +kernel)
theorem flX6_182 : Cond.fieldLink RX6 182 "ElasticTabs$Layout" "blocks" "I" ∈ tw := tw_tb (List.mem_of_getElem? (i := 151) (by decide +kernel)) (by decide +kernel)
theorem flX2_9 : Cond.fieldLink RX2 9 "ElasticTabs$Layout" "cells" "[I" ∈ tw := tw_tb (List.mem_of_getElem? (i := 152) (by decide +kernel)) (by decide +kernel)
theorem flX6_134 : Cond.fieldLink RX6 134 "ElasticTabs$Layout" "cells" "[I" ∈ tw := tw_tb (List.mem_of_getElem? (i := 153) (by decide +kernel)) (by decide +kernel)
theorem flX2_15 : Cond.fieldLink RX2 15 "ElasticTabs$Layout" "tails" "[I" ∈ tw := tw_tb (List.mem_of_getElem? (i := 154) (by decide +kernel)) (by decide +kernel)
theorem flX6_163 : Cond.fieldLink RX6 163 "ElasticTabs$Layout" "tails" "[I" ∈ tw := tw_tb (List.mem_of_getElem? (i := 155) (by decide +kernel)) (by decide +kernel)
theorem flX2_18 : Cond.fieldLink RX2 18 "ElasticTabs$Layout" "tailBegins" "[I" ∈ tw := tw_tb (List.mem_of_getElem? (i := 156) (by decide +kernel)) (by decide +kernel)
theorem flX6_140 : Cond.fieldLink RX6 140 "ElasticTabs$Layout" "tailBegins" "[I" ∈ tw := tw_tb (List.mem_of_getElem? (i := 157) (by decide +kernel)) (by decide +kernel)
theorem flX2_21 : Cond.fieldLink RX2 21 "ElasticTabs$Layout" "wides" "[I" ∈ tw := tw_tb (List.mem_of_getElem? (i := 158) (by decide +kernel)) (by decide +kernel)
theorem flX6_137 : Cond.fieldLink RX6 137 "ElasticTabs$Layout" "wides" "[I" ∈ tw := tw_tb (List.mem_of_getElem? (i := 159) (by decide +kernel)) (by decide +kernel)
theorem flX2_24 : Cond.fieldLink RX2 24 "ElasticTabs$Layout" "sizes" "[I" ∈ tw := tw_tb (List.mem_of_getElem? (i := 160) (by decide +kernel)) (by decide +kernel)
theorem flX6_143 : Cond.fieldLink RX6 143 "ElasticTabs$Layout" "sizes" "[I" ∈ tw := tw_tb (List.mem_of_getElem? (i := 161) (by decide +kernel)) (by decide +kernel)
theorem flX2_27 : Cond.fieldLink RX2 27 "ElasticTabs$Layout" "widths" "[I" ∈ tw := tw_tb (List.mem_of_getElem? (i := 162) (by decide +kernel)) (by decide +kernel)
theorem flX6_144 : Cond.fieldLink RX6 144 "ElasticTabs$Layout" "widths" "[I" ∈ tw := tw_tb (List.mem_of_getElem? (i := 163) (by decide +kernel)) (by decide +kernel)
theorem flX2_30 : Cond.fieldLink RX2 30 "ElasticTabs$Layout" "begins" "[I" ∈ tw := tw_tb (List.mem_of_getElem? (i := 164) (by decide +kernel)) (by decide +kernel)
theorem flX6_147 : Cond.fieldLink RX6 147 "ElasticTabs$Layout" "begins" "[I" ∈ tw := tw_tb (List.mem_of_getElem? (i := 165) (by decide +kernel)) (by decide +kernel)
theorem flX2_55 : Cond.fieldLink RX2 55 "ElasticTabs$Layout" "lines" "I" ∈ tw := tw_tb (List.mem_of_getElem? (i := 166) (by decide +kernel)) (by decide +kernel)
theorem flX2_36 : Cond.fieldLink RX2 36 "ElasticTabs$Layout" "block" "LElasticTabs$Block;" ∈ tw := tw_tb (List.mem_of_getElem? (i := 167) (by decide +kernel)) (by decide +kernel)
theorem flX2_40 : Cond.fieldLink RX2 40 "ElasticTabs$Layout" "starts" "[I" ∈ tw := tw_tb (List.mem_of_getElem? (i := 168) (by decide +kernel)) (by decide +kernel)
theorem flX2_43 : Cond.fieldLink RX2 43 "ElasticTabs$Layout" "aheads" "[I" ∈ tw := tw_tb (List.mem_of_getElem? (i := 169) (by decide +kernel)) (by decide +kernel)
theorem flX2_46 : Cond.fieldLink RX2 46 "ElasticTabs$Layout" "mostAheads" "[I" ∈ tw := tw_tb (List.mem_of_getElem? (i := 170) (by decide +kernel)) (by decide +kernel)
theorem insX1 : Cond.instantiable RX1 3 ∈ tw := tw_tb (List.mem_of_getElem? (i := 198) (by decide +kernel)) (by decide +kernel)
theorem mlX6_46 : Cond.methodLink RX6 46 yX1_init ∈ tw := tw_tb (List.mem_of_getElem? (i := 199) (by decide +kernel)) (by decide +kernel)
theorem imX1_init : Cond.instanceMethod yX1_init ∈ tw := tw_tb (List.mem_of_getElem? (i := 200) (by decide +kernel)) (by decide +kernel)
theorem coX1_init : Cond.code yX1_init cX1_init 1 (none) ∈ tw := tw_tb (List.mem_of_getElem? (i := 201) (by decide +kernel)) (by decide +kernel)
theorem mlX1_1 : Cond.methodLink RX1 1 objectInit ∈ tw := tw_tb (List.mem_of_getElem? (i := 202) (by decide +kernel)) (by decide +kernel)
theorem clX1_7 : Cond.classLink RX1 7 RX3 ∈ tw := tw_tb (List.mem_of_getElem? (i := 203) (by decide +kernel)) (by decide +kernel)
theorem mlX1_9 : Cond.methodLink RX1 9 yX3_init ∈ tw := tw_tb (List.mem_of_getElem? (i := 204) (by decide +kernel)) (by decide +kernel)
theorem clX1_16 : Cond.classLink RX1 16 RX4 ∈ tw := tw_tb (List.mem_of_getElem? (i := 205) (by decide +kernel)) (by decide +kernel)
theorem mlX1_18 : Cond.methodLink RX1 18 yX4_init ∈ tw := tw_tb (List.mem_of_getElem? (i := 206) (by decide +kernel)) (by decide +kernel)
theorem flX6_200 : Cond.fieldLink RX6 200 "ElasticTabs$Image" "isKept" "Z" ∈ tw := tw_tb (List.mem_of_getElem? (i := 207) (by decide +kernel)) (by decide +kernel)
theorem flX1_10 : Cond.fieldLink RX1 10 "ElasticTabs$Image" "page" "LElasticTabs$Page;" ∈ tw := tw_tb (List.mem_of_getElem? (i := 208) (by decide +kernel)) (by decide +kernel)
theorem flX6_195 : Cond.fieldLink RX6 195 "ElasticTabs$Image" "page" "LElasticTabs$Page;" ∈ tw := tw_tb (List.mem_of_getElem? (i := 209) (by decide +kernel)) (by decide +kernel)
theorem flX1_19 : Cond.fieldLink RX1 19 "ElasticTabs$Image" "past" "LElasticTabs$Past;" ∈ tw := tw_tb (List.mem_of_getElem? (i := 210) (by decide +kernel)) (by decide +kernel)
theorem flX6_196 : Cond.fieldLink RX6 196 "ElasticTabs$Image" "past" "LElasticTabs$Past;" ∈ tw := tw_tb (List.mem_of_getElem? (i := 211) (by decide +kernel)) (by decide +kernel)
theorem flX6_10 : Cond.fieldLink RX6 10 "ElasticTabs" "page" "LElasticTabs$Page;" ∈ tw := tw_tb (List.mem_of_getElem? (i := 219) (by decide +kernel)) (by decide +kernel)
theorem flX6_19 : Cond.fieldLink RX6 19 "ElasticTabs" "past" "LElasticTabs$Past;" ∈ tw := tw_tb (List.mem_of_getElem? (i := 220) (by decide +kernel)) (by decide +kernel)
theorem flX6_26 : Cond.fieldLink RX6 26 "ElasticTabs" "script" "LElasticTabs$Script;" ∈ tw := tw_tb (List.mem_of_getElem? (i := 221) (by decide +kernel)) (by decide +kernel)
theorem flX6_32 : Cond.fieldLink RX6 32 "ElasticTabs" "images" "[LElasticTabs$Image;" ∈ tw := tw_tb (List.mem_of_getElem? (i := 222) (by decide +kernel)) (by decide +kernel)
theorem flX6_39 : Cond.fieldLink RX6 39 "ElasticTabs" "layout" "LElasticTabs$Layout;" ∈ tw := tw_tb (List.mem_of_getElem? (i := 223) (by decide +kernel)) (by decide +kernel)
theorem flX6_43 : Cond.fieldLink RX6 43 "ElasticTabs" "former" "LElasticTabs$Layout;" ∈ tw := tw_tb (List.mem_of_getElem? (i := 224) (by decide +kernel)) (by decide +kernel)
theorem flX6_131 : Cond.fieldLink RX6 131 "ElasticTabs" "changed" "I" ∈ tw := tw_tb (List.mem_of_getElem? (i := 225) (by decide +kernel)) (by decide +kernel)
theorem mlL_13 : Cond.methodLink RL 13 yX6_type ∈ tw := tw_tb (List.mem_of_getElem? (i := 241) (by decide +kernel)) (by decide +kernel)
theorem imX6_type : Cond.instanceMethod yX6_type ∈ tw := tw_tb (List.mem_of_getElem? (i := 242) (by decide +kernel)) (by decide +kernel)
theorem seX6_type : Cond.selects RX6 yX6_type yX6_type ∈ tw := tw_tb (List.mem_of_getElem? (i := 243) (by decide +kernel)) (by decide +kernel)
theorem coX6_type : Cond.code yX6_type cX6_type 2 ((some FieldType.int)) ∈ tw := tw_tb (List.mem_of_getElem? (i := 244) (by decide +kernel)) (by decide +kernel)
theorem mlL_18 : Cond.methodLink RL 18 yX6_clear ∈ tw := tw_tb (List.mem_of_getElem? (i := 245) (by decide +kernel)) (by decide +kernel)
theorem imX6_clear : Cond.instanceMethod yX6_clear ∈ tw := tw_tb (List.mem_of_getElem? (i := 246) (by decide +kernel)) (by decide +kernel)
theorem seX6_clear : Cond.selects RX6 yX6_clear yX6_clear ∈ tw := tw_tb (List.mem_of_getElem? (i := 247) (by decide +kernel)) (by decide +kernel)
theorem coX6_clear : Cond.code yX6_clear cX6_clear 2 ((some FieldType.int)) ∈ tw := tw_tb (List.mem_of_getElem? (i := 248) (by decide +kernel)) (by decide +kernel)
theorem mlL_23 : Cond.methodLink RL 23 yX6_run ∈ tw := tw_tb (List.mem_of_getElem? (i := 249) (by decide +kernel)) (by decide +kernel)
theorem imX6_run : Cond.instanceMethod yX6_run ∈ tw := tw_tb (List.mem_of_getElem? (i := 250) (by decide +kernel)) (by decide +kernel)
theorem seX6_run : Cond.selects RX6 yX6_run yX6_run ∈ tw := tw_tb (List.mem_of_getElem? (i := 251) (by decide +kernel)) (by decide +kernel)
theorem coX6_run : Cond.code yX6_run cX6_run 4 ((some FieldType.int)) ∈ tw := tw_tb (List.mem_of_getElem? (i := 252) (by decide +kernel)) (by decide +kernel)
theorem mlX6_55 : Cond.methodLink RX6 55 yX5_firstFault ∈ tw := tw_tb (List.mem_of_getElem? (i := 253) (by decide +kernel)) (by decide +kernel)
theorem imX5_firstFault : Cond.instanceMethod yX5_firstFault ∈ tw := tw_tb (List.mem_of_getElem? (i := 254) (by decide +kernel)) (by decide +kernel)
theorem seX5_firstFault : Cond.selects RX5 yX5_firstFault yX5_firstFault ∈ tw := tw_tb (List.mem_of_getElem? (i := 255) (by decide +kernel)) (by decide +kernel)
theorem coX5_firstFault : Cond.code yX5_firstFault cX5_firstFault 2 ((some FieldType.int)) ∈ tw := tw_tb (List.mem_of_getElem? (i := 256) (by decide +kernel)) (by decide +kernel)
theorem mlX5_22 : Cond.methodLink RX5 22 yX5_rewind ∈ tw := tw_tb (List.mem_of_getElem? (i := 257) (by decide +kernel)) (by decide +kernel)
theorem imX5_rewind : Cond.instanceMethod yX5_rewind ∈ tw := tw_tb (List.mem_of_getElem? (i := 258) (by decide +kernel)) (by decide +kernel)
theorem seX5_rewind : Cond.selects RX5 yX5_rewind yX5_rewind ∈ tw := tw_tb (List.mem_of_getElem? (i := 259) (by decide +kernel)) (by decide +kernel)
theorem coX5_rewind : Cond.code yX5_rewind cX5_rewind 1 (none) ∈ tw := tw_tb (List.mem_of_getElem? (i := 260) (by decide +kernel)) (by decide +kernel)
theorem mlX5_25 : Cond.methodLink RX5 25 yX5_readCommand ∈ tw := tw_tb (List.mem_of_getElem? (i := 261) (by decide +kernel)) (by decide +kernel)
theorem imX5_readCommand : Cond.instanceMethod yX5_readCommand ∈ tw := tw_tb (List.mem_of_getElem? (i := 262) (by decide +kernel)) (by decide +kernel)
theorem seX5_readCommand : Cond.selects RX5 yX5_readCommand yX5_readCommand ∈ tw := tw_tb (List.mem_of_getElem? (i := 263) (by decide +kernel)) (by decide +kernel)
theorem coX5_readCommand : Cond.code yX5_readCommand cX5_readCommand 3 ((some FieldType.boolean)) ∈ tw := tw_tb (List.mem_of_getElem? (i := 264) (by decide +kernel)) (by decide +kernel)
theorem mlX5_29 : Cond.methodLink RX5 29 yX5_skipBlanks ∈ tw := tw_tb (List.mem_of_getElem? (i := 265) (by decide +kernel)) (by decide +kernel)
theorem imX5_skipBlanks : Cond.instanceMethod yX5_skipBlanks ∈ tw := tw_tb (List.mem_of_getElem? (i := 267) (by decide +kernel)) (by decide +kernel)
theorem coX5_skipBlanks : Cond.code yX5_skipBlanks cX5_skipBlanks 1 (none) ∈ tw := tw_tb (List.mem_of_getElem? (i := 268) (by decide +kernel)) (by decide +kernel)
theorem mlX5_35 : Cond.methodLink RX5 35 yX5_readWord ∈ tw := tw_tb (List.mem_of_getElem? (i := 269) (by decide +kernel)) (by decide +kernel)
theorem imX5_readWord : Cond.instanceMethod yX5_readWord ∈ tw := tw_tb (List.mem_of_getElem? (i := 271) (by decide +kernel)) (by decide +kernel)
theorem coX5_readWord : Cond.code yX5_readWord cX5_readWord 1 ((some FieldType.boolean)) ∈ tw := tw_tb (List.mem_of_getElem? (i := 272) (by decide +kernel)) (by decide +kernel)
theorem mlX5_72 : Cond.methodLink RX5 72 yX5_isSign ∈ tw := tw_tb (List.mem_of_getElem? (i := 273) (by decide +kernel)) (by decide +kernel)
theorem stX5_isSign : Cond.static yX5_isSign ∈ tw := tw_tb (List.mem_of_getElem? (i := 274) (by decide +kernel)) (by decide +kernel)
theorem coX5_isSign : Cond.code yX5_isSign cX5_isSign 1 ((some FieldType.boolean)) ∈ tw := tw_tb (List.mem_of_getElem? (i := 275) (by decide +kernel)) (by decide +kernel)
theorem mlX5_85 : Cond.methodLink RX5 85 yX5_isFigure ∈ tw := tw_tb (List.mem_of_getElem? (i := 276) (by decide +kernel)) (by decide +kernel)
theorem stX5_isFigure : Cond.static yX5_isFigure ∈ tw := tw_tb (List.mem_of_getElem? (i := 277) (by decide +kernel)) (by decide +kernel)
theorem coX5_isFigure : Cond.code yX5_isFigure cX5_isFigure 1 ((some FieldType.boolean)) ∈ tw := tw_tb (List.mem_of_getElem? (i := 278) (by decide +kernel)) (by decide +kernel)
theorem mlX5_48 : Cond.methodLink RX5 48 yX5_failAt ∈ tw := tw_tb (List.mem_of_getElem? (i := 279) (by decide +kernel)) (by decide +kernel)
theorem imX5_failAt : Cond.instanceMethod yX5_failAt ∈ tw := tw_tb (List.mem_of_getElem? (i := 281) (by decide +kernel)) (by decide +kernel)
theorem coX5_failAt : Cond.code yX5_failAt cX5_failAt 2 ((some FieldType.boolean)) ∈ tw := tw_tb (List.mem_of_getElem? (i := 282) (by decide +kernel)) (by decide +kernel)
theorem mlX5_38 : Cond.methodLink RX5 38 yX5_verbOfWord ∈ tw := tw_tb (List.mem_of_getElem? (i := 283) (by decide +kernel)) (by decide +kernel)
theorem imX5_verbOfWord : Cond.instanceMethod yX5_verbOfWord ∈ tw := tw_tb (List.mem_of_getElem? (i := 285) (by decide +kernel)) (by decide +kernel)
theorem coX5_verbOfWord : Cond.code yX5_verbOfWord cX5_verbOfWord 2 ((some FieldType.int)) ∈ tw := tw_tb (List.mem_of_getElem? (i := 286) (by decide +kernel)) (by decide +kernel)
theorem mlX5_101 : Cond.methodLink RX5 101 yX5_nameOfVerb ∈ tw := tw_tb (List.mem_of_getElem? (i := 287) (by decide +kernel)) (by decide +kernel)
theorem stX5_nameOfVerb : Cond.static yX5_nameOfVerb ∈ tw := tw_tb (List.mem_of_getElem? (i := 288) (by decide +kernel)) (by decide +kernel)
theorem coX5_nameOfVerb : Cond.code yX5_nameOfVerb cX5_nameOfVerb 1 ((some (FieldType.object "java/lang/String"))) ∈ tw := tw_tb (List.mem_of_getElem? (i := 289) (by decide +kernel)) (by decide +kernel)
theorem mlX5_97 : Cond.methodLink RX5 97 yX5_isWord ∈ tw := tw_tb (List.mem_of_getElem? (i := 299) (by decide +kernel)) (by decide +kernel)
theorem imX5_isWord : Cond.instanceMethod yX5_isWord ∈ tw := tw_tb (List.mem_of_getElem? (i := 301) (by decide +kernel)) (by decide +kernel)
theorem coX5_isWord : Cond.code yX5_isWord cX5_isWord 3 ((some FieldType.boolean)) ∈ tw := tw_tb (List.mem_of_getElem? (i := 302) (by decide +kernel)) (by decide +kernel)
theorem mlX5_56 : Cond.methodLink RX5 56 yJ0_length_8abf5 ∈ tw := tw_tb (List.mem_of_getElem? (i := 303) (by decide +kernel)) (by decide +kernel)
theorem imJ0_length_8abf5 : Cond.instanceMethod yJ0_length_8abf5 ∈ tw := tw_tb (List.mem_of_getElem? (i := 304) (by decide +kernel)) (by decide +kernel)
theorem seJ0_length_8abf5 : Cond.selects RJ0 yJ0_length_8abf5 yJ0_length_8abf5 ∈ tw := tw_tb (List.mem_of_getElem? (i := 305) (by decide +kernel)) (by decide +kernel)
theorem coJ0_length_8abf5 : Cond.code yJ0_length_8abf5 cJ0_length_8abf5 1 ((some FieldType.int)) ∈ tw := tw_tb (List.mem_of_getElem? (i := 306) (by decide +kernel)) (by decide +kernel)
theorem mlJ0_335 : Cond.methodLink RJ0 335 yJ0_coder_7d493 ∈ tw := tw_tb (List.mem_of_getElem? (i := 307) (by decide +kernel)) (by decide +kernel)
theorem imJ0_coder_7d493 : Cond.instanceMethod yJ0_coder_7d493 ∈ tw := tw_tb (List.mem_of_getElem? (i := 308) (by decide +kernel)) (by decide +kernel)
theorem seJ0_coder_7d493 : Cond.selects RJ0 yJ0_coder_7d493 yJ0_coder_7d493 ∈ tw := tw_tb (List.mem_of_getElem? (i := 309) (by decide +kernel)) (by decide +kernel)
theorem coJ0_coder_7d493 : Cond.code yJ0_coder_7d493 cJ0_coder_7d493 1 ((some FieldType.byte)) ∈ tw := tw_tb (List.mem_of_getElem? (i := 310) (by decide +kernel)) (by decide +kernel)
theorem flJ0_38 : Cond.fieldLink RJ0 38 "java/lang/String" "COMPACT_STRINGS" "Z" ∈ tw := tw_tb (List.mem_of_getElem? (i := 311) (by decide +kernel)) (by decide +kernel)
theorem mlX5_61 : Cond.methodLink RX5 61 yJ0_charAt_5068e ∈ tw := tw_tb (List.mem_of_getElem? (i := 313) (by decide +kernel)) (by decide +kernel)
theorem imJ0_charAt_5068e : Cond.instanceMethod yJ0_charAt_5068e ∈ tw := tw_tb (List.mem_of_getElem? (i := 314) (by decide +kernel)) (by decide +kernel)
theorem seJ0_charAt_5068e : Cond.selects RJ0 yJ0_charAt_5068e yJ0_charAt_5068e ∈ tw := tw_tb (List.mem_of_getElem? (i := 315) (by decide +kernel)) (by decide +kernel)
theorem coJ0_charAt_5068e : Cond.code yJ0_charAt_5068e cJ0_charAt_5068e 2 ((some FieldType.char)) ∈ tw := tw_tb (List.mem_of_getElem? (i := 316) (by decide +kernel)) (by decide +kernel)
theorem mlJ0_492 : Cond.methodLink RJ0 492 yJ0_isLatin1_aae02 ∈ tw := tw_tb (List.mem_of_getElem? (i := 317) (by decide +kernel)) (by decide +kernel)
theorem imJ0_isLatin1_aae02 : Cond.instanceMethod yJ0_isLatin1_aae02 ∈ tw := tw_tb (List.mem_of_getElem? (i := 318) (by decide +kernel)) (by decide +kernel)
theorem seJ0_isLatin1_aae02 : Cond.selects RJ0 yJ0_isLatin1_aae02 yJ0_isLatin1_aae02 ∈ tw := tw_tb (List.mem_of_getElem? (i := 319) (by decide +kernel)) (by decide +kernel)
theorem coJ0_isLatin1_aae02 : Cond.code yJ0_isLatin1_aae02 cJ0_isLatin1_aae02 1 ((some FieldType.boolean)) ∈ tw := tw_tb (List.mem_of_getElem? (i := 320) (by decide +kernel)) (by decide +kernel)
theorem mlJ0_495 : Cond.methodLink RJ0 495 yJ1_charAt_3b067 ∈ tw := tw_tb (List.mem_of_getElem? (i := 321) (by decide +kernel)) (by decide +kernel)
theorem stJ1_charAt_3b067 : Cond.static yJ1_charAt_3b067 ∈ tw := tw_tb (List.mem_of_getElem? (i := 322) (by decide +kernel)) (by decide +kernel)
theorem coJ1_charAt_3b067 : Cond.code yJ1_charAt_3b067 cJ1_charAt_3b067 2 ((some FieldType.char)) ∈ tw := tw_tb (List.mem_of_getElem? (i := 323) (by decide +kernel)) (by decide +kernel)
theorem mlJ1_9 : Cond.methodLink RJ1 9 yJ0_checkIndex_df160 ∈ tw := tw_tb (List.mem_of_getElem? (i := 324) (by decide +kernel)) (by decide +kernel)
theorem stJ0_checkIndex_df160 : Cond.static yJ0_checkIndex_df160 ∈ tw := tw_tb (List.mem_of_getElem? (i := 325) (by decide +kernel)) (by decide +kernel)
theorem coJ0_checkIndex_df160 : Cond.code yJ0_checkIndex_df160 cJ0_checkIndex_df160 2 (none) ∈ tw := tw_tb (List.mem_of_getElem? (i := 326) (by decide +kernel)) (by decide +kernel)
theorem flJ0_1053 : Cond.fieldLink RJ0 1053 "jdk/internal/util/Preconditions" "SIOOBE_FORMATTER" "Ljava/util/function/BiFunction;" ∈ tw := tw_tb (List.mem_of_getElem? (i := 327) (by decide +kernel)) (by decide +kernel)
theorem mlJ0_1059 : Cond.methodLink RJ0 1059 yJ3_checkIndex_8e157 ∈ tw := tw_tb (List.mem_of_getElem? (i := 329) (by decide +kernel)) (by decide +kernel)
theorem stJ3_checkIndex_8e157 : Cond.static yJ3_checkIndex_8e157 ∈ tw := tw_tb (List.mem_of_getElem? (i := 330) (by decide +kernel)) (by decide +kernel)
theorem coJ3_checkIndex_8e157 : Cond.code yJ3_checkIndex_8e157 cJ3_checkIndex_8e157 3 ((some FieldType.int)) ∈ tw := tw_tb (List.mem_of_getElem? (i := 331) (by decide +kernel)) (by decide +kernel)
theorem mlJ0_498 : Cond.methodLink RJ0 498 yJ2_charAt_3b067 ∈ tw := tw_tb (List.mem_of_getElem? (i := 332) (by decide +kernel)) (by decide +kernel)
theorem stJ2_charAt_3b067 : Cond.static yJ2_charAt_3b067 ∈ tw := tw_tb (List.mem_of_getElem? (i := 333) (by decide +kernel)) (by decide +kernel)
theorem coJ2_charAt_3b067 : Cond.code yJ2_charAt_3b067 cJ2_charAt_3b067 2 ((some FieldType.char)) ∈ tw := tw_tb (List.mem_of_getElem? (i := 334) (by decide +kernel)) (by decide +kernel)
theorem mlJ2_67 : Cond.methodLink RJ2 67 yJ2_checkIndex_2214a ∈ tw := tw_tb (List.mem_of_getElem? (i := 335) (by decide +kernel)) (by decide +kernel)
theorem stJ2_checkIndex_2214a : Cond.static yJ2_checkIndex_2214a ∈ tw := tw_tb (List.mem_of_getElem? (i := 336) (by decide +kernel)) (by decide +kernel)
theorem coJ2_checkIndex_2214a : Cond.code yJ2_checkIndex_2214a cJ2_checkIndex_2214a 2 (none) ∈ tw := tw_tb (List.mem_of_getElem? (i := 337) (by decide +kernel)) (by decide +kernel)
theorem mlJ2_48 : Cond.methodLink RJ2 48 yJ2_length_9d52b ∈ tw := tw_tb (List.mem_of_getElem? (i := 338) (by decide +kernel)) (by decide +kernel)
theorem stJ2_length_9d52b : Cond.static yJ2_length_9d52b ∈ tw := tw_tb (List.mem_of_getElem? (i := 339) (by decide +kernel)) (by decide +kernel)
theorem coJ2_length_9d52b : Cond.code yJ2_length_9d52b cJ2_length_9d52b 1 ((some FieldType.int)) ∈ tw := tw_tb (List.mem_of_getElem? (i := 340) (by decide +kernel)) (by decide +kernel)
theorem mlJ2_414 : Cond.methodLink RJ2 414 yJ0_checkIndex_df160 ∈ tw := tw_tb (List.mem_of_getElem? (i := 341) (by decide +kernel)) (by decide +kernel)
theorem mlJ2_71 : Cond.methodLink RJ2 71 yJ2_getChar_3b067 ∈ tw := tw_tb (List.mem_of_getElem? (i := 342) (by decide +kernel)) (by decide +kernel)
theorem stJ2_getChar_3b067 : Cond.static yJ2_getChar_3b067 ∈ tw := tw_tb (List.mem_of_getElem? (i := 343) (by decide +kernel)) (by decide +kernel)
theorem coJ2_getChar_3b067 : Cond.code yJ2_getChar_3b067 cJ2_getChar_3b067 2 ((some FieldType.char)) ∈ tw := tw_tb (List.mem_of_getElem? (i := 344) (by decide +kernel)) (by decide +kernel)
theorem flJ2_44 : Cond.fieldLink RJ2 44 "java/lang/StringUTF16" "$assertionsDisabled" "Z" ∈ tw := tw_tb (List.mem_of_getElem? (i := 345) (by decide +kernel)) (by decide +kernel)
theorem flJ2_59 : Cond.fieldLink RJ2 59 "java/lang/StringUTF16" "HI_BYTE_SHIFT" "I" ∈ tw := tw_tb (List.mem_of_getElem? (i := 347) (by decide +kernel)) (by decide +kernel)
theorem flJ2_63 : Cond.fieldLink RJ2 63 "java/lang/StringUTF16" "LO_BYTE_SHIFT" "I" ∈ tw := tw_tb (List.mem_of_getElem? (i := 349) (by decide +kernel)) (by decide +kernel)
theorem mlX5_52 : Cond.methodLink RX5 52 yX5_shapeOf ∈ tw := tw_tb (List.mem_of_getElem? (i := 351) (by decide +kernel)) (by decide +kernel)
theorem stX5_shapeOf : Cond.static yX5_shapeOf ∈ tw := tw_tb (List.mem_of_getElem? (i := 352) (by decide +kernel)) (by decide +kernel)
theorem coX5_shapeOf : Cond.code yX5_shapeOf cX5_shapeOf 1 ((some (FieldType.object "java/lang/String"))) ∈ tw := tw_tb (List.mem_of_getElem? (i := 353) (by decide +kernel)) (by decide +kernel)
theorem mlX5_65 : Cond.methodLink RX5 65 yX5_takeWord ∈ tw := tw_tb (List.mem_of_getElem? (i := 359) (by decide +kernel)) (by decide +kernel)
theorem imX5_takeWord : Cond.instanceMethod yX5_takeWord ∈ tw := tw_tb (List.mem_of_getElem? (i := 361) (by decide +kernel)) (by decide +kernel)
theorem coX5_takeWord : Cond.code yX5_takeWord cX5_takeWord 3 ((some FieldType.boolean)) ∈ tw := tw_tb (List.mem_of_getElem? (i := 362) (by decide +kernel)) (by decide +kernel)
theorem mlX5_78 : Cond.methodLink RX5 78 yX5_takeNumber ∈ tw := tw_tb (List.mem_of_getElem? (i := 363) (by decide +kernel)) (by decide +kernel)
theorem imX5_takeNumber : Cond.instanceMethod yX5_takeNumber ∈ tw := tw_tb (List.mem_of_getElem? (i := 365) (by decide +kernel)) (by decide +kernel)
theorem coX5_takeNumber : Cond.code yX5_takeNumber cX5_takeNumber 5 ((some FieldType.boolean)) ∈ tw := tw_tb (List.mem_of_getElem? (i := 366) (by decide +kernel)) (by decide +kernel)
theorem mlX5_82 : Cond.methodLink RX5 82 yX5_takeAlign ∈ tw := tw_tb (List.mem_of_getElem? (i := 367) (by decide +kernel)) (by decide +kernel)
theorem imX5_takeAlign : Cond.instanceMethod yX5_takeAlign ∈ tw := tw_tb (List.mem_of_getElem? (i := 369) (by decide +kernel)) (by decide +kernel)
theorem coX5_takeAlign : Cond.code yX5_takeAlign cX5_takeAlign 2 ((some FieldType.boolean)) ∈ tw := tw_tb (List.mem_of_getElem? (i := 370) (by decide +kernel)) (by decide +kernel)
theorem mlX5_94 : Cond.methodLink RX5 94 yX5_nameOfAlign ∈ tw := tw_tb (List.mem_of_getElem? (i := 371) (by decide +kernel)) (by decide +kernel)
theorem stX5_nameOfAlign : Cond.static yX5_nameOfAlign ∈ tw := tw_tb (List.mem_of_getElem? (i := 372) (by decide +kernel)) (by decide +kernel)
theorem coX5_nameOfAlign : Cond.code yX5_nameOfAlign cX5_nameOfAlign 1 ((some (FieldType.object "java/lang/String"))) ∈ tw := tw_tb (List.mem_of_getElem? (i := 373) (by decide +kernel)) (by decide +kernel)
theorem mlX5_69 : Cond.methodLink RX5 69 yX5_readEnd ∈ tw := tw_tb (List.mem_of_getElem? (i := 378) (by decide +kernel)) (by decide +kernel)
theorem imX5_readEnd : Cond.instanceMethod yX5_readEnd ∈ tw := tw_tb (List.mem_of_getElem? (i := 380) (by decide +kernel)) (by decide +kernel)
theorem coX5_readEnd : Cond.code yX5_readEnd cX5_readEnd 1 ((some FieldType.boolean)) ∈ tw := tw_tb (List.mem_of_getElem? (i := 381) (by decide +kernel)) (by decide +kernel)
theorem mlX6_59 : Cond.methodLink RX6 59 yX5_rewind ∈ tw := tw_tb (List.mem_of_getElem? (i := 382) (by decide +kernel)) (by decide +kernel)
theorem mlX6_62 : Cond.methodLink RX6 62 yX5_readCommand ∈ tw := tw_tb (List.mem_of_getElem? (i := 383) (by decide +kernel)) (by decide +kernel)
theorem mlX6_66 : Cond.methodLink RX6 66 yX6_perform ∈ tw := tw_tb (List.mem_of_getElem? (i := 384) (by decide +kernel)) (by decide +kernel)
theorem imX6_perform : Cond.instanceMethod yX6_perform ∈ tw := tw_tb (List.mem_of_getElem? (i := 386) (by decide +kernel)) (by decide +kernel)
theorem coX6_perform : Cond.code yX6_perform cX6_perform 3 ((some FieldType.int)) ∈ tw := tw_tb (List.mem_of_getElem? (i := 387) (by decide +kernel)) (by decide +kernel)
theorem mlX6_213 : Cond.methodLink RX6 213 yX6_addLine ∈ tw := tw_tb (List.mem_of_getElem? (i := 388) (by decide +kernel)) (by decide +kernel)
theorem imX6_addLine : Cond.instanceMethod yX6_addLine ∈ tw := tw_tb (List.mem_of_getElem? (i := 390) (by decide +kernel)) (by decide +kernel)
theorem coX6_addLine : Cond.code yX6_addLine cX6_addLine 3 ((some FieldType.int)) ∈ tw := tw_tb (List.mem_of_getElem? (i := 391) (by decide +kernel)) (by decide +kernel)
theorem mlX6_79 : Cond.methodLink RX6 79 yX4_remember ∈ tw := tw_tb (List.mem_of_getElem? (i := 392) (by decide +kernel)) (by decide +kernel)
theorem imX4_remember : Cond.instanceMethod yX4_remember ∈ tw := tw_tb (List.mem_of_getElem? (i := 393) (by decide +kernel)) (by decide +kernel)
theorem seX4_remember : Cond.selects RX4 yX4_remember yX4_remember ∈ tw := tw_tb (List.mem_of_getElem? (i := 394) (by decide +kernel)) (by decide +kernel)
theorem coX4_remember : Cond.code yX4_remember cX4_remember 2 (none) ∈ tw := tw_tb (List.mem_of_getElem? (i := 395) (by decide +kernel)) (by decide +kernel)
theorem mlX4_25 : Cond.methodLink RX4 25 yX4_slot ∈ tw := tw_tb (List.mem_of_getElem? (i := 396) (by decide +kernel)) (by decide +kernel)
theorem imX4_slot : Cond.instanceMethod yX4_slot ∈ tw := tw_tb (List.mem_of_getElem? (i := 398) (by decide +kernel)) (by decide +kernel)
theorem coX4_slot : Cond.code yX4_slot cX4_slot 2 ((some FieldType.int)) ∈ tw := tw_tb (List.mem_of_getElem? (i := 399) (by decide +kernel)) (by decide +kernel)
theorem mlX4_29 : Cond.methodLink RX4 29 yX3_copyFrom ∈ tw := tw_tb (List.mem_of_getElem? (i := 400) (by decide +kernel)) (by decide +kernel)
theorem imX3_copyFrom : Cond.instanceMethod yX3_copyFrom ∈ tw := tw_tb (List.mem_of_getElem? (i := 401) (by decide +kernel)) (by decide +kernel)
theorem seX3_copyFrom : Cond.selects RX3 yX3_copyFrom yX3_copyFrom ∈ tw := tw_tb (List.mem_of_getElem? (i := 402) (by decide +kernel)) (by decide +kernel)
theorem coX3_copyFrom : Cond.code yX3_copyFrom cX3_copyFrom 2 (none) ∈ tw := tw_tb (List.mem_of_getElem? (i := 403) (by decide +kernel)) (by decide +kernel)
theorem mlX3_31 : Cond.methodLink RX3 31 arraycopyName ∈ tw := tw_tb (List.mem_of_getElem? (i := 404) (by decide +kernel)) (by decide +kernel)
theorem stAcp : Cond.static arraycopyName ∈ tw := tw_tb (List.mem_of_getElem? (i := 405) (by decide +kernel)) (by decide +kernel)
theorem naAcp : Cond.native arraycopyName ∈ tw := tw_tb (List.mem_of_getElem? (i := 406) (by decide +kernel)) (by decide +kernel)
theorem mlX6_105 : Cond.methodLink RX6 105 yX3_openLine ∈ tw := tw_tb (List.mem_of_getElem? (i := 407) (by decide +kernel)) (by decide +kernel)
theorem imX3_openLine : Cond.instanceMethod yX3_openLine ∈ tw := tw_tb (List.mem_of_getElem? (i := 408) (by decide +kernel)) (by decide +kernel)
theorem seX3_openLine : Cond.selects RX3 yX3_openLine yX3_openLine ∈ tw := tw_tb (List.mem_of_getElem? (i := 409) (by decide +kernel)) (by decide +kernel)
theorem coX3_openLine : Cond.code yX3_openLine cX3_openLine 3 (none) ∈ tw := tw_tb (List.mem_of_getElem? (i := 410) (by decide +kernel)) (by decide +kernel)
theorem mlX6_245 : Cond.methodLink RX6 245 yX5_isLoneDash ∈ tw := tw_tb (List.mem_of_getElem? (i := 411) (by decide +kernel)) (by decide +kernel)
theorem imX5_isLoneDash : Cond.instanceMethod yX5_isLoneDash ∈ tw := tw_tb (List.mem_of_getElem? (i := 412) (by decide +kernel)) (by decide +kernel)
theorem seX5_isLoneDash : Cond.selects RX5 yX5_isLoneDash yX5_isLoneDash ∈ tw := tw_tb (List.mem_of_getElem? (i := 413) (by decide +kernel)) (by decide +kernel)
theorem coX5_isLoneDash : Cond.code yX5_isLoneDash cX5_isLoneDash 1 ((some FieldType.boolean)) ∈ tw := tw_tb (List.mem_of_getElem? (i := 414) (by decide +kernel)) (by decide +kernel)
theorem mlX6_83 : Cond.methodLink RX6 83 yX3_insertSign ∈ tw := tw_tb (List.mem_of_getElem? (i := 415) (by decide +kernel)) (by decide +kernel)
theorem imX3_insertSign : Cond.instanceMethod yX3_insertSign ∈ tw := tw_tb (List.mem_of_getElem? (i := 416) (by decide +kernel)) (by decide +kernel)
theorem seX3_insertSign : Cond.selects RX3 yX3_insertSign yX3_insertSign ∈ tw := tw_tb (List.mem_of_getElem? (i := 417) (by decide +kernel)) (by decide +kernel)
theorem coX3_insertSign : Cond.code yX3_insertSign cX3_insertSign 5 (none) ∈ tw := tw_tb (List.mem_of_getElem? (i := 418) (by decide +kernel)) (by decide +kernel)
theorem mlX6_87 : Cond.methodLink RX6 87 yX6_settle ∈ tw := tw_tb (List.mem_of_getElem? (i := 419) (by decide +kernel)) (by decide +kernel)
theorem imX6_settle : Cond.instanceMethod yX6_settle ∈ tw := tw_tb (List.mem_of_getElem? (i := 421) (by decide +kernel)) (by decide +kernel)
theorem coX6_settle : Cond.code yX6_settle cX6_settle 6 (none) ∈ tw := tw_tb (List.mem_of_getElem? (i := 422) (by decide +kernel)) (by decide +kernel)
theorem mlX6_128 : Cond.methodLink RX6 128 yX2_lay ∈ tw := tw_tb (List.mem_of_getElem? (i := 423) (by decide +kernel)) (by decide +kernel)
theorem imX2_lay : Cond.instanceMethod yX2_lay ∈ tw := tw_tb (List.mem_of_getElem? (i := 424) (by decide +kernel)) (by decide +kernel)
theorem seX2_lay : Cond.selects RX2 yX2_lay yX2_lay ∈ tw := tw_tb (List.mem_of_getElem? (i := 425) (by decide +kernel)) (by decide +kernel)
theorem coX2_lay : Cond.code yX2_lay cX2_lay 4 (none) ∈ tw := tw_tb (List.mem_of_getElem? (i := 426) (by decide +kernel)) (by decide +kernel)
theorem mlX2_56 : Cond.methodLink RX2 56 yX2_partIntoCells ∈ tw := tw_tb (List.mem_of_getElem? (i := 427) (by decide +kernel)) (by decide +kernel)
theorem imX2_partIntoCells : Cond.instanceMethod yX2_partIntoCells ∈ tw := tw_tb (List.mem_of_getElem? (i := 429) (by decide +kernel)) (by decide +kernel)
theorem coX2_partIntoCells : Cond.code yX2_partIntoCells cX2_partIntoCells 9 (none) ∈ tw := tw_tb (List.mem_of_getElem? (i := 430) (by decide +kernel)) (by decide +kernel)
theorem mlX2_75 : Cond.methodLink RX2 75 yX3_signAt ∈ tw := tw_tb (List.mem_of_getElem? (i := 431) (by decide +kernel)) (by decide +kernel)
theorem imX3_signAt : Cond.instanceMethod yX3_signAt ∈ tw := tw_tb (List.mem_of_getElem? (i := 432) (by decide +kernel)) (by decide +kernel)
theorem seX3_signAt : Cond.selects RX3 yX3_signAt yX3_signAt ∈ tw := tw_tb (List.mem_of_getElem? (i := 433) (by decide +kernel)) (by decide +kernel)
theorem coX3_signAt : Cond.code yX3_signAt cX3_signAt 3 ((some FieldType.int)) ∈ tw := tw_tb (List.mem_of_getElem? (i := 434) (by decide +kernel)) (by decide +kernel)
theorem mlX2_63 : Cond.methodLink RX2 63 yX2_measure ∈ tw := tw_tb (List.mem_of_getElem? (i := 435) (by decide +kernel)) (by decide +kernel)
theorem imX2_measure : Cond.instanceMethod yX2_measure ∈ tw := tw_tb (List.mem_of_getElem? (i := 437) (by decide +kernel)) (by decide +kernel)
theorem coX2_measure : Cond.code yX2_measure cX2_measure 12 (none) ∈ tw := tw_tb (List.mem_of_getElem? (i := 438) (by decide +kernel)) (by decide +kernel)
theorem mlX2_91 : Cond.methodLink RX2 91 yX2_firstOfBlock ∈ tw := tw_tb (List.mem_of_getElem? (i := 439) (by decide +kernel)) (by decide +kernel)
theorem imX2_firstOfBlock : Cond.instanceMethod yX2_firstOfBlock ∈ tw := tw_tb (List.mem_of_getElem? (i := 440) (by decide +kernel)) (by decide +kernel)
theorem seX2_firstOfBlock : Cond.selects RX2 yX2_firstOfBlock yX2_firstOfBlock ∈ tw := tw_tb (List.mem_of_getElem? (i := 441) (by decide +kernel)) (by decide +kernel)
theorem coX2_firstOfBlock : Cond.code yX2_firstOfBlock cX2_firstOfBlock 4 ((some FieldType.int)) ∈ tw := tw_tb (List.mem_of_getElem? (i := 442) (by decide +kernel)) (by decide +kernel)
theorem mlX2_94 : Cond.methodLink RX2 94 yX2_lastOfBlock ∈ tw := tw_tb (List.mem_of_getElem? (i := 443) (by decide +kernel)) (by decide +kernel)
theorem imX2_lastOfBlock : Cond.instanceMethod yX2_lastOfBlock ∈ tw := tw_tb (List.mem_of_getElem? (i := 444) (by decide +kernel)) (by decide +kernel)
theorem seX2_lastOfBlock : Cond.selects RX2 yX2_lastOfBlock yX2_lastOfBlock ∈ tw := tw_tb (List.mem_of_getElem? (i := 445) (by decide +kernel)) (by decide +kernel)
theorem coX2_lastOfBlock : Cond.code yX2_lastOfBlock cX2_lastOfBlock 4 ((some FieldType.int)) ∈ tw := tw_tb (List.mem_of_getElem? (i := 446) (by decide +kernel)) (by decide +kernel)
theorem mlX2_97 : Cond.methodLink RX2 97 yJ9_min_7cf53 ∈ tw := tw_tb (List.mem_of_getElem? (i := 447) (by decide +kernel)) (by decide +kernel)
theorem stJ9_min_7cf53 : Cond.static yJ9_min_7cf53 ∈ tw := tw_tb (List.mem_of_getElem? (i := 448) (by decide +kernel)) (by decide +kernel)
theorem coJ9_min_7cf53 : Cond.code yJ9_min_7cf53 cJ9_min_7cf53 2 ((some FieldType.int)) ∈ tw := tw_tb (List.mem_of_getElem? (i := 449) (by decide +kernel)) (by decide +kernel)
theorem mlX2_102 : Cond.methodLink RX2 102 yJ9_max_7cf53 ∈ tw := tw_tb (List.mem_of_getElem? (i := 450) (by decide +kernel)) (by decide +kernel)
theorem stJ9_max_7cf53 : Cond.static yJ9_max_7cf53 ∈ tw := tw_tb (List.mem_of_getElem? (i := 451) (by decide +kernel)) (by decide +kernel)
theorem coJ9_max_7cf53 : Cond.code yJ9_max_7cf53 cJ9_max_7cf53 2 ((some FieldType.int)) ∈ tw := tw_tb (List.mem_of_getElem? (i := 452) (by decide +kernel)) (by decide +kernel)
theorem mlX2_67 : Cond.methodLink RX2 67 yX2_spreadBlock ∈ tw := tw_tb (List.mem_of_getElem? (i := 453) (by decide +kernel)) (by decide +kernel)
theorem imX2_spreadBlock : Cond.instanceMethod yX2_spreadBlock ∈ tw := tw_tb (List.mem_of_getElem? (i := 455) (by decide +kernel)) (by decide +kernel)
theorem coX2_spreadBlock : Cond.code yX2_spreadBlock cX2_spreadBlock 3 (none) ∈ tw := tw_tb (List.mem_of_getElem? (i := 456) (by decide +kernel)) (by decide +kernel)
theorem mlX2_71 : Cond.methodLink RX2 71 yX2_placeCells ∈ tw := tw_tb (List.mem_of_getElem? (i := 457) (by decide +kernel)) (by decide +kernel)
theorem imX2_placeCells : Cond.instanceMethod yX2_placeCells ∈ tw := tw_tb (List.mem_of_getElem? (i := 459) (by decide +kernel)) (by decide +kernel)
theorem coX2_placeCells : Cond.code yX2_placeCells cX2_placeCells 5 (none) ∈ tw := tw_tb (List.mem_of_getElem? (i := 460) (by decide +kernel)) (by decide +kernel)
theorem mlX6_251 : Cond.methodLink RX6 251 yX6_formerPlace ∈ tw := tw_tb (List.mem_of_getElem? (i := 461) (by decide +kernel)) (by decide +kernel)
theorem stX6_formerPlace : Cond.static yX6_formerPlace ∈ tw := tw_tb (List.mem_of_getElem? (i := 462) (by decide +kernel)) (by decide +kernel)
theorem coX6_formerPlace : Cond.code yX6_formerPlace cX6_formerPlace 3 ((some FieldType.int)) ∈ tw := tw_tb (List.mem_of_getElem? (i := 463) (by decide +kernel)) (by decide +kernel)
theorem mlX6_254 : Cond.methodLink RX6 254 yX6_isLaidAnew ∈ tw := tw_tb (List.mem_of_getElem? (i := 464) (by decide +kernel)) (by decide +kernel)
theorem imX6_isLaidAnew : Cond.instanceMethod yX6_isLaidAnew ∈ tw := tw_tb (List.mem_of_getElem? (i := 466) (by decide +kernel)) (by decide +kernel)
theorem coX6_isLaidAnew : Cond.code yX6_isLaidAnew cX6_isLaidAnew 4 ((some FieldType.boolean)) ∈ tw := tw_tb (List.mem_of_getElem? (i := 467) (by decide +kernel)) (by decide +kernel)
theorem mlX6_118 : Cond.methodLink RX6 118 yX4_latest ∈ tw := tw_tb (List.mem_of_getElem? (i := 468) (by decide +kernel)) (by decide +kernel)
theorem imX4_latest : Cond.instanceMethod yX4_latest ∈ tw := tw_tb (List.mem_of_getElem? (i := 469) (by decide +kernel)) (by decide +kernel)
theorem seX4_latest : Cond.selects RX4 yX4_latest yX4_latest ∈ tw := tw_tb (List.mem_of_getElem? (i := 470) (by decide +kernel)) (by decide +kernel)
theorem coX4_latest : Cond.code yX4_latest cX4_latest 1 ((some (FieldType.object "ElasticTabs$Page"))) ∈ tw := tw_tb (List.mem_of_getElem? (i := 471) (by decide +kernel)) (by decide +kernel)
theorem mlX6_257 : Cond.methodLink RX6 257 yX3_hasSameSigns ∈ tw := tw_tb (List.mem_of_getElem? (i := 472) (by decide +kernel)) (by decide +kernel)
theorem imX3_hasSameSigns : Cond.instanceMethod yX3_hasSameSigns ∈ tw := tw_tb (List.mem_of_getElem? (i := 473) (by decide +kernel)) (by decide +kernel)
theorem seX3_hasSameSigns : Cond.selects RX3 yX3_hasSameSigns yX3_hasSameSigns ∈ tw := tw_tb (List.mem_of_getElem? (i := 474) (by decide +kernel)) (by decide +kernel)
theorem coX3_hasSameSigns : Cond.code yX3_hasSameSigns cX3_hasSameSigns 5 ((some FieldType.boolean)) ∈ tw := tw_tb (List.mem_of_getElem? (i := 475) (by decide +kernel)) (by decide +kernel)
theorem mlX3_41 : Cond.methodLink RX3 41 yX3_signAt ∈ tw := tw_tb (List.mem_of_getElem? (i := 476) (by decide +kernel)) (by decide +kernel)
theorem mlX6_217 : Cond.methodLink RX6 217 yX6_dropLine ∈ tw := tw_tb (List.mem_of_getElem? (i := 477) (by decide +kernel)) (by decide +kernel)
theorem imX6_dropLine : Cond.instanceMethod yX6_dropLine ∈ tw := tw_tb (List.mem_of_getElem? (i := 479) (by decide +kernel)) (by decide +kernel)
theorem coX6_dropLine : Cond.code yX6_dropLine cX6_dropLine 2 ((some FieldType.int)) ∈ tw := tw_tb (List.mem_of_getElem? (i := 480) (by decide +kernel)) (by decide +kernel)
theorem mlX6_69 : Cond.methodLink RX6 69 yX3_hasLine ∈ tw := tw_tb (List.mem_of_getElem? (i := 481) (by decide +kernel)) (by decide +kernel)
theorem imX3_hasLine : Cond.instanceMethod yX3_hasLine ∈ tw := tw_tb (List.mem_of_getElem? (i := 482) (by decide +kernel)) (by decide +kernel)
theorem seX3_hasLine : Cond.selects RX3 yX3_hasLine yX3_hasLine ∈ tw := tw_tb (List.mem_of_getElem? (i := 483) (by decide +kernel)) (by decide +kernel)
theorem coX3_hasLine : Cond.code yX3_hasLine cX3_hasLine 2 ((some FieldType.boolean)) ∈ tw := tw_tb (List.mem_of_getElem? (i := 484) (by decide +kernel)) (by decide +kernel)
theorem mlX6_112 : Cond.methodLink RX6 112 yX3_closeLine ∈ tw := tw_tb (List.mem_of_getElem? (i := 485) (by decide +kernel)) (by decide +kernel)
theorem imX3_closeLine : Cond.instanceMethod yX3_closeLine ∈ tw := tw_tb (List.mem_of_getElem? (i := 486) (by decide +kernel)) (by decide +kernel)
theorem seX3_closeLine : Cond.selects RX3 yX3_closeLine yX3_closeLine ∈ tw := tw_tb (List.mem_of_getElem? (i := 487) (by decide +kernel)) (by decide +kernel)
theorem coX3_closeLine : Cond.code yX3_closeLine cX3_closeLine 3 (none) ∈ tw := tw_tb (List.mem_of_getElem? (i := 488) (by decide +kernel)) (by decide +kernel)
theorem mlX6_220 : Cond.methodLink RX6 220 yX6_split ∈ tw := tw_tb (List.mem_of_getElem? (i := 489) (by decide +kernel)) (by decide +kernel)
theorem imX6_split : Cond.instanceMethod yX6_split ∈ tw := tw_tb (List.mem_of_getElem? (i := 490) (by decide +kernel)) (by decide +kernel)
theorem seX6_split : Cond.selects RX6 yX6_split yX6_split ∈ tw := tw_tb (List.mem_of_getElem? (i := 491) (by decide +kernel)) (by decide +kernel)
theorem coX6_split : Cond.code yX6_split cX6_split 3 ((some FieldType.int)) ∈ tw := tw_tb (List.mem_of_getElem? (i := 492) (by decide +kernel)) (by decide +kernel)
theorem mlX6_109 : Cond.methodLink RX6 109 yX3_moveSigns ∈ tw := tw_tb (List.mem_of_getElem? (i := 493) (by decide +kernel)) (by decide +kernel)
theorem imX3_moveSigns : Cond.instanceMethod yX3_moveSigns ∈ tw := tw_tb (List.mem_of_getElem? (i := 494) (by decide +kernel)) (by decide +kernel)
theorem seX3_moveSigns : Cond.selects RX3 yX3_moveSigns yX3_moveSigns ∈ tw := tw_tb (List.mem_of_getElem? (i := 495) (by decide +kernel)) (by decide +kernel)
theorem coX3_moveSigns : Cond.code yX3_moveSigns cX3_moveSigns 5 (none) ∈ tw := tw_tb (List.mem_of_getElem? (i := 496) (by decide +kernel)) (by decide +kernel)
theorem mlX6_223 : Cond.methodLink RX6 223 yX6_join ∈ tw := tw_tb (List.mem_of_getElem? (i := 497) (by decide +kernel)) (by decide +kernel)
theorem imX6_join : Cond.instanceMethod yX6_join ∈ tw := tw_tb (List.mem_of_getElem? (i := 498) (by decide +kernel)) (by decide +kernel)
theorem seX6_join : Cond.selects RX6 yX6_join yX6_join ∈ tw := tw_tb (List.mem_of_getElem? (i := 499) (by decide +kernel)) (by decide +kernel)
theorem coX6_join : Cond.code yX6_join cX6_join 2 ((some FieldType.int)) ∈ tw := tw_tb (List.mem_of_getElem? (i := 500) (by decide +kernel)) (by decide +kernel)
theorem mlX6_229 : Cond.methodLink RX6 229 yX6_put ∈ tw := tw_tb (List.mem_of_getElem? (i := 501) (by decide +kernel)) (by decide +kernel)
theorem imX6_put : Cond.instanceMethod yX6_put ∈ tw := tw_tb (List.mem_of_getElem? (i := 502) (by decide +kernel)) (by decide +kernel)
theorem seX6_put : Cond.selects RX6 yX6_put yX6_put ∈ tw := tw_tb (List.mem_of_getElem? (i := 503) (by decide +kernel)) (by decide +kernel)
theorem coX6_put : Cond.code yX6_put cX6_put 4 ((some FieldType.int)) ∈ tw := tw_tb (List.mem_of_getElem? (i := 504) (by decide +kernel)) (by decide +kernel)
theorem mlX6_76 : Cond.methodLink RX6 76 yX5_isSign ∈ tw := tw_tb (List.mem_of_getElem? (i := 505) (by decide +kernel)) (by decide +kernel)
theorem mlX6_233 : Cond.methodLink RX6 233 yX6_cut ∈ tw := tw_tb (List.mem_of_getElem? (i := 506) (by decide +kernel)) (by decide +kernel)
theorem imX6_cut : Cond.instanceMethod yX6_cut ∈ tw := tw_tb (List.mem_of_getElem? (i := 507) (by decide +kernel)) (by decide +kernel)
theorem seX6_cut : Cond.selects RX6 yX6_cut yX6_cut ∈ tw := tw_tb (List.mem_of_getElem? (i := 508) (by decide +kernel)) (by decide +kernel)
theorem coX6_cut : Cond.code yX6_cut cX6_cut 4 ((some FieldType.int)) ∈ tw := tw_tb (List.mem_of_getElem? (i := 509) (by decide +kernel)) (by decide +kernel)
theorem mlX6_91 : Cond.methodLink RX6 91 yX3_hasSign ∈ tw := tw_tb (List.mem_of_getElem? (i := 510) (by decide +kernel)) (by decide +kernel)
theorem imX3_hasSign : Cond.instanceMethod yX3_hasSign ∈ tw := tw_tb (List.mem_of_getElem? (i := 511) (by decide +kernel)) (by decide +kernel)
theorem seX3_hasSign : Cond.selects RX3 yX3_hasSign yX3_hasSign ∈ tw := tw_tb (List.mem_of_getElem? (i := 512) (by decide +kernel)) (by decide +kernel)
theorem coX3_hasSign : Cond.code yX3_hasSign cX3_hasSign 3 ((some FieldType.boolean)) ∈ tw := tw_tb (List.mem_of_getElem? (i := 513) (by decide +kernel)) (by decide +kernel)
theorem mlX3_37 : Cond.methodLink RX3 37 yX3_hasLine ∈ tw := tw_tb (List.mem_of_getElem? (i := 514) (by decide +kernel)) (by decide +kernel)
theorem mlX6_95 : Cond.methodLink RX6 95 yX3_signAt ∈ tw := tw_tb (List.mem_of_getElem? (i := 515) (by decide +kernel)) (by decide +kernel)
theorem mlX6_99 : Cond.methodLink RX6 99 yX3_removeSign ∈ tw := tw_tb (List.mem_of_getElem? (i := 516) (by decide +kernel)) (by decide +kernel)
theorem imX3_removeSign : Cond.instanceMethod yX3_removeSign ∈ tw := tw_tb (List.mem_of_getElem? (i := 517) (by decide +kernel)) (by decide +kernel)
theorem seX3_removeSign : Cond.selects RX3 yX3_removeSign yX3_removeSign ∈ tw := tw_tb (List.mem_of_getElem? (i := 518) (by decide +kernel)) (by decide +kernel)
theorem coX3_removeSign : Cond.code yX3_removeSign cX3_removeSign 4 (none) ∈ tw := tw_tb (List.mem_of_getElem? (i := 519) (by decide +kernel)) (by decide +kernel)
theorem mlX6_236 : Cond.methodLink RX6 236 yX6_setAlign ∈ tw := tw_tb (List.mem_of_getElem? (i := 520) (by decide +kernel)) (by decide +kernel)
theorem imX6_setAlign : Cond.instanceMethod yX6_setAlign ∈ tw := tw_tb (List.mem_of_getElem? (i := 522) (by decide +kernel)) (by decide +kernel)
theorem coX6_setAlign : Cond.code yX6_setAlign cX6_setAlign 3 ((some FieldType.int)) ∈ tw := tw_tb (List.mem_of_getElem? (i := 523) (by decide +kernel)) (by decide +kernel)
theorem mlX6_239 : Cond.methodLink RX6 239 yX6_setPad ∈ tw := tw_tb (List.mem_of_getElem? (i := 524) (by decide +kernel)) (by decide +kernel)
theorem imX6_setPad : Cond.instanceMethod yX6_setPad ∈ tw := tw_tb (List.mem_of_getElem? (i := 526) (by decide +kernel)) (by decide +kernel)
theorem coX6_setPad : Cond.code yX6_setPad cX6_setPad 2 ((some FieldType.int)) ∈ tw := tw_tb (List.mem_of_getElem? (i := 527) (by decide +kernel)) (by decide +kernel)
theorem mlX6_242 : Cond.methodLink RX6 242 yX6_setLeast ∈ tw := tw_tb (List.mem_of_getElem? (i := 528) (by decide +kernel)) (by decide +kernel)
theorem imX6_setLeast : Cond.instanceMethod yX6_setLeast ∈ tw := tw_tb (List.mem_of_getElem? (i := 530) (by decide +kernel)) (by decide +kernel)
theorem coX6_setLeast : Cond.code yX6_setLeast cX6_setLeast 2 ((some FieldType.int)) ∈ tw := tw_tb (List.mem_of_getElem? (i := 531) (by decide +kernel)) (by decide +kernel)
theorem ac_byte : Cond.arrayClass .byte ∈ tw := tw_tb (List.mem_of_getElem? (i := 532) (by decide +kernel)) (by decide +kernel)
theorem mlL_27 : Cond.methodLink RL 27 yX6_put ∈ tw := tw_tb (List.mem_of_getElem? (i := 533) (by decide +kernel)) (by decide +kernel)
theorem mlL_32 : Cond.methodLink RL 32 yX6_cut ∈ tw := tw_tb (List.mem_of_getElem? (i := 534) (by decide +kernel)) (by decide +kernel)
theorem mlL_37 : Cond.methodLink RL 37 yX6_split ∈ tw := tw_tb (List.mem_of_getElem? (i := 535) (by decide +kernel)) (by decide +kernel)
theorem mlL_41 : Cond.methodLink RL 41 yX6_join ∈ tw := tw_tb (List.mem_of_getElem? (i := 536) (by decide +kernel)) (by decide +kernel)
theorem mlL_45 : Cond.methodLink RL 45 yX6_undo ∈ tw := tw_tb (List.mem_of_getElem? (i := 537) (by decide +kernel)) (by decide +kernel)
theorem imX6_undo : Cond.instanceMethod yX6_undo ∈ tw := tw_tb (List.mem_of_getElem? (i := 538) (by decide +kernel)) (by decide +kernel)
theorem seX6_undo : Cond.selects RX6 yX6_undo yX6_undo ∈ tw := tw_tb (List.mem_of_getElem? (i := 539) (by decide +kernel)) (by decide +kernel)
theorem coX6_undo : Cond.code yX6_undo cX6_undo 1 ((some FieldType.int)) ∈ tw := tw_tb (List.mem_of_getElem? (i := 540) (by decide +kernel)) (by decide +kernel)
theorem mlX6_122 : Cond.methodLink RX6 122 yX3_copyFrom ∈ tw := tw_tb (List.mem_of_getElem? (i := 541) (by decide +kernel)) (by decide +kernel)
theorem mlX6_125 : Cond.methodLink RX6 125 yX4_forgetLatest ∈ tw := tw_tb (List.mem_of_getElem? (i := 542) (by decide +kernel)) (by decide +kernel)
theorem imX4_forgetLatest : Cond.instanceMethod yX4_forgetLatest ∈ tw := tw_tb (List.mem_of_getElem? (i := 543) (by decide +kernel)) (by decide +kernel)
theorem seX4_forgetLatest : Cond.selects RX4 yX4_forgetLatest yX4_forgetLatest ∈ tw := tw_tb (List.mem_of_getElem? (i := 544) (by decide +kernel)) (by decide +kernel)
theorem coX4_forgetLatest : Cond.code yX4_forgetLatest cX4_forgetLatest 1 (none) ∈ tw := tw_tb (List.mem_of_getElem? (i := 545) (by decide +kernel)) (by decide +kernel)
theorem mlL_49 : Cond.methodLink RL 49 yX6_line ∈ tw := tw_tb (List.mem_of_getElem? (i := 546) (by decide +kernel)) (by decide +kernel)
theorem imX6_line : Cond.instanceMethod yX6_line ∈ tw := tw_tb (List.mem_of_getElem? (i := 547) (by decide +kernel)) (by decide +kernel)
theorem seX6_line : Cond.selects RX6 yX6_line yX6_line ∈ tw := tw_tb (List.mem_of_getElem? (i := 548) (by decide +kernel)) (by decide +kernel)
theorem coX6_line : Cond.code yX6_line cX6_line 3 ((some FieldType.int)) ∈ tw := tw_tb (List.mem_of_getElem? (i := 549) (by decide +kernel)) (by decide +kernel)
theorem mlL_53 : Cond.methodLink RL 53 yX6_sign ∈ tw := tw_tb (List.mem_of_getElem? (i := 550) (by decide +kernel)) (by decide +kernel)
theorem imX6_sign : Cond.instanceMethod yX6_sign ∈ tw := tw_tb (List.mem_of_getElem? (i := 551) (by decide +kernel)) (by decide +kernel)
theorem seX6_sign : Cond.selects RX6 yX6_sign yX6_sign ∈ tw := tw_tb (List.mem_of_getElem? (i := 552) (by decide +kernel)) (by decide +kernel)
theorem coX6_sign : Cond.code yX6_sign cX6_sign 3 ((some FieldType.int)) ∈ tw := tw_tb (List.mem_of_getElem? (i := 553) (by decide +kernel)) (by decide +kernel)
theorem mlL_57 : Cond.methodLink RL 57 yX6_cell ∈ tw := tw_tb (List.mem_of_getElem? (i := 554) (by decide +kernel)) (by decide +kernel)
theorem imX6_cell : Cond.instanceMethod yX6_cell ∈ tw := tw_tb (List.mem_of_getElem? (i := 555) (by decide +kernel)) (by decide +kernel)
theorem seX6_cell : Cond.selects RX6 yX6_cell yX6_cell ∈ tw := tw_tb (List.mem_of_getElem? (i := 556) (by decide +kernel)) (by decide +kernel)
theorem coX6_cell : Cond.code yX6_cell cX6_cell 5 ((some FieldType.int)) ∈ tw := tw_tb (List.mem_of_getElem? (i := 557) (by decide +kernel)) (by decide +kernel)
theorem mlX6_150 : Cond.methodLink RX6 150 yX2_firstOfBlock ∈ tw := tw_tb (List.mem_of_getElem? (i := 558) (by decide +kernel)) (by decide +kernel)
theorem mlX6_153 : Cond.methodLink RX6 153 yX2_lastOfBlock ∈ tw := tw_tb (List.mem_of_getElem? (i := 559) (by decide +kernel)) (by decide +kernel)
theorem mlX6_156 : Cond.methodLink RX6 156 yX2_widest ∈ tw := tw_tb (List.mem_of_getElem? (i := 560) (by decide +kernel)) (by decide +kernel)
theorem imX2_widest : Cond.instanceMethod yX2_widest ∈ tw := tw_tb (List.mem_of_getElem? (i := 561) (by decide +kernel)) (by decide +kernel)
theorem seX2_widest : Cond.selects RX2 yX2_widest yX2_widest ∈ tw := tw_tb (List.mem_of_getElem? (i := 562) (by decide +kernel)) (by decide +kernel)
theorem coX2_widest : Cond.code yX2_widest cX2_widest 8 ((some FieldType.int)) ∈ tw := tw_tb (List.mem_of_getElem? (i := 563) (by decide +kernel)) (by decide +kernel)
theorem mlX6_160 : Cond.methodLink RX6 160 yX2_saves ∈ tw := tw_tb (List.mem_of_getElem? (i := 564) (by decide +kernel)) (by decide +kernel)
theorem imX2_saves : Cond.instanceMethod yX2_saves ∈ tw := tw_tb (List.mem_of_getElem? (i := 565) (by decide +kernel)) (by decide +kernel)
theorem seX2_saves : Cond.selects RX2 yX2_saves yX2_saves ∈ tw := tw_tb (List.mem_of_getElem? (i := 566) (by decide +kernel)) (by decide +kernel)
theorem coX2_saves : Cond.code yX2_saves cX2_saves 5 ((some FieldType.int)) ∈ tw := tw_tb (List.mem_of_getElem? (i := 567) (by decide +kernel)) (by decide +kernel)
theorem mlL_61 : Cond.methodLink RL 61 yX6_shown ∈ tw := tw_tb (List.mem_of_getElem? (i := 568) (by decide +kernel)) (by decide +kernel)
theorem imX6_shown : Cond.instanceMethod yX6_shown ∈ tw := tw_tb (List.mem_of_getElem? (i := 569) (by decide +kernel)) (by decide +kernel)
theorem seX6_shown : Cond.selects RX6 yX6_shown yX6_shown ∈ tw := tw_tb (List.mem_of_getElem? (i := 570) (by decide +kernel)) (by decide +kernel)
theorem coX6_shown : Cond.code yX6_shown cX6_shown 4 ((some FieldType.int)) ∈ tw := tw_tb (List.mem_of_getElem? (i := 571) (by decide +kernel)) (by decide +kernel)
theorem mlX6_166 : Cond.methodLink RX6 166 yX2_cellAt ∈ tw := tw_tb (List.mem_of_getElem? (i := 572) (by decide +kernel)) (by decide +kernel)
theorem imX2_cellAt : Cond.instanceMethod yX2_cellAt ∈ tw := tw_tb (List.mem_of_getElem? (i := 573) (by decide +kernel)) (by decide +kernel)
theorem seX2_cellAt : Cond.selects RX2 yX2_cellAt yX2_cellAt ∈ tw := tw_tb (List.mem_of_getElem? (i := 574) (by decide +kernel)) (by decide +kernel)
theorem coX2_cellAt : Cond.code yX2_cellAt cX2_cellAt 4 ((some FieldType.int)) ∈ tw := tw_tb (List.mem_of_getElem? (i := 575) (by decide +kernel)) (by decide +kernel)
theorem mlX6_169 : Cond.methodLink RX6 169 yX2_shownInCell ∈ tw := tw_tb (List.mem_of_getElem? (i := 576) (by decide +kernel)) (by decide +kernel)
theorem imX2_shownInCell : Cond.instanceMethod yX2_shownInCell ∈ tw := tw_tb (List.mem_of_getElem? (i := 577) (by decide +kernel)) (by decide +kernel)
theorem seX2_shownInCell : Cond.selects RX2 yX2_shownInCell yX2_shownInCell ∈ tw := tw_tb (List.mem_of_getElem? (i := 578) (by decide +kernel)) (by decide +kernel)
theorem coX2_shownInCell : Cond.code yX2_shownInCell cX2_shownInCell 7 ((some FieldType.int)) ∈ tw := tw_tb (List.mem_of_getElem? (i := 579) (by decide +kernel)) (by decide +kernel)
theorem mlX2_117 : Cond.methodLink RX2 117 yX2_leadOf ∈ tw := tw_tb (List.mem_of_getElem? (i := 580) (by decide +kernel)) (by decide +kernel)
theorem imX2_leadOf : Cond.instanceMethod yX2_leadOf ∈ tw := tw_tb (List.mem_of_getElem? (i := 582) (by decide +kernel)) (by decide +kernel)
theorem coX2_leadOf : Cond.code yX2_leadOf cX2_leadOf 5 ((some FieldType.int)) ∈ tw := tw_tb (List.mem_of_getElem? (i := 583) (by decide +kernel)) (by decide +kernel)
theorem mlL_65 : Cond.methodLink RL 65 yX6_align ∈ tw := tw_tb (List.mem_of_getElem? (i := 584) (by decide +kernel)) (by decide +kernel)
theorem imX6_align : Cond.instanceMethod yX6_align ∈ tw := tw_tb (List.mem_of_getElem? (i := 585) (by decide +kernel)) (by decide +kernel)
theorem seX6_align : Cond.selects RX6 yX6_align yX6_align ∈ tw := tw_tb (List.mem_of_getElem? (i := 586) (by decide +kernel)) (by decide +kernel)
theorem coX6_align : Cond.code yX6_align cX6_align 2 ((some FieldType.int)) ∈ tw := tw_tb (List.mem_of_getElem? (i := 587) (by decide +kernel)) (by decide +kernel)
theorem mlL_69 : Cond.methodLink RL 69 yX6_count ∈ tw := tw_tb (List.mem_of_getElem? (i := 588) (by decide +kernel)) (by decide +kernel)
theorem imX6_count : Cond.instanceMethod yX6_count ∈ tw := tw_tb (List.mem_of_getElem? (i := 589) (by decide +kernel)) (by decide +kernel)
theorem seX6_count : Cond.selects RX6 yX6_count yX6_count ∈ tw := tw_tb (List.mem_of_getElem? (i := 590) (by decide +kernel)) (by decide +kernel)
theorem coX6_count : Cond.code yX6_count cX6_count 2 ((some FieldType.int)) ∈ tw := tw_tb (List.mem_of_getElem? (i := 591) (by decide +kernel)) (by decide +kernel)
theorem mlX6_185 : Cond.methodLink RX6 185 yX2_widestLine ∈ tw := tw_tb (List.mem_of_getElem? (i := 592) (by decide +kernel)) (by decide +kernel)
theorem imX2_widestLine : Cond.instanceMethod yX2_widestLine ∈ tw := tw_tb (List.mem_of_getElem? (i := 593) (by decide +kernel)) (by decide +kernel)
theorem seX2_widestLine : Cond.selects RX2 yX2_widestLine yX2_widestLine ∈ tw := tw_tb (List.mem_of_getElem? (i := 594) (by decide +kernel)) (by decide +kernel)
theorem coX2_widestLine : Cond.code yX2_widestLine cX2_widestLine 3 ((some FieldType.int)) ∈ tw := tw_tb (List.mem_of_getElem? (i := 595) (by decide +kernel)) (by decide +kernel)
theorem mlX6_188 : Cond.methodLink RX6 188 yX2_allTogether ∈ tw := tw_tb (List.mem_of_getElem? (i := 596) (by decide +kernel)) (by decide +kernel)
theorem imX2_allTogether : Cond.instanceMethod yX2_allTogether ∈ tw := tw_tb (List.mem_of_getElem? (i := 597) (by decide +kernel)) (by decide +kernel)
theorem seX2_allTogether : Cond.selects RX2 yX2_allTogether yX2_allTogether ∈ tw := tw_tb (List.mem_of_getElem? (i := 598) (by decide +kernel)) (by decide +kernel)
theorem coX2_allTogether : Cond.code yX2_allTogether cX2_allTogether 3 ((some FieldType.int)) ∈ tw := tw_tb (List.mem_of_getElem? (i := 599) (by decide +kernel)) (by decide +kernel)
theorem mlL_73 : Cond.methodLink RL 73 yX6_digest ∈ tw := tw_tb (List.mem_of_getElem? (i := 600) (by decide +kernel)) (by decide +kernel)
theorem imX6_digest : Cond.instanceMethod yX6_digest ∈ tw := tw_tb (List.mem_of_getElem? (i := 601) (by decide +kernel)) (by decide +kernel)
theorem seX6_digest : Cond.selects RX6 yX6_digest yX6_digest ∈ tw := tw_tb (List.mem_of_getElem? (i := 602) (by decide +kernel)) (by decide +kernel)
theorem coX6_digest : Cond.code yX6_digest cX6_digest 7 ((some FieldType.long)) ∈ tw := tw_tb (List.mem_of_getElem? (i := 603) (by decide +kernel)) (by decide +kernel)
theorem klX6_191 : Cond.constantLong RX6 191 17 ∈ tw := tw_tb (List.mem_of_getElem? (i := 604) (by decide +kernel)) (by decide +kernel)
theorem klX6_193 : Cond.constantLong RX6 193 31 ∈ tw := tw_tb (List.mem_of_getElem? (i := 605) (by decide +kernel)) (by decide +kernel)
theorem mlL_78 : Cond.methodLink RL 78 yX6_keep ∈ tw := tw_tb (List.mem_of_getElem? (i := 606) (by decide +kernel)) (by decide +kernel)
theorem imX6_keep : Cond.instanceMethod yX6_keep ∈ tw := tw_tb (List.mem_of_getElem? (i := 607) (by decide +kernel)) (by decide +kernel)
theorem seX6_keep : Cond.selects RX6 yX6_keep yX6_keep ∈ tw := tw_tb (List.mem_of_getElem? (i := 608) (by decide +kernel)) (by decide +kernel)
theorem coX6_keep : Cond.code yX6_keep cX6_keep 3 ((some FieldType.int)) ∈ tw := tw_tb (List.mem_of_getElem? (i := 609) (by decide +kernel)) (by decide +kernel)
theorem mlX6_197 : Cond.methodLink RX6 197 yX4_copyFrom ∈ tw := tw_tb (List.mem_of_getElem? (i := 610) (by decide +kernel)) (by decide +kernel)
theorem imX4_copyFrom : Cond.instanceMethod yX4_copyFrom ∈ tw := tw_tb (List.mem_of_getElem? (i := 611) (by decide +kernel)) (by decide +kernel)
theorem seX4_copyFrom : Cond.selects RX4 yX4_copyFrom yX4_copyFrom ∈ tw := tw_tb (List.mem_of_getElem? (i := 612) (by decide +kernel)) (by decide +kernel)
theorem coX4_copyFrom : Cond.code yX4_copyFrom cX4_copyFrom 3 (none) ∈ tw := tw_tb (List.mem_of_getElem? (i := 613) (by decide +kernel)) (by decide +kernel)
theorem mlL_82 : Cond.methodLink RL 82 yX6_back ∈ tw := tw_tb (List.mem_of_getElem? (i := 614) (by decide +kernel)) (by decide +kernel)
theorem imX6_back : Cond.instanceMethod yX6_back ∈ tw := tw_tb (List.mem_of_getElem? (i := 615) (by decide +kernel)) (by decide +kernel)
theorem seX6_back : Cond.selects RX6 yX6_back yX6_back ∈ tw := tw_tb (List.mem_of_getElem? (i := 616) (by decide +kernel)) (by decide +kernel)
theorem coX6_back : Cond.code yX6_back cX6_back 3 ((some FieldType.int)) ∈ tw := tw_tb (List.mem_of_getElem? (i := 617) (by decide +kernel)) (by decide +kernel)
theorem clL_10 : Cond.classLink RL 10 RX7 ∈ tw := tw_tb (List.mem_of_getElem? (i := 618) (by decide +kernel)) (by decide +kernel)
theorem insX7 : Cond.instantiable RX7 22 ∈ tw := tw_tb (List.mem_of_getElem? (i := 619) (by decide +kernel)) (by decide +kernel)
theorem mlL_12 : Cond.methodLink RL 12 yX7_init ∈ tw := tw_tb (List.mem_of_getElem? (i := 620) (by decide +kernel)) (by decide +kernel)
theorem imX7_init : Cond.instanceMethod yX7_init ∈ tw := tw_tb (List.mem_of_getElem? (i := 621) (by decide +kernel)) (by decide +kernel)
theorem coX7_init : Cond.code yX7_init cX7_init 1 (none) ∈ tw := tw_tb (List.mem_of_getElem? (i := 622) (by decide +kernel)) (by decide +kernel)
theorem mlX7_1 : Cond.methodLink RX7 1 objectInit ∈ tw := tw_tb (List.mem_of_getElem? (i := 623) (by decide +kernel)) (by decide +kernel)
theorem flX7_7 : Cond.fieldLink RX7 7 "ElasticTabsModel" "now" "[I" ∈ tw := tw_tb (List.mem_of_getElem? (i := 624) (by decide +kernel)) (by decide +kernel)
theorem flX7_13 : Cond.fieldLink RX7 13 "ElasticTabsModel" "old" "[I" ∈ tw := tw_tb (List.mem_of_getElem? (i := 625) (by decide +kernel)) (by decide +kernel)
theorem flX7_16 : Cond.fieldLink RX7 16 "ElasticTabsModel" "origin" "[I" ∈ tw := tw_tb (List.mem_of_getElem? (i := 626) (by decide +kernel)) (by decide +kernel)
theorem flX7_95 : Cond.fieldLink RX7 95 "ElasticTabsModel" "changed" "I" ∈ tw := tw_tb (List.mem_of_getElem? (i := 627) (by decide +kernel)) (by decide +kernel)
theorem flX7_92 : Cond.fieldLink RX7 92 "ElasticTabsModel" "undoMany" "I" ∈ tw := tw_tb (List.mem_of_getElem? (i := 628) (by decide +kernel)) (by decide +kernel)
theorem flX7_88 : Cond.fieldLink RX7 88 "ElasticTabsModel" "undoAt" "I" ∈ tw := tw_tb (List.mem_of_getElem? (i := 629) (by decide +kernel)) (by decide +kernel)
theorem flX7_19 : Cond.fieldLink RX7 19 "ElasticTabsModel" "undos" "[I" ∈ tw := tw_tb (List.mem_of_getElem? (i := 630) (by decide +kernel)) (by decide +kernel)
theorem flX7_129 : Cond.fieldLink RX7 129 "ElasticTabsModel" "textMany" "I" ∈ tw := tw_tb (List.mem_of_getElem? (i := 631) (by decide +kernel)) (by decide +kernel)
theorem flX7_22 : Cond.fieldLink RX7 22 "ElasticTabsModel" "text" "[I" ∈ tw := tw_tb (List.mem_of_getElem? (i := 632) (by decide +kernel)) (by decide +kernel)
theorem flX7_132 : Cond.fieldLink RX7 132 "ElasticTabsModel" "readAt" "I" ∈ tw := tw_tb (List.mem_of_getElem? (i := 633) (by decide +kernel)) (by decide +kernel)
theorem flX7_141 : Cond.fieldLink RX7 141 "ElasticTabsModel" "wordAt" "I" ∈ tw := tw_tb (List.mem_of_getElem? (i := 634) (by decide +kernel)) (by decide +kernel)
theorem flX7_144 : Cond.fieldLink RX7 144 "ElasticTabsModel" "wordSize" "I" ∈ tw := tw_tb (List.mem_of_getElem? (i := 635) (by decide +kernel)) (by decide +kernel)
theorem flX7_135 : Cond.fieldLink RX7 135 "ElasticTabsModel" "faultAt" "I" ∈ tw := tw_tb (List.mem_of_getElem? (i := 636) (by decide +kernel)) (by decide +kernel)
theorem flX7_158 : Cond.fieldLink RX7 158 "ElasticTabsModel" "value" "I" ∈ tw := tw_tb (List.mem_of_getElem? (i := 637) (by decide +kernel)) (by decide +kernel)
theorem flX7_167 : Cond.fieldLink RX7 167 "ElasticTabsModel" "what" "I" ∈ tw := tw_tb (List.mem_of_getElem? (i := 638) (by decide +kernel)) (by decide +kernel)
theorem flX7_173 : Cond.fieldLink RX7 173 "ElasticTabsModel" "one" "I" ∈ tw := tw_tb (List.mem_of_getElem? (i := 639) (by decide +kernel)) (by decide +kernel)
theorem flX7_176 : Cond.fieldLink RX7 176 "ElasticTabsModel" "two" "I" ∈ tw := tw_tb (List.mem_of_getElem? (i := 640) (by decide +kernel)) (by decide +kernel)
theorem flX7_25 : Cond.fieldLink RX7 25 "ElasticTabsModel" "isKept" "[Z" ∈ tw := tw_tb (List.mem_of_getElem? (i := 641) (by decide +kernel)) (by decide +kernel)
theorem flX7_29 : Cond.fieldLink RX7 29 "ElasticTabsModel" "kept" "[I" ∈ tw := tw_tb (List.mem_of_getElem? (i := 642) (by decide +kernel)) (by decide +kernel)
theorem flX7_32 : Cond.fieldLink RX7 32 "ElasticTabsModel" "keptUndos" "[I" ∈ tw := tw_tb (List.mem_of_getElem? (i := 643) (by decide +kernel)) (by decide +kernel)
theorem flX7_35 : Cond.fieldLink RX7 35 "ElasticTabsModel" "keptMany" "[I" ∈ tw := tw_tb (List.mem_of_getElem? (i := 644) (by decide +kernel)) (by decide +kernel)
theorem flX7_38 : Cond.fieldLink RX7 38 "ElasticTabsModel" "keptAt" "[I" ∈ tw := tw_tb (List.mem_of_getElem? (i := 645) (by decide +kernel)) (by decide +kernel)
theorem ac_boolean : Cond.arrayClass .boolean ∈ tw := tw_tb (List.mem_of_getElem? (i := 691) (by decide +kernel)) (by decide +kernel)
theorem mlL_31 : Cond.methodLink RL 31 yX7_put ∈ tw := tw_tb (List.mem_of_getElem? (i := 692) (by decide +kernel)) (by decide +kernel)
theorem imX7_put : Cond.instanceMethod yX7_put ∈ tw := tw_tb (List.mem_of_getElem? (i := 693) (by decide +kernel)) (by decide +kernel)
theorem seX7_put : Cond.selects RX7 yX7_put yX7_put ∈ tw := tw_tb (List.mem_of_getElem? (i := 694) (by decide +kernel)) (by decide +kernel)
theorem coX7_put : Cond.code yX7_put cX7_put 5 ((some FieldType.int)) ∈ tw := tw_tb (List.mem_of_getElem? (i := 695) (by decide +kernel)) (by decide +kernel)
theorem mlX7_105 : Cond.methodLink RX7 105 yX7_isPlace ∈ tw := tw_tb (List.mem_of_getElem? (i := 696) (by decide +kernel)) (by decide +kernel)
theorem imX7_isPlace : Cond.instanceMethod yX7_isPlace ∈ tw := tw_tb (List.mem_of_getElem? (i := 698) (by decide +kernel)) (by decide +kernel)
theorem coX7_isPlace : Cond.code yX7_isPlace cX7_isPlace 3 ((some FieldType.boolean)) ∈ tw := tw_tb (List.mem_of_getElem? (i := 699) (by decide +kernel)) (by decide +kernel)
theorem mlX7_102 : Cond.methodLink RX7 102 yX7_isLine ∈ tw := tw_tb (List.mem_of_getElem? (i := 700) (by decide +kernel)) (by decide +kernel)
theorem imX7_isLine : Cond.instanceMethod yX7_isLine ∈ tw := tw_tb (List.mem_of_getElem? (i := 702) (by decide +kernel)) (by decide +kernel)
theorem coX7_isLine : Cond.code yX7_isLine cX7_isLine 2 ((some FieldType.boolean)) ∈ tw := tw_tb (List.mem_of_getElem? (i := 703) (by decide +kernel)) (by decide +kernel)
theorem mlX7_80 : Cond.methodLink RX7 80 yX7_in ∈ tw := tw_tb (List.mem_of_getElem? (i := 704) (by decide +kernel)) (by decide +kernel)
theorem stX7_in : Cond.static yX7_in ∈ tw := tw_tb (List.mem_of_getElem? (i := 705) (by decide +kernel)) (by decide +kernel)
theorem coX7_in : Cond.code yX7_in cX7_in 3 ((some FieldType.boolean)) ∈ tw := tw_tb (List.mem_of_getElem? (i := 706) (by decide +kernel)) (by decide +kernel)
theorem mlX7_109 : Cond.methodLink RX7 109 yX7_isSign ∈ tw := tw_tb (List.mem_of_getElem? (i := 707) (by decide +kernel)) (by decide +kernel)
theorem stX7_isSign : Cond.static yX7_isSign ∈ tw := tw_tb (List.mem_of_getElem? (i := 708) (by decide +kernel)) (by decide +kernel)
theorem coX7_isSign : Cond.code yX7_isSign cX7_isSign 1 ((some FieldType.boolean)) ∈ tw := tw_tb (List.mem_of_getElem? (i := 709) (by decide +kernel)) (by decide +kernel)
theorem mlX7_112 : Cond.methodLink RX7 112 yX7_begins ∈ tw := tw_tb (List.mem_of_getElem? (i := 710) (by decide +kernel)) (by decide +kernel)
theorem imX7_begins : Cond.instanceMethod yX7_begins ∈ tw := tw_tb (List.mem_of_getElem? (i := 712) (by decide +kernel)) (by decide +kernel)
theorem coX7_begins : Cond.code yX7_begins cX7_begins 2 (none) ∈ tw := tw_tb (List.mem_of_getElem? (i := 713) (by decide +kernel)) (by decide +kernel)
theorem mlX7_84 : Cond.methodLink RX7 84 yX7_copies ∈ tw := tw_tb (List.mem_of_getElem? (i := 714) (by decide +kernel)) (by decide +kernel)
theorem stX7_copies : Cond.static yX7_copies ∈ tw := tw_tb (List.mem_of_getElem? (i := 715) (by decide +kernel)) (by decide +kernel)
theorem coX7_copies : Cond.code yX7_copies cX7_copies 3 (none) ∈ tw := tw_tb (List.mem_of_getElem? (i := 716) (by decide +kernel)) (by decide +kernel)
theorem mlX7_41 : Cond.methodLink RX7 41 yX7_signAt ∈ tw := tw_tb (List.mem_of_getElem? (i := 717) (by decide +kernel)) (by decide +kernel)
theorem stX7_signAt : Cond.static yX7_signAt ∈ tw := tw_tb (List.mem_of_getElem? (i := 718) (by decide +kernel)) (by decide +kernel)
theorem coX7_signAt : Cond.code yX7_signAt cX7_signAt 3 ((some FieldType.int)) ∈ tw := tw_tb (List.mem_of_getElem? (i := 719) (by decide +kernel)) (by decide +kernel)
theorem mlX7_115 : Cond.methodLink RX7 115 yX7_ends ∈ tw := tw_tb (List.mem_of_getElem? (i := 720) (by decide +kernel)) (by decide +kernel)
theorem imX7_ends : Cond.instanceMethod yX7_ends ∈ tw := tw_tb (List.mem_of_getElem? (i := 722) (by decide +kernel)) (by decide +kernel)
theorem coX7_ends : Cond.code yX7_ends cX7_ends 2 (none) ∈ tw := tw_tb (List.mem_of_getElem? (i := 723) (by decide +kernel)) (by decide +kernel)
theorem mlX7_98 : Cond.methodLink RX7 98 yX7_isChanged ∈ tw := tw_tb (List.mem_of_getElem? (i := 724) (by decide +kernel)) (by decide +kernel)
theorem imX7_isChanged : Cond.instanceMethod yX7_isChanged ∈ tw := tw_tb (List.mem_of_getElem? (i := 726) (by decide +kernel)) (by decide +kernel)
theorem coX7_isChanged : Cond.code yX7_isChanged cX7_isChanged 6 ((some FieldType.boolean)) ∈ tw := tw_tb (List.mem_of_getElem? (i := 727) (by decide +kernel)) (by decide +kernel)
theorem mlX7_51 : Cond.methodLink RX7 51 yX7_cellsOf ∈ tw := tw_tb (List.mem_of_getElem? (i := 728) (by decide +kernel)) (by decide +kernel)
theorem stX7_cellsOf : Cond.static yX7_cellsOf ∈ tw := tw_tb (List.mem_of_getElem? (i := 729) (by decide +kernel)) (by decide +kernel)
theorem coX7_cellsOf : Cond.code yX7_cellsOf cX7_cellsOf 4 ((some FieldType.int)) ∈ tw := tw_tb (List.mem_of_getElem? (i := 730) (by decide +kernel)) (by decide +kernel)
theorem mlX7_71 : Cond.methodLink RX7 71 yX7_widthOf ∈ tw := tw_tb (List.mem_of_getElem? (i := 731) (by decide +kernel)) (by decide +kernel)
theorem stX7_widthOf : Cond.static yX7_widthOf ∈ tw := tw_tb (List.mem_of_getElem? (i := 732) (by decide +kernel)) (by decide +kernel)
theorem coX7_widthOf : Cond.code yX7_widthOf cX7_widthOf 4 ((some FieldType.int)) ∈ tw := tw_tb (List.mem_of_getElem? (i := 733) (by decide +kernel)) (by decide +kernel)
theorem mlX7_68 : Cond.methodLink RX7 68 yX7_needOf ∈ tw := tw_tb (List.mem_of_getElem? (i := 734) (by decide +kernel)) (by decide +kernel)
theorem stX7_needOf : Cond.static yX7_needOf ∈ tw := tw_tb (List.mem_of_getElem? (i := 735) (by decide +kernel)) (by decide +kernel)
theorem coX7_needOf : Cond.code yX7_needOf cX7_needOf 3 ((some FieldType.int)) ∈ tw := tw_tb (List.mem_of_getElem? (i := 736) (by decide +kernel)) (by decide +kernel)
theorem mlX7_64 : Cond.methodLink RX7 64 yX7_mostOf ∈ tw := tw_tb (List.mem_of_getElem? (i := 737) (by decide +kernel)) (by decide +kernel)
theorem stX7_mostOf : Cond.static yX7_mostOf ∈ tw := tw_tb (List.mem_of_getElem? (i := 738) (by decide +kernel)) (by decide +kernel)
theorem coX7_mostOf : Cond.code yX7_mostOf cX7_mostOf 9 ((some FieldType.int)) ∈ tw := tw_tb (List.mem_of_getElem? (i := 739) (by decide +kernel)) (by decide +kernel)
theorem mlX7_55 : Cond.methodLink RX7 55 yX7_lastOf ∈ tw := tw_tb (List.mem_of_getElem? (i := 740) (by decide +kernel)) (by decide +kernel)
theorem stX7_lastOf : Cond.static yX7_lastOf ∈ tw := tw_tb (List.mem_of_getElem? (i := 741) (by decide +kernel)) (by decide +kernel)
theorem coX7_lastOf : Cond.code yX7_lastOf cX7_lastOf 4 ((some FieldType.int)) ∈ tw := tw_tb (List.mem_of_getElem? (i := 742) (by decide +kernel)) (by decide +kernel)
theorem mlX7_58 : Cond.methodLink RX7 58 yX7_firstOf ∈ tw := tw_tb (List.mem_of_getElem? (i := 743) (by decide +kernel)) (by decide +kernel)
theorem stX7_firstOf : Cond.static yX7_firstOf ∈ tw := tw_tb (List.mem_of_getElem? (i := 744) (by decide +kernel)) (by decide +kernel)
theorem coX7_firstOf : Cond.code yX7_firstOf cX7_firstOf 4 ((some FieldType.int)) ∈ tw := tw_tb (List.mem_of_getElem? (i := 745) (by decide +kernel)) (by decide +kernel)
theorem mlX7_48 : Cond.methodLink RX7 48 yX7_sizeOf ∈ tw := tw_tb (List.mem_of_getElem? (i := 746) (by decide +kernel)) (by decide +kernel)
theorem stX7_sizeOf : Cond.static yX7_sizeOf ∈ tw := tw_tb (List.mem_of_getElem? (i := 747) (by decide +kernel)) (by decide +kernel)
theorem coX7_sizeOf : Cond.code yX7_sizeOf cX7_sizeOf 5 ((some FieldType.int)) ∈ tw := tw_tb (List.mem_of_getElem? (i := 748) (by decide +kernel)) (by decide +kernel)
theorem mlX7_45 : Cond.methodLink RX7 45 yX7_fromOf ∈ tw := tw_tb (List.mem_of_getElem? (i := 749) (by decide +kernel)) (by decide +kernel)
theorem stX7_fromOf : Cond.static yX7_fromOf ∈ tw := tw_tb (List.mem_of_getElem? (i := 750) (by decide +kernel)) (by decide +kernel)
theorem coX7_fromOf : Cond.code yX7_fromOf cX7_fromOf 5 ((some FieldType.int)) ∈ tw := tw_tb (List.mem_of_getElem? (i := 751) (by decide +kernel)) (by decide +kernel)
theorem mlX7_61 : Cond.methodLink RX7 61 yX7_aheadOf ∈ tw := tw_tb (List.mem_of_getElem? (i := 752) (by decide +kernel)) (by decide +kernel)
theorem stX7_aheadOf : Cond.static yX7_aheadOf ∈ tw := tw_tb (List.mem_of_getElem? (i := 753) (by decide +kernel)) (by decide +kernel)
theorem coX7_aheadOf : Cond.code yX7_aheadOf cX7_aheadOf 6 ((some FieldType.int)) ∈ tw := tw_tb (List.mem_of_getElem? (i := 754) (by decide +kernel)) (by decide +kernel)
theorem mlL_36 : Cond.methodLink RL 36 yX7_cut ∈ tw := tw_tb (List.mem_of_getElem? (i := 755) (by decide +kernel)) (by decide +kernel)
theorem imX7_cut : Cond.instanceMethod yX7_cut ∈ tw := tw_tb (List.mem_of_getElem? (i := 756) (by decide +kernel)) (by decide +kernel)
theorem seX7_cut : Cond.selects RX7 yX7_cut yX7_cut ∈ tw := tw_tb (List.mem_of_getElem? (i := 757) (by decide +kernel)) (by decide +kernel)
theorem coX7_cut : Cond.code yX7_cut cX7_cut 5 ((some FieldType.int)) ∈ tw := tw_tb (List.mem_of_getElem? (i := 758) (by decide +kernel)) (by decide +kernel)
theorem mlL_40 : Cond.methodLink RL 40 yX7_split ∈ tw := tw_tb (List.mem_of_getElem? (i := 759) (by decide +kernel)) (by decide +kernel)
theorem imX7_split : Cond.instanceMethod yX7_split ∈ tw := tw_tb (List.mem_of_getElem? (i := 760) (by decide +kernel)) (by decide +kernel)
theorem seX7_split : Cond.selects RX7 yX7_split yX7_split ∈ tw := tw_tb (List.mem_of_getElem? (i := 761) (by decide +kernel)) (by decide +kernel)
theorem coX7_split : Cond.code yX7_split cX7_split 4 ((some FieldType.int)) ∈ tw := tw_tb (List.mem_of_getElem? (i := 762) (by decide +kernel)) (by decide +kernel)
theorem mlX7_118 : Cond.methodLink RX7 118 yX7_opens ∈ tw := tw_tb (List.mem_of_getElem? (i := 763) (by decide +kernel)) (by decide +kernel)
theorem imX7_opens : Cond.instanceMethod yX7_opens ∈ tw := tw_tb (List.mem_of_getElem? (i := 765) (by decide +kernel)) (by decide +kernel)
theorem coX7_opens : Cond.code yX7_opens cX7_opens 4 (none) ∈ tw := tw_tb (List.mem_of_getElem? (i := 766) (by decide +kernel)) (by decide +kernel)
theorem mlX7_122 : Cond.methodLink RX7 122 yX7_appends ∈ tw := tw_tb (List.mem_of_getElem? (i := 767) (by decide +kernel)) (by decide +kernel)
theorem imX7_appends : Cond.instanceMethod yX7_appends ∈ tw := tw_tb (List.mem_of_getElem? (i := 769) (by decide +kernel)) (by decide +kernel)
theorem coX7_appends : Cond.code yX7_appends cX7_appends 3 (none) ∈ tw := tw_tb (List.mem_of_getElem? (i := 770) (by decide +kernel)) (by decide +kernel)
theorem mlL_44 : Cond.methodLink RL 44 yX7_join ∈ tw := tw_tb (List.mem_of_getElem? (i := 771) (by decide +kernel)) (by decide +kernel)
theorem imX7_join : Cond.instanceMethod yX7_join ∈ tw := tw_tb (List.mem_of_getElem? (i := 772) (by decide +kernel)) (by decide +kernel)
theorem seX7_join : Cond.selects RX7 yX7_join yX7_join ∈ tw := tw_tb (List.mem_of_getElem? (i := 773) (by decide +kernel)) (by decide +kernel)
theorem coX7_join : Cond.code yX7_join cX7_join 3 ((some FieldType.int)) ∈ tw := tw_tb (List.mem_of_getElem? (i := 774) (by decide +kernel)) (by decide +kernel)
theorem mlX7_126 : Cond.methodLink RX7 126 yX7_shuts ∈ tw := tw_tb (List.mem_of_getElem? (i := 775) (by decide +kernel)) (by decide +kernel)
theorem imX7_shuts : Cond.instanceMethod yX7_shuts ∈ tw := tw_tb (List.mem_of_getElem? (i := 777) (by decide +kernel)) (by decide +kernel)
theorem coX7_shuts : Cond.code yX7_shuts cX7_shuts 4 (none) ∈ tw := tw_tb (List.mem_of_getElem? (i := 778) (by decide +kernel)) (by decide +kernel)
theorem mlL_48 : Cond.methodLink RL 48 yX7_undo ∈ tw := tw_tb (List.mem_of_getElem? (i := 779) (by decide +kernel)) (by decide +kernel)
theorem imX7_undo : Cond.instanceMethod yX7_undo ∈ tw := tw_tb (List.mem_of_getElem? (i := 780) (by decide +kernel)) (by decide +kernel)
theorem seX7_undo : Cond.selects RX7 yX7_undo yX7_undo ∈ tw := tw_tb (List.mem_of_getElem? (i := 781) (by decide +kernel)) (by decide +kernel)
theorem coX7_undo : Cond.code yX7_undo cX7_undo 2 ((some FieldType.int)) ∈ tw := tw_tb (List.mem_of_getElem? (i := 782) (by decide +kernel)) (by decide +kernel)
theorem mlL_17 : Cond.methodLink RL 17 yX7_type ∈ tw := tw_tb (List.mem_of_getElem? (i := 783) (by decide +kernel)) (by decide +kernel)
theorem imX7_type : Cond.instanceMethod yX7_type ∈ tw := tw_tb (List.mem_of_getElem? (i := 784) (by decide +kernel)) (by decide +kernel)
theorem seX7_type : Cond.selects RX7 yX7_type yX7_type ∈ tw := tw_tb (List.mem_of_getElem? (i := 785) (by decide +kernel)) (by decide +kernel)
theorem coX7_type : Cond.code yX7_type cX7_type 2 ((some FieldType.int)) ∈ tw := tw_tb (List.mem_of_getElem? (i := 786) (by decide +kernel)) (by decide +kernel)
theorem mlL_22 : Cond.methodLink RL 22 yX7_clear ∈ tw := tw_tb (List.mem_of_getElem? (i := 787) (by decide +kernel)) (by decide +kernel)
theorem imX7_clear : Cond.instanceMethod yX7_clear ∈ tw := tw_tb (List.mem_of_getElem? (i := 788) (by decide +kernel)) (by decide +kernel)
theorem seX7_clear : Cond.selects RX7 yX7_clear yX7_clear ∈ tw := tw_tb (List.mem_of_getElem? (i := 789) (by decide +kernel)) (by decide +kernel)
theorem coX7_clear : Cond.code yX7_clear cX7_clear 2 ((some FieldType.int)) ∈ tw := tw_tb (List.mem_of_getElem? (i := 790) (by decide +kernel)) (by decide +kernel)
theorem mlL_26 : Cond.methodLink RL 26 yX7_run ∈ tw := tw_tb (List.mem_of_getElem? (i := 791) (by decide +kernel)) (by decide +kernel)
theorem imX7_run : Cond.instanceMethod yX7_run ∈ tw := tw_tb (List.mem_of_getElem? (i := 792) (by decide +kernel)) (by decide +kernel)
theorem seX7_run : Cond.selects RX7 yX7_run yX7_run ∈ tw := tw_tb (List.mem_of_getElem? (i := 793) (by decide +kernel)) (by decide +kernel)
theorem coX7_run : Cond.code yX7_run cX7_run 2 ((some FieldType.int)) ∈ tw := tw_tb (List.mem_of_getElem? (i := 794) (by decide +kernel)) (by decide +kernel)
theorem mlX7_138 : Cond.methodLink RX7 138 yX7_blanks ∈ tw := tw_tb (List.mem_of_getElem? (i := 795) (by decide +kernel)) (by decide +kernel)
theorem imX7_blanks : Cond.instanceMethod yX7_blanks ∈ tw := tw_tb (List.mem_of_getElem? (i := 797) (by decide +kernel)) (by decide +kernel)
theorem coX7_blanks : Cond.code yX7_blanks cX7_blanks 1 (none) ∈ tw := tw_tb (List.mem_of_getElem? (i := 798) (by decide +kernel)) (by decide +kernel)
theorem mlX7_216 : Cond.methodLink RX7 216 yX7_reads ∈ tw := tw_tb (List.mem_of_getElem? (i := 799) (by decide +kernel)) (by decide +kernel)
theorem imX7_reads : Cond.instanceMethod yX7_reads ∈ tw := tw_tb (List.mem_of_getElem? (i := 801) (by decide +kernel)) (by decide +kernel)
theorem coX7_reads : Cond.code yX7_reads cX7_reads 2 ((some FieldType.boolean)) ∈ tw := tw_tb (List.mem_of_getElem? (i := 802) (by decide +kernel)) (by decide +kernel)
theorem mlX7_154 : Cond.methodLink RX7 154 yX7_word ∈ tw := tw_tb (List.mem_of_getElem? (i := 803) (by decide +kernel)) (by decide +kernel)
theorem imX7_word : Cond.instanceMethod yX7_word ∈ tw := tw_tb (List.mem_of_getElem? (i := 805) (by decide +kernel)) (by decide +kernel)
theorem coX7_word : Cond.code yX7_word cX7_word 1 ((some FieldType.boolean)) ∈ tw := tw_tb (List.mem_of_getElem? (i := 806) (by decide +kernel)) (by decide +kernel)
theorem mlX7_147 : Cond.methodLink RX7 147 yX7_fails ∈ tw := tw_tb (List.mem_of_getElem? (i := 807) (by decide +kernel)) (by decide +kernel)
theorem imX7_fails : Cond.instanceMethod yX7_fails ∈ tw := tw_tb (List.mem_of_getElem? (i := 809) (by decide +kernel)) (by decide +kernel)
theorem coX7_fails : Cond.code yX7_fails cX7_fails 2 ((some FieldType.boolean)) ∈ tw := tw_tb (List.mem_of_getElem? (i := 810) (by decide +kernel)) (by decide +kernel)
theorem mlX7_164 : Cond.methodLink RX7 164 yX7_command ∈ tw := tw_tb (List.mem_of_getElem? (i := 811) (by decide +kernel)) (by decide +kernel)
theorem imX7_command : Cond.instanceMethod yX7_command ∈ tw := tw_tb (List.mem_of_getElem? (i := 813) (by decide +kernel)) (by decide +kernel)
theorem coX7_command : Cond.code yX7_command cX7_command 1 ((some FieldType.int)) ∈ tw := tw_tb (List.mem_of_getElem? (i := 814) (by decide +kernel)) (by decide +kernel)
theorem mlX7_150 : Cond.methodLink RX7 150 yX7_letters ∈ tw := tw_tb (List.mem_of_getElem? (i := 815) (by decide +kernel)) (by decide +kernel)
theorem imX7_letters : Cond.instanceMethod yX7_letters ∈ tw := tw_tb (List.mem_of_getElem? (i := 817) (by decide +kernel)) (by decide +kernel)
theorem coX7_letters : Cond.code yX7_letters cX7_letters 4 ((some FieldType.int)) ∈ tw := tw_tb (List.mem_of_getElem? (i := 818) (by decide +kernel)) (by decide +kernel)
theorem mlX7_170 : Cond.methodLink RX7 170 yX7_number ∈ tw := tw_tb (List.mem_of_getElem? (i := 819) (by decide +kernel)) (by decide +kernel)
theorem imX7_number : Cond.instanceMethod yX7_number ∈ tw := tw_tb (List.mem_of_getElem? (i := 821) (by decide +kernel)) (by decide +kernel)
theorem coX7_number : Cond.code yX7_number cX7_number 3 ((some FieldType.boolean)) ∈ tw := tw_tb (List.mem_of_getElem? (i := 822) (by decide +kernel)) (by decide +kernel)
theorem mlX7_179 : Cond.methodLink RX7 179 yX7_signs ∈ tw := tw_tb (List.mem_of_getElem? (i := 823) (by decide +kernel)) (by decide +kernel)
theorem imX7_signs : Cond.instanceMethod yX7_signs ∈ tw := tw_tb (List.mem_of_getElem? (i := 825) (by decide +kernel)) (by decide +kernel)
theorem coX7_signs : Cond.code yX7_signs cX7_signs 1 ((some FieldType.boolean)) ∈ tw := tw_tb (List.mem_of_getElem? (i := 826) (by decide +kernel)) (by decide +kernel)
theorem mlX7_182 : Cond.methodLink RX7 182 yX7_sign ∈ tw := tw_tb (List.mem_of_getElem? (i := 827) (by decide +kernel)) (by decide +kernel)
theorem imX7_sign : Cond.instanceMethod yX7_sign ∈ tw := tw_tb (List.mem_of_getElem? (i := 829) (by decide +kernel)) (by decide +kernel)
theorem coX7_sign : Cond.code yX7_sign cX7_sign 1 ((some FieldType.boolean)) ∈ tw := tw_tb (List.mem_of_getElem? (i := 830) (by decide +kernel)) (by decide +kernel)
theorem mlX7_185 : Cond.methodLink RX7 185 yX7_aligned ∈ tw := tw_tb (List.mem_of_getElem? (i := 831) (by decide +kernel)) (by decide +kernel)
theorem imX7_aligned : Cond.instanceMethod yX7_aligned ∈ tw := tw_tb (List.mem_of_getElem? (i := 833) (by decide +kernel)) (by decide +kernel)
theorem coX7_aligned : Cond.code yX7_aligned cX7_aligned 1 ((some FieldType.boolean)) ∈ tw := tw_tb (List.mem_of_getElem? (i := 834) (by decide +kernel)) (by decide +kernel)
theorem mlX7_161 : Cond.methodLink RX7 161 yX7_way ∈ tw := tw_tb (List.mem_of_getElem? (i := 835) (by decide +kernel)) (by decide +kernel)
theorem imX7_way : Cond.instanceMethod yX7_way ∈ tw := tw_tb (List.mem_of_getElem? (i := 837) (by decide +kernel)) (by decide +kernel)
theorem coX7_way : Cond.code yX7_way cX7_way 1 ((some FieldType.int)) ∈ tw := tw_tb (List.mem_of_getElem? (i := 838) (by decide +kernel)) (by decide +kernel)
theorem mlX7_188 : Cond.methodLink RX7 188 yX7_stops ∈ tw := tw_tb (List.mem_of_getElem? (i := 839) (by decide +kernel)) (by decide +kernel)
theorem imX7_stops : Cond.instanceMethod yX7_stops ∈ tw := tw_tb (List.mem_of_getElem? (i := 841) (by decide +kernel)) (by decide +kernel)
theorem coX7_stops : Cond.code yX7_stops cX7_stops 2 ((some FieldType.boolean)) ∈ tw := tw_tb (List.mem_of_getElem? (i := 842) (by decide +kernel)) (by decide +kernel)
theorem mlX7_219 : Cond.methodLink RX7 219 yX7_does ∈ tw := tw_tb (List.mem_of_getElem? (i := 843) (by decide +kernel)) (by decide +kernel)
theorem imX7_does : Cond.instanceMethod yX7_does ∈ tw := tw_tb (List.mem_of_getElem? (i := 845) (by decide +kernel)) (by decide +kernel)
theorem coX7_does : Cond.code yX7_does cX7_does 1 ((some FieldType.int)) ∈ tw := tw_tb (List.mem_of_getElem? (i := 846) (by decide +kernel)) (by decide +kernel)
theorem mlX7_191 : Cond.methodLink RX7 191 yX7_adds ∈ tw := tw_tb (List.mem_of_getElem? (i := 847) (by decide +kernel)) (by decide +kernel)
theorem imX7_adds : Cond.instanceMethod yX7_adds ∈ tw := tw_tb (List.mem_of_getElem? (i := 849) (by decide +kernel)) (by decide +kernel)
theorem coX7_adds : Cond.code yX7_adds cX7_adds 3 ((some FieldType.int)) ∈ tw := tw_tb (List.mem_of_getElem? (i := 850) (by decide +kernel)) (by decide +kernel)
theorem mlX7_194 : Cond.methodLink RX7 194 yX7_drops ∈ tw := tw_tb (List.mem_of_getElem? (i := 851) (by decide +kernel)) (by decide +kernel)
theorem imX7_drops : Cond.instanceMethod yX7_drops ∈ tw := tw_tb (List.mem_of_getElem? (i := 853) (by decide +kernel)) (by decide +kernel)
theorem coX7_drops : Cond.code yX7_drops cX7_drops 1 ((some FieldType.int)) ∈ tw := tw_tb (List.mem_of_getElem? (i := 854) (by decide +kernel)) (by decide +kernel)
theorem mlX7_197 : Cond.methodLink RX7 197 yX7_split ∈ tw := tw_tb (List.mem_of_getElem? (i := 855) (by decide +kernel)) (by decide +kernel)
theorem mlX7_201 : Cond.methodLink RX7 201 yX7_join ∈ tw := tw_tb (List.mem_of_getElem? (i := 856) (by decide +kernel)) (by decide +kernel)
theorem mlX7_205 : Cond.methodLink RX7 205 yX7_put ∈ tw := tw_tb (List.mem_of_getElem? (i := 857) (by decide +kernel)) (by decide +kernel)
theorem mlX7_209 : Cond.methodLink RX7 209 yX7_cut ∈ tw := tw_tb (List.mem_of_getElem? (i := 858) (by decide +kernel)) (by decide +kernel)
theorem mlX7_212 : Cond.methodLink RX7 212 yX7_becomes ∈ tw := tw_tb (List.mem_of_getElem? (i := 859) (by decide +kernel)) (by decide +kernel)
theorem imX7_becomes : Cond.instanceMethod yX7_becomes ∈ tw := tw_tb (List.mem_of_getElem? (i := 861) (by decide +kernel)) (by decide +kernel)
theorem coX7_becomes : Cond.code yX7_becomes cX7_becomes 4 ((some FieldType.int)) ∈ tw := tw_tb (List.mem_of_getElem? (i := 862) (by decide +kernel)) (by decide +kernel)
theorem mlL_52 : Cond.methodLink RL 52 yX7_line ∈ tw := tw_tb (List.mem_of_getElem? (i := 863) (by decide +kernel)) (by decide +kernel)
theorem imX7_line : Cond.instanceMethod yX7_line ∈ tw := tw_tb (List.mem_of_getElem? (i := 864) (by decide +kernel)) (by decide +kernel)
theorem seX7_line : Cond.selects RX7 yX7_line yX7_line ∈ tw := tw_tb (List.mem_of_getElem? (i := 865) (by decide +kernel)) (by decide +kernel)
theorem coX7_line : Cond.code yX7_line cX7_line 3 ((some FieldType.int)) ∈ tw := tw_tb (List.mem_of_getElem? (i := 866) (by decide +kernel)) (by decide +kernel)
theorem mlX7_77 : Cond.methodLink RX7 77 yX7_wideOf ∈ tw := tw_tb (List.mem_of_getElem? (i := 867) (by decide +kernel)) (by decide +kernel)
theorem stX7_wideOf : Cond.static yX7_wideOf ∈ tw := tw_tb (List.mem_of_getElem? (i := 868) (by decide +kernel)) (by decide +kernel)
theorem coX7_wideOf : Cond.code yX7_wideOf cX7_wideOf 3 ((some FieldType.int)) ∈ tw := tw_tb (List.mem_of_getElem? (i := 869) (by decide +kernel)) (by decide +kernel)
theorem mlX7_74 : Cond.methodLink RX7 74 yX7_beginsOf ∈ tw := tw_tb (List.mem_of_getElem? (i := 870) (by decide +kernel)) (by decide +kernel)
theorem stX7_beginsOf : Cond.static yX7_beginsOf ∈ tw := tw_tb (List.mem_of_getElem? (i := 871) (by decide +kernel)) (by decide +kernel)
theorem coX7_beginsOf : Cond.code yX7_beginsOf cX7_beginsOf 5 ((some FieldType.int)) ∈ tw := tw_tb (List.mem_of_getElem? (i := 872) (by decide +kernel)) (by decide +kernel)
theorem mlL_56 : Cond.methodLink RL 56 yX7_sign_ ∈ tw := tw_tb (List.mem_of_getElem? (i := 873) (by decide +kernel)) (by decide +kernel)
theorem imX7_sign_ : Cond.instanceMethod yX7_sign_ ∈ tw := tw_tb (List.mem_of_getElem? (i := 874) (by decide +kernel)) (by decide +kernel)
theorem seX7_sign_ : Cond.selects RX7 yX7_sign_ yX7_sign_ ∈ tw := tw_tb (List.mem_of_getElem? (i := 875) (by decide +kernel)) (by decide +kernel)
theorem coX7_sign_ : Cond.code yX7_sign_ cX7_sign_ 3 ((some FieldType.int)) ∈ tw := tw_tb (List.mem_of_getElem? (i := 876) (by decide +kernel)) (by decide +kernel)
theorem mlL_60 : Cond.methodLink RL 60 yX7_cell ∈ tw := tw_tb (List.mem_of_getElem? (i := 877) (by decide +kernel)) (by decide +kernel)
theorem imX7_cell : Cond.instanceMethod yX7_cell ∈ tw := tw_tb (List.mem_of_getElem? (i := 878) (by decide +kernel)) (by decide +kernel)
theorem seX7_cell : Cond.selects RX7 yX7_cell yX7_cell ∈ tw := tw_tb (List.mem_of_getElem? (i := 879) (by decide +kernel)) (by decide +kernel)
theorem coX7_cell : Cond.code yX7_cell cX7_cell 4 ((some FieldType.int)) ∈ tw := tw_tb (List.mem_of_getElem? (i := 880) (by decide +kernel)) (by decide +kernel)
theorem mlX7_226 : Cond.methodLink RX7 226 yX7_widest ∈ tw := tw_tb (List.mem_of_getElem? (i := 881) (by decide +kernel)) (by decide +kernel)
theorem imX7_widest : Cond.instanceMethod yX7_widest ∈ tw := tw_tb (List.mem_of_getElem? (i := 883) (by decide +kernel)) (by decide +kernel)
theorem coX7_widest : Cond.code yX7_widest cX7_widest 6 ((some FieldType.int)) ∈ tw := tw_tb (List.mem_of_getElem? (i := 884) (by decide +kernel)) (by decide +kernel)
theorem mlX7_229 : Cond.methodLink RX7 229 yX7_saves ∈ tw := tw_tb (List.mem_of_getElem? (i := 885) (by decide +kernel)) (by decide +kernel)
theorem imX7_saves : Cond.instanceMethod yX7_saves ∈ tw := tw_tb (List.mem_of_getElem? (i := 887) (by decide +kernel)) (by decide +kernel)
theorem coX7_saves : Cond.code yX7_saves cX7_saves 5 ((some FieldType.int)) ∈ tw := tw_tb (List.mem_of_getElem? (i := 888) (by decide +kernel)) (by decide +kernel)
theorem mlX7_222 : Cond.methodLink RX7 222 yX7_allWide ∈ tw := tw_tb (List.mem_of_getElem? (i := 889) (by decide +kernel)) (by decide +kernel)
theorem stX7_allWide : Cond.static yX7_allWide ∈ tw := tw_tb (List.mem_of_getElem? (i := 890) (by decide +kernel)) (by decide +kernel)
theorem coX7_allWide : Cond.code yX7_allWide cX7_allWide 3 ((some FieldType.int)) ∈ tw := tw_tb (List.mem_of_getElem? (i := 891) (by decide +kernel)) (by decide +kernel)
theorem mlL_64 : Cond.methodLink RL 64 yX7_shown ∈ tw := tw_tb (List.mem_of_getElem? (i := 892) (by decide +kernel)) (by decide +kernel)
theorem imX7_shown : Cond.instanceMethod yX7_shown ∈ tw := tw_tb (List.mem_of_getElem? (i := 893) (by decide +kernel)) (by decide +kernel)
theorem seX7_shown : Cond.selects RX7 yX7_shown yX7_shown ∈ tw := tw_tb (List.mem_of_getElem? (i := 894) (by decide +kernel)) (by decide +kernel)
theorem coX7_shown : Cond.code yX7_shown cX7_shown 3 ((some FieldType.int)) ∈ tw := tw_tb (List.mem_of_getElem? (i := 895) (by decide +kernel)) (by decide +kernel)
theorem mlX7_235 : Cond.methodLink RX7 235 yX7_shownAt ∈ tw := tw_tb (List.mem_of_getElem? (i := 896) (by decide +kernel)) (by decide +kernel)
theorem imX7_shownAt : Cond.instanceMethod yX7_shownAt ∈ tw := tw_tb (List.mem_of_getElem? (i := 898) (by decide +kernel)) (by decide +kernel)
theorem coX7_shownAt : Cond.code yX7_shownAt cX7_shownAt 6 ((some FieldType.int)) ∈ tw := tw_tb (List.mem_of_getElem? (i := 899) (by decide +kernel)) (by decide +kernel)
theorem mlX7_232 : Cond.methodLink RX7 232 yX7_startOf ∈ tw := tw_tb (List.mem_of_getElem? (i := 900) (by decide +kernel)) (by decide +kernel)
theorem imX7_startOf : Cond.instanceMethod yX7_startOf ∈ tw := tw_tb (List.mem_of_getElem? (i := 902) (by decide +kernel)) (by decide +kernel)
theorem coX7_startOf : Cond.code yX7_startOf cX7_startOf 5 ((some FieldType.int)) ∈ tw := tw_tb (List.mem_of_getElem? (i := 903) (by decide +kernel)) (by decide +kernel)
theorem mlL_68 : Cond.methodLink RL 68 yX7_align ∈ tw := tw_tb (List.mem_of_getElem? (i := 904) (by decide +kernel)) (by decide +kernel)
theorem imX7_align : Cond.instanceMethod yX7_align ∈ tw := tw_tb (List.mem_of_getElem? (i := 905) (by decide +kernel)) (by decide +kernel)
theorem seX7_align : Cond.selects RX7 yX7_align yX7_align ∈ tw := tw_tb (List.mem_of_getElem? (i := 906) (by decide +kernel)) (by decide +kernel)
theorem coX7_align : Cond.code yX7_align cX7_align 2 ((some FieldType.int)) ∈ tw := tw_tb (List.mem_of_getElem? (i := 907) (by decide +kernel)) (by decide +kernel)
theorem mlL_72 : Cond.methodLink RL 72 yX7_count ∈ tw := tw_tb (List.mem_of_getElem? (i := 908) (by decide +kernel)) (by decide +kernel)
theorem imX7_count : Cond.instanceMethod yX7_count ∈ tw := tw_tb (List.mem_of_getElem? (i := 909) (by decide +kernel)) (by decide +kernel)
theorem seX7_count : Cond.selects RX7 yX7_count yX7_count ∈ tw := tw_tb (List.mem_of_getElem? (i := 910) (by decide +kernel)) (by decide +kernel)
theorem coX7_count : Cond.code yX7_count cX7_count 2 ((some FieldType.int)) ∈ tw := tw_tb (List.mem_of_getElem? (i := 911) (by decide +kernel)) (by decide +kernel)
theorem mlX7_238 : Cond.methodLink RX7 238 yX7_blocks ∈ tw := tw_tb (List.mem_of_getElem? (i := 912) (by decide +kernel)) (by decide +kernel)
theorem imX7_blocks : Cond.instanceMethod yX7_blocks ∈ tw := tw_tb (List.mem_of_getElem? (i := 914) (by decide +kernel)) (by decide +kernel)
theorem coX7_blocks : Cond.code yX7_blocks cX7_blocks 5 ((some FieldType.int)) ∈ tw := tw_tb (List.mem_of_getElem? (i := 915) (by decide +kernel)) (by decide +kernel)
theorem mlX7_241 : Cond.methodLink RX7 241 yX7_widestLine ∈ tw := tw_tb (List.mem_of_getElem? (i := 916) (by decide +kernel)) (by decide +kernel)
theorem imX7_widestLine : Cond.instanceMethod yX7_widestLine ∈ tw := tw_tb (List.mem_of_getElem? (i := 918) (by decide +kernel)) (by decide +kernel)
theorem coX7_widestLine : Cond.code yX7_widestLine cX7_widestLine 3 ((some FieldType.int)) ∈ tw := tw_tb (List.mem_of_getElem? (i := 919) (by decide +kernel)) (by decide +kernel)
theorem mlL_77 : Cond.methodLink RL 77 yX7_digest ∈ tw := tw_tb (List.mem_of_getElem? (i := 920) (by decide +kernel)) (by decide +kernel)
theorem imX7_digest : Cond.instanceMethod yX7_digest ∈ tw := tw_tb (List.mem_of_getElem? (i := 921) (by decide +kernel)) (by decide +kernel)
theorem seX7_digest : Cond.selects RX7 yX7_digest yX7_digest ∈ tw := tw_tb (List.mem_of_getElem? (i := 922) (by decide +kernel)) (by decide +kernel)
theorem coX7_digest : Cond.code yX7_digest cX7_digest 6 ((some FieldType.long)) ∈ tw := tw_tb (List.mem_of_getElem? (i := 923) (by decide +kernel)) (by decide +kernel)
theorem klX7_244 : Cond.constantLong RX7 244 17 ∈ tw := tw_tb (List.mem_of_getElem? (i := 924) (by decide +kernel)) (by decide +kernel)
theorem klX7_246 : Cond.constantLong RX7 246 31 ∈ tw := tw_tb (List.mem_of_getElem? (i := 925) (by decide +kernel)) (by decide +kernel)
theorem mlL_81 : Cond.methodLink RL 81 yX7_keep ∈ tw := tw_tb (List.mem_of_getElem? (i := 926) (by decide +kernel)) (by decide +kernel)
theorem imX7_keep : Cond.instanceMethod yX7_keep ∈ tw := tw_tb (List.mem_of_getElem? (i := 927) (by decide +kernel)) (by decide +kernel)
theorem seX7_keep : Cond.selects RX7 yX7_keep yX7_keep ∈ tw := tw_tb (List.mem_of_getElem? (i := 928) (by decide +kernel)) (by decide +kernel)
theorem coX7_keep : Cond.code yX7_keep cX7_keep 3 ((some FieldType.int)) ∈ tw := tw_tb (List.mem_of_getElem? (i := 929) (by decide +kernel)) (by decide +kernel)
theorem mlL_85 : Cond.methodLink RL 85 yX7_back ∈ tw := tw_tb (List.mem_of_getElem? (i := 930) (by decide +kernel)) (by decide +kernel)
theorem imX7_back : Cond.instanceMethod yX7_back ∈ tw := tw_tb (List.mem_of_getElem? (i := 931) (by decide +kernel)) (by decide +kernel)
theorem seX7_back : Cond.selects RX7 yX7_back yX7_back ∈ tw := tw_tb (List.mem_of_getElem? (i := 932) (by decide +kernel)) (by decide +kernel)
theorem coX7_back : Cond.code yX7_back cX7_back 3 ((some FieldType.int)) ∈ tw := tw_tb (List.mem_of_getElem? (i := 933) (by decide +kernel)) (by decide +kernel)
theorem flJ0_9 : Cond.fieldLink RJ0 9 "java/lang/String" "value" "[B" ∈ tw := tw_tb (List.mem_of_getElem? (i := 934) (by decide +kernel)) (by decide +kernel)
theorem flJ0_15 : Cond.fieldLink RJ0 15 "java/lang/String" "coder" "B" ∈ tw := tw_tb (List.mem_of_getElem? (i := 935) (by decide +kernel)) (by decide +kernel)
theorem seX5_skipBlanks : Cond.selects RX5 yX5_skipBlanks yX5_skipBlanks ∈ tw := tw_sel (List.mem_of_getElem? (i := 0) (by decide +kernel)) (by decide +kernel)
theorem seX5_readWord : Cond.selects RX5 yX5_readWord yX5_readWord ∈ tw := tw_sel (List.mem_of_getElem? (i := 1) (by decide +kernel)) (by decide +kernel)
theorem seX5_failAt : Cond.selects RX5 yX5_failAt yX5_failAt ∈ tw := tw_sel (List.mem_of_getElem? (i := 2) (by decide +kernel)) (by decide +kernel)
theorem seX5_verbOfWord : Cond.selects RX5 yX5_verbOfWord yX5_verbOfWord ∈ tw := tw_sel (List.mem_of_getElem? (i := 3) (by decide +kernel)) (by decide +kernel)
theorem seX5_isWord : Cond.selects RX5 yX5_isWord yX5_isWord ∈ tw := tw_sel (List.mem_of_getElem? (i := 4) (by decide +kernel)) (by decide +kernel)
theorem seX5_takeWord : Cond.selects RX5 yX5_takeWord yX5_takeWord ∈ tw := tw_sel (List.mem_of_getElem? (i := 5) (by decide +kernel)) (by decide +kernel)
theorem seX5_takeNumber : Cond.selects RX5 yX5_takeNumber yX5_takeNumber ∈ tw := tw_sel (List.mem_of_getElem? (i := 6) (by decide +kernel)) (by decide +kernel)
theorem seX5_takeAlign : Cond.selects RX5 yX5_takeAlign yX5_takeAlign ∈ tw := tw_sel (List.mem_of_getElem? (i := 7) (by decide +kernel)) (by decide +kernel)
theorem seX5_readEnd : Cond.selects RX5 yX5_readEnd yX5_readEnd ∈ tw := tw_sel (List.mem_of_getElem? (i := 8) (by decide +kernel)) (by decide +kernel)
theorem seX6_perform : Cond.selects RX6 yX6_perform yX6_perform ∈ tw := tw_sel (List.mem_of_getElem? (i := 9) (by decide +kernel)) (by decide +kernel)
theorem seX6_addLine : Cond.selects RX6 yX6_addLine yX6_addLine ∈ tw := tw_sel (List.mem_of_getElem? (i := 10) (by decide +kernel)) (by decide +kernel)
theorem seX4_slot : Cond.selects RX4 yX4_slot yX4_slot ∈ tw := tw_sel (List.mem_of_getElem? (i := 11) (by decide +kernel)) (by decide +kernel)
theorem seX6_settle : Cond.selects RX6 yX6_settle yX6_settle ∈ tw := tw_sel (List.mem_of_getElem? (i := 12) (by decide +kernel)) (by decide +kernel)
theorem seX2_partIntoCells : Cond.selects RX2 yX2_partIntoCells yX2_partIntoCells ∈ tw := tw_sel (List.mem_of_getElem? (i := 13) (by decide +kernel)) (by decide +kernel)
theorem seX2_measure : Cond.selects RX2 yX2_measure yX2_measure ∈ tw := tw_sel (List.mem_of_getElem? (i := 14) (by decide +kernel)) (by decide +kernel)
theorem seX2_spreadBlock : Cond.selects RX2 yX2_spreadBlock yX2_spreadBlock ∈ tw := tw_sel (List.mem_of_getElem? (i := 15) (by decide +kernel)) (by decide +kernel)
theorem seX2_placeCells : Cond.selects RX2 yX2_placeCells yX2_placeCells ∈ tw := tw_sel (List.mem_of_getElem? (i := 16) (by decide +kernel)) (by decide +kernel)
theorem seX6_isLaidAnew : Cond.selects RX6 yX6_isLaidAnew yX6_isLaidAnew ∈ tw := tw_sel (List.mem_of_getElem? (i := 17) (by decide +kernel)) (by decide +kernel)
theorem seX6_dropLine : Cond.selects RX6 yX6_dropLine yX6_dropLine ∈ tw := tw_sel (List.mem_of_getElem? (i := 18) (by decide +kernel)) (by decide +kernel)
theorem seX6_setAlign : Cond.selects RX6 yX6_setAlign yX6_setAlign ∈ tw := tw_sel (List.mem_of_getElem? (i := 19) (by decide +kernel)) (by decide +kernel)
theorem seX6_setPad : Cond.selects RX6 yX6_setPad yX6_setPad ∈ tw := tw_sel (List.mem_of_getElem? (i := 20) (by decide +kernel)) (by decide +kernel)
theorem seX6_setLeast : Cond.selects RX6 yX6_setLeast yX6_setLeast ∈ tw := tw_sel (List.mem_of_getElem? (i := 21) (by decide +kernel)) (by decide +kernel)
theorem seX2_leadOf : Cond.selects RX2 yX2_leadOf yX2_leadOf ∈ tw := tw_sel (List.mem_of_getElem? (i := 22) (by decide +kernel)) (by decide +kernel)
theorem seX7_isPlace : Cond.selects RX7 yX7_isPlace yX7_isPlace ∈ tw := tw_sel (List.mem_of_getElem? (i := 23) (by decide +kernel)) (by decide +kernel)
theorem seX7_isLine : Cond.selects RX7 yX7_isLine yX7_isLine ∈ tw := tw_sel (List.mem_of_getElem? (i := 24) (by decide +kernel)) (by decide +kernel)
theorem seX7_begins : Cond.selects RX7 yX7_begins yX7_begins ∈ tw := tw_sel (List.mem_of_getElem? (i := 25) (by decide +kernel)) (by decide +kernel)
theorem seX7_ends : Cond.selects RX7 yX7_ends yX7_ends ∈ tw := tw_sel (List.mem_of_getElem? (i := 26) (by decide +kernel)) (by decide +kernel)
theorem seX7_isChanged : Cond.selects RX7 yX7_isChanged yX7_isChanged ∈ tw := tw_sel (List.mem_of_getElem? (i := 27) (by decide +kernel)) (by decide +kernel)
theorem seX7_opens : Cond.selects RX7 yX7_opens yX7_opens ∈ tw := tw_sel (List.mem_of_getElem? (i := 28) (by decide +kernel)) (by decide +kernel)
theorem seX7_appends : Cond.selects RX7 yX7_appends yX7_appends ∈ tw := tw_sel (List.mem_of_getElem? (i := 29) (by decide +kernel)) (by decide +kernel)
theorem seX7_shuts : Cond.selects RX7 yX7_shuts yX7_shuts ∈ tw := tw_sel (List.mem_of_getElem? (i := 30) (by decide +kernel)) (by decide +kernel)
theorem seX7_blanks : Cond.selects RX7 yX7_blanks yX7_blanks ∈ tw := tw_sel (List.mem_of_getElem? (i := 31) (by decide +kernel)) (by decide +kernel)
theorem seX7_reads : Cond.selects RX7 yX7_reads yX7_reads ∈ tw := tw_sel (List.mem_of_getElem? (i := 32) (by decide +kernel)) (by decide +kernel)
theorem seX7_word : Cond.selects RX7 yX7_word yX7_word ∈ tw := tw_sel (List.mem_of_getElem? (i := 33) (by decide +kernel)) (by decide +kernel)
theorem seX7_fails : Cond.selects RX7 yX7_fails yX7_fails ∈ tw := tw_sel (List.mem_of_getElem? (i := 34) (by decide +kernel)) (by decide +kernel)
theorem seX7_command : Cond.selects RX7 yX7_command yX7_command ∈ tw := tw_sel (List.mem_of_getElem? (i := 35) (by decide +kernel)) (by decide +kernel)
theorem seX7_letters : Cond.selects RX7 yX7_letters yX7_letters ∈ tw := tw_sel (List.mem_of_getElem? (i := 36) (by decide +kernel)) (by decide +kernel)
theorem seX7_number : Cond.selects RX7 yX7_number yX7_number ∈ tw := tw_sel (List.mem_of_getElem? (i := 37) (by decide +kernel)) (by decide +kernel)
theorem seX7_signs : Cond.selects RX7 yX7_signs yX7_signs ∈ tw := tw_sel (List.mem_of_getElem? (i := 38) (by decide +kernel)) (by decide +kernel)
theorem seX7_sign : Cond.selects RX7 yX7_sign yX7_sign ∈ tw := tw_sel (List.mem_of_getElem? (i := 39) (by decide +kernel)) (by decide +kernel)
theorem seX7_aligned : Cond.selects RX7 yX7_aligned yX7_aligned ∈ tw := tw_sel (List.mem_of_getElem? (i := 40) (by decide +kernel)) (by decide +kernel)
theorem seX7_way : Cond.selects RX7 yX7_way yX7_way ∈ tw := tw_sel (List.mem_of_getElem? (i := 41) (by decide +kernel)) (by decide +kernel)
theorem seX7_stops : Cond.selects RX7 yX7_stops yX7_stops ∈ tw := tw_sel (List.mem_of_getElem? (i := 42) (by decide +kernel)) (by decide +kernel)
theorem seX7_does : Cond.selects RX7 yX7_does yX7_does ∈ tw := tw_sel (List.mem_of_getElem? (i := 43) (by decide +kernel)) (by decide +kernel)
theorem seX7_adds : Cond.selects RX7 yX7_adds yX7_adds ∈ tw := tw_sel (List.mem_of_getElem? (i := 44) (by decide +kernel)) (by decide +kernel)
theorem seX7_drops : Cond.selects RX7 yX7_drops yX7_drops ∈ tw := tw_sel (List.mem_of_getElem? (i := 45) (by decide +kernel)) (by decide +kernel)
theorem seX7_becomes : Cond.selects RX7 yX7_becomes yX7_becomes ∈ tw := tw_sel (List.mem_of_getElem? (i := 46) (by decide +kernel)) (by decide +kernel)
theorem seX7_widest : Cond.selects RX7 yX7_widest yX7_widest ∈ tw := tw_sel (List.mem_of_getElem? (i := 47) (by decide +kernel)) (by decide +kernel)
theorem seX7_saves : Cond.selects RX7 yX7_saves yX7_saves ∈ tw := tw_sel (List.mem_of_getElem? (i := 48) (by decide +kernel)) (by decide +kernel)
theorem seX7_shownAt : Cond.selects RX7 yX7_shownAt yX7_shownAt ∈ tw := tw_sel (List.mem_of_getElem? (i := 49) (by decide +kernel)) (by decide +kernel)
theorem seX7_startOf : Cond.selects RX7 yX7_startOf yX7_startOf ∈ tw := tw_sel (List.mem_of_getElem? (i := 50) (by decide +kernel)) (by decide +kernel)
theorem seX7_blocks : Cond.selects RX7 yX7_blocks yX7_blocks ∈ tw := tw_sel (List.mem_of_getElem? (i := 51) (by decide +kernel)) (by decide +kernel)
theorem seX7_widestLine : Cond.selects RX7 yX7_widestLine yX7_widestLine ∈ tw := tw_sel (List.mem_of_getElem? (i := 52) (by decide +kernel)) (by decide +kernel)
theorem inX0 : ∀ w ∈ u_ws RX0 TX0 5, w ∈ tw := fun w h => tw_mem ((show ∀ w ∈ u_ws RX0 TX0 5, w ∈ lw_tbl by decide +kernel) w h) ((show ∀ w ∈ u_ws RX0 TX0 5, goodWord w = true by decide +kernel) w h)
theorem inX1 : ∀ w ∈ u_ws RX1 TX1 3, w ∈ tw := fun w h => tw_mem ((show ∀ w ∈ u_ws RX1 TX1 3, w ∈ lw_tbl by decide +kernel) w h) ((show ∀ w ∈ u_ws RX1 TX1 3, goodWord w = true by decide +kernel) w h)
theorem inX2 : ∀ w ∈ u_ws RX2 TX2 13, w ∈ tw := fun w h => tw_mem ((show ∀ w ∈ u_ws RX2 TX2 13, w ∈ lw_tbl by decide +kernel) w h) ((show ∀ w ∈ u_ws RX2 TX2 13, goodWord w = true by decide +kernel) w h)
theorem inX3 : ∀ w ∈ u_ws RX3 TX3 6, w ∈ tw := fun w h => tw_mem ((show ∀ w ∈ u_ws RX3 TX3 6, w ∈ lw_tbl by decide +kernel) w h) ((show ∀ w ∈ u_ws RX3 TX3 6, goodWord w = true by decide +kernel) w h)
theorem inX4 : ∀ w ∈ u_ws RX4 TX4 3, w ∈ tw := fun w h => tw_mem ((show ∀ w ∈ u_ws RX4 TX4 3, w ∈ lw_tbl by decide +kernel) w h) ((show ∀ w ∈ u_ws RX4 TX4 3, goodWord w = true by decide +kernel) w h)
theorem inX5 : ∀ w ∈ u_ws RX5 TX5 9, w ∈ tw := fun w h => tw_mem ((show ∀ w ∈ u_ws RX5 TX5 9, w ∈ lw_tbl by decide +kernel) w h) ((show ∀ w ∈ u_ws RX5 TX5 9, goodWord w = true by decide +kernel) w h)
theorem inX6 : ∀ w ∈ u_ws RX6 TX6 7, w ∈ tw := fun w h => tw_mem ((show ∀ w ∈ u_ws RX6 TX6 7, w ∈ lw_tbl by decide +kernel) w h) ((show ∀ w ∈ u_ws RX6 TX6 7, goodWord w = true by decide +kernel) w h)
theorem inX7 : ∀ w ∈ u_ws RX7 TX7 22, w ∈ tw := fun w h => tw_mem ((show ∀ w ∈ u_ws RX7 TX7 22, w ∈ lw_tbl by decide +kernel) w h) ((show ∀ w ∈ u_ws RX7 TX7 22, goodWord w = true by decide +kernel) w h)
end
section
theorem gdV {own C : String} {idx : Nat} {y : MethodName} {bytes : ByteArray} {maxL : Nat} {ret : Option FieldType} (h1 : Cond.methodLink own idx y ∈ tw) (h2 : Cond.instanceMethod y ∈ tw) (h3 : Cond.selects C y y ∈ tw) (h4 : Cond.initialized C ∈ tw) (h5 : Cond.code y bytes maxL ret ∈ tw) : GoodIn tw (wsV own idx C y (Cond.code y bytes maxL ret :: tw)) := by
  intro w hw
  simp only [wsV, List.cons_append, List.nil_append, List.mem_cons] at hw
  rcases hw with rfl | rfl | rfl | rfl | rfl | hw
  · exact tw_good _ h1
  · exact tw_good _ h2
  · exact tw_good _ h3
  · exact tw_good _ h4
  · exact tw_good _ h5
  · exact tw_good _ hw
theorem gdS {own : String} {idx : Nat} {y : MethodName} {bytes : ByteArray} {maxL : Nat} {ret : Option FieldType} (h1 : Cond.methodLink own idx y ∈ tw) (h2 : Cond.static y ∈ tw) (h4 : Cond.initialized y.cls ∈ tw) (h5 : Cond.code y bytes maxL ret ∈ tw) : GoodIn tw (va_wsS own idx y (Cond.code y bytes maxL ret :: tw)) := by
  intro w hw
  simp only [va_wsS, List.cons_append, List.nil_append, List.mem_cons] at hw
  rcases hw with rfl | rfl | rfl | rfl | hw
  · exact tw_good _ h1
  · exact tw_good _ h2
  · exact tw_good _ h4
  · exact tw_good _ h5
  · exact tw_good _ hw
theorem gdI {y : MethodName} {bytes : ByteArray} {maxL : Nat} {ret : Option FieldType} (h5 : Cond.code y bytes maxL ret ∈ tw) : GoodIn tw (Cond.code y bytes maxL ret :: tw) := by
  intro w hw
  simp only [List.mem_cons] at hw
  rcases hw with rfl | hw
  · exact tw_good _ h5
  · exact tw_good _ hw
/-! the memory: rows of numbers by address; all refs of a finished object stand at fixed places behind it, but layout and former -/
abbrev Mm : Type := Int → Int → Int
abbrev GG : Type := (Nat → ClassId) × (Nat → Nat → Nat) × (Nat → ClassId) × List Nat × (Int → Nat × Nat) × Nat × (Nat → Nat) × (Nat → Nat)
def gD (G : GG) : va_G := (G.1, G.2.1)
def gC (G : GG) : Nat → ClassId := G.2.2.1
def gL (G : GG) : List Nat := G.2.2.2.1
def gK (G : GG) : Int → Nat × Nat := G.2.2.2.2.1
def gB (G : GG) : Nat := G.2.2.2.2.2.1
def gS (G : GG) : Nat → Nat := G.2.2.2.2.2.2.1
def gV (G : GG) : Nat → Nat := G.2.2.2.2.2.2.2
def gA (G : GG) : Nat → Prop := fun q => gB G ≤ q
abbrev iV (z : Int) : Value := .int (Int32.ofInt z)
abbrev rV (z : Int) : Value := .ref z.toNat
abbrev inR (z : Int) : Prop := -2147483648 ≤ z ∧ z < 2147483648
def ur (r : Int → Int) (j x : Int) : Int → Int := fun k => if k = j then x else r k
def um (M : Mm) (a j x : Int) : Mm := fun b => if b = a then ur (M a) j x else M b
def cr (f g : Int → Int) (sp dp n : Int) : Int → Int := fun k => if dp ≤ k ∧ k < dp + n then f (sp + (k - dp)) else g k
def cp (M : Mm) (a sp d dp n : Int) : Mm := fun b => if b = d then cr (M a) (M d) sp dp n else M b
theorem um_at (M : Mm) (a j x : Int) : um M a j x a = ur (M a) j x := if_pos rfl
theorem um_ne (M : Mm) {a b : Int} (j x : Int) (h : b ≠ a) : um M a j x b = M b := if_neg h
theorem cp_at (M : Mm) (a sp d dp n : Int) : cp M a sp d dp n d = cr (M a) (M d) sp dp n := if_pos rfl
theorem cp_ne (M : Mm) {b d : Int} (a sp dp n : Int) (h : b ≠ d) : cp M a sp d dp n b = M b := if_neg h
/-- a cell, by its kind, its address and its row -/
def cR (C : Nat → ClassId) (k : Nat × Nat) (a : Int) (r : Int → Int) : va_E := match k with
  | (0, _) => .inr (0, [iV (r 0), iV (r 1), iV (r 2), iV (r 3), iV (r 4)])
  | (1, _) => .inr (1, [iV (r 0), rV (a + 1), rV (a + 5)])
  | (2, _) => .inr (2, [iV (r 0), rV (a + 1), rV (a + 2), rV (a + 3), rV (a + 4), rV (a + 5), rV (a + 6), rV (a + 7), iV (r 8), rV (a + 8), rV (a + 9), rV (a + 10), rV (a + 11)])
  | (3, _) => .inr (3, [iV (r 0), iV (r 1), iV (r 2), rV (a + 1), rV (a + 2), rV (a + 3)])
  | (4, _) => .inr (4, [iV (r 0), iV (r 1), rV (a + 1)])
  | (5, _) => .inr (5, [rV (a + 1), iV (r 1), iV (r 2), iV (r 3), iV (r 4), iV (r 5), iV (r 6), iV (r 7), iV (r 8)])
  | (6, _) => .inr (6, [rV (a + 1), rV (a + 5), rV (a + 47), rV (a + 49), rV (a + r 4), rV (a + r 5), iV (r 6)])
  | (7, _) => .inr (7, [rV (a + 1), rV (a + 2), rV (a + 3), iV (r 3), iV (r 4), iV (r 5), rV (a + 4), iV (r 7), rV (a + 5), iV (r 9), iV (r 10), iV (r 11), iV (r 12), iV (r 13), iV (r 14), iV (r 15), iV (r 16), rV (a + 6), rV (a + 7), rV (a + 8), rV (a + 9), rV (a + 10)])
  | (8, n) => .inl (C 0, n, .inl (fun j => Int32.ofInt (r (j : Int))))
  | (9, n) => .inl (C 1, n, .inl (fun j => Int32.ofInt (r (j : Int))))
  | (10, n) => .inl (C 2, n, .inr (.inr (.inr (.inr (fun j => some (a + 25 + 47 * (j : Int)).toNat)))))
  | (11, n) => .inl (C 3, n, .inr (.inr (.inr (.inr (fun j => some (a + 1 + 4 * (j : Int)).toNat)))))
  | _ => .inr (0, [])
def gF (G : GG) (M : Mm) : Nat → va_E := fun q => cR (gC G) (gK G (q : Int)) (q : Int) (M (q : Int))
/-- what stands behind an object of a kind -/
def Ty (K : Int → Nat × Nat) : Prop := ∀ a : Int,
  (K a = (1, 0) → K (a + 1) = (3, 0) ∧ K (a + 5) = (4, 0)) ∧
  (K a = (2, 0) → K (a + 1) = (8, 12) ∧ K (a + 2) = (8, 12) ∧ K (a + 3) = (8, 12) ∧ K (a + 4) = (8, 12) ∧ K (a + 5) = (8, 288) ∧ K (a + 6) = (8, 288) ∧ K (a + 7) = (8, 288) ∧ K (a + 8) = (0, 0) ∧ K (a + 9) = (8, 288) ∧ K (a + 10) = (8, 288) ∧ K (a + 11) = (8, 288)) ∧
  (K a = (3, 0) → K (a + 1) = (8, 12) ∧ K (a + 2) = (8, 288) ∧ K (a + 3) = (8, 24)) ∧
  (K a = (4, 0) → K (a + 1) = (11, 10)) ∧
  (K a = (5, 0) → K (a + 1) = (8, 150)) ∧
  (K a = (6, 0) → K (a + 1) = (3, 0) ∧ K (a + 5) = (4, 0) ∧ K (a + 47) = (5, 0) ∧ K (a + 49) = (10, 2)) ∧
  (K a = (7, 0) → K (a + 1) = (8, 327) ∧ K (a + 2) = (8, 327) ∧ K (a + 3) = (8, 12) ∧ K (a + 4) = (8, 3270) ∧ K (a + 5) = (8, 150) ∧ K (a + 6) = (9, 2) ∧ K (a + 7) = (8, 654) ∧ K (a + 8) = (8, 6540) ∧ K (a + 9) = (8, 2) ∧ K (a + 10) = (8, 2)) ∧
  (K a = (10, 2) → ∀ j : Int, 0 ≤ j → j < 2 → K (a + 25 + 47 * j) = (1, 0)) ∧
  (K a = (11, 10) → ∀ j : Int, 0 ≤ j → j < 10 → K (a + 1 + 4 * j) = (3, 0))
def Rg (M : Mm) : Prop := ∀ a j : Int, inR (M a j)
def Dy (K : Int → Nat × Nat) (M : Mm) : Prop := ∀ a : Int, K a = (6, 0) → K (a + M a 4) = (2, 0) ∧ K (a + M a 5) = (2, 0)
def Gd (G : GG) : Prop := (∀ f : Nat → va_E, va_D (gA G) (va_pl (gL G) f)) ∧ (∀ a : Int, (gK G a).1 < 12 → 0 ≤ a ∧ a.toNat ∈ gL G) ∧ Ty (gK G)
def Wp (G : GG) (M : Mm) (H : Heap) : Prop := va_P (gD G) vwCl (va_pl (gL G) (gF G M)) H ∧ Rg M ∧ Dy (gK G) M
abbrev gT (G : GG) : List (ClassId × FieldType) := [(gC G 0, .int), (gC G 1, .boolean), (gC G 2, .object RX1), (gC G 3, .object RX3)]
def strIdx : List Nat := [104, 106, 108, 110, 112, 114, 116, 118, 120, 122, 124, 126, 128, 130, 132, 134, 136, 138]
def strTxt : List String := ["left", "right", "middle", "point", "add", "drop", "split", "join", "put", "cut", "align", "pad", "least", "nt", "nn", "nns", "nw", "n"]
def strLen : List Nat := [4, 5, 6, 5, 3, 4, 5, 4, 3, 3, 5, 3, 5, 2, 2, 3, 2, 1]
def strByt : List (List Int32) := [[108, 101, 102, 116], [114, 105, 103, 104, 116], [109, 105, 100, 100, 108, 101], [112, 111, 105, 110, 116], [97, 100, 100], [100, 114, 111, 112], [115, 112, 108, 105, 116], [106, 111, 105, 110], [112, 117, 116], [99, 117, 116], [97, 108, 105, 103, 110], [112, 97, 100], [108, 101, 97, 115, 116], [110, 116], [110, 110], [110, 110, 115], [110, 119], [110]]
def Kn (G : GG) (U : State) (H : Heap) : Prop :=
  va_K (gD G) vwCl (gT G) U ∧ vk_S 18 strLen strByt (gS G) (gV G) (gA G) U H ∧ (∀ i : Nat, i < 18 → vk_R RX5 (strIdx.getD i 0) (strTxt.getD i "") (gS G i) U) ∧
  va_Z "java/lang/String" "COMPACT_STRINGS" "Z" (.int 1) (gA G) U H ∧ va_Zq "jdk/internal/util/Preconditions" "SIOOBE_FORMATTER" "Ljava/util/function/BiFunction;" (gA G) U H
theorem Kn.to {G : GG} {s U : State} {H : Heap} {locs : List Loc} (h : Kn G s s.heap) (hW : s.WarmedH U.vm) (hU : U.heap = H) (hS : va_S (gA G) s.heap H locs) : Kn G U U.heap := by
  obtain ⟨h1, h2, h3, h4, h5⟩ := h
  subst hU
  exact ⟨va_K.moved hW.alike h1, vk_S.moved hW.alike (h2.kept hS.2.1), fun i hi => vk_R.warm hW (h3 i hi), va_Z.moved hW.alike (h4.kept hS.2.1), va_Zq.moved hW.alike (h5.kept hS.2.1)⟩
theorem Kn.blind {G : GG} {U : State} (g : JFrame) (mk : MethodId) (a : Array Value) (h : Kn G U U.heap) : Kn G (U.calling g mk a) (U.calling g mk a).heap := by
  obtain ⟨h1, h2, h3, h4, h5⟩ := h
  exact ⟨va_K.moved (u := U) (U := U.calling g mk a) (Vm.Alike.refl U.vm) h1, vk_S.moved (u := U) (U := U.calling g mk a) (Vm.Alike.refl U.vm) h2, fun i hi => vk_R.same (u := U) rfl (h3 i hi), va_Z.moved (u := U) (U := U.calling g mk a) (Vm.Alike.refl U.vm) h4, va_Zq.moved (u := U) (U := U.calling g mk a) (Vm.Alike.refl U.vm) h5⟩
def Pre (G : GG) (M : Mm) (av : List Value) : Array Value → State → Prop := va_Pc av (fun U => Kn G U U.heap ∧ Wp G M U.heap)
def PostI (G : GG) (Q : Int → Mm → Prop) : Array Value → State → Outcome → State → Prop := va_Qi (S := Mm) (fun r u => ∃ z : Int, r = Int32.ofInt z ∧ inR z ∧ Q z u) (fun u t => Wp G u t.heap) (gA G)
def PostL (G : GG) (Q : Int64 → Mm → Prop) : Array Value → State → Outcome → State → Prop := va_Ql (S := Mm) Q (fun u t => Wp G u t.heap) (gA G)
def PostV (G : GG) (Q : Mm → Prop) : Array Value → State → Outcome → State → Prop := va_Qv (S := Mm) Q (fun u t => Wp G u t.heap) (gA G)
def PostR (G : GG) (Q : Int → Mm → Prop) : Array Value → State → Outcome → State → Prop := va_Qr (S := Int × Mm) (fun u => Q u.1 u.2) (fun u a t => a = u.1.toNat ∧ Wp G u.2 t.heap) (gA G)
def Cx (p : Program) (s : State) (m : MethodId) (args : Array Value) (meth : Method) (c : Code) (cc : ByteArray) (nL : Nat) (ret : Option FieldType) (own : String) (G : GG) : Prop :=
  p.tables.exec = Jvm.exec ∧ c.code = cc ∧ c.maxLocals = nL ∧ s.vm.findClass own = some m.cls ∧ (∀ w ∈ tw, w.before args s = true) ∧ meth.sig.returnType = ret ∧ meth.locks = false ∧ Kn G s s.heap ∧ Gd G
def Wt (p : Program) (l : Launch) (e : Env) (R : Room) (s : State) (m : MethodId) (args : Array Value) (below : List Frame) (meth : Method) (c : Code) (G : GG) (Qf : State → Prop) (nL : Nat) (M : Mm) (lv : List (Nat × Value)) (pc : Nat) (st : List Value) : Prop :=
  ∀ (H : Heap) (locs : List Loc) (ls : Array Slot), Wp G M H → va_S (gA G) s.heap H locs → lv_has ls nL lv → W p l e R s m args below meth c H locs 0 0 Qf (F0 m pc ls st)
/-! numbers -/
theorem i_bmod {z : Int} (h : inR z) : z.bmod (2 ^ 32) = z := by
  rw [Int.bmod_eq_of_le (by omega) (by omega)]
theorem i_toInt {z : Int} (h : inR z) : (Int32.ofInt z).toInt = z := by
  rw [Int32.toInt_ofInt]
  exact i_bmod h
theorem i_r0 : inR 0 := by omega
theorem i_rc (n : Int) (h : (decide (-2147483648 ≤ n) && decide (n < 2147483648)) = true) : inR n := by
  simp only [Bool.and_eq_true, decide_eq_true_eq] at h
  exact h
theorem i_lt {a b : Int} (ha : inR a) (hb : inR b) : Int32.ofInt a < Int32.ofInt b ↔ a < b := by
  rw [Int32.lt_iff_toInt_lt, i_toInt ha, i_toInt hb]
theorem i_le {a b : Int} (ha : inR a) (hb : inR b) : Int32.ofInt a ≤ Int32.ofInt b ↔ a ≤ b := by
  rw [Int32.le_iff_toInt_le, i_toInt ha, i_toInt hb]
theorem i_eq {a b : Int} (ha : inR a) (hb : inR b) : Int32.ofInt a = Int32.ofInt b ↔ a = b := by
  rw [← Int32.toInt_inj, i_toInt ha, i_toInt hb]
theorem i_0 : (0 : Int32) = Int32.ofInt 0 := rfl
theorem i_clamp {i : Int} (h0 : 0 ≤ i) (h1 : i < 2147483648) : (Int32.ofInt i).toNatClampNeg = i.toNat := by
  show (Int32.ofInt i).toInt.toNat = i.toNat
  rw [i_toInt ⟨by omega, h1⟩]
theorem i_in {i : Int} {n : Nat} (h0 : 0 ≤ i) (h1 : i < n) (hn : n ≤ 1000000) : vp_in (Int32.ofInt i) n := by
  rw [vp_in_iff, i_toInt ⟨by omega, by omega⟩]
  omega
theorem i_nI {i : Int} (h0 : 0 ≤ i) : Int32.ofInt i = nI i.toNat := by
  obtain ⟨n, rfl⟩ := Int.eq_ofNat_of_zero_le h0
  rw [Int.toNat_natCast]
  exact Int32.ofInt_eq_ofNat
theorem i_rg (x : Int32) : inR x.toInt := by
  have h1 := Int32.le_toInt x
  have h2 := Int32.toInt_lt x
  omega
theorem i_ne0 {b : Int} (h : 0 < b ∧ b < 2147483648) : ¬ Int32.ofInt b = 0 := by
  rw [i_0, i_eq ⟨by omega, h.2⟩ i_r0]
  omega
theorem i_div {a b : Int} (ha : 0 ≤ a ∧ a < 2147483648) (hb : 0 < b ∧ b < 2147483648) : Int32.ofInt (a / b) = Int32.ofInt a / Int32.ofInt b := by
  obtain ⟨n, rfl⟩ := Int.eq_ofNat_of_zero_le ha.1
  obtain ⟨d, rfl⟩ := Int.eq_ofNat_of_zero_le (show 0 ≤ b by omega)
  have h := pk_div (a := n) (d := d) (by omega) (by omega) (by omega)
  rw [i_nI (i := (n : Int)) (by omega), i_nI (i := (d : Int)) (by omega), i_nI (i := (n : Int) / (d : Int)) (Int.ediv_nonneg (by omega) (by omega)), Int.toNat_natCast, Int.toNat_natCast, h]
  congr 1
theorem i_rem {a b : Int} (ha : 0 ≤ a ∧ a < 2147483648) (hb : 0 < b ∧ b < 2147483648) : Int32.ofInt (a % b) = Int32.ofInt a - Int32.ofInt a / Int32.ofInt b * Int32.ofInt b := by
  obtain ⟨n, rfl⟩ := Int.eq_ofNat_of_zero_le ha.1
  obtain ⟨d, rfl⟩ := Int.eq_ofNat_of_zero_le (show 0 ≤ b by omega)
  have h := pk_rem (a := n) (d := d) (by omega) (by omega) (by omega)
  have h0 : (0 : Int) ≤ (n : Int) % (d : Int) := Int.emod_nonneg _ (by omega)
  rw [i_nI (i := (n : Int)) (by omega), i_nI (i := (d : Int)) (by omega), i_nI (i := (n : Int) % (d : Int)) h0, Int.toNat_natCast, Int.toNat_natCast, h]
  congr 1
theorem i_max {a b : Int} (ha : inR a) (hb : inR b) : (if Int32.ofInt a < Int32.ofInt b then Int32.ofInt b else Int32.ofInt a) = Int32.ofInt (max a b) := by
  by_cases h : a < b
  · rw [if_pos ((i_lt ha hb).mpr h)]
    congr 1
    omega
  · rw [if_neg (fun q => h ((i_lt ha hb).mp q))]
    congr 1
    omega
theorem i_min {a b : Int} (ha : inR a) (hb : inR b) : (if Int32.ofInt b < Int32.ofInt a then Int32.ofInt b else Int32.ofInt a) = Int32.ofInt (min a b) := by
  by_cases h : b < a
  · rw [if_pos ((i_lt hb ha).mpr h)]
    congr 1
    omega
  · rw [if_neg (fun q => h ((i_lt hb ha).mp q))]
    congr 1
    omega
def iOr (a b : Int) : Int := (Int32.ofInt a ||| Int32.ofInt b).toInt
def iAnd (a b : Int) : Int := (Int32.ofInt a &&& Int32.ofInt b).toInt
def iShl (a b : Int) : Int := (Int32.ofInt a <<< (Int32.ofInt b &&& 31)).toInt
end
section
section ROWS
variable {p : Program} {l : Launch} {e : Env} {R : Room} {s : State} {m : MethodId} {args : Array Value} {below : List Frame} {meth : Method} {c : Code} {G : GG} {Qf : State → Prop} {nL : Nat} {M : Mm} {lv lv2 : List (Nat × Value)} {pc : Nat} {st rest : List Value} {cc : ByteArray} {ret : Option FieldType} {own : String}
theorem xt_ic (X : Cx p s m args meth c cc nL ret own G) {n : Int} (hd : decode cc pc = .ok (.iconst n, 1)) (k : Wt p l e R s m args below meth c G Qf nL M lv (pc + 1) (iV n :: st)) : Wt p l e R s m args below meth c G Qf nL M lv pc st := fun H locs ls hP hS hl => lv_iconst X.1 X.2.1 hd rfl (k H locs ls hP hS hl)
theorem xt_bi (X : Cx p s m args meth c cc nL ret own G) {n : Int} (hd : decode cc pc = .ok (.bipush n, 2)) (hv : (Int8.ofInt n).toInt32 = Int32.ofInt n) (k : Wt p l e R s m args below meth c G Qf nL M lv (pc + 2) (iV n :: st)) : Wt p l e R s m args below meth c G Qf nL M lv pc st := fun H locs ls hP hS hl => lv_bipush X.1 X.2.1 hd hv (k H locs ls hP hS hl)
theorem xt_si (X : Cx p s m args meth c cc nL ret own G) {n : Int} (hd : decode cc pc = .ok (.sipush n, 3)) (hv : (Int16.ofInt n).toInt32 = Int32.ofInt n) (k : Wt p l e R s m args below meth c G Qf nL M lv (pc + 3) (iV n :: st)) : Wt p l e R s m args below meth c G Qf nL M lv pc st := fun H locs ls hP hS hl => lv_sipush X.1 X.2.1 hd hv (k H locs ls hP hS hl)
theorem xt_il (X : Cx p s m args meth c cc nL ret own G) {q : Fin 4} {i : Nat} {z : Int} (hd : decode cc pc = .ok (.iload_n q, 1)) (hi : (q : Nat) = i) (j : Nat) (hj : lv[j]? = some (i, iV z)) (k : Wt p l e R s m args below meth c G Qf nL M lv (pc + 1) (iV z :: st)) : Wt p l e R s m args below meth c G Qf nL M lv pc st := fun H locs ls hP hS hl => lv_iload_n X.1 X.2.1 hd hi (lv_at hl j hj) (k H locs ls hP hS hl)
theorem xt_ilw (X : Cx p s m args meth c cc nL ret own G) {i : Nat} {z : Int} (hd : decode cc pc = .ok (.iload i, 2)) (j : Nat) (hj : lv[j]? = some (i, iV z)) (k : Wt p l e R s m args below meth c G Qf nL M lv (pc + 2) (iV z :: st)) : Wt p l e R s m args below meth c G Qf nL M lv pc st := fun H locs ls hP hS hl => lv_iload X.1 X.2.1 hd (lv_at hl j hj) (k H locs ls hP hS hl)
theorem xt_al (X : Cx p s m args meth c cc nL ret own G) {q : Fin 4} {i : Nat} {z : Int} (hd : decode cc pc = .ok (.aload_n q, 1)) (hi : (q : Nat) = i) (j : Nat) (hj : lv[j]? = some (i, rV z)) (k : Wt p l e R s m args below meth c G Qf nL M lv (pc + 1) (rV z :: st)) : Wt p l e R s m args below meth c G Qf nL M lv pc st := fun H locs ls hP hS hl => lv_aload_n X.1 X.2.1 hd hi (lv_at hl j hj) (k H locs ls hP hS hl)
theorem xt_alw (X : Cx p s m args meth c cc nL ret own G) {i : Nat} {z : Int} (hd : decode cc pc = .ok (.aload i, 2)) (j : Nat) (hj : lv[j]? = some (i, rV z)) (k : Wt p l e R s m args below meth c G Qf nL M lv (pc + 2) (rV z :: st)) : Wt p l e R s m args below meth c G Qf nL M lv pc st := fun H locs ls hP hS hl => lv_aload X.1 X.2.1 hd (lv_at hl j hj) (k H locs ls hP hS hl)
theorem xt_ll (X : Cx p s m args meth c cc nL ret own G) {q : Fin 4} {i : Nat} {z : Int64} (hd : decode cc pc = .ok (.lload_n q, 1)) (hi : (q : Nat) = i) (j : Nat) (hj : lv[j]? = some (i, .long z)) (k : Wt p l e R s m args below meth c G Qf nL M lv (pc + 1) (.long z :: st)) : Wt p l e R s m args below meth c G Qf nL M lv pc st := fun H locs ls hP hS hl => lv_lload_n X.1 X.2.1 hd hi (lv_at hl j hj) (k H locs ls hP hS hl)
theorem xt_is (X : Cx p s m args meth c cc nL ret own G) {q : Fin 4} {i : Nat} {z : Int} (hd : decode cc pc = .ok (.istore_n q, 1)) (hi : (q : Nat) = i) (hn : i < nL) (hv : (i, iV z) :: lv.filter (fun q => !(q.1 == i) && !(q.1 + 1 == i && q.2.category == 2)) = lv2) (k : Wt p l e R s m args below meth c G Qf nL M lv2 (pc + 1) st) : Wt p l e R s m args below meth c G Qf nL M lv pc (iV z :: st) := fun H locs ls hP hS hl => lv_istore_n X.1 X.2.1 hd hi hl hn hv (fun ls hl => k H locs ls hP hS hl)
theorem xt_isw (X : Cx p s m args meth c cc nL ret own G) {i : Nat} {z : Int} (hd : decode cc pc = .ok (.istore i, 2)) (hn : i < nL) (hv : (i, iV z) :: lv.filter (fun q => !(q.1 == i) && !(q.1 + 1 == i && q.2.category == 2)) = lv2) (k : Wt p l e R s m args below meth c G Qf nL M lv2 (pc + 2) st) : Wt p l e R s m args below meth c G Qf nL M lv pc (iV z :: st) := fun H locs ls hP hS hl => lv_istore X.1 X.2.1 hd hl hn hv (fun ls hl => k H locs ls hP hS hl)
theorem xt_as (X : Cx p s m args meth c cc nL ret own G) {q : Fin 4} {i : Nat} {z : Int} (hd : decode cc pc = .ok (.astore_n q, 1)) (hi : (q : Nat) = i) (hn : i < nL) (hv : (i, rV z) :: lv.filter (fun q => !(q.1 == i) && !(q.1 + 1 == i && q.2.category == 2)) = lv2) (k : Wt p l e R s m args below meth c G Qf nL M lv2 (pc + 1) st) : Wt p l e R s m args below meth c G Qf nL M lv pc (rV z :: st) := fun H locs ls hP hS hl => lv_astore_n X.1 X.2.1 hd hi hl hn hv (fun ls hl => k H locs ls hP hS hl)
theorem xt_asw (X : Cx p s m args meth c cc nL ret own G) {i : Nat} {z : Int} (hd : decode cc pc = .ok (.astore i, 2)) (hn : i < nL) (hv : (i, rV z) :: lv.filter (fun q => !(q.1 == i) && !(q.1 + 1 == i && q.2.category == 2)) = lv2) (k : Wt p l e R s m args below meth c G Qf nL M lv2 (pc + 2) st) : Wt p l e R s m args below meth c G Qf nL M lv pc (rV z :: st) := fun H locs ls hP hS hl => lv_astore X.1 X.2.1 hd hl hn hv (fun ls hl => k H locs ls hP hS hl)
theorem xt_ls (X : Cx p s m args meth c cc nL ret own G) {q : Fin 4} {i : Nat} {z : Int64} (hd : decode cc pc = .ok (.lstore_n q, 1)) (hi : (q : Nat) = i) (hn : i + 1 < nL) (hv : (i, Value.long z) :: lv.filter (fun q => !(q.1 == i) && (!(q.1 == i + 1) && !(q.1 + 1 == i && q.2.category == 2))) = lv2) (k : Wt p l e R s m args below meth c G Qf nL M lv2 (pc + 1) st) : Wt p l e R s m args below meth c G Qf nL M lv pc (.long z :: st) := fun H locs ls hP hS hl => lv_lstore_n X.1 X.2.1 hd hi hl hn hv (fun ls hl => k H locs ls hP hS hl)
theorem xt_inc (X : Cx p s m args meth c cc nL ret own G) {i : Nat} {n z : Int} (hd : decode cc pc = .ok (.iinc i n, 3)) (j : Nat) (hj : lv[j]? = some (i, iV z)) (hn : i < nL) (hv : (i, iV (z + n)) :: lv.filter (fun q => !(q.1 == i) && !(q.1 + 1 == i && q.2.category == 2)) = lv2) (k : Wt p l e R s m args below meth c G Qf nL M lv2 (pc + 3) st) : Wt p l e R s m args below meth c G Qf nL M lv pc st := fun H locs ls hP hS hl => lv_iinc X.1 X.2.1 hd hl hj (Int32.ofInt_add z n).symm hn hv (fun ls hl => k H locs ls hP hS hl)
theorem xt_add (X : Cx p s m args meth c cc nL ret own G) {a b : Int} (hd : decode cc pc = .ok (.iadd, 1)) (k : Wt p l e R s m args below meth c G Qf nL M lv (pc + 1) (iV (a + b) :: st)) : Wt p l e R s m args below meth c G Qf nL M lv pc (iV b :: iV a :: st) := fun H locs ls hP hS hl => lv_iadd X.1 X.2.1 hd (by have k := k H locs ls hP hS hl; rw [iV, Int32.ofInt_add] at k; exact k)
theorem xt_sub (X : Cx p s m args meth c cc nL ret own G) {a b : Int} (hd : decode cc pc = .ok (.isub, 1)) (k : Wt p l e R s m args below meth c G Qf nL M lv (pc + 1) (iV (a - b) :: st)) : Wt p l e R s m args below meth c G Qf nL M lv pc (iV b :: iV a :: st) := fun H locs ls hP hS hl => lv_isub X.1 X.2.1 hd (by have k := k H locs ls hP hS hl; rw [iV, Int32.ofInt_sub] at k; exact k)
theorem xt_mul (X : Cx p s m args meth c cc nL ret own G) {a b : Int} (hd : decode cc pc = .ok (.imul, 1)) (k : Wt p l e R s m args below meth c G Qf nL M lv (pc + 1) (iV (a * b) :: st)) : Wt p l e R s m args below meth c G Qf nL M lv pc (iV b :: iV a :: st) := fun H locs ls hP hS hl => lv_imul X.1 X.2.1 hd (by have k := k H locs ls hP hS hl; rw [iV, Int32.ofInt_mul] at k; exact k)
theorem xt_or (X : Cx p s m args meth c cc nL ret own G) {a b : Int} (hd : decode cc pc = .ok (.ior, 1)) (k : Wt p l e R s m args below meth c G Qf nL M lv (pc + 1) (iV (iOr a b) :: st)) : Wt p l e R s m args below meth c G Qf nL M lv pc (iV b :: iV a :: st) := fun H locs ls hP hS hl => lv_ior X.1 X.2.1 hd (by have k := k H locs ls hP hS hl; rw [iV, iOr, Int32.ofInt_toInt] at k; exact k)
theorem xt_and (X : Cx p s m args meth c cc nL ret own G) {a b : Int} (hd : decode cc pc = .ok (.iand, 1)) (k : Wt p l e R s m args below meth c G Qf nL M lv (pc + 1) (iV (iAnd a b) :: st)) : Wt p l e R s m args below meth c G Qf nL M lv pc (iV b :: iV a :: st) := fun H locs ls hP hS hl => lv_iand X.1 X.2.1 hd (by have k := k H locs ls hP hS hl; rw [iV, iAnd, Int32.ofInt_toInt] at k; exact k)
theorem xt_shl (X : Cx p s m args meth c cc nL ret own G) {a b : Int} (hd : decode cc pc = .ok (.ishl, 1)) (k : Wt p l e R s m args below meth c G Qf nL M lv (pc + 1) (iV (iShl a b) :: st)) : Wt p l e R s m args below meth c G Qf nL M lv pc (iV b :: iV a :: st) := fun H locs ls hP hS hl => lv_ishl X.1 X.2.1 hd (by have k := k H locs ls hP hS hl; rw [iV, iShl, Int32.ofInt_toInt] at k; exact k)
theorem xt_div (X : Cx p s m args meth c cc nL ret own G) {a b : Int} (ha : 0 ≤ a ∧ a < 2147483648) (hb : 0 < b ∧ b < 2147483648) (hd : decode cc pc = .ok (.idiv, 1)) (k : Wt p l e R s m args below meth c G Qf nL M lv (pc + 1) (iV (a / b) :: st)) : Wt p l e R s m args below meth c G Qf nL M lv pc (iV b :: iV a :: st) := fun H locs ls hP hS hl => lv_idiv X.1 X.2.1 hd (i_ne0 hb) (by have k := k H locs ls hP hS hl; rw [iV, i_div ha hb] at k; exact k)
theorem xt_rem (X : Cx p s m args meth c cc nL ret own G) {a b : Int} (ha : 0 ≤ a ∧ a < 2147483648) (hb : 0 < b ∧ b < 2147483648) (hd : decode cc pc = .ok (.irem, 1)) (k : Wt p l e R s m args below meth c G Qf nL M lv (pc + 1) (iV (a % b) :: st)) : Wt p l e R s m args below meth c G Qf nL M lv pc (iV b :: iV a :: st) := fun H locs ls hP hS hl => lv_irem X.1 X.2.1 hd (i_ne0 hb) (by have k := k H locs ls hP hS hl; rw [iV, i_rem ha hb] at k; exact k)
theorem xt_ladd (X : Cx p s m args meth c cc nL ret own G) {a b : Int64} (hd : decode cc pc = .ok (.ladd, 1)) (k : Wt p l e R s m args below meth c G Qf nL M lv (pc + 1) (.long (a + b) :: st)) : Wt p l e R s m args below meth c G Qf nL M lv pc (.long b :: .long a :: st) := fun H locs ls hP hS hl => lv_ladd X.1 X.2.1 hd (k H locs ls hP hS hl)
theorem xt_lmul (X : Cx p s m args meth c cc nL ret own G) {a b : Int64} (hd : decode cc pc = .ok (.lmul, 1)) (k : Wt p l e R s m args below meth c G Qf nL M lv (pc + 1) (.long (a * b) :: st)) : Wt p l e R s m args below meth c G Qf nL M lv pc (.long b :: .long a :: st) := fun H locs ls hP hS hl => lv_lmul X.1 X.2.1 hd (k H locs ls hP hS hl)
theorem xt_i2l (X : Cx p s m args meth c cc nL ret own G) {a : Int} (hd : decode cc pc = .ok (.i2l, 1)) (k : Wt p l e R s m args below meth c G Qf nL M lv (pc + 1) (.long (Int32.ofInt a).toInt64 :: st)) : Wt p l e R s m args below meth c G Qf nL M lv pc (iV a :: st) := fun H locs ls hP hS hl => lv_i2l X.1 X.2.1 hd rfl (k H locs ls hP hS hl)
theorem xt_ldc2 (X : Cx p s m args meth c cc nL ret own G) {v : Int64} {index : Nat} (hw : Cond.constantLong own index v ∈ tw) (hd : decode cc pc = .ok (.ldc2_w index, 3)) (k : Wt p l e R s m args below meth c G Qf nL M lv (pc + 3) (.long v :: st)) : Wt p l e R s m args below meth c G Qf nL M lv pc st := fun H locs ls hP hS hl => lv_ldc2 X.1 X.2.1 X.2.2.2.1 (X.2.2.2.2.1 _ hw) hd (k H locs ls hP hS hl)
theorem xt_dup (X : Cx p s m args meth c cc nL ret own G) {v : Value} (hv : v.category = 1) (hd : decode cc pc = .ok (.dup, 1)) (k : Wt p l e R s m args below meth c G Qf nL M lv (pc + 1) (v :: v :: st)) : Wt p l e R s m args below meth c G Qf nL M lv pc (v :: st) := fun H locs ls hP hS hl => lv_dup X.1 X.2.1 hd hv (k H locs ls hP hS hl)
theorem xt_dup2 (X : Cx p s m args meth c cc nL ret own G) {v u : Value} (hv : v.category = 1) (hu : u.category = 1) (hd : decode cc pc = .ok (.dup2, 1)) (k : Wt p l e R s m args below meth c G Qf nL M lv (pc + 1) (v :: u :: v :: u :: st)) : Wt p l e R s m args below meth c G Qf nL M lv pc (v :: u :: st) := fun H locs ls hP hS hl => lv_dup2_11 X.1 X.2.1 hd hv hu (k H locs ls hP hS hl)
theorem xt_pop (X : Cx p s m args meth c cc nL ret own G) {v : Value} (hv : v.category = 1) (hd : decode cc pc = .ok (.pop, 1)) (k : Wt p l e R s m args below meth c G Qf nL M lv (pc + 1) st) : Wt p l e R s m args below meth c G Qf nL M lv pc (v :: st) := fun H locs ls hP hS hl => lv_pop X.1 X.2.1 hd hv (k H locs ls hP hS hl)
theorem xt_goto (X : Cx p s m args meth c cc nL ret own G) {off : Int} {tgt : Nat} (hd : decode cc pc = .ok (.goto off, 3)) (ht : (pc : Int) + off = (tgt : Int)) (k : Wt p l e R s m args below meth c G Qf nL M lv tgt st) : Wt p l e R s m args below meth c G Qf nL M lv pc st := fun H locs ls hP hS hl => lv_goto X.1 X.2.1 hd ht (k H locs ls hP hS hl)
theorem xt_perm (ks : List Nat) (hk : lv_pick lv ks = lv2) (k : Wt p l e R s m args below meth c G Qf nL M lv2 pc st) : Wt p l e R s m args below meth c G Qf nL M lv pc st := fun H locs ls hP hS hl => k H locs ls hP hS (lv_sub hl ks hk)
theorem xt_ceq (X : Cx p s m args meth c cc nL ret own G) {a b off : Int} {tgt : Nat} (ga : inR a) (gb : inR b) (hd : decode cc pc = .ok (.if_icmp .eq off, 3)) (ht : (pc : Int) + off = (tgt : Int)) (kt : a = b → Wt p l e R s m args below meth c G Qf nL M lv tgt st) (kf : ¬ a = b → Wt p l e R s m args below meth c G Qf nL M lv (pc + 3) st) : Wt p l e R s m args below meth c G Qf nL M lv pc (iV b :: iV a :: st) := fun H locs ls hP hS hl => lv_icmp_eq X.1 X.2.1 hd ht (fun h => kt ((i_eq ga gb).mp h) H locs ls hP hS hl) (fun h => kf (fun q => h ((i_eq ga gb).mpr q)) H locs ls hP hS hl)
theorem xt_zeq (X : Cx p s m args meth c cc nL ret own G) {a off : Int} {tgt : Nat} (ga : inR a) (hd : decode cc pc = .ok (.ifCond .eq off, 3)) (ht : (pc : Int) + off = (tgt : Int)) (kt : a = 0 → Wt p l e R s m args below meth c G Qf nL M lv tgt st) (kf : ¬ a = 0 → Wt p l e R s m args below meth c G Qf nL M lv (pc + 3) st) : Wt p l e R s m args below meth c G Qf nL M lv pc (iV a :: st) := fun H locs ls hP hS hl => lv_if_eq X.1 X.2.1 hd ht (fun h => kt ((i_eq ga i_r0).mp h) H locs ls hP hS hl) (fun h => kf (fun q => h ((i_eq ga i_r0).mpr q)) H locs ls hP hS hl)
theorem xt_cne (X : Cx p s m args meth c cc nL ret own G) {a b off : Int} {tgt : Nat} (ga : inR a) (gb : inR b) (hd : decode cc pc = .ok (.if_icmp .ne off, 3)) (ht : (pc : Int) + off = (tgt : Int)) (kt : ¬ a = b → Wt p l e R s m args below meth c G Qf nL M lv tgt st) (kf : a = b → Wt p l e R s m args below meth c G Qf nL M lv (pc + 3) st) : Wt p l e R s m args below meth c G Qf nL M lv pc (iV b :: iV a :: st) := fun H locs ls hP hS hl => lv_icmp_ne X.1 X.2.1 hd ht (fun h => kt (fun q => h ((i_eq ga gb).mpr q)) H locs ls hP hS hl) (fun h => kf ((i_eq ga gb).mp h) H locs ls hP hS hl)
theorem xt_zne (X : Cx p s m args meth c cc nL ret own G) {a off : Int} {tgt : Nat} (ga : inR a) (hd : decode cc pc = .ok (.ifCond .ne off, 3)) (ht : (pc : Int) + off = (tgt : Int)) (kt : ¬ a = 0 → Wt p l e R s m args below meth c G Qf nL M lv tgt st) (kf : a = 0 → Wt p l e R s m args below meth c G Qf nL M lv (pc + 3) st) : Wt p l e R s m args below meth c G Qf nL M lv pc (iV a :: st) := fun H locs ls hP hS hl => lv_if_ne X.1 X.2.1 hd ht (fun h => kt (fun q => h ((i_eq ga i_r0).mpr q)) H locs ls hP hS hl) (fun h => kf ((i_eq ga i_r0).mp h) H locs ls hP hS hl)
theorem xt_clt (X : Cx p s m args meth c cc nL ret own G) {a b off : Int} {tgt : Nat} (ga : inR a) (gb : inR b) (hd : decode cc pc = .ok (.if_icmp .lt off, 3)) (ht : (pc : Int) + off = (tgt : Int)) (kt : a < b → Wt p l e R s m args below meth c G Qf nL M lv tgt st) (kf : ¬ a < b → Wt p l e R s m args below meth c G Qf nL M lv (pc + 3) st) : Wt p l e R s m args below meth c G Qf nL M lv pc (iV b :: iV a :: st) := fun H locs ls hP hS hl => lv_icmp_lt X.1 X.2.1 hd ht (fun h => kt ((i_lt ga gb).mp h) H locs ls hP hS hl) (fun h => kf (fun q => h ((i_lt ga gb).mpr q)) H locs ls hP hS hl)
theorem xt_zlt (X : Cx p s m args meth c cc nL ret own G) {a off : Int} {tgt : Nat} (ga : inR a) (hd : decode cc pc = .ok (.ifCond .lt off, 3)) (ht : (pc : Int) + off = (tgt : Int)) (kt : a < 0 → Wt p l e R s m args below meth c G Qf nL M lv tgt st) (kf : ¬ a < 0 → Wt p l e R s m args below meth c G Qf nL M lv (pc + 3) st) : Wt p l e R s m args below meth c G Qf nL M lv pc (iV a :: st) := fun H locs ls hP hS hl => lv_if_lt X.1 X.2.1 hd ht (fun h => kt ((i_lt ga i_r0).mp h) H locs ls hP hS hl) (fun h => kf (fun q => h ((i_lt ga i_r0).mpr q)) H locs ls hP hS hl)
theorem xt_cge (X : Cx p s m args meth c cc nL ret own G) {a b off : Int} {tgt : Nat} (ga : inR a) (gb : inR b) (hd : decode cc pc = .ok (.if_icmp .ge off, 3)) (ht : (pc : Int) + off = (tgt : Int)) (kt : b ≤ a → Wt p l e R s m args below meth c G Qf nL M lv tgt st) (kf : ¬ b ≤ a → Wt p l e R s m args below meth c G Qf nL M lv (pc + 3) st) : Wt p l e R s m args below meth c G Qf nL M lv pc (iV b :: iV a :: st) := fun H locs ls hP hS hl => lv_icmp_ge X.1 X.2.1 hd ht (fun h => kt ((i_le gb ga).mp h) H locs ls hP hS hl) (fun h => kf (fun q => h ((i_le gb ga).mpr q)) H locs ls hP hS hl)
theorem xt_zge (X : Cx p s m args meth c cc nL ret own G) {a off : Int} {tgt : Nat} (ga : inR a) (hd : decode cc pc = .ok (.ifCond .ge off, 3)) (ht : (pc : Int) + off = (tgt : Int)) (kt : 0 ≤ a → Wt p l e R s m args below meth c G Qf nL M lv tgt st) (kf : ¬ 0 ≤ a → Wt p l e R s m args below meth c G Qf nL M lv (pc + 3) st) : Wt p l e R s m args below meth c G Qf nL M lv pc (iV a :: st) := fun H locs ls hP hS hl => lv_if_ge X.1 X.2.1 hd ht (fun h => kt ((i_le i_r0 ga).mp h) H locs ls hP hS hl) (fun h => kf (fun q => h ((i_le i_r0 ga).mpr q)) H locs ls hP hS hl)
theorem xt_cgt (X : Cx p s m args meth c cc nL ret own G) {a b off : Int} {tgt : Nat} (ga : inR a) (gb : inR b) (hd : decode cc pc = .ok (.if_icmp .gt off, 3)) (ht : (pc : Int) + off = (tgt : Int)) (kt : b < a → Wt p l e R s m args below meth c G Qf nL M lv tgt st) (kf : ¬ b < a → Wt p l e R s m args below meth c G Qf nL M lv (pc + 3) st) : Wt p l e R s m args below meth c G Qf nL M lv pc (iV b :: iV a :: st) := fun H locs ls hP hS hl => lv_icmp_gt X.1 X.2.1 hd ht (fun h => kt ((i_lt gb ga).mp h) H locs ls hP hS hl) (fun h => kf (fun q => h ((i_lt gb ga).mpr q)) H locs ls hP hS hl)
theorem xt_zgt (X : Cx p s m args meth c cc nL ret own G) {a off : Int} {tgt : Nat} (ga : inR a) (hd : decode cc pc = .ok (.ifCond .gt off, 3)) (ht : (pc : Int) + off = (tgt : Int)) (kt : 0 < a → Wt p l e R s m args below meth c G Qf nL M lv tgt st) (kf : ¬ 0 < a → Wt p l e R s m args below meth c G Qf nL M lv (pc + 3) st) : Wt p l e R s m args below meth c G Qf nL M lv pc (iV a :: st) := fun H locs ls hP hS hl => lv_if_gt X.1 X.2.1 hd ht (fun h => kt ((i_lt i_r0 ga).mp h) H locs ls hP hS hl) (fun h => kf (fun q => h ((i_lt i_r0 ga).mpr q)) H locs ls hP hS hl)
theorem xt_cle (X : Cx p s m args meth c cc nL ret own G) {a b off : Int} {tgt : Nat} (ga : inR a) (gb : inR b) (hd : decode cc pc = .ok (.if_icmp .le off, 3)) (ht : (pc : Int) + off = (tgt : Int)) (kt : a ≤ b → Wt p l e R s m args below meth c G Qf nL M lv tgt st) (kf : ¬ a ≤ b → Wt p l e R s m args below meth c G Qf nL M lv (pc + 3) st) : Wt p l e R s m args below meth c G Qf nL M lv pc (iV b :: iV a :: st) := fun H locs ls hP hS hl => lv_icmp_le X.1 X.2.1 hd ht (fun h => kt ((i_le ga gb).mp h) H locs ls hP hS hl) (fun h => kf (fun q => h ((i_le ga gb).mpr q)) H locs ls hP hS hl)
theorem xt_zle (X : Cx p s m args meth c cc nL ret own G) {a off : Int} {tgt : Nat} (ga : inR a) (hd : decode cc pc = .ok (.ifCond .le off, 3)) (ht : (pc : Int) + off = (tgt : Int)) (kt : a ≤ 0 → Wt p l e R s m args below meth c G Qf nL M lv tgt st) (kf : ¬ a ≤ 0 → Wt p l e R s m args below meth c G Qf nL M lv (pc + 3) st) : Wt p l e R s m args below meth c G Qf nL M lv pc (iV a :: st) := fun H locs ls hP hS hl => lv_if_le X.1 X.2.1 hd ht (fun h => kt ((i_le ga i_r0).mp h) H locs ls hP hS hl) (fun h => kf (fun q => h ((i_le ga i_r0).mpr q)) H locs ls hP hS hl)
theorem xt_tin (X : Cx p s m args meth c cc nL ret own G) {dflt lo hi off a : Int} {offs : Array Int} {len tgt : Nat} (ga : inR a) (hd : decode cc pc = .ok (.tableswitch dflt lo hi offs, len)) (z : Int) (hz : a = z) (h1 : ¬ z < lo) (h2 : ¬ hi < z) (ho : offs[(z - lo).toNat]? = some off) (ht : (pc : Int) + off = (tgt : Int)) (k : Wt p l e R s m args below meth c G Qf nL M lv tgt st) : Wt p l e R s m args below meth c G Qf nL M lv pc (iV a :: st) := fun H locs ls hP hS hl => lv_tableIn X.1 X.2.1 hd (by rw [i_toInt ga, hz]; exact h1) (by rw [i_toInt ga, hz]; exact h2) (by rw [i_toInt ga, hz]; exact ho) ht (k H locs ls hP hS hl)
theorem xt_tout (X : Cx p s m args meth c cc nL ret own G) {dflt lo hi a : Int} {offs : Array Int} {len tgt : Nat} (ga : inR a) (hd : decode cc pc = .ok (.tableswitch dflt lo hi offs, len)) (h : a < lo ∨ hi < a) (ht : (pc : Int) + dflt = (tgt : Int)) (k : Wt p l e R s m args below meth c G Qf nL M lv tgt st) : Wt p l e R s m args below meth c G Qf nL M lv pc (iV a :: st) := fun H locs ls hP hS hl => lv_tableOut X.1 X.2.1 hd (by rw [i_toInt ga]; exact h) ht (k H locs ls hP hS hl)
theorem xt_look (X : Cx p s m args meth c cc nL ret own G) {dflt off a : Int} {ps : Array (Int × Int)} {len tgt : Nat} (ga : inR a) (hd : decode cc pc = .ok (.lookupswitch dflt ps, len)) (hp : (ps.toList.zip (ps.toList.drop 1)).all (fun (a, next) => a.1 < next.1) = true) (ho : Op.lookupswitch.offset ps.toList dflt a = off) (ht : (pc : Int) + off = (tgt : Int)) (k : Wt p l e R s m args below meth c G Qf nL M lv tgt st) : Wt p l e R s m args below meth c G Qf nL M lv pc (iV a :: st) := fun H locs ls hP hS hl => lv_lookup X.1 X.2.1 hd hp (by rw [i_toInt ga]; exact ho) ht (k H locs ls hP hS hl)
theorem k_lt {a : Int} {k n : Nat} (h : gK G a = (k, n)) (hk : k < 12) : (gK G a).1 < 12 := by rw [h]; exact hk
theorem g_at (hG : Gd G) {a : Int} (hk : (gK G a).1 < 12) : ∃ k0 : Nat, 0 ≤ a ∧ a.toNat ∈ gL G ∧ (va_pl (gL G) (gF G M))[k0]? = some (a.toNat, cR (gC G) (gK G a) a (M a)) := by
  obtain ⟨h0, hm⟩ := hG.2.1 a hk
  obtain ⟨k0, hk0⟩ := va_pl_get (X := []) (f := gF G M) hm
  refine ⟨k0, h0, hm, ?_⟩
  have e : gF G M a.toNat = cR (gC G) (gK G a) a (M a) := by
    unfold gF
    rw [Int.toNat_of_nonneg h0]
  rw [← e]
  exact hk0
theorem g_set (hG : Gd G) {a : Int} {M2 : Mm} {H1 : Heap} {k0 : Nat} {x : va_E} (h0 : 0 ≤ a) (hm : a.toNat ∈ gL G) (hk0 : (va_pl (gL G) (gF G M))[k0]? = some (a.toNat, cR (gC G) (gK G a) a (M a))) (hx : x = cR (gC G) (gK G a) a (M2 a)) (ho : ∀ b : Int, b ≠ a → M2 b = M b) (hr : Rg M2) (hdy : Dy (gK G) M2) (hP : va_P (gD G) vwCl ((va_pl (gL G) (gF G M)).set k0 (a.toNat, x)) H1) : Wp G M2 H1 := by
  have e : gF G M a.toNat = cR (gC G) (gK G a) a (M a) := by
    unfold gF
    rw [Int.toNat_of_nonneg h0]
  have hk1 : ([] ++ va_pl (gL G) (gF G M))[k0]? = some (a.toNat, gF G M a.toNat) := by rw [e]; exact hk0
  have hs := va_pl_set (X := []) (e := x) (hG.1 (gF G M)) hm hk1
  have hc : va_pl (gL G) (va_up (gF G M) a.toNat x) = va_pl (gL G) (gF G M2) := va_pl_congr (fun q => by
    by_cases hq : q = a.toNat
    · subst hq
      rw [va_up_self, hx]
      unfold gF
      rw [Int.toNat_of_nonneg h0]
    · rw [va_up_ne _ _ hq]
      unfold gF
      rw [ho (q : Int) (fun z => hq (by omega))])
  refine ⟨?_, hr, hdy⟩
  rw [← hc]
  have hs2 : (va_pl (gL G) (gF G M)).set k0 (a.toNat, x) = va_pl (gL G) (va_up (gF G M) a.toNat x) := hs
  rw [← hs2]
  exact hP
theorem rg_um (h : Rg M) {a j x : Int} (hx : inR x) : Rg (um M a j x) := by
  intro b k
  show inR (um M a j x b k)
  by_cases hb : b = a
  · subst hb
    rw [um_at]
    unfold ur
    split
    · exact hx
    · exact h b k
  · rw [um_ne M j x hb]
    exact h b k
theorem rg_cp (h : Rg M) {a sp d dp n : Int} : Rg (cp M a sp d dp n) := by
  intro b k
  show inR (cp M a sp d dp n b k)
  by_cases hb : b = d
  · subst hb
    rw [cp_at]
    unfold cr
    split
    · exact h a _
    · exact h b k
  · rw [cp_ne M a sp dp n hb]
    exact h b k
theorem dy_row {K : Int → Nat × Nat} (h : Dy K M) {M2 : Mm} {a : Int} (ha : K a ≠ (6, 0)) (ho : ∀ b : Int, b ≠ a → M2 b = M b) : Dy K M2 := by
  intro b hb
  rw [ho b (fun z => ha (by rw [← z]; exact hb))]
  exact h b hb
theorem dy_um6 {K : Int → Nat × Nat} (h : Dy K M) {a j x : Int} (h4 : j ≠ 4) (h5 : j ≠ 5) : Dy K (um M a j x) := by
  intro b hb
  by_cases hba : b = a
  · subst hba
    rw [um_at]
    unfold ur
    rw [if_neg (Ne.symm h4), if_neg (Ne.symm h5)]
    exact h b hb
  · rw [um_ne M j x hba]
    exact h b hb

theorem xt_get (X : Cx p s m args meth c cc nL ret own G) {ci N idx j : Nat} {T : u_T} {Cn rf : String} {fs : List Value} {v : Value} {a : Int} (hcl : vwCl[ci]? = some (Cn, T, N)) (hin : ∀ w ∈ u_ws Cn T N, w ∈ tw) (hk : (gK G a).1 < 12) (he : cR (gC G) (gK G a) a (M a) = .inr (ci, fs)) (hj : j < N) (hlink : Cond.fieldLink own idx rf (T j).2.1 (T j).2.2.1 ∈ tw) (hrf : (T j).1 = rf) (hv : fs[j]? = some v) (hd : decode cc pc = .ok (.getfield idx, 3)) (k : Rg M → Dy (gK G) M → Wt p l e R s m args below meth c G Qf nL M lv (pc + 3) (v :: st)) : Wt p l e R s m args below meth c G Qf nL M lv pc (rV a :: st) := by
  intro H locs ls hP hS hl
  obtain ⟨k0, h0, hm, hk0⟩ := g_at (M := M) X.2.2.2.2.2.2.2.2 hk
  exact va_get (D := gD G) (ws := va_pl (gL G) (gF G M)) X.1 X.2.1 X.2.2.2.2.1 hin X.2.2.2.1 X.2.2.2.2.2.2.2.1.1 hP.1 k0 (hk0.trans (by rw [he])) hcl j hj (X.2.2.2.2.1 _ hlink) (fun x h => by rw [← hrf]; exact h) hv hd (k hP.2.1 hP.2.2 H locs ls hP hS hl)
theorem xt_put (X : Cx p s m args meth c cc nL ret own G) {ci N idx j : Nat} {T : u_T} {ty0 : Nat → FieldType} {Cn rf : String} {fs : List Value} {v : Value} {a x : Int} {ty : FieldType} (hcl : vwCl[ci]? = some (Cn, T, N)) (hin : ∀ w ∈ u_ws Cn T N, w ∈ tw) (hty : ∀ k, k < N → parseFieldDescriptor (T k).2.2.1 = some (ty0 k)) (hnm : ∀ a, a < N → ∀ b, b < N → a ≠ b → (T a).2.1 ≠ (T b).2.1) (hk : (gK G a).1 < 12) (he : cR (gC G) (gK G a) a (M a) = .inr (ci, fs)) (hj : j < N) (hlink : Cond.fieldLink own idx rf (T j).2.1 (T j).2.2.1 ∈ tw) (hrf : (T j).1 = rf) (hfin : (T j).2.2.2 = false) (hpd : parseFieldDescriptor (T j).2.2.1 = some ty) (hn : narrow ty v = v) (hfit : fits ty v = true) (hlen : j < fs.length) (hset : cR (gC G) (gK G a) a (ur (M a) (j : Int) x) = .inr (ci, fs.set j v)) (hdy : Dy (gK G) M → Dy (gK G) (um M a (j : Int) x)) (gx : inR x) (hd : decode cc pc = .ok (.putfield idx, 3)) (k : ∀ M2 : Mm, M2 = um M a (j : Int) x → Wt p l e R s m args below meth c G Qf nL M2 lv (pc + 3) st) : Wt p l e R s m args below meth c G Qf nL M lv pc (v :: rV a :: st) := by
  intro H locs ls hP hS hl
  have hG := X.2.2.2.2.2.2.2.2
  obtain ⟨k0, h0, hm, hk0⟩ := g_at (M := M) hG hk
  refine va_put (D := gD G) (A := gA G) (ws := va_pl (gL G) (gF G M)) X.1 X.2.1 X.2.2.2.2.1 hin ty0 hty hnm X.2.2.2.1 X.2.2.2.2.2.2.2.1.1 hP.1 (hG.1 _) hS k0 (hk0.trans (by rw [he])) hcl j hj (X.2.2.2.2.1 _ hlink) (fun x h => by rw [← hrf]; exact h) hfin hpd hn hfit hlen hd (fun H1 locs1 hP1 hD1 hS1 => ?_)
  exact k _ rfl H1 locs1 ls (g_set hG h0 hm hk0 (by rw [um_at, hset]) (fun b hb => um_ne M _ _ hb) (rg_um hP.2.1 gx) (hdy hP.2.2) hP1) hS1 hl
theorem xt_iald (X : Cx p s m args meth c cc nL ret own G) {a i : Int} {n : Nat} (hk : gK G a = (8, n)) (hi : 0 ≤ i ∧ i < (n : Int)) (hn : n ≤ 1000000) (hd : decode cc pc = .ok (.iaload, 1)) (k : inR (M a i) → Wt p l e R s m args below meth c G Qf nL M lv (pc + 1) (iV (M a i) :: st)) : Wt p l e R s m args below meth c G Qf nL M lv pc (iV i :: rV a :: st) := by
  intro H locs ls hP hS hl
  obtain ⟨k0, h0, hm, hk0⟩ := g_at (M := M) X.2.2.2.2.2.2.2.2 (a := a) (k_lt hk (by decide))
  rw [hk] at hk0
  refine va_iald (D := gD G) (ws := va_pl (gL G) (gF G M)) X.1 X.2.1 X.2.2.2.2.2.2.2.1.1 hP.1 k0 0 hk0 rfl (i_in hi.1 hi.2 hn) hd ?_
  rw [i_clamp hi.1 (by omega), Int.toNat_of_nonneg hi.1]
  exact k (hP.2.1 a i) H locs ls hP hS hl
theorem xt_zald (X : Cx p s m args meth c cc nL ret own G) {a i : Int} {n : Nat} (hk : gK G a = (9, n)) (hi : 0 ≤ i ∧ i < (n : Int)) (hn : n ≤ 1000000) (hd : decode cc pc = .ok (.baload, 1)) (k : inR (M a i) → Wt p l e R s m args below meth c G Qf nL M lv (pc + 1) (iV (M a i) :: st)) : Wt p l e R s m args below meth c G Qf nL M lv pc (iV i :: rV a :: st) := by
  intro H locs ls hP hS hl
  obtain ⟨k0, h0, hm, hk0⟩ := g_at (M := M) X.2.2.2.2.2.2.2.2 (a := a) (k_lt hk (by decide))
  rw [hk] at hk0
  refine va_zald (D := gD G) (ws := va_pl (gL G) (gF G M)) X.1 X.2.1 X.2.2.2.2.2.2.2.1.1 hP.1 k0 1 hk0 rfl (i_in hi.1 hi.2 hn) hd ?_
  rw [i_clamp hi.1 (by omega), Int.toNat_of_nonneg hi.1]
  exact k (hP.2.1 a i) H locs ls hP hS hl
theorem xt_ald10 (X : Cx p s m args meth c cc nL ret own G) {a i : Int} (hk : gK G a = (10, 2)) (hi : 0 ≤ i ∧ i < 2) (hd : decode cc pc = .ok (.aaload, 1)) (k : Wt p l e R s m args below meth c G Qf nL M lv (pc + 1) (rV (a + 25 + 47 * i) :: st)) : Wt p l e R s m args below meth c G Qf nL M lv pc (iV i :: rV a :: st) := by
  intro H locs ls hP hS hl
  obtain ⟨k0, h0, hm, hk0⟩ := g_at (M := M) X.2.2.2.2.2.2.2.2 (a := a) (k_lt hk (by decide))
  rw [hk] at hk0
  refine va_aldq (D := gD G) (ws := va_pl (gL G) (gF G M)) X.1 X.2.1 X.2.2.2.2.2.2.2.1.1 hP.1 k0 2 hk0 rfl (i_in hi.1 (show i < ((2 : Nat) : Int) by omega) (by decide)) hd ?_
  rw [i_clamp hi.1 (by omega), Int.toNat_of_nonneg hi.1]
  exact k H locs ls hP hS hl
theorem xt_ald11 (X : Cx p s m args meth c cc nL ret own G) {a i : Int} (hk : gK G a = (11, 10)) (hi : 0 ≤ i ∧ i < 10) (hd : decode cc pc = .ok (.aaload, 1)) (k : Wt p l e R s m args below meth c G Qf nL M lv (pc + 1) (rV (a + 1 + 4 * i) :: st)) : Wt p l e R s m args below meth c G Qf nL M lv pc (iV i :: rV a :: st) := by
  intro H locs ls hP hS hl
  obtain ⟨k0, h0, hm, hk0⟩ := g_at (M := M) X.2.2.2.2.2.2.2.2 (a := a) (k_lt hk (by decide))
  rw [hk] at hk0
  refine va_aldq (D := gD G) (ws := va_pl (gL G) (gF G M)) X.1 X.2.1 X.2.2.2.2.2.2.2.1.1 hP.1 k0 3 hk0 rfl (i_in hi.1 (show i < ((10 : Nat) : Int) by omega) (by decide)) hd ?_
  rw [i_clamp hi.1 (by omega), Int.toNat_of_nonneg hi.1]
  exact k H locs ls hP hS hl
theorem xt_iast (X : Cx p s m args meth c cc nL ret own G) {a i x : Int} {n : Nat} (hk : gK G a = (8, n)) (hi : 0 ≤ i ∧ i < (n : Int)) (hn : n ≤ 1000000) (gx : inR x) (hd : decode cc pc = .ok (.iastore, 1)) (k : ∀ M2 : Mm, M2 = um M a i x → Wt p l e R s m args below meth c G Qf nL M2 lv (pc + 1) st) : Wt p l e R s m args below meth c G Qf nL M lv pc (iV x :: iV i :: rV a :: st) := by
  intro H locs ls hP hS hl
  have hG := X.2.2.2.2.2.2.2.2
  obtain ⟨k0, h0, hm, hk0⟩ := g_at (M := M) hG (a := a) (k_lt hk (by decide))
  have hk1 := hk0
  rw [hk] at hk1
  refine va_iast (D := gD G) (A := gA G) (ws := va_pl (gL G) (gF G M)) X.1 X.2.1 X.2.2.2.2.2.2.2.1.1 hP.1 (hG.1 _) hS k0 0 hk1 rfl (i_in hi.1 hi.2 hn) hd (fun H1 locs1 hP1 hD1 hS1 => ?_)
  refine k _ rfl H1 locs1 ls (g_set hG h0 hm hk0 ?_ (fun b hb => um_ne M _ _ hb) (rg_um hP.2.1 gx) (dy_row hP.2.2 (a := a) (by rw [hk]; simp) (fun b hb => um_ne M _ _ hb)) hP1) hS1 hl
  rw [um_at, hk]
  show (Sum.inl _ : va_E) = Sum.inl _
  congr 3
  congr 1
  funext q
  rw [i_clamp hi.1 (by omega)]
  unfold upd ur
  by_cases hq : q = i.toNat
  · rw [if_pos hq, if_pos (by omega)]
  · rw [if_neg hq, if_neg (by omega)]
theorem xt_zast (X : Cx p s m args meth c cc nL ret own G) {a i x : Int} {n : Nat} (hk : gK G a = (9, n)) (hi : 0 ≤ i ∧ i < (n : Int)) (hn : n ≤ 1000000) (gx : inR x) (hx : x = 0 ∨ x = 1) (hd : decode cc pc = .ok (.bastore, 1)) (k : ∀ M2 : Mm, M2 = um M a i x → Wt p l e R s m args below meth c G Qf nL M2 lv (pc + 1) st) : Wt p l e R s m args below meth c G Qf nL M lv pc (iV x :: iV i :: rV a :: st) := by
  intro H locs ls hP hS hl
  have hG := X.2.2.2.2.2.2.2.2
  obtain ⟨k0, h0, hm, hk0⟩ := g_at (M := M) hG (a := a) (k_lt hk (by decide))
  have hk1 := hk0
  rw [hk] at hk1
  refine va_zast (D := gD G) (A := gA G) (ws := va_pl (gL G) (gF G M)) X.1 X.2.1 X.2.2.2.2.2.2.2.1.1 hP.1 (hG.1 _) hS k0 1 hk1 rfl (i_in hi.1 hi.2 hn) hd (fun H1 locs1 hP1 hD1 hS1 => ?_)
  have hnar : vp_nar .boolean (Int32.ofInt x) = Int32.ofInt x := by rcases hx with rfl | rfl <;> decide
  rw [hnar] at hP1
  refine k _ rfl H1 locs1 ls (g_set hG h0 hm hk0 ?_ (fun b hb => um_ne M _ _ hb) (rg_um hP.2.1 gx) (dy_row hP.2.2 (a := a) (by rw [hk]; simp) (fun b hb => um_ne M _ _ hb)) hP1) hS1 hl
  rw [um_at, hk]
  show (Sum.inl _ : va_E) = Sum.inl _
  congr 3
  congr 1
  funext q
  rw [i_clamp hi.1 (by omega)]
  unfold upd ur
  by_cases hq : q = i.toNat
  · rw [if_pos hq, if_pos (by omega)]
  · rw [if_neg hq, if_neg (by omega)]
theorem xt_acp (X : Cx p s m args meth c cc nL ret own G) {a d sp dp n : Int} {n0 n1 idx : Nat} (hka : gK G a = (8, n0)) (hkd : gK G d = (8, n1)) (h1 : 0 ≤ sp) (h2 : 0 ≤ dp) (h3 : 0 ≤ n) (h4 : sp + n ≤ (n0 : Int)) (h5 : dp + n ≤ (n1 : Int)) (hn0 : n0 ≤ 1000000) (hn1 : n1 ≤ 1000000) (hlink : Cond.methodLink own idx arraycopyName ∈ tw) (hfr : 1 ≤ R.frames) (hlo : (st.map fun v => v.category).sum + (nativeFrameWords "java/lang/System" "arraycopy" 5 + 11) ≤ R.locals) (hd : decode cc pc = .ok (.invokestatic idx, 3)) (k : ∀ M2 : Mm, M2 = cp M a sp d dp n → Wt p l e R s m args below meth c G Qf nL M2 lv (pc + 3) st) : Wt p l e R s m args below meth c G Qf nL M lv pc (iV n :: iV dp :: rV d :: iV sp :: rV a :: st) := by
  intro H locs ls hP hS hl
  have hG := X.2.2.2.2.2.2.2.2
  obtain ⟨k0, h00, hm0, hk0⟩ := g_at (M := M) hG (a := a) (k_lt hka (by decide))
  obtain ⟨k1, h01, hm1, hk1⟩ := g_at (M := M) hG (a := d) (k_lt hkd (by decide))
  have hk2 := hk1
  rw [hka] at hk0
  rw [hkd] at hk2
  have hc : ∀ z : Int, 0 ≤ z → z ≤ 1000000 → ¬ Int32.ofInt z < 0 := fun z h hz => by
    rw [i_0, i_lt ⟨by omega, by omega⟩ i_r0]
    omega
  have e1 := i_clamp h1 (show sp < 2147483648 by omega)
  have e2 := i_clamp h2 (show dp < 2147483648 by omega)
  have e3 := i_clamp h3 (show n < 2147483648 by omega)
  refine va_copyi (D := gD G) (A := gA G) (ws := va_pl (gL G) (gF G M)) X.1 X.2.1 (X.2.2.1.trans hl.1.symm) X.2.2.2.1 (X.2.2.2.2.1 _ hlink) (X.2.2.2.2.1 _ naAcp) (X.2.2.2.2.1 _ stAcp) (X.2.2.2.2.1 _ iniJ10) X.2.2.2.2.2.2.2.1.1 hP.1 (hG.1 _) hS k0 k1 0 0 hk0 hk2 rfl rfl rfl (hc sp h1 (by omega)) (hc dp h2 (by omega)) (hc n h3 (by omega)) (by rw [e1, e3]; omega) (by rw [e2, e3]; omega) (fun i hi => rfl) hfr hlo hd (fun H1 locs1 hP1 hD1 hS1 => ?_)
  refine k _ rfl H1 locs1 ls (g_set hG h01 hm1 hk1 ?_ (fun b hb => cp_ne M _ _ _ _ hb) (rg_cp hP.2.1) (dy_row hP.2.2 (a := d) (by rw [hkd]; simp) (fun b hb => cp_ne M _ _ _ _ hb)) hP1) hS1 hl
  rw [cp_at, hkd, e1, e2, e3]
  show (Sum.inl _ : va_E) = Sum.inl _
  congr 3
  congr 1
  funext q
  unfold va_cpy cr
  by_cases hq : dp.toNat ≤ q ∧ q < dp.toNat + n.toNat
  · rw [if_pos hq, if_pos (by omega)]
    have : ((sp.toNat + (q - dp.toNat) : Nat) : Int) = sp + ((q : Int) - dp) := by omega
    show Int32.ofInt (M a ((sp.toNat + (q - dp.toNat) : Nat) : Int)) = _
    rw [this]
  · rw [if_neg hq, if_neg (by omega)]
theorem xt_max (X : Cx p s m args meth c cc nL ret own G) {a b : Int} {idx : Nat} (ga : inR a) (gb : inR b) (hlink : Cond.methodLink own idx yJ9_max_7cf53 ∈ tw) (hfr : 1 ≤ R.frames) (hlo : (st.map fun v => v.category).sum + 13 ≤ R.locals) (hd : decode cc pc = .ok (.invokestatic idx, 3)) (k : Wt p l e R s m args below meth c G Qf nL M lv (pc + 3) (iV (max a b) :: st)) : Wt p l e R s m args below meth c G Qf nL M lv pc (iV b :: iV a :: st) := by
  intro H locs ls hP hS hl
  refine va_mmax X.1 X.2.1 (X.2.2.1.trans hl.1.symm) X.2.2.2.1 (X.2.2.2.2.1 _ hlink) (X.2.2.2.2.1 _ stJ9_max_7cf53) (X.2.2.2.2.1 _ iniJ9) (X.2.2.2.2.1 _ coJ9_max_7cf53) hfr hlo (Nat.zero_le _) (Nat.zero_le _) hd ?_
  rw [i_max ga gb]
  exact k H locs ls hP hS hl
theorem xt_min (X : Cx p s m args meth c cc nL ret own G) {a b : Int} {idx : Nat} (ga : inR a) (gb : inR b) (hlink : Cond.methodLink own idx yJ9_min_7cf53 ∈ tw) (hfr : 1 ≤ R.frames) (hlo : (st.map fun v => v.category).sum + 13 ≤ R.locals) (hd : decode cc pc = .ok (.invokestatic idx, 3)) (k : Wt p l e R s m args below meth c G Qf nL M lv (pc + 3) (iV (min a b) :: st)) : Wt p l e R s m args below meth c G Qf nL M lv pc (iV b :: iV a :: st) := by
  intro H locs ls hP hS hl
  refine va_mmin X.1 X.2.1 (X.2.2.1.trans hl.1.symm) X.2.2.2.1 (X.2.2.2.2.1 _ hlink) (X.2.2.2.2.1 _ stJ9_min_7cf53) (X.2.2.2.2.1 _ iniJ9) (X.2.2.2.2.1 _ coJ9_min_7cf53) hfr hlo (Nat.zero_le _) (Nat.zero_le _) hd ?_
  rw [i_min ga gb]
  exact k H locs ls hP hS hl
theorem xt_iret (X : Cx p s m args meth c cc nL (some .int) own G) {Q : Int → Mm → Prop} {z : Int} (gz : inR z) (hq : Q z M) (hd : decode cc pc = .ok (.ireturn, 1)) : Wt p l e R s m args below meth c G (MQ below (PostI G Q) args s 0 0 (gA G)) nL M lv pc [iV z] := fun H locs ls hP hS hl => W.iret X.1 X.2.1 X.2.2.2.2.2.1 (fun t ht hW => ⟨⟨_, M, rfl, ⟨z, rfl, gz, hq⟩, by subst ht; exact hP⟩, hS.F ht⟩) hS.2.2 hd X.2.2.2.2.2.2.1
theorem xt_zret (X : Cx p s m args meth c cc nL (some .boolean) own G) {Q : Int → Mm → Prop} {z : Int} (gz : z = 0 ∨ z = 1) (hq : Q z M) (hd : decode cc pc = .ok (.ireturn, 1)) : Wt p l e R s m args below meth c G (MQ below (PostI G Q) args s 0 0 (gA G)) nL M lv pc [iV z] := fun H locs ls hP hS hl => W.zret X.1 X.2.1 X.2.2.2.2.2.1 (by rcases gz with rfl | rfl <;> decide) (fun t ht hW => ⟨⟨_, M, rfl, ⟨z, rfl, by omega, hq⟩, by subst ht; exact hP⟩, hS.F ht⟩) hS.2.2 hd X.2.2.2.2.2.2.1
theorem xt_lret (X : Cx p s m args meth c cc nL (some .long) own G) {Q : Int64 → Mm → Prop} {z : Int64} (hq : Q z M) (hd : decode cc pc = .ok (.lreturn, 1)) : Wt p l e R s m args below meth c G (MQ below (PostL G Q) args s 0 0 (gA G)) nL M lv pc [.long z] := fun H locs ls hP hS hl => W.lret X.1 X.2.1 X.2.2.2.2.2.1 (fun t ht hW => ⟨⟨_, M, rfl, hq, by subst ht; exact hP⟩, hS.F ht⟩) hS.2.2 hd X.2.2.2.2.2.2.1
theorem xt_vret (X : Cx p s m args meth c cc nL none own G) {Q : Mm → Prop} (hq : Q M) (hd : decode cc pc = .ok (.return_, 1)) : Wt p l e R s m args below meth c G (MQ below (PostV G Q) args s 0 0 (gA G)) nL M lv pc [] := fun H locs ls hP hS hl => W.vret X.1 X.2.1 X.2.2.2.2.2.1 (fun t ht hW => ⟨⟨M, rfl, hq, by subst ht; exact hP⟩, hS.F ht⟩) hS.2.2 hd X.2.2.2.2.2.2.1
theorem xt_aret {Cn : String} (X : Cx p s m args meth c cc nL (some (.object Cn)) own G) {Q : Int → Mm → Prop} {z : Int} (hq : Q z M) (hd : decode cc pc = .ok (.areturn, 1)) : Wt p l e R s m args below meth c G (MQ below (PostR G Q) args s 0 0 (gA G)) nL M lv pc [rV z] := fun H locs ls hP hS hl => W.aret X.1 X.2.1 X.2.2.2.2.2.1 (Or.inl ⟨Cn, rfl⟩) (Or.inr ⟨_, rfl⟩) (fun t ht hW => ⟨⟨(z, M), _, rfl, hq, rfl, by subst ht; exact hP⟩, hS.F ht⟩) hS.2.2 hd X.2.2.2.2.2.2.1
theorem p_blind (G : GG) (M : Mm) (av : List Value) : FrameBlind (Pre G M av) := fun a U g mk q => ⟨q.1, q.2.1.blind g mk a, q.2.2⟩
theorem r_V (X : Cx p s m args meth c cc nL ret own G) {y : MethodName} {bytes : ByteArray} {maxL idx ci N : Nat} {rc : Option FieldType} {rm : Room} {Cn : String} {T : u_T} {a : Int} {av : List Value} {Qc : Array Value → State → Outcome → State → Prop} {H : Heap} {locs : List Loc} {ls : Array Slot} {fs : List Value}
    (hM : Met l y (Cond.code y bytes maxL rc :: tw) rm (Pre G M (rV a :: av)) Qc 0 0 (gA G)) (hg : GoodIn tw (wsV own idx Cn y (Cond.code y bytes maxL rc :: tw)))
    (hd2 : y.cls = Cn ∧ y.cls ≠ "java/lang/invoke/MethodHandle" ∧ y.cls ≠ "java/lang/invoke/VarHandle" ∧ (parseMethodDescriptor y.desc).map (fun d => d.parameters.length) = some av.length)
    (hrc : rm.cells = 0 ∧ rm.slots = 0) (hR : rm.frames + 1 ≤ R.frames ∧ 8 + (maxL + 11) + rm.locals ≤ R.locals) (hcl : vwCl[ci]? = some (Cn, T, N)) (hk : (gK G a).1 < 12) (he : cR (gC G) (gK G a) a (M a) = .inr (ci, fs))
    (hst : st = av.reverse ++ rV a :: rest) (hw : (rest.map fun v => v.category).sum ≤ 8) (hd : decode cc pc = .ok (.invokevirtual idx, 3)) (hP : Wp G M H) (hS : va_S (gA G) s.heap H locs) (hl : lv_has ls nL lv) :
    va_Run p l e R s m args below meth c H locs 0 0 0 0 (F0 m pc ls st) rest (Qc (rV a :: av).toArray) (gA G) := by
  obtain ⟨k0, h0, hm, hk0⟩ := g_at (M := M) X.2.2.2.2.2.2.2.2 hk
  rw [he] at hk0
  exact va_runV (As := av) (rest := rest) ⟨X.1, X.2.1, X.2.2.1, X.2.2.2.1, X.2.2.2.2.1⟩ hM (cwV av.length X.2.2.2.2.1 hg rfl hrc.1 hrc.2 hd2 hR)
    ⟨p_blind G M _, va_recv X.2.2.2.2.2.2.2.1.1 hP.1 hcl hk0, fun U hU hW => ⟨rfl, X.2.2.2.2.2.2.2.1.to hW hU hS, by rw [hU]; exact hP⟩⟩ rfl rfl hl.1 hst (lv_room hw) hd ⟨Nat.zero_le _, Nat.zero_le _⟩
theorem r_S (X : Cx p s m args meth c cc nL ret own G) {y : MethodName} {bytes : ByteArray} {maxL idx : Nat} {rc : Option FieldType} {rm : Room} {av : List Value} {Qc : Array Value → State → Outcome → State → Prop} {H : Heap} {locs : List Loc} {ls : Array Slot}
    (hM : Met l y (Cond.code y bytes maxL rc :: tw) rm (Pre G M av) Qc 0 0 (gA G)) (hg : GoodIn tw (va_wsS own idx y (Cond.code y bytes maxL rc :: tw)))
    (hd2 : y.cls ≠ "java/lang/invoke/MethodHandle" ∧ y.cls ≠ "java/lang/invoke/VarHandle" ∧ (parseMethodDescriptor y.desc).map (fun d => d.parameters.length) = some av.length)
    (hrc : rm.cells = 0 ∧ rm.slots = 0) (hR : rm.frames + 1 ≤ R.frames ∧ 8 + (maxL + 11) + rm.locals ≤ R.locals)
    (hst : st = av.reverse ++ rest) (hw : (rest.map fun v => v.category).sum ≤ 8) (hd : decode cc pc = .ok (.invokestatic idx, 3)) (hP : Wp G M H) (hS : va_S (gA G) s.heap H locs) (hl : lv_has ls nL lv) :
    va_Run p l e R s m args below meth c H locs 0 0 0 0 (F0 m pc ls st) rest (Qc av.toArray) (gA G) :=
  va_runS (As := av) (rest := rest) ⟨X.1, X.2.1, X.2.2.1, X.2.2.2.1, X.2.2.2.2.1⟩ hM (va_cwS av.length X.2.2.2.2.1 hg rfl hrc.1 hrc.2 hd2 hR)
    ⟨p_blind G M _, fun U hU hW => ⟨rfl, X.2.2.2.2.2.2.2.1.to hW hU hS, by rw [hU]; exact hP⟩⟩ rfl rfl hl.1 hst (lv_room hw) hd ⟨Nat.zero_le _, Nat.zero_le _⟩
theorem xt_cVI (X : Cx p s m args meth c cc nL ret own G) {y : MethodName} {bytes : ByteArray} {maxL idx ci N : Nat} {rc : Option FieldType} {rm : Room} {Cn : String} {T : u_T} {a : Int} {fs : List Value} (av rest : List Value) {Qc : Int → Mm → Prop}
    (hM : Met l y (Cond.code y bytes maxL rc :: tw) rm (Pre G M (rV a :: av)) (PostI G Qc) 0 0 (gA G)) (hg : GoodIn tw (wsV own idx Cn y (Cond.code y bytes maxL rc :: tw)))
    (hd2 : y.cls = Cn ∧ y.cls ≠ "java/lang/invoke/MethodHandle" ∧ y.cls ≠ "java/lang/invoke/VarHandle" ∧ (parseMethodDescriptor y.desc).map (fun d => d.parameters.length) = some av.length)
    (hrc : rm.cells = 0 ∧ rm.slots = 0) (hR : rm.frames + 1 ≤ R.frames ∧ 8 + (maxL + 11) + rm.locals ≤ R.locals) (hcl : vwCl[ci]? = some (Cn, T, N)) (hk : (gK G a).1 < 12) (he : cR (gC G) (gK G a) a (M a) = .inr (ci, fs))
    (hst : st = av.reverse ++ rV a :: rest) (hw : (rest.map fun v => v.category).sum ≤ 8) (hd : decode cc pc = .ok (.invokevirtual idx, 3)) (k : ∀ (z : Int) (M2 : Mm), inR z → Qc z M2 → Wt p l e R s m args below meth c G Qf nL M2 lv (pc + 3) (iV z :: rest)) : Wt p l e R s m args below meth c G Qf nL M lv pc st :=
  fun H locs ls hP hS hl => va_calli (r_V X hM hg hd2 hrc hR hcl hk he hst hw hd hP hS hl) hS (fun q _ h => h) (fun q h => h) (fun r u t H1 locs1 ht hvm hw1 hB hz1 hk1 hS1 => by obtain ⟨z, rfl, hz, hq⟩ := hw1; exact k z u hz hq H1 locs1 ls (by rw [← ht]; exact hB) hS1 hl)
theorem xt_cSI (X : Cx p s m args meth c cc nL ret own G) {y : MethodName} {bytes : ByteArray} {maxL idx : Nat} {rc : Option FieldType} {rm : Room} (av rest : List Value) {Qc : Int → Mm → Prop}
    (hM : Met l y (Cond.code y bytes maxL rc :: tw) rm (Pre G M av) (PostI G Qc) 0 0 (gA G)) (hg : GoodIn tw (va_wsS own idx y (Cond.code y bytes maxL rc :: tw)))
    (hd2 : y.cls ≠ "java/lang/invoke/MethodHandle" ∧ y.cls ≠ "java/lang/invoke/VarHandle" ∧ (parseMethodDescriptor y.desc).map (fun d => d.parameters.length) = some av.length)
    (hrc : rm.cells = 0 ∧ rm.slots = 0) (hR : rm.frames + 1 ≤ R.frames ∧ 8 + (maxL + 11) + rm.locals ≤ R.locals)
    (hst : st = av.reverse ++ rest) (hw : (rest.map fun v => v.category).sum ≤ 8) (hd : decode cc pc = .ok (.invokestatic idx, 3)) (k : ∀ (z : Int) (M2 : Mm), inR z → Qc z M2 → Wt p l e R s m args below meth c G Qf nL M2 lv (pc + 3) (iV z :: rest)) : Wt p l e R s m args below meth c G Qf nL M lv pc st :=
  fun H locs ls hP hS hl => va_calli (r_S X hM hg hd2 hrc hR hst hw hd hP hS hl) hS (fun q _ h => h) (fun q h => h) (fun r u t H1 locs1 ht hvm hw1 hB hz1 hk1 hS1 => by obtain ⟨z, rfl, hz, hq⟩ := hw1; exact k z u hz hq H1 locs1 ls (by rw [← ht]; exact hB) hS1 hl)
theorem xt_cVV (X : Cx p s m args meth c cc nL ret own G) {y : MethodName} {bytes : ByteArray} {maxL idx ci N : Nat} {rc : Option FieldType} {rm : Room} {Cn : String} {T : u_T} {a : Int} {fs : List Value} (av rest : List Value) {Qc : Mm → Prop}
    (hM : Met l y (Cond.code y bytes maxL rc :: tw) rm (Pre G M (rV a :: av)) (PostV G Qc) 0 0 (gA G)) (hg : GoodIn tw (wsV own idx Cn y (Cond.code y bytes maxL rc :: tw)))
    (hd2 : y.cls = Cn ∧ y.cls ≠ "java/lang/invoke/MethodHandle" ∧ y.cls ≠ "java/lang/invoke/VarHandle" ∧ (parseMethodDescriptor y.desc).map (fun d => d.parameters.length) = some av.length)
    (hrc : rm.cells = 0 ∧ rm.slots = 0) (hR : rm.frames + 1 ≤ R.frames ∧ 8 + (maxL + 11) + rm.locals ≤ R.locals) (hcl : vwCl[ci]? = some (Cn, T, N)) (hk : (gK G a).1 < 12) (he : cR (gC G) (gK G a) a (M a) = .inr (ci, fs))
    (hst : st = av.reverse ++ rV a :: rest) (hw : (rest.map fun v => v.category).sum ≤ 8) (hd : decode cc pc = .ok (.invokevirtual idx, 3)) (k : ∀ (M2 : Mm), Qc M2 → Wt p l e R s m args below meth c G Qf nL M2 lv (pc + 3) rest) : Wt p l e R s m args below meth c G Qf nL M lv pc st :=
  fun H locs ls hP hS hl => va_callv (r_V X hM hg hd2 hrc hR hcl hk he hst hw hd hP hS hl) hS (fun q _ h => h) (fun q h => h) (fun u t H1 locs1 ht hvm hw1 hB hz1 hk1 hS1 => k u hw1 H1 locs1 ls (by rw [← ht]; exact hB) hS1 hl)
theorem xt_cSV (X : Cx p s m args meth c cc nL ret own G) {y : MethodName} {bytes : ByteArray} {maxL idx : Nat} {rc : Option FieldType} {rm : Room} (av rest : List Value) {Qc : Mm → Prop}
    (hM : Met l y (Cond.code y bytes maxL rc :: tw) rm (Pre G M av) (PostV G Qc) 0 0 (gA G)) (hg : GoodIn tw (va_wsS own idx y (Cond.code y bytes maxL rc :: tw)))
    (hd2 : y.cls ≠ "java/lang/invoke/MethodHandle" ∧ y.cls ≠ "java/lang/invoke/VarHandle" ∧ (parseMethodDescriptor y.desc).map (fun d => d.parameters.length) = some av.length)
    (hrc : rm.cells = 0 ∧ rm.slots = 0) (hR : rm.frames + 1 ≤ R.frames ∧ 8 + (maxL + 11) + rm.locals ≤ R.locals)
    (hst : st = av.reverse ++ rest) (hw : (rest.map fun v => v.category).sum ≤ 8) (hd : decode cc pc = .ok (.invokestatic idx, 3)) (k : ∀ (M2 : Mm), Qc M2 → Wt p l e R s m args below meth c G Qf nL M2 lv (pc + 3) rest) : Wt p l e R s m args below meth c G Qf nL M lv pc st :=
  fun H locs ls hP hS hl => va_callv (r_S X hM hg hd2 hrc hR hst hw hd hP hS hl) hS (fun q _ h => h) (fun q h => h) (fun u t H1 locs1 ht hvm hw1 hB hz1 hk1 hS1 => k u hw1 H1 locs1 ls (by rw [← ht]; exact hB) hS1 hl)
theorem xt_cVL (X : Cx p s m args meth c cc nL ret own G) {y : MethodName} {bytes : ByteArray} {maxL idx ci N : Nat} {rc : Option FieldType} {rm : Room} {Cn : String} {T : u_T} {a : Int} {fs : List Value} (av rest : List Value) {Qc : Int64 → Mm → Prop}
    (hM : Met l y (Cond.code y bytes maxL rc :: tw) rm (Pre G M (rV a :: av)) (PostL G Qc) 0 0 (gA G)) (hg : GoodIn tw (wsV own idx Cn y (Cond.code y bytes maxL rc :: tw)))
    (hd2 : y.cls = Cn ∧ y.cls ≠ "java/lang/invoke/MethodHandle" ∧ y.cls ≠ "java/lang/invoke/VarHandle" ∧ (parseMethodDescriptor y.desc).map (fun d => d.parameters.length) = some av.length)
    (hrc : rm.cells = 0 ∧ rm.slots = 0) (hR : rm.frames + 1 ≤ R.frames ∧ 8 + (maxL + 11) + rm.locals ≤ R.locals) (hcl : vwCl[ci]? = some (Cn, T, N)) (hk : (gK G a).1 < 12) (he : cR (gC G) (gK G a) a (M a) = .inr (ci, fs))
    (hst : st = av.reverse ++ rV a :: rest) (hw : (rest.map fun v => v.category).sum ≤ 8) (hd : decode cc pc = .ok (.invokevirtual idx, 3)) (k : ∀ (z : Int64) (M2 : Mm), Qc z M2 → Wt p l e R s m args below meth c G Qf nL M2 lv (pc + 3) (.long z :: rest)) : Wt p l e R s m args below meth c G Qf nL M lv pc st :=
  fun H locs ls hP hS hl => va_calll (r_V X hM hg hd2 hrc hR hcl hk he hst hw hd hP hS hl) hS (fun q _ h => h) (fun q h => h) (fun r u t H1 locs1 ht hvm hw1 hB hz1 hk1 hS1 => k r u hw1 H1 locs1 ls (by rw [← ht]; exact hB) hS1 hl)
theorem xt_cSL (X : Cx p s m args meth c cc nL ret own G) {y : MethodName} {bytes : ByteArray} {maxL idx : Nat} {rc : Option FieldType} {rm : Room} (av rest : List Value) {Qc : Int64 → Mm → Prop}
    (hM : Met l y (Cond.code y bytes maxL rc :: tw) rm (Pre G M av) (PostL G Qc) 0 0 (gA G)) (hg : GoodIn tw (va_wsS own idx y (Cond.code y bytes maxL rc :: tw)))
    (hd2 : y.cls ≠ "java/lang/invoke/MethodHandle" ∧ y.cls ≠ "java/lang/invoke/VarHandle" ∧ (parseMethodDescriptor y.desc).map (fun d => d.parameters.length) = some av.length)
    (hrc : rm.cells = 0 ∧ rm.slots = 0) (hR : rm.frames + 1 ≤ R.frames ∧ 8 + (maxL + 11) + rm.locals ≤ R.locals)
    (hst : st = av.reverse ++ rest) (hw : (rest.map fun v => v.category).sum ≤ 8) (hd : decode cc pc = .ok (.invokestatic idx, 3)) (k : ∀ (z : Int64) (M2 : Mm), Qc z M2 → Wt p l e R s m args below meth c G Qf nL M2 lv (pc + 3) (.long z :: rest)) : Wt p l e R s m args below meth c G Qf nL M lv pc st :=
  fun H locs ls hP hS hl => va_calll (r_S X hM hg hd2 hrc hR hst hw hd hP hS hl) hS (fun q _ h => h) (fun q h => h) (fun r u t H1 locs1 ht hvm hw1 hB hz1 hk1 hS1 => k r u hw1 H1 locs1 ls (by rw [← ht]; exact hB) hS1 hl)
theorem xt_cVR (X : Cx p s m args meth c cc nL ret own G) {y : MethodName} {bytes : ByteArray} {maxL idx ci N : Nat} {rc : Option FieldType} {rm : Room} {Cn : String} {T : u_T} {a : Int} {fs : List Value} (av rest : List Value) {Qc : Int → Mm → Prop}
    (hM : Met l y (Cond.code y bytes maxL rc :: tw) rm (Pre G M (rV a :: av)) (PostR G Qc) 0 0 (gA G)) (hg : GoodIn tw (wsV own idx Cn y (Cond.code y bytes maxL rc :: tw)))
    (hd2 : y.cls = Cn ∧ y.cls ≠ "java/lang/invoke/MethodHandle" ∧ y.cls ≠ "java/lang/invoke/VarHandle" ∧ (parseMethodDescriptor y.desc).map (fun d => d.parameters.length) = some av.length)
    (hrc : rm.cells = 0 ∧ rm.slots = 0) (hR : rm.frames + 1 ≤ R.frames ∧ 8 + (maxL + 11) + rm.locals ≤ R.locals) (hcl : vwCl[ci]? = some (Cn, T, N)) (hk : (gK G a).1 < 12) (he : cR (gC G) (gK G a) a (M a) = .inr (ci, fs))
    (hst : st = av.reverse ++ rV a :: rest) (hw : (rest.map fun v => v.category).sum ≤ 8) (hd : decode cc pc = .ok (.invokevirtual idx, 3)) (k : ∀ (z : Int) (M2 : Mm), Qc z M2 → Wt p l e R s m args below meth c G Qf nL M2 lv (pc + 3) (rV z :: rest)) : Wt p l e R s m args below meth c G Qf nL M lv pc st :=
  fun H locs ls hP hS hl => va_callr (r_V X hM hg hd2 hrc hR hcl hk he hst hw hd hP hS hl) hS (fun q _ h => h) (fun q h => h) (fun u ra t H1 locs1 ht hvm hw1 hB hz1 hk1 hS1 => by obtain ⟨rfl, hB⟩ := hB; exact k u.1 u.2 hw1 H1 locs1 ls (by rw [← ht]; exact hB) hS1 hl)
theorem xt_cSR (X : Cx p s m args meth c cc nL ret own G) {y : MethodName} {bytes : ByteArray} {maxL idx : Nat} {rc : Option FieldType} {rm : Room} (av rest : List Value) {Qc : Int → Mm → Prop}
    (hM : Met l y (Cond.code y bytes maxL rc :: tw) rm (Pre G M av) (PostR G Qc) 0 0 (gA G)) (hg : GoodIn tw (va_wsS own idx y (Cond.code y bytes maxL rc :: tw)))
    (hd2 : y.cls ≠ "java/lang/invoke/MethodHandle" ∧ y.cls ≠ "java/lang/invoke/VarHandle" ∧ (parseMethodDescriptor y.desc).map (fun d => d.parameters.length) = some av.length)
    (hrc : rm.cells = 0 ∧ rm.slots = 0) (hR : rm.frames + 1 ≤ R.frames ∧ 8 + (maxL + 11) + rm.locals ≤ R.locals)
    (hst : st = av.reverse ++ rest) (hw : (rest.map fun v => v.category).sum ≤ 8) (hd : decode cc pc = .ok (.invokestatic idx, 3)) (k : ∀ (z : Int) (M2 : Mm), Qc z M2 → Wt p l e R s m args below meth c G Qf nL M2 lv (pc + 3) (rV z :: rest)) : Wt p l e R s m args below meth c G Qf nL M lv pc st :=
  fun H locs ls hP hS hl => va_callr (r_S X hM hg hd2 hrc hR hst hw hd hP hS hl) hS (fun q _ h => h) (fun q h => h) (fun u ra t H1 locs1 ht hvm hw1 hB hz1 hk1 hS1 => by obtain ⟨rfl, hB⟩ := hB; exact k u.1 u.2 hw1 H1 locs1 ls (by rw [← ht]; exact hB) hS1 hl)
end ROWS
/-- a contract out of a walk -/
theorem met_of {l : Launch} {y : MethodName} {bytes : ByteArray} {maxL : Nat} {ret : Option FieldType} {rm : Room} {G : GG} {M : Mm} {av : List Value} {Qc : Array Value → State → Outcome → State → Prop} {own : String} (hy : plainName y.cls = true) (ho : y.cls = own) (hG : Gd G) (hav : (lg_sl av).length ≤ maxL)
    (body : ∀ (p : Program) (e : Env) (s : State) (m : MethodId) (below : List Frame) (meth : Method) (c : Code), Cx p s m av.toArray meth c bytes maxL ret own G → Wt p l e rm s m av.toArray below meth c G (MQ below Qc av.toArray s 0 0 (gA G)) maxL M (lv_args 0 av) 0 []) :
    Met l y (Cond.code y bytes maxL ret :: tw) rm (Pre G M av) Qc 0 0 (gA G) := by
  refine Met.ofW (cc := bytes) (maxL := maxL) (ret := ret) hy rfl ?_
  intro p e s m args below meth c s₁ B hml hv
  obtain ⟨rfl, hKn, hP⟩ := hv
  have hts := atoms_spec (ws := Cond.code y bytes maxL ret :: tw) B.pre
  have hown : s.vm.findClass own = some m.cls := by rw [← ho]; exact findClass_of_methodNamed B.named
  have X : Cx p s m av.toArray meth c bytes maxL ret own G := ⟨B.exec, B.bytes, hml, hown, fun w h => hts w (List.mem_cons_of_mem _ h), B.returns, B.notSynchronized, hKn, hG⟩
  have hl := lv_entry av (n := maxL) hav
  rw [lg_entry_eq]
  exact body p e s m below meth c X s.heap [] _ hP va_S.rf hl
end
section
theorem dy_put4 {K : Int → Nat × Nat} {M : Mm} (h : Dy K M) {a z : Int} (hz : K z = (2, 0)) : Dy K (um M a 4 (z - a)) := by
  intro b hb
  by_cases hba : b = a
  · subst hba
    rw [um_at]
    have e : b + ur (M b) 4 (z - b) 4 = z := by unfold ur; rw [if_pos rfl]; omega
    have e5 : ur (M b) 4 (z - b) 5 = M b 5 := by unfold ur; rw [if_neg (by decide)]
    rw [e, e5]
    exact ⟨hz, (h b hb).2⟩
  · rw [um_ne M _ _ hba]
    exact h b hb
theorem dy_put5 {K : Int → Nat × Nat} {M : Mm} (h : Dy K M) {a z : Int} (hz : K z = (2, 0)) : Dy K (um M a 5 (z - a)) := by
  intro b hb
  by_cases hba : b = a
  · subst hba
    rw [um_at]
    have e : b + ur (M b) 5 (z - b) 5 = z := by unfold ur; rw [if_pos rfl]; omega
    have e4 : ur (M b) 5 (z - b) 4 = M b 4 := by unfold ur; rw [if_neg (by decide)]
    rw [e, e4]
    exact ⟨(h b hb).1, hz⟩
  · rw [um_ne M _ _ hba]
    exact h b hb
section ACC
variable {p : Program} {l : Launch} {e : Env} {R : Room} {s : State} {m : MethodId} {args : Array Value} {below : List Frame} {meth : Method} {c : Code} {G : GG} {Qf : State → Prop} {nL : Nat} {M : Mm} {lv : List (Nat × Value)} {pc : Nat} {st : List Value} {cc : ByteArray} {ret : Option FieldType}
theorem gfX2_9 (X : Cx p s m args meth c cc nL ret RX2 G) {a : Int} (hk : gK G a = (2, 0)) (hd : decode cc pc = .ok (.getfield 9, 3)) (k : Wt p l e R s m args below meth c G Qf nL M lv (pc + 3) (rV (a + 1) :: st)) : Wt p l e R s m args below meth c G Qf nL M lv pc (rV a :: st) := xt_get X (ci := 2) (Cn := RX2) (T := TX2) (N := 13) (j := 1) (rf := "ElasticTabs$Layout") (fs := [iV (M a 0), rV (a + 1), rV (a + 2), rV (a + 3), rV (a + 4), rV (a + 5), rV (a + 6), rV (a + 7), iV (M a 8), rV (a + 8), rV (a + 9), rV (a + 10), rV (a + 11)]) rfl inX2 (k_lt hk (by decide)) (by rw [hk]; rfl) (by decide) flX2_9 rfl rfl hd (fun _ _ => k)
theorem gfX2_15 (X : Cx p s m args meth c cc nL ret RX2 G) {a : Int} (hk : gK G a = (2, 0)) (hd : decode cc pc = .ok (.getfield 15, 3)) (k : Wt p l e R s m args below meth c G Qf nL M lv (pc + 3) (rV (a + 2) :: st)) : Wt p l e R s m args below meth c G Qf nL M lv pc (rV a :: st) := xt_get X (ci := 2) (Cn := RX2) (T := TX2) (N := 13) (j := 2) (rf := "ElasticTabs$Layout") (fs := [iV (M a 0), rV (a + 1), rV (a + 2), rV (a + 3), rV (a + 4), rV (a + 5), rV (a + 6), rV (a + 7), iV (M a 8), rV (a + 8), rV (a + 9), rV (a + 10), rV (a + 11)]) rfl inX2 (k_lt hk (by decide)) (by rw [hk]; rfl) (by decide) flX2_15 rfl rfl hd (fun _ _ => k)
theorem gfX2_18 (X : Cx p s m args meth c cc nL ret RX2 G) {a : Int} (hk : gK G a = (2, 0)) (hd : decode cc pc = .ok (.getfield 18, 3)) (k : Wt p l e R s m args below meth c G Qf nL M lv (pc + 3) (rV (a + 3) :: st)) : Wt p l e R s m args below meth c G Qf nL M lv pc (rV a :: st) := xt_get X (ci := 2) (Cn := RX2) (T := TX2) (N := 13) (j := 3) (rf := "ElasticTabs$Layout") (fs := [iV (M a 0), rV (a + 1), rV (a + 2), rV (a + 3), rV (a + 4), rV (a + 5), rV (a + 6), rV (a + 7), iV (M a 8), rV (a + 8), rV (a + 9), rV (a + 10), rV (a + 11)]) rfl inX2 (k_lt hk (by decide)) (by rw [hk]; rfl) (by decide) flX2_18 rfl rfl hd (fun _ _ => k)
theorem gfX2_21 (X : Cx p s m args meth c cc nL ret RX2 G) {a : Int} (hk : gK G a = (2, 0)) (hd : decode cc pc = .ok (.getfield 21, 3)) (k : Wt p l e R s m args below meth c G Qf nL M lv (pc + 3) (rV (a + 4) :: st)) : Wt p l e R s m args below meth c G Qf nL M lv pc (rV a :: st) := xt_get X (ci := 2) (Cn := RX2) (T := TX2) (N := 13) (j := 4) (rf := "ElasticTabs$Layout") (fs := [iV (M a 0), rV (a + 1), rV (a + 2), rV (a + 3), rV (a + 4), rV (a + 5), rV (a + 6), rV (a + 7), iV (M a 8), rV (a + 8), rV (a + 9), rV (a + 10), rV (a + 11)]) rfl inX2 (k_lt hk (by decide)) (by rw [hk]; rfl) (by decide) flX2_21 rfl rfl hd (fun _ _ => k)
theorem gfX2_24 (X : Cx p s m args meth c cc nL ret RX2 G) {a : Int} (hk : gK G a = (2, 0)) (hd : decode cc pc = .ok (.getfield 24, 3)) (k : Wt p l e R s m args below meth c G Qf nL M lv (pc + 3) (rV (a + 5) :: st)) : Wt p l e R s m args below meth c G Qf nL M lv pc (rV a :: st) := xt_get X (ci := 2) (Cn := RX2) (T := TX2) (N := 13) (j := 5) (rf := "ElasticTabs$Layout") (fs := [iV (M a 0), rV (a + 1), rV (a + 2), rV (a + 3), rV (a + 4), rV (a + 5), rV (a + 6), rV (a + 7), iV (M a 8), rV (a + 8), rV (a + 9), rV (a + 10), rV (a + 11)]) rfl inX2 (k_lt hk (by decide)) (by rw [hk]; rfl) (by decide) flX2_24 rfl rfl hd (fun _ _ => k)
theorem gfX2_27 (X : Cx p s m args meth c cc nL ret RX2 G) {a : Int} (hk : gK G a = (2, 0)) (hd : decode cc pc = .ok (.getfield 27, 3)) (k : Wt p l e R s m args below meth c G Qf nL M lv (pc + 3) (rV (a + 6) :: st)) : Wt p l e R s m args below meth c G Qf nL M lv pc (rV a :: st) := xt_get X (ci := 2) (Cn := RX2) (T := TX2) (N := 13) (j := 6) (rf := "ElasticTabs$Layout") (fs := [iV (M a 0), rV (a + 1), rV (a + 2), rV (a + 3), rV (a + 4), rV (a + 5), rV (a + 6), rV (a + 7), iV (M a 8), rV (a + 8), rV (a + 9), rV (a + 10), rV (a + 11)]) rfl inX2 (k_lt hk (by decide)) (by rw [hk]; rfl) (by decide) flX2_27 rfl rfl hd (fun _ _ => k)
theorem gfX2_30 (X : Cx p s m args meth c cc nL ret RX2 G) {a : Int} (hk : gK G a = (2, 0)) (hd : decode cc pc = .ok (.getfield 30, 3)) (k : Wt p l e R s m args below meth c G Qf nL M lv (pc + 3) (rV (a + 7) :: st)) : Wt p l e R s m args below meth c G Qf nL M lv pc (rV a :: st) := xt_get X (ci := 2) (Cn := RX2) (T := TX2) (N := 13) (j := 7) (rf := "ElasticTabs$Layout") (fs := [iV (M a 0), rV (a + 1), rV (a + 2), rV (a + 3), rV (a + 4), rV (a + 5), rV (a + 6), rV (a + 7), iV (M a 8), rV (a + 8), rV (a + 9), rV (a + 10), rV (a + 11)]) rfl inX2 (k_lt hk (by decide)) (by rw [hk]; rfl) (by decide) flX2_30 rfl rfl hd (fun _ _ => k)
theorem gfX2_36 (X : Cx p s m args meth c cc nL ret RX2 G) {a : Int} (hk : gK G a = (2, 0)) (hd : decode cc pc = .ok (.getfield 36, 3)) (k : Wt p l e R s m args below meth c G Qf nL M lv (pc + 3) (rV (a + 8) :: st)) : Wt p l e R s m args below meth c G Qf nL M lv pc (rV a :: st) := xt_get X (ci := 2) (Cn := RX2) (T := TX2) (N := 13) (j := 9) (rf := "ElasticTabs$Layout") (fs := [iV (M a 0), rV (a + 1), rV (a + 2), rV (a + 3), rV (a + 4), rV (a + 5), rV (a + 6), rV (a + 7), iV (M a 8), rV (a + 8), rV (a + 9), rV (a + 10), rV (a + 11)]) rfl inX2 (k_lt hk (by decide)) (by rw [hk]; rfl) (by decide) flX2_36 rfl rfl hd (fun _ _ => k)
theorem gfX2_40 (X : Cx p s m args meth c cc nL ret RX2 G) {a : Int} (hk : gK G a = (2, 0)) (hd : decode cc pc = .ok (.getfield 40, 3)) (k : Wt p l e R s m args below meth c G Qf nL M lv (pc + 3) (rV (a + 9) :: st)) : Wt p l e R s m args below meth c G Qf nL M lv pc (rV a :: st) := xt_get X (ci := 2) (Cn := RX2) (T := TX2) (N := 13) (j := 10) (rf := "ElasticTabs$Layout") (fs := [iV (M a 0), rV (a + 1), rV (a + 2), rV (a + 3), rV (a + 4), rV (a + 5), rV (a + 6), rV (a + 7), iV (M a 8), rV (a + 8), rV (a + 9), rV (a + 10), rV (a + 11)]) rfl inX2 (k_lt hk (by decide)) (by rw [hk]; rfl) (by decide) flX2_40 rfl rfl hd (fun _ _ => k)
theorem gfX2_43 (X : Cx p s m args meth c cc nL ret RX2 G) {a : Int} (hk : gK G a = (2, 0)) (hd : decode cc pc = .ok (.getfield 43, 3)) (k : Wt p l e R s m args below meth c G Qf nL M lv (pc + 3) (rV (a + 10) :: st)) : Wt p l e R s m args below meth c G Qf nL M lv pc (rV a :: st) := xt_get X (ci := 2) (Cn := RX2) (T := TX2) (N := 13) (j := 11) (rf := "ElasticTabs$Layout") (fs := [iV (M a 0), rV (a + 1), rV (a + 2), rV (a + 3), rV (a + 4), rV (a + 5), rV (a + 6), rV (a + 7), iV (M a 8), rV (a + 8), rV (a + 9), rV (a + 10), rV (a + 11)]) rfl inX2 (k_lt hk (by decide)) (by rw [hk]; rfl) (by decide) flX2_43 rfl rfl hd (fun _ _ => k)
theorem gfX2_46 (X : Cx p s m args meth c cc nL ret RX2 G) {a : Int} (hk : gK G a = (2, 0)) (hd : decode cc pc = .ok (.getfield 46, 3)) (k : Wt p l e R s m args below meth c G Qf nL M lv (pc + 3) (rV (a + 11) :: st)) : Wt p l e R s m args below meth c G Qf nL M lv pc (rV a :: st) := xt_get X (ci := 2) (Cn := RX2) (T := TX2) (N := 13) (j := 12) (rf := "ElasticTabs$Layout") (fs := [iV (M a 0), rV (a + 1), rV (a + 2), rV (a + 3), rV (a + 4), rV (a + 5), rV (a + 6), rV (a + 7), iV (M a 8), rV (a + 8), rV (a + 9), rV (a + 10), rV (a + 11)]) rfl inX2 (k_lt hk (by decide)) (by rw [hk]; rfl) (by decide) flX2_46 rfl rfl hd (fun _ _ => k)
theorem gfX2_49 (X : Cx p s m args meth c cc nL ret RX2 G) {a : Int} (hk : gK G a = (3, 0)) (hd : decode cc pc = .ok (.getfield 49, 3)) (k : inR (M a 0) → Wt p l e R s m args below meth c G Qf nL M lv (pc + 3) (iV (M a 0) :: st)) : Wt p l e R s m args below meth c G Qf nL M lv pc (rV a :: st) := xt_get X (ci := 3) (Cn := RX3) (T := TX3) (N := 6) (j := 0) (rf := "ElasticTabs$Page") (fs := [iV (M a 0), iV (M a 1), iV (M a 2), rV (a + 1), rV (a + 2), rV (a + 3)]) rfl inX3 (k_lt hk (by decide)) (by rw [hk]; rfl) (by decide) flX2_49 rfl rfl hd (fun h _ => k (h a 0))
theorem gfX2_55 (X : Cx p s m args meth c cc nL ret RX2 G) {a : Int} (hk : gK G a = (2, 0)) (hd : decode cc pc = .ok (.getfield 55, 3)) (k : inR (M a 8) → Wt p l e R s m args below meth c G Qf nL M lv (pc + 3) (iV (M a 8) :: st)) : Wt p l e R s m args below meth c G Qf nL M lv pc (rV a :: st) := xt_get X (ci := 2) (Cn := RX2) (T := TX2) (N := 13) (j := 8) (rf := "ElasticTabs$Layout") (fs := [iV (M a 0), rV (a + 1), rV (a + 2), rV (a + 3), rV (a + 4), rV (a + 5), rV (a + 6), rV (a + 7), iV (M a 8), rV (a + 8), rV (a + 9), rV (a + 10), rV (a + 11)]) rfl inX2 (k_lt hk (by decide)) (by rw [hk]; rfl) (by decide) flX2_55 rfl rfl hd (fun h _ => k (h a 8))
theorem gfX2_60 (X : Cx p s m args meth c cc nL ret RX2 G) {a : Int} (hk : gK G a = (2, 0)) (hd : decode cc pc = .ok (.getfield 60, 3)) (k : inR (M a 0) → Wt p l e R s m args below meth c G Qf nL M lv (pc + 3) (iV (M a 0) :: st)) : Wt p l e R s m args below meth c G Qf nL M lv pc (rV a :: st) := xt_get X (ci := 2) (Cn := RX2) (T := TX2) (N := 13) (j := 0) (rf := "ElasticTabs$Layout") (fs := [iV (M a 0), rV (a + 1), rV (a + 2), rV (a + 3), rV (a + 4), rV (a + 5), rV (a + 6), rV (a + 7), iV (M a 8), rV (a + 8), rV (a + 9), rV (a + 10), rV (a + 11)]) rfl inX2 (k_lt hk (by decide)) (by rw [hk]; rfl) (by decide) flX2_60 rfl rfl hd (fun h _ => k (h a 0))
theorem gfX2_74 (X : Cx p s m args meth c cc nL ret RX2 G) {a : Int} (hk : gK G a = (3, 0)) (hd : decode cc pc = .ok (.getfield 74, 3)) (k : Wt p l e R s m args below meth c G Qf nL M lv (pc + 3) (rV (a + 1) :: st)) : Wt p l e R s m args below meth c G Qf nL M lv pc (rV a :: st) := xt_get X (ci := 3) (Cn := RX3) (T := TX3) (N := 6) (j := 3) (rf := "ElasticTabs$Page") (fs := [iV (M a 0), iV (M a 1), iV (M a 2), rV (a + 1), rV (a + 2), rV (a + 3)]) rfl inX3 (k_lt hk (by decide)) (by rw [hk]; rfl) (by decide) flX2_74 rfl rfl hd (fun _ _ => k)
theorem gfX2_79 (X : Cx p s m args meth c cc nL ret RX2 G) {a : Int} (hk : gK G a = (0, 0)) (hd : decode cc pc = .ok (.getfield 79, 3)) (k : inR (M a 0) → Wt p l e R s m args below meth c G Qf nL M lv (pc + 3) (iV (M a 0) :: st)) : Wt p l e R s m args below meth c G Qf nL M lv pc (rV a :: st) := xt_get X (ci := 0) (Cn := RX0) (T := TX0) (N := 5) (j := 0) (rf := "ElasticTabs$Block") (fs := [iV (M a 0), iV (M a 1), iV (M a 2), iV (M a 3), iV (M a 4)]) rfl inX0 (k_lt hk (by decide)) (by rw [hk]; rfl) (by decide) flX2_79 rfl rfl hd (fun h _ => k (h a 0))
theorem gfX2_82 (X : Cx p s m args meth c cc nL ret RX2 G) {a : Int} (hk : gK G a = (0, 0)) (hd : decode cc pc = .ok (.getfield 82, 3)) (k : inR (M a 1) → Wt p l e R s m args below meth c G Qf nL M lv (pc + 3) (iV (M a 1) :: st)) : Wt p l e R s m args below meth c G Qf nL M lv pc (rV a :: st) := xt_get X (ci := 0) (Cn := RX0) (T := TX0) (N := 5) (j := 1) (rf := "ElasticTabs$Block") (fs := [iV (M a 0), iV (M a 1), iV (M a 2), iV (M a 3), iV (M a 4)]) rfl inX0 (k_lt hk (by decide)) (by rw [hk]; rfl) (by decide) flX2_82 rfl rfl hd (fun h _ => k (h a 1))
theorem gfX2_85 (X : Cx p s m args meth c cc nL ret RX2 G) {a : Int} (hk : gK G a = (0, 0)) (hd : decode cc pc = .ok (.getfield 85, 3)) (k : inR (M a 4) → Wt p l e R s m args below meth c G Qf nL M lv (pc + 3) (iV (M a 4) :: st)) : Wt p l e R s m args below meth c G Qf nL M lv pc (rV a :: st) := xt_get X (ci := 0) (Cn := RX0) (T := TX0) (N := 5) (j := 4) (rf := "ElasticTabs$Block") (fs := [iV (M a 0), iV (M a 1), iV (M a 2), iV (M a 3), iV (M a 4)]) rfl inX0 (k_lt hk (by decide)) (by rw [hk]; rfl) (by decide) flX2_85 rfl rfl hd (fun h _ => k (h a 4))
theorem gfX2_88 (X : Cx p s m args meth c cc nL ret RX2 G) {a : Int} (hk : gK G a = (0, 0)) (hd : decode cc pc = .ok (.getfield 88, 3)) (k : inR (M a 2) → Wt p l e R s m args below meth c G Qf nL M lv (pc + 3) (iV (M a 2) :: st)) : Wt p l e R s m args below meth c G Qf nL M lv pc (rV a :: st) := xt_get X (ci := 0) (Cn := RX0) (T := TX0) (N := 5) (j := 2) (rf := "ElasticTabs$Block") (fs := [iV (M a 0), iV (M a 1), iV (M a 2), iV (M a 3), iV (M a 4)]) rfl inX0 (k_lt hk (by decide)) (by rw [hk]; rfl) (by decide) flX2_88 rfl rfl hd (fun h _ => k (h a 2))
theorem gfX2_105 (X : Cx p s m args meth c cc nL ret RX2 G) {a : Int} (hk : gK G a = (3, 0)) (hd : decode cc pc = .ok (.getfield 105, 3)) (k : Wt p l e R s m args below meth c G Qf nL M lv (pc + 3) (rV (a + 3) :: st)) : Wt p l e R s m args below meth c G Qf nL M lv pc (rV a :: st) := xt_get X (ci := 3) (Cn := RX3) (T := TX3) (N := 6) (j := 5) (rf := "ElasticTabs$Page") (fs := [iV (M a 0), iV (M a 1), iV (M a 2), rV (a + 1), rV (a + 2), rV (a + 3)]) rfl inX3 (k_lt hk (by decide)) (by rw [hk]; rfl) (by decide) flX2_105 rfl rfl hd (fun _ _ => k)
theorem gfX2_108 (X : Cx p s m args meth c cc nL ret RX2 G) {a : Int} (hk : gK G a = (0, 0)) (hd : decode cc pc = .ok (.getfield 108, 3)) (k : inR (M a 3) → Wt p l e R s m args below meth c G Qf nL M lv (pc + 3) (iV (M a 3) :: st)) : Wt p l e R s m args below meth c G Qf nL M lv pc (rV a :: st) := xt_get X (ci := 0) (Cn := RX0) (T := TX0) (N := 5) (j := 3) (rf := "ElasticTabs$Block") (fs := [iV (M a 0), iV (M a 1), iV (M a 2), iV (M a 3), iV (M a 4)]) rfl inX0 (k_lt hk (by decide)) (by rw [hk]; rfl) (by decide) flX2_108 rfl rfl hd (fun h _ => k (h a 3))
theorem gfX2_111 (X : Cx p s m args meth c cc nL ret RX2 G) {a : Int} (hk : gK G a = (3, 0)) (hd : decode cc pc = .ok (.getfield 111, 3)) (k : inR (M a 2) → Wt p l e R s m args below meth c G Qf nL M lv (pc + 3) (iV (M a 2) :: st)) : Wt p l e R s m args below meth c G Qf nL M lv pc (rV a :: st) := xt_get X (ci := 3) (Cn := RX3) (T := TX3) (N := 6) (j := 2) (rf := "ElasticTabs$Page") (fs := [iV (M a 0), iV (M a 1), iV (M a 2), rV (a + 1), rV (a + 2), rV (a + 3)]) rfl inX3 (k_lt hk (by decide)) (by rw [hk]; rfl) (by decide) flX2_111 rfl rfl hd (fun h _ => k (h a 2))
theorem gfX2_114 (X : Cx p s m args meth c cc nL ret RX2 G) {a : Int} (hk : gK G a = (3, 0)) (hd : decode cc pc = .ok (.getfield 114, 3)) (k : inR (M a 1) → Wt p l e R s m args below meth c G Qf nL M lv (pc + 3) (iV (M a 1) :: st)) : Wt p l e R s m args below meth c G Qf nL M lv pc (rV a :: st) := xt_get X (ci := 3) (Cn := RX3) (T := TX3) (N := 6) (j := 1) (rf := "ElasticTabs$Page") (fs := [iV (M a 0), iV (M a 1), iV (M a 2), rV (a + 1), rV (a + 2), rV (a + 3)]) rfl inX3 (k_lt hk (by decide)) (by rw [hk]; rfl) (by decide) flX2_114 rfl rfl hd (fun h _ => k (h a 1))
theorem pfX2_55 (X : Cx p s m args meth c cc nL ret RX2 G) {a x : Int} (hk : gK G a = (2, 0)) (gx : inR x) (hd : decode cc pc = .ok (.putfield 55, 3)) (k : ∀ M2 : Mm, M2 = um M a 8 x → Wt p l e R s m args below meth c G Qf nL M2 lv (pc + 3) st) : Wt p l e R s m args below meth c G Qf nL M lv pc (iV x :: rV a :: st) := xt_put X (ci := 2) (Cn := RX2) (T := TX2) (N := 13) (j := 8) (rf := "ElasticTabs$Layout") (fs := [iV (M a 0), rV (a + 1), rV (a + 2), rV (a + 3), rV (a + 4), rV (a + 5), rV (a + 6), rV (a + 7), iV (M a 8), rV (a + 8), rV (a + 9), rV (a + 10), rV (a + 11)]) (ty0 := tyX2) (v := iV x) (x := x) (ty := .int) rfl inX2 tyX2_ok nmX2 (k_lt hk (by decide)) (by rw [hk]; rfl) (by decide) flX2_55 rfl rfl (by decide +kernel) rfl rfl (Nat.le_of_ble_eq_true rfl) (by rw [hk]; rfl) (fun h => dy_row h (a := a) (by rw [hk]; decide) (fun b hb => um_ne M _ _ hb)) gx hd k
theorem pfX2_60 (X : Cx p s m args meth c cc nL ret RX2 G) {a x : Int} (hk : gK G a = (2, 0)) (gx : inR x) (hd : decode cc pc = .ok (.putfield 60, 3)) (k : ∀ M2 : Mm, M2 = um M a 0 x → Wt p l e R s m args below meth c G Qf nL M2 lv (pc + 3) st) : Wt p l e R s m args below meth c G Qf nL M lv pc (iV x :: rV a :: st) := xt_put X (ci := 2) (Cn := RX2) (T := TX2) (N := 13) (j := 0) (rf := "ElasticTabs$Layout") (fs := [iV (M a 0), rV (a + 1), rV (a + 2), rV (a + 3), rV (a + 4), rV (a + 5), rV (a + 6), rV (a + 7), iV (M a 8), rV (a + 8), rV (a + 9), rV (a + 10), rV (a + 11)]) (ty0 := tyX2) (v := iV x) (x := x) (ty := .int) rfl inX2 tyX2_ok nmX2 (k_lt hk (by decide)) (by rw [hk]; rfl) (by decide) flX2_60 rfl rfl (by decide +kernel) rfl rfl (Nat.le_of_ble_eq_true rfl) (by rw [hk]; rfl) (fun h => dy_row h (a := a) (by rw [hk]; decide) (fun b hb => um_ne M _ _ hb)) gx hd k
theorem pfX2_79 (X : Cx p s m args meth c cc nL ret RX2 G) {a x : Int} (hk : gK G a = (0, 0)) (gx : inR x) (hd : decode cc pc = .ok (.putfield 79, 3)) (k : ∀ M2 : Mm, M2 = um M a 0 x → Wt p l e R s m args below meth c G Qf nL M2 lv (pc + 3) st) : Wt p l e R s m args below meth c G Qf nL M lv pc (iV x :: rV a :: st) := xt_put X (ci := 0) (Cn := RX0) (T := TX0) (N := 5) (j := 0) (rf := "ElasticTabs$Block") (fs := [iV (M a 0), iV (M a 1), iV (M a 2), iV (M a 3), iV (M a 4)]) (ty0 := tyX0) (v := iV x) (x := x) (ty := .int) rfl inX0 tyX0_ok nmX0 (k_lt hk (by decide)) (by rw [hk]; rfl) (by decide) flX2_79 rfl rfl (by decide +kernel) rfl rfl (Nat.le_of_ble_eq_true rfl) (by rw [hk]; rfl) (fun h => dy_row h (a := a) (by rw [hk]; decide) (fun b hb => um_ne M _ _ hb)) gx hd k
theorem pfX2_82 (X : Cx p s m args meth c cc nL ret RX2 G) {a x : Int} (hk : gK G a = (0, 0)) (gx : inR x) (hd : decode cc pc = .ok (.putfield 82, 3)) (k : ∀ M2 : Mm, M2 = um M a 1 x → Wt p l e R s m args below meth c G Qf nL M2 lv (pc + 3) st) : Wt p l e R s m args below meth c G Qf nL M lv pc (iV x :: rV a :: st) := xt_put X (ci := 0) (Cn := RX0) (T := TX0) (N := 5) (j := 1) (rf := "ElasticTabs$Block") (fs := [iV (M a 0), iV (M a 1), iV (M a 2), iV (M a 3), iV (M a 4)]) (ty0 := tyX0) (v := iV x) (x := x) (ty := .int) rfl inX0 tyX0_ok nmX0 (k_lt hk (by decide)) (by rw [hk]; rfl) (by decide) flX2_82 rfl rfl (by decide +kernel) rfl rfl (Nat.le_of_ble_eq_true rfl) (by rw [hk]; rfl) (fun h => dy_row h (a := a) (by rw [hk]; decide) (fun b hb => um_ne M _ _ hb)) gx hd k
theorem pfX2_85 (X : Cx p s m args meth c cc nL ret RX2 G) {a x : Int} (hk : gK G a = (0, 0)) (gx : inR x) (hd : decode cc pc = .ok (.putfield 85, 3)) (k : ∀ M2 : Mm, M2 = um M a 4 x → Wt p l e R s m args below meth c G Qf nL M2 lv (pc + 3) st) : Wt p l e R s m args below meth c G Qf nL M lv pc (iV x :: rV a :: st) := xt_put X (ci := 0) (Cn := RX0) (T := TX0) (N := 5) (j := 4) (rf := "ElasticTabs$Block") (fs := [iV (M a 0), iV (M a 1), iV (M a 2), iV (M a 3), iV (M a 4)]) (ty0 := tyX0) (v := iV x) (x := x) (ty := .int) rfl inX0 tyX0_ok nmX0 (k_lt hk (by decide)) (by rw [hk]; rfl) (by decide) flX2_85 rfl rfl (by decide +kernel) rfl rfl (Nat.le_of_ble_eq_true rfl) (by rw [hk]; rfl) (fun h => dy_row h (a := a) (by rw [hk]; decide) (fun b hb => um_ne M _ _ hb)) gx hd k
theorem pfX2_88 (X : Cx p s m args meth c cc nL ret RX2 G) {a x : Int} (hk : gK G a = (0, 0)) (gx : inR x) (hd : decode cc pc = .ok (.putfield 88, 3)) (k : ∀ M2 : Mm, M2 = um M a 2 x → Wt p l e R s m args below meth c G Qf nL M2 lv (pc + 3) st) : Wt p l e R s m args below meth c G Qf nL M lv pc (iV x :: rV a :: st) := xt_put X (ci := 0) (Cn := RX0) (T := TX0) (N := 5) (j := 2) (rf := "ElasticTabs$Block") (fs := [iV (M a 0), iV (M a 1), iV (M a 2), iV (M a 3), iV (M a 4)]) (ty0 := tyX0) (v := iV x) (x := x) (ty := .int) rfl inX0 tyX0_ok nmX0 (k_lt hk (by decide)) (by rw [hk]; rfl) (by decide) flX2_88 rfl rfl (by decide +kernel) rfl rfl (Nat.le_of_ble_eq_true rfl) (by rw [hk]; rfl) (fun h => dy_row h (a := a) (by rw [hk]; decide) (fun b hb => um_ne M _ _ hb)) gx hd k
theorem pfX2_108 (X : Cx p s m args meth c cc nL ret RX2 G) {a x : Int} (hk : gK G a = (0, 0)) (gx : inR x) (hd : decode cc pc = .ok (.putfield 108, 3)) (k : ∀ M2 : Mm, M2 = um M a 3 x → Wt p l e R s m args below meth c G Qf nL M2 lv (pc + 3) st) : Wt p l e R s m args below meth c G Qf nL M lv pc (iV x :: rV a :: st) := xt_put X (ci := 0) (Cn := RX0) (T := TX0) (N := 5) (j := 3) (rf := "ElasticTabs$Block") (fs := [iV (M a 0), iV (M a 1), iV (M a 2), iV (M a 3), iV (M a 4)]) (ty0 := tyX0) (v := iV x) (x := x) (ty := .int) rfl inX0 tyX0_ok nmX0 (k_lt hk (by decide)) (by rw [hk]; rfl) (by decide) flX2_108 rfl rfl (by decide +kernel) rfl rfl (Nat.le_of_ble_eq_true rfl) (by rw [hk]; rfl) (fun h => dy_row h (a := a) (by rw [hk]; decide) (fun b hb => um_ne M _ _ hb)) gx hd k
theorem gfX3_9 (X : Cx p s m args meth c cc nL ret RX3 G) {a : Int} (hk : gK G a = (3, 0)) (hd : decode cc pc = .ok (.getfield 9, 3)) (k : inR (M a 1) → Wt p l e R s m args below meth c G Qf nL M lv (pc + 3) (iV (M a 1) :: st)) : Wt p l e R s m args below meth c G Qf nL M lv pc (rV a :: st) := xt_get X (ci := 3) (Cn := RX3) (T := TX3) (N := 6) (j := 1) (rf := "ElasticTabs$Page") (fs := [iV (M a 0), iV (M a 1), iV (M a 2), rV (a + 1), rV (a + 2), rV (a + 3)]) rfl inX3 (k_lt hk (by decide)) (by rw [hk]; rfl) (by decide) flX3_9 rfl rfl hd (fun h _ => k (h a 1))
theorem gfX3_15 (X : Cx p s m args meth c cc nL ret RX3 G) {a : Int} (hk : gK G a = (3, 0)) (hd : decode cc pc = .ok (.getfield 15, 3)) (k : Wt p l e R s m args below meth c G Qf nL M lv (pc + 3) (rV (a + 1) :: st)) : Wt p l e R s m args below meth c G Qf nL M lv pc (rV a :: st) := xt_get X (ci := 3) (Cn := RX3) (T := TX3) (N := 6) (j := 3) (rf := "ElasticTabs$Page") (fs := [iV (M a 0), iV (M a 1), iV (M a 2), rV (a + 1), rV (a + 2), rV (a + 3)]) rfl inX3 (k_lt hk (by decide)) (by rw [hk]; rfl) (by decide) flX3_15 rfl rfl hd (fun _ _ => k)
theorem gfX3_19 (X : Cx p s m args meth c cc nL ret RX3 G) {a : Int} (hk : gK G a = (3, 0)) (hd : decode cc pc = .ok (.getfield 19, 3)) (k : Wt p l e R s m args below meth c G Qf nL M lv (pc + 3) (rV (a + 2) :: st)) : Wt p l e R s m args below meth c G Qf nL M lv pc (rV a :: st) := xt_get X (ci := 3) (Cn := RX3) (T := TX3) (N := 6) (j := 4) (rf := "ElasticTabs$Page") (fs := [iV (M a 0), iV (M a 1), iV (M a 2), rV (a + 1), rV (a + 2), rV (a + 3)]) rfl inX3 (k_lt hk (by decide)) (by rw [hk]; rfl) (by decide) flX3_19 rfl rfl hd (fun _ _ => k)
theorem gfX3_22 (X : Cx p s m args meth c cc nL ret RX3 G) {a : Int} (hk : gK G a = (3, 0)) (hd : decode cc pc = .ok (.getfield 22, 3)) (k : Wt p l e R s m args below meth c G Qf nL M lv (pc + 3) (rV (a + 3) :: st)) : Wt p l e R s m args below meth c G Qf nL M lv pc (rV a :: st) := xt_get X (ci := 3) (Cn := RX3) (T := TX3) (N := 6) (j := 5) (rf := "ElasticTabs$Page") (fs := [iV (M a 0), iV (M a 1), iV (M a 2), rV (a + 1), rV (a + 2), rV (a + 3)]) rfl inX3 (k_lt hk (by decide)) (by rw [hk]; rfl) (by decide) flX3_22 rfl rfl hd (fun _ _ => k)
theorem gfX3_25 (X : Cx p s m args meth c cc nL ret RX3 G) {a : Int} (hk : gK G a = (3, 0)) (hd : decode cc pc = .ok (.getfield 25, 3)) (k : inR (M a 0) → Wt p l e R s m args below meth c G Qf nL M lv (pc + 3) (iV (M a 0) :: st)) : Wt p l e R s m args below meth c G Qf nL M lv pc (rV a :: st) := xt_get X (ci := 3) (Cn := RX3) (T := TX3) (N := 6) (j := 0) (rf := "ElasticTabs$Page") (fs := [iV (M a 0), iV (M a 1), iV (M a 2), rV (a + 1), rV (a + 2), rV (a + 3)]) rfl inX3 (k_lt hk (by decide)) (by rw [hk]; rfl) (by decide) flX3_25 rfl rfl hd (fun h _ => k (h a 0))
theorem gfX3_28 (X : Cx p s m args meth c cc nL ret RX3 G) {a : Int} (hk : gK G a = (3, 0)) (hd : decode cc pc = .ok (.getfield 28, 3)) (k : inR (M a 2) → Wt p l e R s m args below meth c G Qf nL M lv (pc + 3) (iV (M a 2) :: st)) : Wt p l e R s m args below meth c G Qf nL M lv pc (rV a :: st) := xt_get X (ci := 3) (Cn := RX3) (T := TX3) (N := 6) (j := 2) (rf := "ElasticTabs$Page") (fs := [iV (M a 0), iV (M a 1), iV (M a 2), rV (a + 1), rV (a + 2), rV (a + 3)]) rfl inX3 (k_lt hk (by decide)) (by rw [hk]; rfl) (by decide) flX3_28 rfl rfl hd (fun h _ => k (h a 2))
theorem pfX3_9 (X : Cx p s m args meth c cc nL ret RX3 G) {a x : Int} (hk : gK G a = (3, 0)) (gx : inR x) (hd : decode cc pc = .ok (.putfield 9, 3)) (k : ∀ M2 : Mm, M2 = um M a 1 x → Wt p l e R s m args below meth c G Qf nL M2 lv (pc + 3) st) : Wt p l e R s m args below meth c G Qf nL M lv pc (iV x :: rV a :: st) := xt_put X (ci := 3) (Cn := RX3) (T := TX3) (N := 6) (j := 1) (rf := "ElasticTabs$Page") (fs := [iV (M a 0), iV (M a 1), iV (M a 2), rV (a + 1), rV (a + 2), rV (a + 3)]) (ty0 := tyX3) (v := iV x) (x := x) (ty := .int) rfl inX3 tyX3_ok nmX3 (k_lt hk (by decide)) (by rw [hk]; rfl) (by decide) flX3_9 rfl rfl (by decide +kernel) rfl rfl (Nat.le_of_ble_eq_true rfl) (by rw [hk]; rfl) (fun h => dy_row h (a := a) (by rw [hk]; decide) (fun b hb => um_ne M _ _ hb)) gx hd k
theorem pfX3_25 (X : Cx p s m args meth c cc nL ret RX3 G) {a x : Int} (hk : gK G a = (3, 0)) (gx : inR x) (hd : decode cc pc = .ok (.putfield 25, 3)) (k : ∀ M2 : Mm, M2 = um M a 0 x → Wt p l e R s m args below meth c G Qf nL M2 lv (pc + 3) st) : Wt p l e R s m args below meth c G Qf nL M lv pc (iV x :: rV a :: st) := xt_put X (ci := 3) (Cn := RX3) (T := TX3) (N := 6) (j := 0) (rf := "ElasticTabs$Page") (fs := [iV (M a 0), iV (M a 1), iV (M a 2), rV (a + 1), rV (a + 2), rV (a + 3)]) (ty0 := tyX3) (v := iV x) (x := x) (ty := .int) rfl inX3 tyX3_ok nmX3 (k_lt hk (by decide)) (by rw [hk]; rfl) (by decide) flX3_25 rfl rfl (by decide +kernel) rfl rfl (Nat.le_of_ble_eq_true rfl) (by rw [hk]; rfl) (fun h => dy_row h (a := a) (by rw [hk]; decide) (fun b hb => um_ne M _ _ hb)) gx hd k
theorem pfX3_28 (X : Cx p s m args meth c cc nL ret RX3 G) {a x : Int} (hk : gK G a = (3, 0)) (gx : inR x) (hd : decode cc pc = .ok (.putfield 28, 3)) (k : ∀ M2 : Mm, M2 = um M a 2 x → Wt p l e R s m args below meth c G Qf nL M2 lv (pc + 3) st) : Wt p l e R s m args below meth c G Qf nL M lv pc (iV x :: rV a :: st) := xt_put X (ci := 3) (Cn := RX3) (T := TX3) (N := 6) (j := 2) (rf := "ElasticTabs$Page") (fs := [iV (M a 0), iV (M a 1), iV (M a 2), rV (a + 1), rV (a + 2), rV (a + 3)]) (ty0 := tyX3) (v := iV x) (x := x) (ty := .int) rfl inX3 tyX3_ok nmX3 (k_lt hk (by decide)) (by rw [hk]; rfl) (by decide) flX3_28 rfl rfl (by decide +kernel) rfl rfl (Nat.le_of_ble_eq_true rfl) (by rw [hk]; rfl) (fun h => dy_row h (a := a) (by rw [hk]; decide) (fun b hb => um_ne M _ _ hb)) gx hd k
theorem gfX4_11 (X : Cx p s m args meth c cc nL ret RX4 G) {a : Int} (hk : gK G a = (4, 0)) (hd : decode cc pc = .ok (.getfield 11, 3)) (k : Wt p l e R s m args below meth c G Qf nL M lv (pc + 3) (rV (a + 1) :: st)) : Wt p l e R s m args below meth c G Qf nL M lv pc (rV a :: st) := xt_get X (ci := 4) (Cn := RX4) (T := TX4) (N := 3) (j := 2) (rf := "ElasticTabs$Past") (fs := [iV (M a 0), iV (M a 1), rV (a + 1)]) rfl inX4 (k_lt hk (by decide)) (by rw [hk]; rfl) (by decide) flX4_11 rfl rfl hd (fun _ _ => k)
theorem gfX4_18 (X : Cx p s m args meth c cc nL ret RX4 G) {a : Int} (hk : gK G a = (4, 0)) (hd : decode cc pc = .ok (.getfield 18, 3)) (k : inR (M a 1) → Wt p l e R s m args below meth c G Qf nL M lv (pc + 3) (iV (M a 1) :: st)) : Wt p l e R s m args below meth c G Qf nL M lv pc (rV a :: st) := xt_get X (ci := 4) (Cn := RX4) (T := TX4) (N := 3) (j := 1) (rf := "ElasticTabs$Past") (fs := [iV (M a 0), iV (M a 1), rV (a + 1)]) rfl inX4 (k_lt hk (by decide)) (by rw [hk]; rfl) (by decide) flX4_18 rfl rfl hd (fun h _ => k (h a 1))
theorem gfX4_22 (X : Cx p s m args meth c cc nL ret RX4 G) {a : Int} (hk : gK G a = (4, 0)) (hd : decode cc pc = .ok (.getfield 22, 3)) (k : inR (M a 0) → Wt p l e R s m args below meth c G Qf nL M lv (pc + 3) (iV (M a 0) :: st)) : Wt p l e R s m args below meth c G Qf nL M lv pc (rV a :: st) := xt_get X (ci := 4) (Cn := RX4) (T := TX4) (N := 3) (j := 0) (rf := "ElasticTabs$Past") (fs := [iV (M a 0), iV (M a 1), rV (a + 1)]) rfl inX4 (k_lt hk (by decide)) (by rw [hk]; rfl) (by decide) flX4_22 rfl rfl hd (fun h _ => k (h a 0))
theorem pfX4_18 (X : Cx p s m args meth c cc nL ret RX4 G) {a x : Int} (hk : gK G a = (4, 0)) (gx : inR x) (hd : decode cc pc = .ok (.putfield 18, 3)) (k : ∀ M2 : Mm, M2 = um M a 1 x → Wt p l e R s m args below meth c G Qf nL M2 lv (pc + 3) st) : Wt p l e R s m args below meth c G Qf nL M lv pc (iV x :: rV a :: st) := xt_put X (ci := 4) (Cn := RX4) (T := TX4) (N := 3) (j := 1) (rf := "ElasticTabs$Past") (fs := [iV (M a 0), iV (M a 1), rV (a + 1)]) (ty0 := tyX4) (v := iV x) (x := x) (ty := .int) rfl inX4 tyX4_ok nmX4 (k_lt hk (by decide)) (by rw [hk]; rfl) (by decide) flX4_18 rfl rfl (by decide +kernel) rfl rfl (Nat.le_of_ble_eq_true rfl) (by rw [hk]; rfl) (fun h => dy_row h (a := a) (by rw [hk]; decide) (fun b hb => um_ne M _ _ hb)) gx hd k
theorem pfX4_22 (X : Cx p s m args meth c cc nL ret RX4 G) {a x : Int} (hk : gK G a = (4, 0)) (gx : inR x) (hd : decode cc pc = .ok (.putfield 22, 3)) (k : ∀ M2 : Mm, M2 = um M a 0 x → Wt p l e R s m args below meth c G Qf nL M2 lv (pc + 3) st) : Wt p l e R s m args below meth c G Qf nL M lv pc (iV x :: rV a :: st) := xt_put X (ci := 4) (Cn := RX4) (T := TX4) (N := 3) (j := 0) (rf := "ElasticTabs$Past") (fs := [iV (M a 0), iV (M a 1), rV (a + 1)]) (ty0 := tyX4) (v := iV x) (x := x) (ty := .int) rfl inX4 tyX4_ok nmX4 (k_lt hk (by decide)) (by rw [hk]; rfl) (by decide) flX4_22 rfl rfl (by decide +kernel) rfl rfl (Nat.le_of_ble_eq_true rfl) (by rw [hk]; rfl) (fun h => dy_row h (a := a) (by rw [hk]; decide) (fun b hb => um_ne M _ _ hb)) gx hd k
theorem gfX5_9 (X : Cx p s m args meth c cc nL ret RX5 G) {a : Int} (hk : gK G a = (5, 0)) (hd : decode cc pc = .ok (.getfield 9, 3)) (k : Wt p l e R s m args below meth c G Qf nL M lv (pc + 3) (rV (a + 1) :: st)) : Wt p l e R s m args below meth c G Qf nL M lv pc (rV a :: st) := xt_get X (ci := 5) (Cn := RX5) (T := TX5) (N := 9) (j := 0) (rf := "ElasticTabs$Script") (fs := [rV (a + 1), iV (M a 1), iV (M a 2), iV (M a 3), iV (M a 4), iV (M a 5), iV (M a 6), iV (M a 7), iV (M a 8)]) rfl inX5 (k_lt hk (by decide)) (by rw [hk]; rfl) (by decide) flX5_9 rfl rfl hd (fun _ _ => k)
theorem gfX5_15 (X : Cx p s m args meth c cc nL ret RX5 G) {a : Int} (hk : gK G a = (5, 0)) (hd : decode cc pc = .ok (.getfield 15, 3)) (k : inR (M a 7) → Wt p l e R s m args below meth c G Qf nL M lv (pc + 3) (iV (M a 7) :: st)) : Wt p l e R s m args below meth c G Qf nL M lv pc (rV a :: st) := xt_get X (ci := 5) (Cn := RX5) (T := TX5) (N := 9) (j := 7) (rf := "ElasticTabs$Script") (fs := [rV (a + 1), iV (M a 1), iV (M a 2), iV (M a 3), iV (M a 4), iV (M a 5), iV (M a 6), iV (M a 7), iV (M a 8)]) rfl inX5 (k_lt hk (by decide)) (by rw [hk]; rfl) (by decide) flX5_15 rfl rfl hd (fun h _ => k (h a 7))
theorem gfX5_19 (X : Cx p s m args meth c cc nL ret RX5 G) {a : Int} (hk : gK G a = (5, 0)) (hd : decode cc pc = .ok (.getfield 19, 3)) (k : inR (M a 8) → Wt p l e R s m args below meth c G Qf nL M lv (pc + 3) (iV (M a 8) :: st)) : Wt p l e R s m args below meth c G Qf nL M lv pc (rV a :: st) := xt_get X (ci := 5) (Cn := RX5) (T := TX5) (N := 9) (j := 8) (rf := "ElasticTabs$Script") (fs := [rV (a + 1), iV (M a 1), iV (M a 2), iV (M a 3), iV (M a 4), iV (M a 5), iV (M a 6), iV (M a 7), iV (M a 8)]) rfl inX5 (k_lt hk (by decide)) (by rw [hk]; rfl) (by decide) flX5_19 rfl rfl hd (fun h _ => k (h a 8))
theorem gfX5_32 (X : Cx p s m args meth c cc nL ret RX5 G) {a : Int} (hk : gK G a = (5, 0)) (hd : decode cc pc = .ok (.getfield 32, 3)) (k : inR (M a 1) → Wt p l e R s m args below meth c G Qf nL M lv (pc + 3) (iV (M a 1) :: st)) : Wt p l e R s m args below meth c G Qf nL M lv pc (rV a :: st) := xt_get X (ci := 5) (Cn := RX5) (T := TX5) (N := 9) (j := 1) (rf := "ElasticTabs$Script") (fs := [rV (a + 1), iV (M a 1), iV (M a 2), iV (M a 3), iV (M a 4), iV (M a 5), iV (M a 6), iV (M a 7), iV (M a 8)]) rfl inX5 (k_lt hk (by decide)) (by rw [hk]; rfl) (by decide) flX5_32 rfl rfl hd (fun h _ => k (h a 1))
theorem gfX5_42 (X : Cx p s m args meth c cc nL ret RX5 G) {a : Int} (hk : gK G a = (5, 0)) (hd : decode cc pc = .ok (.getfield 42, 3)) (k : inR (M a 2) → Wt p l e R s m args below meth c G Qf nL M lv (pc + 3) (iV (M a 2) :: st)) : Wt p l e R s m args below meth c G Qf nL M lv pc (rV a :: st) := xt_get X (ci := 5) (Cn := RX5) (T := TX5) (N := 9) (j := 2) (rf := "ElasticTabs$Script") (fs := [rV (a + 1), iV (M a 1), iV (M a 2), iV (M a 3), iV (M a 4), iV (M a 5), iV (M a 6), iV (M a 7), iV (M a 8)]) rfl inX5 (k_lt hk (by decide)) (by rw [hk]; rfl) (by decide) flX5_42 rfl rfl hd (fun h _ => k (h a 2))
theorem gfX5_45 (X : Cx p s m args meth c cc nL ret RX5 G) {a : Int} (hk : gK G a = (5, 0)) (hd : decode cc pc = .ok (.getfield 45, 3)) (k : inR (M a 5) → Wt p l e R s m args below meth c G Qf nL M lv (pc + 3) (iV (M a 5) :: st)) : Wt p l e R s m args below meth c G Qf nL M lv pc (rV a :: st) := xt_get X (ci := 5) (Cn := RX5) (T := TX5) (N := 9) (j := 5) (rf := "ElasticTabs$Script") (fs := [rV (a + 1), iV (M a 1), iV (M a 2), iV (M a 3), iV (M a 4), iV (M a 5), iV (M a 6), iV (M a 7), iV (M a 8)]) rfl inX5 (k_lt hk (by decide)) (by rw [hk]; rfl) (by decide) flX5_45 rfl rfl hd (fun h _ => k (h a 5))
theorem gfX5_75 (X : Cx p s m args meth c cc nL ret RX5 G) {a : Int} (hk : gK G a = (5, 0)) (hd : decode cc pc = .ok (.getfield 75, 3)) (k : inR (M a 6) → Wt p l e R s m args below meth c G Qf nL M lv (pc + 3) (iV (M a 6) :: st)) : Wt p l e R s m args below meth c G Qf nL M lv pc (rV a :: st) := xt_get X (ci := 5) (Cn := RX5) (T := TX5) (N := 9) (j := 6) (rf := "ElasticTabs$Script") (fs := [rV (a + 1), iV (M a 1), iV (M a 2), iV (M a 3), iV (M a 4), iV (M a 5), iV (M a 6), iV (M a 7), iV (M a 8)]) rfl inX5 (k_lt hk (by decide)) (by rw [hk]; rfl) (by decide) flX5_75 rfl rfl hd (fun h _ => k (h a 6))
theorem pfX5_15 (X : Cx p s m args meth c cc nL ret RX5 G) {a x : Int} (hk : gK G a = (5, 0)) (gx : inR x) (hd : decode cc pc = .ok (.putfield 15, 3)) (k : ∀ M2 : Mm, M2 = um M a 7 x → Wt p l e R s m args below meth c G Qf nL M2 lv (pc + 3) st) : Wt p l e R s m args below meth c G Qf nL M lv pc (iV x :: rV a :: st) := xt_put X (ci := 5) (Cn := RX5) (T := TX5) (N := 9) (j := 7) (rf := "ElasticTabs$Script") (fs := [rV (a + 1), iV (M a 1), iV (M a 2), iV (M a 3), iV (M a 4), iV (M a 5), iV (M a 6), iV (M a 7), iV (M a 8)]) (ty0 := tyX5) (v := iV x) (x := x) (ty := .int) rfl inX5 tyX5_ok nmX5 (k_lt hk (by decide)) (by rw [hk]; rfl) (by decide) flX5_15 rfl rfl (by decide +kernel) rfl rfl (Nat.le_of_ble_eq_true rfl) (by rw [hk]; rfl) (fun h => dy_row h (a := a) (by rw [hk]; decide) (fun b hb => um_ne M _ _ hb)) gx hd k
theorem pfX5_19 (X : Cx p s m args meth c cc nL ret RX5 G) {a x : Int} (hk : gK G a = (5, 0)) (gx : inR x) (hd : decode cc pc = .ok (.putfield 19, 3)) (k : ∀ M2 : Mm, M2 = um M a 8 x → Wt p l e R s m args below meth c G Qf nL M2 lv (pc + 3) st) : Wt p l e R s m args below meth c G Qf nL M lv pc (iV x :: rV a :: st) := xt_put X (ci := 5) (Cn := RX5) (T := TX5) (N := 9) (j := 8) (rf := "ElasticTabs$Script") (fs := [rV (a + 1), iV (M a 1), iV (M a 2), iV (M a 3), iV (M a 4), iV (M a 5), iV (M a 6), iV (M a 7), iV (M a 8)]) (ty0 := tyX5) (v := iV x) (x := x) (ty := .int) rfl inX5 tyX5_ok nmX5 (k_lt hk (by decide)) (by rw [hk]; rfl) (by decide) flX5_19 rfl rfl (by decide +kernel) rfl rfl (Nat.le_of_ble_eq_true rfl) (by rw [hk]; rfl) (fun h => dy_row h (a := a) (by rw [hk]; decide) (fun b hb => um_ne M _ _ hb)) gx hd k
theorem pfX5_42 (X : Cx p s m args meth c cc nL ret RX5 G) {a x : Int} (hk : gK G a = (5, 0)) (gx : inR x) (hd : decode cc pc = .ok (.putfield 42, 3)) (k : ∀ M2 : Mm, M2 = um M a 2 x → Wt p l e R s m args below meth c G Qf nL M2 lv (pc + 3) st) : Wt p l e R s m args below meth c G Qf nL M lv pc (iV x :: rV a :: st) := xt_put X (ci := 5) (Cn := RX5) (T := TX5) (N := 9) (j := 2) (rf := "ElasticTabs$Script") (fs := [rV (a + 1), iV (M a 1), iV (M a 2), iV (M a 3), iV (M a 4), iV (M a 5), iV (M a 6), iV (M a 7), iV (M a 8)]) (ty0 := tyX5) (v := iV x) (x := x) (ty := .int) rfl inX5 tyX5_ok nmX5 (k_lt hk (by decide)) (by rw [hk]; rfl) (by decide) flX5_42 rfl rfl (by decide +kernel) rfl rfl (Nat.le_of_ble_eq_true rfl) (by rw [hk]; rfl) (fun h => dy_row h (a := a) (by rw [hk]; decide) (fun b hb => um_ne M _ _ hb)) gx hd k
theorem pfX5_45 (X : Cx p s m args meth c cc nL ret RX5 G) {a x : Int} (hk : gK G a = (5, 0)) (gx : inR x) (hd : decode cc pc = .ok (.putfield 45, 3)) (k : ∀ M2 : Mm, M2 = um M a 5 x → Wt p l e R s m args below meth c G Qf nL M2 lv (pc + 3) st) : Wt p l e R s m args below meth c G Qf nL M lv pc (iV x :: rV a :: st) := xt_put X (ci := 5) (Cn := RX5) (T := TX5) (N := 9) (j := 5) (rf := "ElasticTabs$Script") (fs := [rV (a + 1), iV (M a 1), iV (M a 2), iV (M a 3), iV (M a 4), iV (M a 5), iV (M a 6), iV (M a 7), iV (M a 8)]) (ty0 := tyX5) (v := iV x) (x := x) (ty := .int) rfl inX5 tyX5_ok nmX5 (k_lt hk (by decide)) (by rw [hk]; rfl) (by decide) flX5_45 rfl rfl (by decide +kernel) rfl rfl (Nat.le_of_ble_eq_true rfl) (by rw [hk]; rfl) (fun h => dy_row h (a := a) (by rw [hk]; decide) (fun b hb => um_ne M _ _ hb)) gx hd k
theorem pfX5_75 (X : Cx p s m args meth c cc nL ret RX5 G) {a x : Int} (hk : gK G a = (5, 0)) (gx : inR x) (hd : decode cc pc = .ok (.putfield 75, 3)) (k : ∀ M2 : Mm, M2 = um M a 6 x → Wt p l e R s m args below meth c G Qf nL M2 lv (pc + 3) st) : Wt p l e R s m args below meth c G Qf nL M lv pc (iV x :: rV a :: st) := xt_put X (ci := 5) (Cn := RX5) (T := TX5) (N := 9) (j := 6) (rf := "ElasticTabs$Script") (fs := [rV (a + 1), iV (M a 1), iV (M a 2), iV (M a 3), iV (M a 4), iV (M a 5), iV (M a 6), iV (M a 7), iV (M a 8)]) (ty0 := tyX5) (v := iV x) (x := x) (ty := .int) rfl inX5 tyX5_ok nmX5 (k_lt hk (by decide)) (by rw [hk]; rfl) (by decide) flX5_75 rfl rfl (by decide +kernel) rfl rfl (Nat.le_of_ble_eq_true rfl) (by rw [hk]; rfl) (fun h => dy_row h (a := a) (by rw [hk]; decide) (fun b hb => um_ne M _ _ hb)) gx hd k
theorem pfX5_88 (X : Cx p s m args meth c cc nL ret RX5 G) {a x : Int} (hk : gK G a = (5, 0)) (gx : inR x) (hd : decode cc pc = .ok (.putfield 88, 3)) (k : ∀ M2 : Mm, M2 = um M a 3 x → Wt p l e R s m args below meth c G Qf nL M2 lv (pc + 3) st) : Wt p l e R s m args below meth c G Qf nL M lv pc (iV x :: rV a :: st) := xt_put X (ci := 5) (Cn := RX5) (T := TX5) (N := 9) (j := 3) (rf := "ElasticTabs$Script") (fs := [rV (a + 1), iV (M a 1), iV (M a 2), iV (M a 3), iV (M a 4), iV (M a 5), iV (M a 6), iV (M a 7), iV (M a 8)]) (ty0 := tyX5) (v := iV x) (x := x) (ty := .int) rfl inX5 tyX5_ok nmX5 (k_lt hk (by decide)) (by rw [hk]; rfl) (by decide) flX5_88 rfl rfl (by decide +kernel) rfl rfl (Nat.le_of_ble_eq_true rfl) (by rw [hk]; rfl) (fun h => dy_row h (a := a) (by rw [hk]; decide) (fun b hb => um_ne M _ _ hb)) gx hd k
theorem pfX5_91 (X : Cx p s m args meth c cc nL ret RX5 G) {a x : Int} (hk : gK G a = (5, 0)) (gx : inR x) (hd : decode cc pc = .ok (.putfield 91, 3)) (k : ∀ M2 : Mm, M2 = um M a 4 x → Wt p l e R s m args below meth c G Qf nL M2 lv (pc + 3) st) : Wt p l e R s m args below meth c G Qf nL M lv pc (iV x :: rV a :: st) := xt_put X (ci := 5) (Cn := RX5) (T := TX5) (N := 9) (j := 4) (rf := "ElasticTabs$Script") (fs := [rV (a + 1), iV (M a 1), iV (M a 2), iV (M a 3), iV (M a 4), iV (M a 5), iV (M a 6), iV (M a 7), iV (M a 8)]) (ty0 := tyX5) (v := iV x) (x := x) (ty := .int) rfl inX5 tyX5_ok nmX5 (k_lt hk (by decide)) (by rw [hk]; rfl) (by decide) flX5_91 rfl rfl (by decide +kernel) rfl rfl (Nat.le_of_ble_eq_true rfl) (by rw [hk]; rfl) (fun h => dy_row h (a := a) (by rw [hk]; decide) (fun b hb => um_ne M _ _ hb)) gx hd k
theorem gfX6_10 (X : Cx p s m args meth c cc nL ret RX6 G) {a : Int} (hk : gK G a = (6, 0)) (hd : decode cc pc = .ok (.getfield 10, 3)) (k : Wt p l e R s m args below meth c G Qf nL M lv (pc + 3) (rV (a + 1) :: st)) : Wt p l e R s m args below meth c G Qf nL M lv pc (rV a :: st) := xt_get X (ci := 6) (Cn := RX6) (T := TX6) (N := 7) (j := 0) (rf := "ElasticTabs") (fs := [rV (a + 1), rV (a + 5), rV (a + 47), rV (a + 49), rV (a + M a 4), rV (a + M a 5), iV (M a 6)]) rfl inX6 (k_lt hk (by decide)) (by rw [hk]; rfl) (by decide) flX6_10 rfl rfl hd (fun _ _ => k)
theorem gfX6_19 (X : Cx p s m args meth c cc nL ret RX6 G) {a : Int} (hk : gK G a = (6, 0)) (hd : decode cc pc = .ok (.getfield 19, 3)) (k : Wt p l e R s m args below meth c G Qf nL M lv (pc + 3) (rV (a + 5) :: st)) : Wt p l e R s m args below meth c G Qf nL M lv pc (rV a :: st) := xt_get X (ci := 6) (Cn := RX6) (T := TX6) (N := 7) (j := 1) (rf := "ElasticTabs") (fs := [rV (a + 1), rV (a + 5), rV (a + 47), rV (a + 49), rV (a + M a 4), rV (a + M a 5), iV (M a 6)]) rfl inX6 (k_lt hk (by decide)) (by rw [hk]; rfl) (by decide) flX6_19 rfl rfl hd (fun _ _ => k)
theorem gfX6_26 (X : Cx p s m args meth c cc nL ret RX6 G) {a : Int} (hk : gK G a = (6, 0)) (hd : decode cc pc = .ok (.getfield 26, 3)) (k : Wt p l e R s m args below meth c G Qf nL M lv (pc + 3) (rV (a + 47) :: st)) : Wt p l e R s m args below meth c G Qf nL M lv pc (rV a :: st) := xt_get X (ci := 6) (Cn := RX6) (T := TX6) (N := 7) (j := 2) (rf := "ElasticTabs") (fs := [rV (a + 1), rV (a + 5), rV (a + 47), rV (a + 49), rV (a + M a 4), rV (a + M a 5), iV (M a 6)]) rfl inX6 (k_lt hk (by decide)) (by rw [hk]; rfl) (by decide) flX6_26 rfl rfl hd (fun _ _ => k)
theorem gfX6_32 (X : Cx p s m args meth c cc nL ret RX6 G) {a : Int} (hk : gK G a = (6, 0)) (hd : decode cc pc = .ok (.getfield 32, 3)) (k : Wt p l e R s m args below meth c G Qf nL M lv (pc + 3) (rV (a + 49) :: st)) : Wt p l e R s m args below meth c G Qf nL M lv pc (rV a :: st) := xt_get X (ci := 6) (Cn := RX6) (T := TX6) (N := 7) (j := 3) (rf := "ElasticTabs") (fs := [rV (a + 1), rV (a + 5), rV (a + 47), rV (a + 49), rV (a + M a 4), rV (a + M a 5), iV (M a 6)]) rfl inX6 (k_lt hk (by decide)) (by rw [hk]; rfl) (by decide) flX6_32 rfl rfl hd (fun _ _ => k)
theorem gfX6_39 (X : Cx p s m args meth c cc nL ret RX6 G) {a : Int} (hk : gK G a = (6, 0)) (hd : decode cc pc = .ok (.getfield 39, 3)) (k : gK G (a + M a 4) = (2, 0) → Wt p l e R s m args below meth c G Qf nL M lv (pc + 3) (rV (a + M a 4) :: st)) : Wt p l e R s m args below meth c G Qf nL M lv pc (rV a :: st) := xt_get X (ci := 6) (Cn := RX6) (T := TX6) (N := 7) (j := 4) (rf := "ElasticTabs") (fs := [rV (a + 1), rV (a + 5), rV (a + 47), rV (a + 49), rV (a + M a 4), rV (a + M a 5), iV (M a 6)]) rfl inX6 (k_lt hk (by decide)) (by rw [hk]; rfl) (by decide) flX6_39 rfl rfl hd (fun _ h => k (h a hk).1)
theorem gfX6_43 (X : Cx p s m args meth c cc nL ret RX6 G) {a : Int} (hk : gK G a = (6, 0)) (hd : decode cc pc = .ok (.getfield 43, 3)) (k : gK G (a + M a 5) = (2, 0) → Wt p l e R s m args below meth c G Qf nL M lv (pc + 3) (rV (a + M a 5) :: st)) : Wt p l e R s m args below meth c G Qf nL M lv pc (rV a :: st) := xt_get X (ci := 6) (Cn := RX6) (T := TX6) (N := 7) (j := 5) (rf := "ElasticTabs") (fs := [rV (a + 1), rV (a + 5), rV (a + 47), rV (a + 49), rV (a + M a 4), rV (a + M a 5), iV (M a 6)]) rfl inX6 (k_lt hk (by decide)) (by rw [hk]; rfl) (by decide) flX6_43 rfl rfl hd (fun _ h => k (h a hk).2)
theorem gfX6_47 (X : Cx p s m args meth c cc nL ret RX6 G) {a : Int} (hk : gK G a = (5, 0)) (hd : decode cc pc = .ok (.getfield 47, 3)) (k : inR (M a 1) → Wt p l e R s m args below meth c G Qf nL M lv (pc + 3) (iV (M a 1) :: st)) : Wt p l e R s m args below meth c G Qf nL M lv pc (rV a :: st) := xt_get X (ci := 5) (Cn := RX5) (T := TX5) (N := 9) (j := 1) (rf := "ElasticTabs$Script") (fs := [rV (a + 1), iV (M a 1), iV (M a 2), iV (M a 3), iV (M a 4), iV (M a 5), iV (M a 6), iV (M a 7), iV (M a 8)]) rfl inX5 (k_lt hk (by decide)) (by rw [hk]; rfl) (by decide) flX6_47 rfl rfl hd (fun h _ => k (h a 1))
theorem gfX6_51 (X : Cx p s m args meth c cc nL ret RX6 G) {a : Int} (hk : gK G a = (5, 0)) (hd : decode cc pc = .ok (.getfield 51, 3)) (k : Wt p l e R s m args below meth c G Qf nL M lv (pc + 3) (rV (a + 1) :: st)) : Wt p l e R s m args below meth c G Qf nL M lv pc (rV a :: st) := xt_get X (ci := 5) (Cn := RX5) (T := TX5) (N := 9) (j := 0) (rf := "ElasticTabs$Script") (fs := [rV (a + 1), iV (M a 1), iV (M a 2), iV (M a 3), iV (M a 4), iV (M a 5), iV (M a 6), iV (M a 7), iV (M a 8)]) rfl inX5 (k_lt hk (by decide)) (by rw [hk]; rfl) (by decide) flX6_51 rfl rfl hd (fun _ _ => k)
theorem gfX6_73 (X : Cx p s m args meth c cc nL ret RX6 G) {a : Int} (hk : gK G a = (3, 0)) (hd : decode cc pc = .ok (.getfield 73, 3)) (k : Wt p l e R s m args below meth c G Qf nL M lv (pc + 3) (rV (a + 1) :: st)) : Wt p l e R s m args below meth c G Qf nL M lv pc (rV a :: st) := xt_get X (ci := 3) (Cn := RX3) (T := TX3) (N := 6) (j := 3) (rf := "ElasticTabs$Page") (fs := [iV (M a 0), iV (M a 1), iV (M a 2), rV (a + 1), rV (a + 2), rV (a + 3)]) rfl inX3 (k_lt hk (by decide)) (by rw [hk]; rfl) (by decide) flX6_73 rfl rfl hd (fun _ _ => k)
theorem gfX6_102 (X : Cx p s m args meth c cc nL ret RX6 G) {a : Int} (hk : gK G a = (3, 0)) (hd : decode cc pc = .ok (.getfield 102, 3)) (k : inR (M a 0) → Wt p l e R s m args below meth c G Qf nL M lv (pc + 3) (iV (M a 0) :: st)) : Wt p l e R s m args below meth c G Qf nL M lv pc (rV a :: st) := xt_get X (ci := 3) (Cn := RX3) (T := TX3) (N := 6) (j := 0) (rf := "ElasticTabs$Page") (fs := [iV (M a 0), iV (M a 1), iV (M a 2), rV (a + 1), rV (a + 2), rV (a + 3)]) rfl inX3 (k_lt hk (by decide)) (by rw [hk]; rfl) (by decide) flX6_102 rfl rfl hd (fun h _ => k (h a 0))
theorem gfX6_115 (X : Cx p s m args meth c cc nL ret RX6 G) {a : Int} (hk : gK G a = (4, 0)) (hd : decode cc pc = .ok (.getfield 115, 3)) (k : inR (M a 0) → Wt p l e R s m args below meth c G Qf nL M lv (pc + 3) (iV (M a 0) :: st)) : Wt p l e R s m args below meth c G Qf nL M lv pc (rV a :: st) := xt_get X (ci := 4) (Cn := RX4) (T := TX4) (N := 3) (j := 0) (rf := "ElasticTabs$Past") (fs := [iV (M a 0), iV (M a 1), rV (a + 1)]) rfl inX4 (k_lt hk (by decide)) (by rw [hk]; rfl) (by decide) flX6_115 rfl rfl hd (fun h _ => k (h a 0))
theorem gfX6_131 (X : Cx p s m args meth c cc nL ret RX6 G) {a : Int} (hk : gK G a = (6, 0)) (hd : decode cc pc = .ok (.getfield 131, 3)) (k : inR (M a 6) → Wt p l e R s m args below meth c G Qf nL M lv (pc + 3) (iV (M a 6) :: st)) : Wt p l e R s m args below meth c G Qf nL M lv pc (rV a :: st) := xt_get X (ci := 6) (Cn := RX6) (T := TX6) (N := 7) (j := 6) (rf := "ElasticTabs") (fs := [rV (a + 1), rV (a + 5), rV (a + 47), rV (a + 49), rV (a + M a 4), rV (a + M a 5), iV (M a 6)]) rfl inX6 (k_lt hk (by decide)) (by rw [hk]; rfl) (by decide) flX6_131 rfl rfl hd (fun h _ => k (h a 6))
theorem gfX6_134 (X : Cx p s m args meth c cc nL ret RX6 G) {a : Int} (hk : gK G a = (2, 0)) (hd : decode cc pc = .ok (.getfield 134, 3)) (k : Wt p l e R s m args below meth c G Qf nL M lv (pc + 3) (rV (a + 1) :: st)) : Wt p l e R s m args below meth c G Qf nL M lv pc (rV a :: st) := xt_get X (ci := 2) (Cn := RX2) (T := TX2) (N := 13) (j := 1) (rf := "ElasticTabs$Layout") (fs := [iV (M a 0), rV (a + 1), rV (a + 2), rV (a + 3), rV (a + 4), rV (a + 5), rV (a + 6), rV (a + 7), iV (M a 8), rV (a + 8), rV (a + 9), rV (a + 10), rV (a + 11)]) rfl inX2 (k_lt hk (by decide)) (by rw [hk]; rfl) (by decide) flX6_134 rfl rfl hd (fun _ _ => k)
theorem gfX6_137 (X : Cx p s m args meth c cc nL ret RX6 G) {a : Int} (hk : gK G a = (2, 0)) (hd : decode cc pc = .ok (.getfield 137, 3)) (k : Wt p l e R s m args below meth c G Qf nL M lv (pc + 3) (rV (a + 4) :: st)) : Wt p l e R s m args below meth c G Qf nL M lv pc (rV a :: st) := xt_get X (ci := 2) (Cn := RX2) (T := TX2) (N := 13) (j := 4) (rf := "ElasticTabs$Layout") (fs := [iV (M a 0), rV (a + 1), rV (a + 2), rV (a + 3), rV (a + 4), rV (a + 5), rV (a + 6), rV (a + 7), iV (M a 8), rV (a + 8), rV (a + 9), rV (a + 10), rV (a + 11)]) rfl inX2 (k_lt hk (by decide)) (by rw [hk]; rfl) (by decide) flX6_137 rfl rfl hd (fun _ _ => k)
theorem gfX6_140 (X : Cx p s m args meth c cc nL ret RX6 G) {a : Int} (hk : gK G a = (2, 0)) (hd : decode cc pc = .ok (.getfield 140, 3)) (k : Wt p l e R s m args below meth c G Qf nL M lv (pc + 3) (rV (a + 3) :: st)) : Wt p l e R s m args below meth c G Qf nL M lv pc (rV a :: st) := xt_get X (ci := 2) (Cn := RX2) (T := TX2) (N := 13) (j := 3) (rf := "ElasticTabs$Layout") (fs := [iV (M a 0), rV (a + 1), rV (a + 2), rV (a + 3), rV (a + 4), rV (a + 5), rV (a + 6), rV (a + 7), iV (M a 8), rV (a + 8), rV (a + 9), rV (a + 10), rV (a + 11)]) rfl inX2 (k_lt hk (by decide)) (by rw [hk]; rfl) (by decide) flX6_140 rfl rfl hd (fun _ _ => k)
theorem gfX6_143 (X : Cx p s m args meth c cc nL ret RX6 G) {a : Int} (hk : gK G a = (2, 0)) (hd : decode cc pc = .ok (.getfield 143, 3)) (k : Wt p l e R s m args below meth c G Qf nL M lv (pc + 3) (rV (a + 5) :: st)) : Wt p l e R s m args below meth c G Qf nL M lv pc (rV a :: st) := xt_get X (ci := 2) (Cn := RX2) (T := TX2) (N := 13) (j := 5) (rf := "ElasticTabs$Layout") (fs := [iV (M a 0), rV (a + 1), rV (a + 2), rV (a + 3), rV (a + 4), rV (a + 5), rV (a + 6), rV (a + 7), iV (M a 8), rV (a + 8), rV (a + 9), rV (a + 10), rV (a + 11)]) rfl inX2 (k_lt hk (by decide)) (by rw [hk]; rfl) (by decide) flX6_143 rfl rfl hd (fun _ _ => k)
theorem gfX6_144 (X : Cx p s m args meth c cc nL ret RX6 G) {a : Int} (hk : gK G a = (2, 0)) (hd : decode cc pc = .ok (.getfield 144, 3)) (k : Wt p l e R s m args below meth c G Qf nL M lv (pc + 3) (rV (a + 6) :: st)) : Wt p l e R s m args below meth c G Qf nL M lv pc (rV a :: st) := xt_get X (ci := 2) (Cn := RX2) (T := TX2) (N := 13) (j := 6) (rf := "ElasticTabs$Layout") (fs := [iV (M a 0), rV (a + 1), rV (a + 2), rV (a + 3), rV (a + 4), rV (a + 5), rV (a + 6), rV (a + 7), iV (M a 8), rV (a + 8), rV (a + 9), rV (a + 10), rV (a + 11)]) rfl inX2 (k_lt hk (by decide)) (by rw [hk]; rfl) (by decide) flX6_144 rfl rfl hd (fun _ _ => k)
theorem gfX6_147 (X : Cx p s m args meth c cc nL ret RX6 G) {a : Int} (hk : gK G a = (2, 0)) (hd : decode cc pc = .ok (.getfield 147, 3)) (k : Wt p l e R s m args below meth c G Qf nL M lv (pc + 3) (rV (a + 7) :: st)) : Wt p l e R s m args below meth c G Qf nL M lv pc (rV a :: st) := xt_get X (ci := 2) (Cn := RX2) (T := TX2) (N := 13) (j := 7) (rf := "ElasticTabs$Layout") (fs := [iV (M a 0), rV (a + 1), rV (a + 2), rV (a + 3), rV (a + 4), rV (a + 5), rV (a + 6), rV (a + 7), iV (M a 8), rV (a + 8), rV (a + 9), rV (a + 10), rV (a + 11)]) rfl inX2 (k_lt hk (by decide)) (by rw [hk]; rfl) (by decide) flX6_147 rfl rfl hd (fun _ _ => k)
theorem gfX6_163 (X : Cx p s m args meth c cc nL ret RX6 G) {a : Int} (hk : gK G a = (2, 0)) (hd : decode cc pc = .ok (.getfield 163, 3)) (k : Wt p l e R s m args below meth c G Qf nL M lv (pc + 3) (rV (a + 2) :: st)) : Wt p l e R s m args below meth c G Qf nL M lv pc (rV a :: st) := xt_get X (ci := 2) (Cn := RX2) (T := TX2) (N := 13) (j := 2) (rf := "ElasticTabs$Layout") (fs := [iV (M a 0), rV (a + 1), rV (a + 2), rV (a + 3), rV (a + 4), rV (a + 5), rV (a + 6), rV (a + 7), iV (M a 8), rV (a + 8), rV (a + 9), rV (a + 10), rV (a + 11)]) rfl inX2 (k_lt hk (by decide)) (by rw [hk]; rfl) (by decide) flX6_163 rfl rfl hd (fun _ _ => k)
theorem gfX6_173 (X : Cx p s m args meth c cc nL ret RX6 G) {a : Int} (hk : gK G a = (3, 0)) (hd : decode cc pc = .ok (.getfield 173, 3)) (k : Wt p l e R s m args below meth c G Qf nL M lv (pc + 3) (rV (a + 3) :: st)) : Wt p l e R s m args below meth c G Qf nL M lv pc (rV a :: st) := xt_get X (ci := 3) (Cn := RX3) (T := TX3) (N := 6) (j := 5) (rf := "ElasticTabs$Page") (fs := [iV (M a 0), iV (M a 1), iV (M a 2), rV (a + 1), rV (a + 2), rV (a + 3)]) rfl inX3 (k_lt hk (by decide)) (by rw [hk]; rfl) (by decide) flX6_173 rfl rfl hd (fun _ _ => k)
theorem gfX6_176 (X : Cx p s m args meth c cc nL ret RX6 G) {a : Int} (hk : gK G a = (3, 0)) (hd : decode cc pc = .ok (.getfield 176, 3)) (k : inR (M a 1) → Wt p l e R s m args below meth c G Qf nL M lv (pc + 3) (iV (M a 1) :: st)) : Wt p l e R s m args below meth c G Qf nL M lv pc (rV a :: st) := xt_get X (ci := 3) (Cn := RX3) (T := TX3) (N := 6) (j := 1) (rf := "ElasticTabs$Page") (fs := [iV (M a 0), iV (M a 1), iV (M a 2), rV (a + 1), rV (a + 2), rV (a + 3)]) rfl inX3 (k_lt hk (by decide)) (by rw [hk]; rfl) (by decide) flX6_176 rfl rfl hd (fun h _ => k (h a 1))
theorem gfX6_179 (X : Cx p s m args meth c cc nL ret RX6 G) {a : Int} (hk : gK G a = (3, 0)) (hd : decode cc pc = .ok (.getfield 179, 3)) (k : inR (M a 2) → Wt p l e R s m args below meth c G Qf nL M lv (pc + 3) (iV (M a 2) :: st)) : Wt p l e R s m args below meth c G Qf nL M lv pc (rV a :: st) := xt_get X (ci := 3) (Cn := RX3) (T := TX3) (N := 6) (j := 2) (rf := "ElasticTabs$Page") (fs := [iV (M a 0), iV (M a 1), iV (M a 2), rV (a + 1), rV (a + 2), rV (a + 3)]) rfl inX3 (k_lt hk (by decide)) (by rw [hk]; rfl) (by decide) flX6_179 rfl rfl hd (fun h _ => k (h a 2))
theorem gfX6_182 (X : Cx p s m args meth c cc nL ret RX6 G) {a : Int} (hk : gK G a = (2, 0)) (hd : decode cc pc = .ok (.getfield 182, 3)) (k : inR (M a 0) → Wt p l e R s m args below meth c G Qf nL M lv (pc + 3) (iV (M a 0) :: st)) : Wt p l e R s m args below meth c G Qf nL M lv pc (rV a :: st) := xt_get X (ci := 2) (Cn := RX2) (T := TX2) (N := 13) (j := 0) (rf := "ElasticTabs$Layout") (fs := [iV (M a 0), rV (a + 1), rV (a + 2), rV (a + 3), rV (a + 4), rV (a + 5), rV (a + 6), rV (a + 7), iV (M a 8), rV (a + 8), rV (a + 9), rV (a + 10), rV (a + 11)]) rfl inX2 (k_lt hk (by decide)) (by rw [hk]; rfl) (by decide) flX6_182 rfl rfl hd (fun h _ => k (h a 0))
theorem gfX6_195 (X : Cx p s m args meth c cc nL ret RX6 G) {a : Int} (hk : gK G a = (1, 0)) (hd : decode cc pc = .ok (.getfield 195, 3)) (k : Wt p l e R s m args below meth c G Qf nL M lv (pc + 3) (rV (a + 1) :: st)) : Wt p l e R s m args below meth c G Qf nL M lv pc (rV a :: st) := xt_get X (ci := 1) (Cn := RX1) (T := TX1) (N := 3) (j := 1) (rf := "ElasticTabs$Image") (fs := [iV (M a 0), rV (a + 1), rV (a + 5)]) rfl inX1 (k_lt hk (by decide)) (by rw [hk]; rfl) (by decide) flX6_195 rfl rfl hd (fun _ _ => k)
theorem gfX6_196 (X : Cx p s m args meth c cc nL ret RX6 G) {a : Int} (hk : gK G a = (1, 0)) (hd : decode cc pc = .ok (.getfield 196, 3)) (k : Wt p l e R s m args below meth c G Qf nL M lv (pc + 3) (rV (a + 5) :: st)) : Wt p l e R s m args below meth c G Qf nL M lv pc (rV a :: st) := xt_get X (ci := 1) (Cn := RX1) (T := TX1) (N := 3) (j := 2) (rf := "ElasticTabs$Image") (fs := [iV (M a 0), rV (a + 1), rV (a + 5)]) rfl inX1 (k_lt hk (by decide)) (by rw [hk]; rfl) (by decide) flX6_196 rfl rfl hd (fun _ _ => k)
theorem gfX6_200 (X : Cx p s m args meth c cc nL ret RX6 G) {a : Int} (hk : gK G a = (1, 0)) (hd : decode cc pc = .ok (.getfield 200, 3)) (k : inR (M a 0) → Wt p l e R s m args below meth c G Qf nL M lv (pc + 3) (iV (M a 0) :: st)) : Wt p l e R s m args below meth c G Qf nL M lv pc (rV a :: st) := xt_get X (ci := 1) (Cn := RX1) (T := TX1) (N := 3) (j := 0) (rf := "ElasticTabs$Image") (fs := [iV (M a 0), rV (a + 1), rV (a + 5)]) rfl inX1 (k_lt hk (by decide)) (by rw [hk]; rfl) (by decide) flX6_200 rfl rfl hd (fun h _ => k (h a 0))
theorem gfX6_204 (X : Cx p s m args meth c cc nL ret RX6 G) {a : Int} (hk : gK G a = (5, 0)) (hd : decode cc pc = .ok (.getfield 204, 3)) (k : inR (M a 3) → Wt p l e R s m args below meth c G Qf nL M lv (pc + 3) (iV (M a 3) :: st)) : Wt p l e R s m args below meth c G Qf nL M lv pc (rV a :: st) := xt_get X (ci := 5) (Cn := RX5) (T := TX5) (N := 9) (j := 3) (rf := "ElasticTabs$Script") (fs := [rV (a + 1), iV (M a 1), iV (M a 2), iV (M a 3), iV (M a 4), iV (M a 5), iV (M a 6), iV (M a 7), iV (M a 8)]) rfl inX5 (k_lt hk (by decide)) (by rw [hk]; rfl) (by decide) flX6_204 rfl rfl hd (fun h _ => k (h a 3))
theorem gfX6_207 (X : Cx p s m args meth c cc nL ret RX6 G) {a : Int} (hk : gK G a = (5, 0)) (hd : decode cc pc = .ok (.getfield 207, 3)) (k : inR (M a 4) → Wt p l e R s m args below meth c G Qf nL M lv (pc + 3) (iV (M a 4) :: st)) : Wt p l e R s m args below meth c G Qf nL M lv pc (rV a :: st) := xt_get X (ci := 5) (Cn := RX5) (T := TX5) (N := 9) (j := 4) (rf := "ElasticTabs$Script") (fs := [rV (a + 1), iV (M a 1), iV (M a 2), iV (M a 3), iV (M a 4), iV (M a 5), iV (M a 6), iV (M a 7), iV (M a 8)]) rfl inX5 (k_lt hk (by decide)) (by rw [hk]; rfl) (by decide) flX6_207 rfl rfl hd (fun h _ => k (h a 4))
theorem gfX6_210 (X : Cx p s m args meth c cc nL ret RX6 G) {a : Int} (hk : gK G a = (5, 0)) (hd : decode cc pc = .ok (.getfield 210, 3)) (k : inR (M a 2) → Wt p l e R s m args below meth c G Qf nL M lv (pc + 3) (iV (M a 2) :: st)) : Wt p l e R s m args below meth c G Qf nL M lv pc (rV a :: st) := xt_get X (ci := 5) (Cn := RX5) (T := TX5) (N := 9) (j := 2) (rf := "ElasticTabs$Script") (fs := [rV (a + 1), iV (M a 1), iV (M a 2), iV (M a 3), iV (M a 4), iV (M a 5), iV (M a 6), iV (M a 7), iV (M a 8)]) rfl inX5 (k_lt hk (by decide)) (by rw [hk]; rfl) (by decide) flX6_210 rfl rfl hd (fun h _ => k (h a 2))
theorem gfX6_226 (X : Cx p s m args meth c cc nL ret RX6 G) {a : Int} (hk : gK G a = (5, 0)) (hd : decode cc pc = .ok (.getfield 226, 3)) (k : inR (M a 5) → Wt p l e R s m args below meth c G Qf nL M lv (pc + 3) (iV (M a 5) :: st)) : Wt p l e R s m args below meth c G Qf nL M lv pc (rV a :: st) := xt_get X (ci := 5) (Cn := RX5) (T := TX5) (N := 9) (j := 5) (rf := "ElasticTabs$Script") (fs := [rV (a + 1), iV (M a 1), iV (M a 2), iV (M a 3), iV (M a 4), iV (M a 5), iV (M a 6), iV (M a 7), iV (M a 8)]) rfl inX5 (k_lt hk (by decide)) (by rw [hk]; rfl) (by decide) flX6_226 rfl rfl hd (fun h _ => k (h a 5))
theorem gfX6_248 (X : Cx p s m args meth c cc nL ret RX6 G) {a : Int} (hk : gK G a = (5, 0)) (hd : decode cc pc = .ok (.getfield 248, 3)) (k : inR (M a 6) → Wt p l e R s m args below meth c G Qf nL M lv (pc + 3) (iV (M a 6) :: st)) : Wt p l e R s m args below meth c G Qf nL M lv pc (rV a :: st) := xt_get X (ci := 5) (Cn := RX5) (T := TX5) (N := 9) (j := 6) (rf := "ElasticTabs$Script") (fs := [rV (a + 1), iV (M a 1), iV (M a 2), iV (M a 3), iV (M a 4), iV (M a 5), iV (M a 6), iV (M a 7), iV (M a 8)]) rfl inX5 (k_lt hk (by decide)) (by rw [hk]; rfl) (by decide) flX6_248 rfl rfl hd (fun h _ => k (h a 6))
theorem pfX6_39 (X : Cx p s m args meth c cc nL ret RX6 G) {a z : Int} (hk : gK G a = (6, 0)) (hz : gK G z = (2, 0)) (gx : inR (z - a)) (hd : decode cc pc = .ok (.putfield 39, 3)) (k : ∀ M2 : Mm, M2 = um M a 4 (z - a) → Wt p l e R s m args below meth c G Qf nL M2 lv (pc + 3) st) : Wt p l e R s m args below meth c G Qf nL M lv pc (rV z :: rV a :: st) := xt_put X (ci := 6) (Cn := RX6) (T := TX6) (N := 7) (j := 4) (rf := "ElasticTabs") (fs := [rV (a + 1), rV (a + 5), rV (a + 47), rV (a + 49), rV (a + M a 4), rV (a + M a 5), iV (M a 6)]) (ty0 := tyX6) (v := rV z) (x := z - a) (ty := .object RX2) rfl inX6 tyX6_ok nmX6 (k_lt hk (by decide)) (by rw [hk]; rfl) (by decide) flX6_39 rfl rfl (by decide +kernel) rfl rfl (Nat.le_of_ble_eq_true rfl) (by have e : a + (z - a) = z := (by omega); rw [hk]; show (Sum.inr (6, [rV (a + 1), rV (a + 5), rV (a + 47), rV (a + 49), rV (a + (z - a)), rV (a + M a 5), iV (M a 6)]) : va_E) = _; rw [e]; rfl) (fun h => dy_put4 h hz) gx hd k
theorem pfX6_43 (X : Cx p s m args meth c cc nL ret RX6 G) {a z : Int} (hk : gK G a = (6, 0)) (hz : gK G z = (2, 0)) (gx : inR (z - a)) (hd : decode cc pc = .ok (.putfield 43, 3)) (k : ∀ M2 : Mm, M2 = um M a 5 (z - a) → Wt p l e R s m args below meth c G Qf nL M2 lv (pc + 3) st) : Wt p l e R s m args below meth c G Qf nL M lv pc (rV z :: rV a :: st) := xt_put X (ci := 6) (Cn := RX6) (T := TX6) (N := 7) (j := 5) (rf := "ElasticTabs") (fs := [rV (a + 1), rV (a + 5), rV (a + 47), rV (a + 49), rV (a + M a 4), rV (a + M a 5), iV (M a 6)]) (ty0 := tyX6) (v := rV z) (x := z - a) (ty := .object RX2) rfl inX6 tyX6_ok nmX6 (k_lt hk (by decide)) (by rw [hk]; rfl) (by decide) flX6_43 rfl rfl (by decide +kernel) rfl rfl (Nat.le_of_ble_eq_true rfl) (by have e : a + (z - a) = z := (by omega); rw [hk]; show (Sum.inr (6, [rV (a + 1), rV (a + 5), rV (a + 47), rV (a + 49), rV (a + M a 4), rV (a + (z - a)), iV (M a 6)]) : va_E) = _; rw [e]; rfl) (fun h => dy_put5 h hz) gx hd k
theorem pfX6_47 (X : Cx p s m args meth c cc nL ret RX6 G) {a x : Int} (hk : gK G a = (5, 0)) (gx : inR x) (hd : decode cc pc = .ok (.putfield 47, 3)) (k : ∀ M2 : Mm, M2 = um M a 1 x → Wt p l e R s m args below meth c G Qf nL M2 lv (pc + 3) st) : Wt p l e R s m args below meth c G Qf nL M lv pc (iV x :: rV a :: st) := xt_put X (ci := 5) (Cn := RX5) (T := TX5) (N := 9) (j := 1) (rf := "ElasticTabs$Script") (fs := [rV (a + 1), iV (M a 1), iV (M a 2), iV (M a 3), iV (M a 4), iV (M a 5), iV (M a 6), iV (M a 7), iV (M a 8)]) (ty0 := tyX5) (v := iV x) (x := x) (ty := .int) rfl inX5 tyX5_ok nmX5 (k_lt hk (by decide)) (by rw [hk]; rfl) (by decide) flX6_47 rfl rfl (by decide +kernel) rfl rfl (Nat.le_of_ble_eq_true rfl) (by rw [hk]; rfl) (fun h => dy_row h (a := a) (by rw [hk]; decide) (fun b hb => um_ne M _ _ hb)) gx hd k
theorem pfX6_131 (X : Cx p s m args meth c cc nL ret RX6 G) {a x : Int} (hk : gK G a = (6, 0)) (gx : inR x) (hd : decode cc pc = .ok (.putfield 131, 3)) (k : ∀ M2 : Mm, M2 = um M a 6 x → Wt p l e R s m args below meth c G Qf nL M2 lv (pc + 3) st) : Wt p l e R s m args below meth c G Qf nL M lv pc (iV x :: rV a :: st) := xt_put X (ci := 6) (Cn := RX6) (T := TX6) (N := 7) (j := 6) (rf := "ElasticTabs") (fs := [rV (a + 1), rV (a + 5), rV (a + 47), rV (a + 49), rV (a + M a 4), rV (a + M a 5), iV (M a 6)]) (ty0 := tyX6) (v := iV x) (x := x) (ty := .int) rfl inX6 tyX6_ok nmX6 (k_lt hk (by decide)) (by rw [hk]; rfl) (by decide) flX6_131 rfl rfl (by decide +kernel) rfl rfl (Nat.le_of_ble_eq_true rfl) (by rw [hk]; rfl) (fun h => dy_um6 h (by decide) (by decide)) gx hd k
theorem pfX6_176 (X : Cx p s m args meth c cc nL ret RX6 G) {a x : Int} (hk : gK G a = (3, 0)) (gx : inR x) (hd : decode cc pc = .ok (.putfield 176, 3)) (k : ∀ M2 : Mm, M2 = um M a 1 x → Wt p l e R s m args below meth c G Qf nL M2 lv (pc + 3) st) : Wt p l e R s m args below meth c G Qf nL M lv pc (iV x :: rV a :: st) := xt_put X (ci := 3) (Cn := RX3) (T := TX3) (N := 6) (j := 1) (rf := "ElasticTabs$Page") (fs := [iV (M a 0), iV (M a 1), iV (M a 2), rV (a + 1), rV (a + 2), rV (a + 3)]) (ty0 := tyX3) (v := iV x) (x := x) (ty := .int) rfl inX3 tyX3_ok nmX3 (k_lt hk (by decide)) (by rw [hk]; rfl) (by decide) flX6_176 rfl rfl (by decide +kernel) rfl rfl (Nat.le_of_ble_eq_true rfl) (by rw [hk]; rfl) (fun h => dy_row h (a := a) (by rw [hk]; decide) (fun b hb => um_ne M _ _ hb)) gx hd k
theorem pfX6_179 (X : Cx p s m args meth c cc nL ret RX6 G) {a x : Int} (hk : gK G a = (3, 0)) (gx : inR x) (hd : decode cc pc = .ok (.putfield 179, 3)) (k : ∀ M2 : Mm, M2 = um M a 2 x → Wt p l e R s m args below meth c G Qf nL M2 lv (pc + 3) st) : Wt p l e R s m args below meth c G Qf nL M lv pc (iV x :: rV a :: st) := xt_put X (ci := 3) (Cn := RX3) (T := TX3) (N := 6) (j := 2) (rf := "ElasticTabs$Page") (fs := [iV (M a 0), iV (M a 1), iV (M a 2), rV (a + 1), rV (a + 2), rV (a + 3)]) (ty0 := tyX3) (v := iV x) (x := x) (ty := .int) rfl inX3 tyX3_ok nmX3 (k_lt hk (by decide)) (by rw [hk]; rfl) (by decide) flX6_179 rfl rfl (by decide +kernel) rfl rfl (Nat.le_of_ble_eq_true rfl) (by rw [hk]; rfl) (fun h => dy_row h (a := a) (by rw [hk]; decide) (fun b hb => um_ne M _ _ hb)) gx hd k
theorem pfX6_200 (X : Cx p s m args meth c cc nL ret RX6 G) {a x : Int} (hk : gK G a = (1, 0)) (gx : inR x) (hx : x = 0 ∨ x = 1) (hd : decode cc pc = .ok (.putfield 200, 3)) (k : ∀ M2 : Mm, M2 = um M a 0 x → Wt p l e R s m args below meth c G Qf nL M2 lv (pc + 3) st) : Wt p l e R s m args below meth c G Qf nL M lv pc (iV x :: rV a :: st) := xt_put X (ci := 1) (Cn := RX1) (T := TX1) (N := 3) (j := 0) (rf := "ElasticTabs$Image") (fs := [iV (M a 0), rV (a + 1), rV (a + 5)]) (ty0 := tyX1) (v := iV x) (x := x) (ty := .boolean) rfl inX1 tyX1_ok nmX1 (k_lt hk (by decide)) (by rw [hk]; rfl) (by decide) flX6_200 rfl rfl (by decide +kernel) (by rcases hx with rfl | rfl <;> decide) (by rcases hx with rfl | rfl <;> decide) (Nat.le_of_ble_eq_true rfl) (by rw [hk]; rfl) (fun h => dy_row h (a := a) (by rw [hk]; decide) (fun b hb => um_ne M _ _ hb)) gx hd k
theorem gfX7_7 (X : Cx p s m args meth c cc nL ret RX7 G) {a : Int} (hk : gK G a = (7, 0)) (hd : decode cc pc = .ok (.getfield 7, 3)) (k : Wt p l e R s m args below meth c G Qf nL M lv (pc + 3) (rV (a + 1) :: st)) : Wt p l e R s m args below meth c G Qf nL M lv pc (rV a :: st) := xt_get X (ci := 7) (Cn := RX7) (T := TX7) (N := 22) (j := 0) (rf := "ElasticTabsModel") (fs := [rV (a + 1), rV (a + 2), rV (a + 3), iV (M a 3), iV (M a 4), iV (M a 5), rV (a + 4), iV (M a 7), rV (a + 5), iV (M a 9), iV (M a 10), iV (M a 11), iV (M a 12), iV (M a 13), iV (M a 14), iV (M a 15), iV (M a 16), rV (a + 6), rV (a + 7), rV (a + 8), rV (a + 9), rV (a + 10)]) rfl inX7 (k_lt hk (by decide)) (by rw [hk]; rfl) (by decide) flX7_7 rfl rfl hd (fun _ _ => k)
theorem gfX7_13 (X : Cx p s m args meth c cc nL ret RX7 G) {a : Int} (hk : gK G a = (7, 0)) (hd : decode cc pc = .ok (.getfield 13, 3)) (k : Wt p l e R s m args below meth c G Qf nL M lv (pc + 3) (rV (a + 2) :: st)) : Wt p l e R s m args below meth c G Qf nL M lv pc (rV a :: st) := xt_get X (ci := 7) (Cn := RX7) (T := TX7) (N := 22) (j := 1) (rf := "ElasticTabsModel") (fs := [rV (a + 1), rV (a + 2), rV (a + 3), iV (M a 3), iV (M a 4), iV (M a 5), rV (a + 4), iV (M a 7), rV (a + 5), iV (M a 9), iV (M a 10), iV (M a 11), iV (M a 12), iV (M a 13), iV (M a 14), iV (M a 15), iV (M a 16), rV (a + 6), rV (a + 7), rV (a + 8), rV (a + 9), rV (a + 10)]) rfl inX7 (k_lt hk (by decide)) (by rw [hk]; rfl) (by decide) flX7_13 rfl rfl hd (fun _ _ => k)
theorem gfX7_16 (X : Cx p s m args meth c cc nL ret RX7 G) {a : Int} (hk : gK G a = (7, 0)) (hd : decode cc pc = .ok (.getfield 16, 3)) (k : Wt p l e R s m args below meth c G Qf nL M lv (pc + 3) (rV (a + 3) :: st)) : Wt p l e R s m args below meth c G Qf nL M lv pc (rV a :: st) := xt_get X (ci := 7) (Cn := RX7) (T := TX7) (N := 22) (j := 2) (rf := "ElasticTabsModel") (fs := [rV (a + 1), rV (a + 2), rV (a + 3), iV (M a 3), iV (M a 4), iV (M a 5), rV (a + 4), iV (M a 7), rV (a + 5), iV (M a 9), iV (M a 10), iV (M a 11), iV (M a 12), iV (M a 13), iV (M a 14), iV (M a 15), iV (M a 16), rV (a + 6), rV (a + 7), rV (a + 8), rV (a + 9), rV (a + 10)]) rfl inX7 (k_lt hk (by decide)) (by rw [hk]; rfl) (by decide) flX7_16 rfl rfl hd (fun _ _ => k)
theorem gfX7_19 (X : Cx p s m args meth c cc nL ret RX7 G) {a : Int} (hk : gK G a = (7, 0)) (hd : decode cc pc = .ok (.getfield 19, 3)) (k : Wt p l e R s m args below meth c G Qf nL M lv (pc + 3) (rV (a + 4) :: st)) : Wt p l e R s m args below meth c G Qf nL M lv pc (rV a :: st) := xt_get X (ci := 7) (Cn := RX7) (T := TX7) (N := 22) (j := 6) (rf := "ElasticTabsModel") (fs := [rV (a + 1), rV (a + 2), rV (a + 3), iV (M a 3), iV (M a 4), iV (M a 5), rV (a + 4), iV (M a 7), rV (a + 5), iV (M a 9), iV (M a 10), iV (M a 11), iV (M a 12), iV (M a 13), iV (M a 14), iV (M a 15), iV (M a 16), rV (a + 6), rV (a + 7), rV (a + 8), rV (a + 9), rV (a + 10)]) rfl inX7 (k_lt hk (by decide)) (by rw [hk]; rfl) (by decide) flX7_19 rfl rfl hd (fun _ _ => k)
theorem gfX7_22 (X : Cx p s m args meth c cc nL ret RX7 G) {a : Int} (hk : gK G a = (7, 0)) (hd : decode cc pc = .ok (.getfield 22, 3)) (k : Wt p l e R s m args below meth c G Qf nL M lv (pc + 3) (rV (a + 5) :: st)) : Wt p l e R s m args below meth c G Qf nL M lv pc (rV a :: st) := xt_get X (ci := 7) (Cn := RX7) (T := TX7) (N := 22) (j := 8) (rf := "ElasticTabsModel") (fs := [rV (a + 1), rV (a + 2), rV (a + 3), iV (M a 3), iV (M a 4), iV (M a 5), rV (a + 4), iV (M a 7), rV (a + 5), iV (M a 9), iV (M a 10), iV (M a 11), iV (M a 12), iV (M a 13), iV (M a 14), iV (M a 15), iV (M a 16), rV (a + 6), rV (a + 7), rV (a + 8), rV (a + 9), rV (a + 10)]) rfl inX7 (k_lt hk (by decide)) (by rw [hk]; rfl) (by decide) flX7_22 rfl rfl hd (fun _ _ => k)
theorem gfX7_25 (X : Cx p s m args meth c cc nL ret RX7 G) {a : Int} (hk : gK G a = (7, 0)) (hd : decode cc pc = .ok (.getfield 25, 3)) (k : Wt p l e R s m args below meth c G Qf nL M lv (pc + 3) (rV (a + 6) :: st)) : Wt p l e R s m args below meth c G Qf nL M lv pc (rV a :: st) := xt_get X (ci := 7) (Cn := RX7) (T := TX7) (N := 22) (j := 17) (rf := "ElasticTabsModel") (fs := [rV (a + 1), rV (a + 2), rV (a + 3), iV (M a 3), iV (M a 4), iV (M a 5), rV (a + 4), iV (M a 7), rV (a + 5), iV (M a 9), iV (M a 10), iV (M a 11), iV (M a 12), iV (M a 13), iV (M a 14), iV (M a 15), iV (M a 16), rV (a + 6), rV (a + 7), rV (a + 8), rV (a + 9), rV (a + 10)]) rfl inX7 (k_lt hk (by decide)) (by rw [hk]; rfl) (by decide) flX7_25 rfl rfl hd (fun _ _ => k)
theorem gfX7_29 (X : Cx p s m args meth c cc nL ret RX7 G) {a : Int} (hk : gK G a = (7, 0)) (hd : decode cc pc = .ok (.getfield 29, 3)) (k : Wt p l e R s m args below meth c G Qf nL M lv (pc + 3) (rV (a + 7) :: st)) : Wt p l e R s m args below meth c G Qf nL M lv pc (rV a :: st) := xt_get X (ci := 7) (Cn := RX7) (T := TX7) (N := 22) (j := 18) (rf := "ElasticTabsModel") (fs := [rV (a + 1), rV (a + 2), rV (a + 3), iV (M a 3), iV (M a 4), iV (M a 5), rV (a + 4), iV (M a 7), rV (a + 5), iV (M a 9), iV (M a 10), iV (M a 11), iV (M a 12), iV (M a 13), iV (M a 14), iV (M a 15), iV (M a 16), rV (a + 6), rV (a + 7), rV (a + 8), rV (a + 9), rV (a + 10)]) rfl inX7 (k_lt hk (by decide)) (by rw [hk]; rfl) (by decide) flX7_29 rfl rfl hd (fun _ _ => k)
theorem gfX7_32 (X : Cx p s m args meth c cc nL ret RX7 G) {a : Int} (hk : gK G a = (7, 0)) (hd : decode cc pc = .ok (.getfield 32, 3)) (k : Wt p l e R s m args below meth c G Qf nL M lv (pc + 3) (rV (a + 8) :: st)) : Wt p l e R s m args below meth c G Qf nL M lv pc (rV a :: st) := xt_get X (ci := 7) (Cn := RX7) (T := TX7) (N := 22) (j := 19) (rf := "ElasticTabsModel") (fs := [rV (a + 1), rV (a + 2), rV (a + 3), iV (M a 3), iV (M a 4), iV (M a 5), rV (a + 4), iV (M a 7), rV (a + 5), iV (M a 9), iV (M a 10), iV (M a 11), iV (M a 12), iV (M a 13), iV (M a 14), iV (M a 15), iV (M a 16), rV (a + 6), rV (a + 7), rV (a + 8), rV (a + 9), rV (a + 10)]) rfl inX7 (k_lt hk (by decide)) (by rw [hk]; rfl) (by decide) flX7_32 rfl rfl hd (fun _ _ => k)
theorem gfX7_35 (X : Cx p s m args meth c cc nL ret RX7 G) {a : Int} (hk : gK G a = (7, 0)) (hd : decode cc pc = .ok (.getfield 35, 3)) (k : Wt p l e R s m args below meth c G Qf nL M lv (pc + 3) (rV (a + 9) :: st)) : Wt p l e R s m args below meth c G Qf nL M lv pc (rV a :: st) := xt_get X (ci := 7) (Cn := RX7) (T := TX7) (N := 22) (j := 20) (rf := "ElasticTabsModel") (fs := [rV (a + 1), rV (a + 2), rV (a + 3), iV (M a 3), iV (M a 4), iV (M a 5), rV (a + 4), iV (M a 7), rV (a + 5), iV (M a 9), iV (M a 10), iV (M a 11), iV (M a 12), iV (M a 13), iV (M a 14), iV (M a 15), iV (M a 16), rV (a + 6), rV (a + 7), rV (a + 8), rV (a + 9), rV (a + 10)]) rfl inX7 (k_lt hk (by decide)) (by rw [hk]; rfl) (by decide) flX7_35 rfl rfl hd (fun _ _ => k)
theorem gfX7_38 (X : Cx p s m args meth c cc nL ret RX7 G) {a : Int} (hk : gK G a = (7, 0)) (hd : decode cc pc = .ok (.getfield 38, 3)) (k : Wt p l e R s m args below meth c G Qf nL M lv (pc + 3) (rV (a + 10) :: st)) : Wt p l e R s m args below meth c G Qf nL M lv pc (rV a :: st) := xt_get X (ci := 7) (Cn := RX7) (T := TX7) (N := 22) (j := 21) (rf := "ElasticTabsModel") (fs := [rV (a + 1), rV (a + 2), rV (a + 3), iV (M a 3), iV (M a 4), iV (M a 5), rV (a + 4), iV (M a 7), rV (a + 5), iV (M a 9), iV (M a 10), iV (M a 11), iV (M a 12), iV (M a 13), iV (M a 14), iV (M a 15), iV (M a 16), rV (a + 6), rV (a + 7), rV (a + 8), rV (a + 9), rV (a + 10)]) rfl inX7 (k_lt hk (by decide)) (by rw [hk]; rfl) (by decide) flX7_38 rfl rfl hd (fun _ _ => k)
theorem gfX7_88 (X : Cx p s m args meth c cc nL ret RX7 G) {a : Int} (hk : gK G a = (7, 0)) (hd : decode cc pc = .ok (.getfield 88, 3)) (k : inR (M a 5) → Wt p l e R s m args below meth c G Qf nL M lv (pc + 3) (iV (M a 5) :: st)) : Wt p l e R s m args below meth c G Qf nL M lv pc (rV a :: st) := xt_get X (ci := 7) (Cn := RX7) (T := TX7) (N := 22) (j := 5) (rf := "ElasticTabsModel") (fs := [rV (a + 1), rV (a + 2), rV (a + 3), iV (M a 3), iV (M a 4), iV (M a 5), rV (a + 4), iV (M a 7), rV (a + 5), iV (M a 9), iV (M a 10), iV (M a 11), iV (M a 12), iV (M a 13), iV (M a 14), iV (M a 15), iV (M a 16), rV (a + 6), rV (a + 7), rV (a + 8), rV (a + 9), rV (a + 10)]) rfl inX7 (k_lt hk (by decide)) (by rw [hk]; rfl) (by decide) flX7_88 rfl rfl hd (fun h _ => k (h a 5))
theorem gfX7_92 (X : Cx p s m args meth c cc nL ret RX7 G) {a : Int} (hk : gK G a = (7, 0)) (hd : decode cc pc = .ok (.getfield 92, 3)) (k : inR (M a 4) → Wt p l e R s m args below meth c G Qf nL M lv (pc + 3) (iV (M a 4) :: st)) : Wt p l e R s m args below meth c G Qf nL M lv pc (rV a :: st) := xt_get X (ci := 7) (Cn := RX7) (T := TX7) (N := 22) (j := 4) (rf := "ElasticTabsModel") (fs := [rV (a + 1), rV (a + 2), rV (a + 3), iV (M a 3), iV (M a 4), iV (M a 5), rV (a + 4), iV (M a 7), rV (a + 5), iV (M a 9), iV (M a 10), iV (M a 11), iV (M a 12), iV (M a 13), iV (M a 14), iV (M a 15), iV (M a 16), rV (a + 6), rV (a + 7), rV (a + 8), rV (a + 9), rV (a + 10)]) rfl inX7 (k_lt hk (by decide)) (by rw [hk]; rfl) (by decide) flX7_92 rfl rfl hd (fun h _ => k (h a 4))
theorem gfX7_95 (X : Cx p s m args meth c cc nL ret RX7 G) {a : Int} (hk : gK G a = (7, 0)) (hd : decode cc pc = .ok (.getfield 95, 3)) (k : inR (M a 3) → Wt p l e R s m args below meth c G Qf nL M lv (pc + 3) (iV (M a 3) :: st)) : Wt p l e R s m args below meth c G Qf nL M lv pc (rV a :: st) := xt_get X (ci := 7) (Cn := RX7) (T := TX7) (N := 22) (j := 3) (rf := "ElasticTabsModel") (fs := [rV (a + 1), rV (a + 2), rV (a + 3), iV (M a 3), iV (M a 4), iV (M a 5), rV (a + 4), iV (M a 7), rV (a + 5), iV (M a 9), iV (M a 10), iV (M a 11), iV (M a 12), iV (M a 13), iV (M a 14), iV (M a 15), iV (M a 16), rV (a + 6), rV (a + 7), rV (a + 8), rV (a + 9), rV (a + 10)]) rfl inX7 (k_lt hk (by decide)) (by rw [hk]; rfl) (by decide) flX7_95 rfl rfl hd (fun h _ => k (h a 3))
theorem gfX7_129 (X : Cx p s m args meth c cc nL ret RX7 G) {a : Int} (hk : gK G a = (7, 0)) (hd : decode cc pc = .ok (.getfield 129, 3)) (k : inR (M a 7) → Wt p l e R s m args below meth c G Qf nL M lv (pc + 3) (iV (M a 7) :: st)) : Wt p l e R s m args below meth c G Qf nL M lv pc (rV a :: st) := xt_get X (ci := 7) (Cn := RX7) (T := TX7) (N := 22) (j := 7) (rf := "ElasticTabsModel") (fs := [rV (a + 1), rV (a + 2), rV (a + 3), iV (M a 3), iV (M a 4), iV (M a 5), rV (a + 4), iV (M a 7), rV (a + 5), iV (M a 9), iV (M a 10), iV (M a 11), iV (M a 12), iV (M a 13), iV (M a 14), iV (M a 15), iV (M a 16), rV (a + 6), rV (a + 7), rV (a + 8), rV (a + 9), rV (a + 10)]) rfl inX7 (k_lt hk (by decide)) (by rw [hk]; rfl) (by decide) flX7_129 rfl rfl hd (fun h _ => k (h a 7))
theorem gfX7_132 (X : Cx p s m args meth c cc nL ret RX7 G) {a : Int} (hk : gK G a = (7, 0)) (hd : decode cc pc = .ok (.getfield 132, 3)) (k : inR (M a 9) → Wt p l e R s m args below meth c G Qf nL M lv (pc + 3) (iV (M a 9) :: st)) : Wt p l e R s m args below meth c G Qf nL M lv pc (rV a :: st) := xt_get X (ci := 7) (Cn := RX7) (T := TX7) (N := 22) (j := 9) (rf := "ElasticTabsModel") (fs := [rV (a + 1), rV (a + 2), rV (a + 3), iV (M a 3), iV (M a 4), iV (M a 5), rV (a + 4), iV (M a 7), rV (a + 5), iV (M a 9), iV (M a 10), iV (M a 11), iV (M a 12), iV (M a 13), iV (M a 14), iV (M a 15), iV (M a 16), rV (a + 6), rV (a + 7), rV (a + 8), rV (a + 9), rV (a + 10)]) rfl inX7 (k_lt hk (by decide)) (by rw [hk]; rfl) (by decide) flX7_132 rfl rfl hd (fun h _ => k (h a 9))
theorem gfX7_135 (X : Cx p s m args meth c cc nL ret RX7 G) {a : Int} (hk : gK G a = (7, 0)) (hd : decode cc pc = .ok (.getfield 135, 3)) (k : inR (M a 12) → Wt p l e R s m args below meth c G Qf nL M lv (pc + 3) (iV (M a 12) :: st)) : Wt p l e R s m args below meth c G Qf nL M lv pc (rV a :: st) := xt_get X (ci := 7) (Cn := RX7) (T := TX7) (N := 22) (j := 12) (rf := "ElasticTabsModel") (fs := [rV (a + 1), rV (a + 2), rV (a + 3), iV (M a 3), iV (M a 4), iV (M a 5), rV (a + 4), iV (M a 7), rV (a + 5), iV (M a 9), iV (M a 10), iV (M a 11), iV (M a 12), iV (M a 13), iV (M a 14), iV (M a 15), iV (M a 16), rV (a + 6), rV (a + 7), rV (a + 8), rV (a + 9), rV (a + 10)]) rfl inX7 (k_lt hk (by decide)) (by rw [hk]; rfl) (by decide) flX7_135 rfl rfl hd (fun h _ => k (h a 12))
theorem gfX7_141 (X : Cx p s m args meth c cc nL ret RX7 G) {a : Int} (hk : gK G a = (7, 0)) (hd : decode cc pc = .ok (.getfield 141, 3)) (k : inR (M a 10) → Wt p l e R s m args below meth c G Qf nL M lv (pc + 3) (iV (M a 10) :: st)) : Wt p l e R s m args below meth c G Qf nL M lv pc (rV a :: st) := xt_get X (ci := 7) (Cn := RX7) (T := TX7) (N := 22) (j := 10) (rf := "ElasticTabsModel") (fs := [rV (a + 1), rV (a + 2), rV (a + 3), iV (M a 3), iV (M a 4), iV (M a 5), rV (a + 4), iV (M a 7), rV (a + 5), iV (M a 9), iV (M a 10), iV (M a 11), iV (M a 12), iV (M a 13), iV (M a 14), iV (M a 15), iV (M a 16), rV (a + 6), rV (a + 7), rV (a + 8), rV (a + 9), rV (a + 10)]) rfl inX7 (k_lt hk (by decide)) (by rw [hk]; rfl) (by decide) flX7_141 rfl rfl hd (fun h _ => k (h a 10))
theorem gfX7_144 (X : Cx p s m args meth c cc nL ret RX7 G) {a : Int} (hk : gK G a = (7, 0)) (hd : decode cc pc = .ok (.getfield 144, 3)) (k : inR (M a 11) → Wt p l e R s m args below meth c G Qf nL M lv (pc + 3) (iV (M a 11) :: st)) : Wt p l e R s m args below meth c G Qf nL M lv pc (rV a :: st) := xt_get X (ci := 7) (Cn := RX7) (T := TX7) (N := 22) (j := 11) (rf := "ElasticTabsModel") (fs := [rV (a + 1), rV (a + 2), rV (a + 3), iV (M a 3), iV (M a 4), iV (M a 5), rV (a + 4), iV (M a 7), rV (a + 5), iV (M a 9), iV (M a 10), iV (M a 11), iV (M a 12), iV (M a 13), iV (M a 14), iV (M a 15), iV (M a 16), rV (a + 6), rV (a + 7), rV (a + 8), rV (a + 9), rV (a + 10)]) rfl inX7 (k_lt hk (by decide)) (by rw [hk]; rfl) (by decide) flX7_144 rfl rfl hd (fun h _ => k (h a 11))
theorem gfX7_158 (X : Cx p s m args meth c cc nL ret RX7 G) {a : Int} (hk : gK G a = (7, 0)) (hd : decode cc pc = .ok (.getfield 158, 3)) (k : inR (M a 13) → Wt p l e R s m args below meth c G Qf nL M lv (pc + 3) (iV (M a 13) :: st)) : Wt p l e R s m args below meth c G Qf nL M lv pc (rV a :: st) := xt_get X (ci := 7) (Cn := RX7) (T := TX7) (N := 22) (j := 13) (rf := "ElasticTabsModel") (fs := [rV (a + 1), rV (a + 2), rV (a + 3), iV (M a 3), iV (M a 4), iV (M a 5), rV (a + 4), iV (M a 7), rV (a + 5), iV (M a 9), iV (M a 10), iV (M a 11), iV (M a 12), iV (M a 13), iV (M a 14), iV (M a 15), iV (M a 16), rV (a + 6), rV (a + 7), rV (a + 8), rV (a + 9), rV (a + 10)]) rfl inX7 (k_lt hk (by decide)) (by rw [hk]; rfl) (by decide) flX7_158 rfl rfl hd (fun h _ => k (h a 13))
theorem gfX7_167 (X : Cx p s m args meth c cc nL ret RX7 G) {a : Int} (hk : gK G a = (7, 0)) (hd : decode cc pc = .ok (.getfield 167, 3)) (k : inR (M a 14) → Wt p l e R s m args below meth c G Qf nL M lv (pc + 3) (iV (M a 14) :: st)) : Wt p l e R s m args below meth c G Qf nL M lv pc (rV a :: st) := xt_get X (ci := 7) (Cn := RX7) (T := TX7) (N := 22) (j := 14) (rf := "ElasticTabsModel") (fs := [rV (a + 1), rV (a + 2), rV (a + 3), iV (M a 3), iV (M a 4), iV (M a 5), rV (a + 4), iV (M a 7), rV (a + 5), iV (M a 9), iV (M a 10), iV (M a 11), iV (M a 12), iV (M a 13), iV (M a 14), iV (M a 15), iV (M a 16), rV (a + 6), rV (a + 7), rV (a + 8), rV (a + 9), rV (a + 10)]) rfl inX7 (k_lt hk (by decide)) (by rw [hk]; rfl) (by decide) flX7_167 rfl rfl hd (fun h _ => k (h a 14))
theorem gfX7_173 (X : Cx p s m args meth c cc nL ret RX7 G) {a : Int} (hk : gK G a = (7, 0)) (hd : decode cc pc = .ok (.getfield 173, 3)) (k : inR (M a 15) → Wt p l e R s m args below meth c G Qf nL M lv (pc + 3) (iV (M a 15) :: st)) : Wt p l e R s m args below meth c G Qf nL M lv pc (rV a :: st) := xt_get X (ci := 7) (Cn := RX7) (T := TX7) (N := 22) (j := 15) (rf := "ElasticTabsModel") (fs := [rV (a + 1), rV (a + 2), rV (a + 3), iV (M a 3), iV (M a 4), iV (M a 5), rV (a + 4), iV (M a 7), rV (a + 5), iV (M a 9), iV (M a 10), iV (M a 11), iV (M a 12), iV (M a 13), iV (M a 14), iV (M a 15), iV (M a 16), rV (a + 6), rV (a + 7), rV (a + 8), rV (a + 9), rV (a + 10)]) rfl inX7 (k_lt hk (by decide)) (by rw [hk]; rfl) (by decide) flX7_173 rfl rfl hd (fun h _ => k (h a 15))
theorem gfX7_176 (X : Cx p s m args meth c cc nL ret RX7 G) {a : Int} (hk : gK G a = (7, 0)) (hd : decode cc pc = .ok (.getfield 176, 3)) (k : inR (M a 16) → Wt p l e R s m args below meth c G Qf nL M lv (pc + 3) (iV (M a 16) :: st)) : Wt p l e R s m args below meth c G Qf nL M lv pc (rV a :: st) := xt_get X (ci := 7) (Cn := RX7) (T := TX7) (N := 22) (j := 16) (rf := "ElasticTabsModel") (fs := [rV (a + 1), rV (a + 2), rV (a + 3), iV (M a 3), iV (M a 4), iV (M a 5), rV (a + 4), iV (M a 7), rV (a + 5), iV (M a 9), iV (M a 10), iV (M a 11), iV (M a 12), iV (M a 13), iV (M a 14), iV (M a 15), iV (M a 16), rV (a + 6), rV (a + 7), rV (a + 8), rV (a + 9), rV (a + 10)]) rfl inX7 (k_lt hk (by decide)) (by rw [hk]; rfl) (by decide) flX7_176 rfl rfl hd (fun h _ => k (h a 16))
theorem pfX7_88 (X : Cx p s m args meth c cc nL ret RX7 G) {a x : Int} (hk : gK G a = (7, 0)) (gx : inR x) (hd : decode cc pc = .ok (.putfield 88, 3)) (k : ∀ M2 : Mm, M2 = um M a 5 x → Wt p l e R s m args below meth c G Qf nL M2 lv (pc + 3) st) : Wt p l e R s m args below meth c G Qf nL M lv pc (iV x :: rV a :: st) := xt_put X (ci := 7) (Cn := RX7) (T := TX7) (N := 22) (j := 5) (rf := "ElasticTabsModel") (fs := [rV (a + 1), rV (a + 2), rV (a + 3), iV (M a 3), iV (M a 4), iV (M a 5), rV (a + 4), iV (M a 7), rV (a + 5), iV (M a 9), iV (M a 10), iV (M a 11), iV (M a 12), iV (M a 13), iV (M a 14), iV (M a 15), iV (M a 16), rV (a + 6), rV (a + 7), rV (a + 8), rV (a + 9), rV (a + 10)]) (ty0 := tyX7) (v := iV x) (x := x) (ty := .int) rfl inX7 tyX7_ok nmX7 (k_lt hk (by decide)) (by rw [hk]; rfl) (by decide) flX7_88 rfl rfl (by decide +kernel) rfl rfl (Nat.le_of_ble_eq_true rfl) (by rw [hk]; rfl) (fun h => dy_row h (a := a) (by rw [hk]; decide) (fun b hb => um_ne M _ _ hb)) gx hd k
theorem pfX7_92 (X : Cx p s m args meth c cc nL ret RX7 G) {a x : Int} (hk : gK G a = (7, 0)) (gx : inR x) (hd : decode cc pc = .ok (.putfield 92, 3)) (k : ∀ M2 : Mm, M2 = um M a 4 x → Wt p l e R s m args below meth c G Qf nL M2 lv (pc + 3) st) : Wt p l e R s m args below meth c G Qf nL M lv pc (iV x :: rV a :: st) := xt_put X (ci := 7) (Cn := RX7) (T := TX7) (N := 22) (j := 4) (rf := "ElasticTabsModel") (fs := [rV (a + 1), rV (a + 2), rV (a + 3), iV (M a 3), iV (M a 4), iV (M a 5), rV (a + 4), iV (M a 7), rV (a + 5), iV (M a 9), iV (M a 10), iV (M a 11), iV (M a 12), iV (M a 13), iV (M a 14), iV (M a 15), iV (M a 16), rV (a + 6), rV (a + 7), rV (a + 8), rV (a + 9), rV (a + 10)]) (ty0 := tyX7) (v := iV x) (x := x) (ty := .int) rfl inX7 tyX7_ok nmX7 (k_lt hk (by decide)) (by rw [hk]; rfl) (by decide) flX7_92 rfl rfl (by decide +kernel) rfl rfl (Nat.le_of_ble_eq_true rfl) (by rw [hk]; rfl) (fun h => dy_row h (a := a) (by rw [hk]; decide) (fun b hb => um_ne M _ _ hb)) gx hd k
theorem pfX7_95 (X : Cx p s m args meth c cc nL ret RX7 G) {a x : Int} (hk : gK G a = (7, 0)) (gx : inR x) (hd : decode cc pc = .ok (.putfield 95, 3)) (k : ∀ M2 : Mm, M2 = um M a 3 x → Wt p l e R s m args below meth c G Qf nL M2 lv (pc + 3) st) : Wt p l e R s m args below meth c G Qf nL M lv pc (iV x :: rV a :: st) := xt_put X (ci := 7) (Cn := RX7) (T := TX7) (N := 22) (j := 3) (rf := "ElasticTabsModel") (fs := [rV (a + 1), rV (a + 2), rV (a + 3), iV (M a 3), iV (M a 4), iV (M a 5), rV (a + 4), iV (M a 7), rV (a + 5), iV (M a 9), iV (M a 10), iV (M a 11), iV (M a 12), iV (M a 13), iV (M a 14), iV (M a 15), iV (M a 16), rV (a + 6), rV (a + 7), rV (a + 8), rV (a + 9), rV (a + 10)]) (ty0 := tyX7) (v := iV x) (x := x) (ty := .int) rfl inX7 tyX7_ok nmX7 (k_lt hk (by decide)) (by rw [hk]; rfl) (by decide) flX7_95 rfl rfl (by decide +kernel) rfl rfl (Nat.le_of_ble_eq_true rfl) (by rw [hk]; rfl) (fun h => dy_row h (a := a) (by rw [hk]; decide) (fun b hb => um_ne M _ _ hb)) gx hd k
theorem pfX7_129 (X : Cx p s m args meth c cc nL ret RX7 G) {a x : Int} (hk : gK G a = (7, 0)) (gx : inR x) (hd : decode cc pc = .ok (.putfield 129, 3)) (k : ∀ M2 : Mm, M2 = um M a 7 x → Wt p l e R s m args below meth c G Qf nL M2 lv (pc + 3) st) : Wt p l e R s m args below meth c G Qf nL M lv pc (iV x :: rV a :: st) := xt_put X (ci := 7) (Cn := RX7) (T := TX7) (N := 22) (j := 7) (rf := "ElasticTabsModel") (fs := [rV (a + 1), rV (a + 2), rV (a + 3), iV (M a 3), iV (M a 4), iV (M a 5), rV (a + 4), iV (M a 7), rV (a + 5), iV (M a 9), iV (M a 10), iV (M a 11), iV (M a 12), iV (M a 13), iV (M a 14), iV (M a 15), iV (M a 16), rV (a + 6), rV (a + 7), rV (a + 8), rV (a + 9), rV (a + 10)]) (ty0 := tyX7) (v := iV x) (x := x) (ty := .int) rfl inX7 tyX7_ok nmX7 (k_lt hk (by decide)) (by rw [hk]; rfl) (by decide) flX7_129 rfl rfl (by decide +kernel) rfl rfl (Nat.le_of_ble_eq_true rfl) (by rw [hk]; rfl) (fun h => dy_row h (a := a) (by rw [hk]; decide) (fun b hb => um_ne M _ _ hb)) gx hd k
theorem pfX7_132 (X : Cx p s m args meth c cc nL ret RX7 G) {a x : Int} (hk : gK G a = (7, 0)) (gx : inR x) (hd : decode cc pc = .ok (.putfield 132, 3)) (k : ∀ M2 : Mm, M2 = um M a 9 x → Wt p l e R s m args below meth c G Qf nL M2 lv (pc + 3) st) : Wt p l e R s m args below meth c G Qf nL M lv pc (iV x :: rV a :: st) := xt_put X (ci := 7) (Cn := RX7) (T := TX7) (N := 22) (j := 9) (rf := "ElasticTabsModel") (fs := [rV (a + 1), rV (a + 2), rV (a + 3), iV (M a 3), iV (M a 4), iV (M a 5), rV (a + 4), iV (M a 7), rV (a + 5), iV (M a 9), iV (M a 10), iV (M a 11), iV (M a 12), iV (M a 13), iV (M a 14), iV (M a 15), iV (M a 16), rV (a + 6), rV (a + 7), rV (a + 8), rV (a + 9), rV (a + 10)]) (ty0 := tyX7) (v := iV x) (x := x) (ty := .int) rfl inX7 tyX7_ok nmX7 (k_lt hk (by decide)) (by rw [hk]; rfl) (by decide) flX7_132 rfl rfl (by decide +kernel) rfl rfl (Nat.le_of_ble_eq_true rfl) (by rw [hk]; rfl) (fun h => dy_row h (a := a) (by rw [hk]; decide) (fun b hb => um_ne M _ _ hb)) gx hd k
theorem pfX7_135 (X : Cx p s m args meth c cc nL ret RX7 G) {a x : Int} (hk : gK G a = (7, 0)) (gx : inR x) (hd : decode cc pc = .ok (.putfield 135, 3)) (k : ∀ M2 : Mm, M2 = um M a 12 x → Wt p l e R s m args below meth c G Qf nL M2 lv (pc + 3) st) : Wt p l e R s m args below meth c G Qf nL M lv pc (iV x :: rV a :: st) := xt_put X (ci := 7) (Cn := RX7) (T := TX7) (N := 22) (j := 12) (rf := "ElasticTabsModel") (fs := [rV (a + 1), rV (a + 2), rV (a + 3), iV (M a 3), iV (M a 4), iV (M a 5), rV (a + 4), iV (M a 7), rV (a + 5), iV (M a 9), iV (M a 10), iV (M a 11), iV (M a 12), iV (M a 13), iV (M a 14), iV (M a 15), iV (M a 16), rV (a + 6), rV (a + 7), rV (a + 8), rV (a + 9), rV (a + 10)]) (ty0 := tyX7) (v := iV x) (x := x) (ty := .int) rfl inX7 tyX7_ok nmX7 (k_lt hk (by decide)) (by rw [hk]; rfl) (by decide) flX7_135 rfl rfl (by decide +kernel) rfl rfl (Nat.le_of_ble_eq_true rfl) (by rw [hk]; rfl) (fun h => dy_row h (a := a) (by rw [hk]; decide) (fun b hb => um_ne M _ _ hb)) gx hd k
theorem pfX7_141 (X : Cx p s m args meth c cc nL ret RX7 G) {a x : Int} (hk : gK G a = (7, 0)) (gx : inR x) (hd : decode cc pc = .ok (.putfield 141, 3)) (k : ∀ M2 : Mm, M2 = um M a 10 x → Wt p l e R s m args below meth c G Qf nL M2 lv (pc + 3) st) : Wt p l e R s m args below meth c G Qf nL M lv pc (iV x :: rV a :: st) := xt_put X (ci := 7) (Cn := RX7) (T := TX7) (N := 22) (j := 10) (rf := "ElasticTabsModel") (fs := [rV (a + 1), rV (a + 2), rV (a + 3), iV (M a 3), iV (M a 4), iV (M a 5), rV (a + 4), iV (M a 7), rV (a + 5), iV (M a 9), iV (M a 10), iV (M a 11), iV (M a 12), iV (M a 13), iV (M a 14), iV (M a 15), iV (M a 16), rV (a + 6), rV (a + 7), rV (a + 8), rV (a + 9), rV (a + 10)]) (ty0 := tyX7) (v := iV x) (x := x) (ty := .int) rfl inX7 tyX7_ok nmX7 (k_lt hk (by decide)) (by rw [hk]; rfl) (by decide) flX7_141 rfl rfl (by decide +kernel) rfl rfl (Nat.le_of_ble_eq_true rfl) (by rw [hk]; rfl) (fun h => dy_row h (a := a) (by rw [hk]; decide) (fun b hb => um_ne M _ _ hb)) gx hd k
theorem pfX7_144 (X : Cx p s m args meth c cc nL ret RX7 G) {a x : Int} (hk : gK G a = (7, 0)) (gx : inR x) (hd : decode cc pc = .ok (.putfield 144, 3)) (k : ∀ M2 : Mm, M2 = um M a 11 x → Wt p l e R s m args below meth c G Qf nL M2 lv (pc + 3) st) : Wt p l e R s m args below meth c G Qf nL M lv pc (iV x :: rV a :: st) := xt_put X (ci := 7) (Cn := RX7) (T := TX7) (N := 22) (j := 11) (rf := "ElasticTabsModel") (fs := [rV (a + 1), rV (a + 2), rV (a + 3), iV (M a 3), iV (M a 4), iV (M a 5), rV (a + 4), iV (M a 7), rV (a + 5), iV (M a 9), iV (M a 10), iV (M a 11), iV (M a 12), iV (M a 13), iV (M a 14), iV (M a 15), iV (M a 16), rV (a + 6), rV (a + 7), rV (a + 8), rV (a + 9), rV (a + 10)]) (ty0 := tyX7) (v := iV x) (x := x) (ty := .int) rfl inX7 tyX7_ok nmX7 (k_lt hk (by decide)) (by rw [hk]; rfl) (by decide) flX7_144 rfl rfl (by decide +kernel) rfl rfl (Nat.le_of_ble_eq_true rfl) (by rw [hk]; rfl) (fun h => dy_row h (a := a) (by rw [hk]; decide) (fun b hb => um_ne M _ _ hb)) gx hd k
theorem pfX7_158 (X : Cx p s m args meth c cc nL ret RX7 G) {a x : Int} (hk : gK G a = (7, 0)) (gx : inR x) (hd : decode cc pc = .ok (.putfield 158, 3)) (k : ∀ M2 : Mm, M2 = um M a 13 x → Wt p l e R s m args below meth c G Qf nL M2 lv (pc + 3) st) : Wt p l e R s m args below meth c G Qf nL M lv pc (iV x :: rV a :: st) := xt_put X (ci := 7) (Cn := RX7) (T := TX7) (N := 22) (j := 13) (rf := "ElasticTabsModel") (fs := [rV (a + 1), rV (a + 2), rV (a + 3), iV (M a 3), iV (M a 4), iV (M a 5), rV (a + 4), iV (M a 7), rV (a + 5), iV (M a 9), iV (M a 10), iV (M a 11), iV (M a 12), iV (M a 13), iV (M a 14), iV (M a 15), iV (M a 16), rV (a + 6), rV (a + 7), rV (a + 8), rV (a + 9), rV (a + 10)]) (ty0 := tyX7) (v := iV x) (x := x) (ty := .int) rfl inX7 tyX7_ok nmX7 (k_lt hk (by decide)) (by rw [hk]; rfl) (by decide) flX7_158 rfl rfl (by decide +kernel) rfl rfl (Nat.le_of_ble_eq_true rfl) (by rw [hk]; rfl) (fun h => dy_row h (a := a) (by rw [hk]; decide) (fun b hb => um_ne M _ _ hb)) gx hd k
theorem pfX7_167 (X : Cx p s m args meth c cc nL ret RX7 G) {a x : Int} (hk : gK G a = (7, 0)) (gx : inR x) (hd : decode cc pc = .ok (.putfield 167, 3)) (k : ∀ M2 : Mm, M2 = um M a 14 x → Wt p l e R s m args below meth c G Qf nL M2 lv (pc + 3) st) : Wt p l e R s m args below meth c G Qf nL M lv pc (iV x :: rV a :: st) := xt_put X (ci := 7) (Cn := RX7) (T := TX7) (N := 22) (j := 14) (rf := "ElasticTabsModel") (fs := [rV (a + 1), rV (a + 2), rV (a + 3), iV (M a 3), iV (M a 4), iV (M a 5), rV (a + 4), iV (M a 7), rV (a + 5), iV (M a 9), iV (M a 10), iV (M a 11), iV (M a 12), iV (M a 13), iV (M a 14), iV (M a 15), iV (M a 16), rV (a + 6), rV (a + 7), rV (a + 8), rV (a + 9), rV (a + 10)]) (ty0 := tyX7) (v := iV x) (x := x) (ty := .int) rfl inX7 tyX7_ok nmX7 (k_lt hk (by decide)) (by rw [hk]; rfl) (by decide) flX7_167 rfl rfl (by decide +kernel) rfl rfl (Nat.le_of_ble_eq_true rfl) (by rw [hk]; rfl) (fun h => dy_row h (a := a) (by rw [hk]; decide) (fun b hb => um_ne M _ _ hb)) gx hd k
theorem pfX7_173 (X : Cx p s m args meth c cc nL ret RX7 G) {a x : Int} (hk : gK G a = (7, 0)) (gx : inR x) (hd : decode cc pc = .ok (.putfield 173, 3)) (k : ∀ M2 : Mm, M2 = um M a 15 x → Wt p l e R s m args below meth c G Qf nL M2 lv (pc + 3) st) : Wt p l e R s m args below meth c G Qf nL M lv pc (iV x :: rV a :: st) := xt_put X (ci := 7) (Cn := RX7) (T := TX7) (N := 22) (j := 15) (rf := "ElasticTabsModel") (fs := [rV (a + 1), rV (a + 2), rV (a + 3), iV (M a 3), iV (M a 4), iV (M a 5), rV (a + 4), iV (M a 7), rV (a + 5), iV (M a 9), iV (M a 10), iV (M a 11), iV (M a 12), iV (M a 13), iV (M a 14), iV (M a 15), iV (M a 16), rV (a + 6), rV (a + 7), rV (a + 8), rV (a + 9), rV (a + 10)]) (ty0 := tyX7) (v := iV x) (x := x) (ty := .int) rfl inX7 tyX7_ok nmX7 (k_lt hk (by decide)) (by rw [hk]; rfl) (by decide) flX7_173 rfl rfl (by decide +kernel) rfl rfl (Nat.le_of_ble_eq_true rfl) (by rw [hk]; rfl) (fun h => dy_row h (a := a) (by rw [hk]; decide) (fun b hb => um_ne M _ _ hb)) gx hd k
theorem pfX7_176 (X : Cx p s m args meth c cc nL ret RX7 G) {a x : Int} (hk : gK G a = (7, 0)) (gx : inR x) (hd : decode cc pc = .ok (.putfield 176, 3)) (k : ∀ M2 : Mm, M2 = um M a 16 x → Wt p l e R s m args below meth c G Qf nL M2 lv (pc + 3) st) : Wt p l e R s m args below meth c G Qf nL M lv pc (iV x :: rV a :: st) := xt_put X (ci := 7) (Cn := RX7) (T := TX7) (N := 22) (j := 16) (rf := "ElasticTabsModel") (fs := [rV (a + 1), rV (a + 2), rV (a + 3), iV (M a 3), iV (M a 4), iV (M a 5), rV (a + 4), iV (M a 7), rV (a + 5), iV (M a 9), iV (M a 10), iV (M a 11), iV (M a 12), iV (M a 13), iV (M a 14), iV (M a 15), iV (M a 16), rV (a + 6), rV (a + 7), rV (a + 8), rV (a + 9), rV (a + 10)]) (ty0 := tyX7) (v := iV x) (x := x) (ty := .int) rfl inX7 tyX7_ok nmX7 (k_lt hk (by decide)) (by rw [hk]; rfl) (by decide) flX7_176 rfl rfl (by decide +kernel) rfl rfl (Nat.le_of_ble_eq_true rfl) (by rw [hk]; rfl) (fun h => dy_row h (a := a) (by rw [hk]; decide) (fun b hb => um_ne M _ _ hb)) gx hd k
end ACC
end
