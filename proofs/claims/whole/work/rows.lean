section
-- ===== PART A: goes FIRST, ahead of the names: the tables' words, and 'selects' of the private methods out of them =====
/-- a private method of a class that the tables say can be made, by its rows of tables_1 -/
def lw_okq (q : MethodName × Nat) : Prop := (q.1.cls ≠ "java/lang/invoke/MethodHandle" ∧ q.1.cls ≠ "java/lang/invoke/VarHandle") ∧ Cond.instantiable q.1.cls q.2 ∈ tables_1 ∧ Cond.privateMethod q.1 ∈ tables_1 ∧ Cond.instanceMethod q.1 ∈ tables_1
theorem lw_p0 : lw_okq (⟨"CandleMeadow", "isBuyer", "(I)Z"⟩, 12) := ⟨⟨by decide +kernel, by decide +kernel⟩, List.mem_of_getElem? (i := 22) (by decide +kernel), List.mem_of_getElem? (i := 284) (by decide +kernel), List.mem_of_getElem? (i := 285) (by decide +kernel)⟩
theorem lw_p1 : lw_okq (⟨"CandleMeadow", "hayOf", "(I)I"⟩, 12) := ⟨⟨by decide +kernel, by decide +kernel⟩, List.mem_of_getElem? (i := 22) (by decide +kernel), List.mem_of_getElem? (i := 343) (by decide +kernel), List.mem_of_getElem? (i := 344) (by decide +kernel)⟩
theorem lw_p2 : lw_okq (⟨"CandleMeadow", "worthTo", "(II)I"⟩, 12) := ⟨⟨by decide +kernel, by decide +kernel⟩, List.mem_of_getElem? (i := 22) (by decide +kernel), List.mem_of_getElem? (i := 351) (by decide +kernel), List.mem_of_getElem? (i := 352) (by decide +kernel)⟩
theorem lw_p3 : lw_okq (⟨"CandleMeadow", "ownsBeside", "(II)Z"⟩, 12) := ⟨⟨by decide +kernel, by decide +kernel⟩, List.mem_of_getElem? (i := 22) (by decide +kernel), List.mem_of_getElem? (i := 361) (by decide +kernel), List.mem_of_getElem? (i := 362) (by decide +kernel)⟩
theorem lw_p4 : lw_okq (⟨"CandleMeadow", "prepareSale", "(I)V"⟩, 12) := ⟨⟨by decide +kernel, by decide +kernel⟩, List.mem_of_getElem? (i := 22) (by decide +kernel), List.mem_of_getElem? (i := 375) (by decide +kernel), List.mem_of_getElem? (i := 376) (by decide +kernel)⟩
theorem lw_p5 : lw_okq (⟨"CandleMeadow$Sale", "greatestBut", "(I)I"⟩, 6) := ⟨⟨by decide +kernel, by decide +kernel⟩, List.mem_of_getElem? (i := 38) (by decide +kernel), List.mem_of_getElem? (i := 390) (by decide +kernel), List.mem_of_getElem? (i := 391) (by decide +kernel)⟩
theorem lw_p6 : lw_okq (⟨"CandleMeadow", "hand", "(LCandleMeadow$Plot;II)V"⟩, 12) := ⟨⟨by decide +kernel, by decide +kernel⟩, List.mem_of_getElem? (i := 22) (by decide +kernel), List.mem_of_getElem? (i := 399) (by decide +kernel), List.mem_of_getElem? (i := 400) (by decide +kernel)⟩
theorem lw_p7 : lw_okq (⟨"CandleMeadow$Ways", "spread", "()V"⟩, 2) := ⟨⟨by decide +kernel, by decide +kernel⟩, List.mem_of_getElem? (i := 71) (by decide +kernel), List.mem_of_getElem? (i := 441) (by decide +kernel), List.mem_of_getElem? (i := 442) (by decide +kernel)⟩
theorem lw_p8 : lw_okq (⟨"CandleMeadow$Ways", "leastBeside", "(I)I"⟩, 2) := ⟨⟨by decide +kernel, by decide +kernel⟩, List.mem_of_getElem? (i := 71) (by decide +kernel), List.mem_of_getElem? (i := 449) (by decide +kernel), List.mem_of_getElem? (i := 450) (by decide +kernel)⟩
theorem lw_p9 : lw_okq (⟨"CandleMeadow", "standing", "()I"⟩, 12) := ⟨⟨by decide +kernel, by decide +kernel⟩, List.mem_of_getElem? (i := 22) (by decide +kernel), List.mem_of_getElem? (i := 463) (by decide +kernel), List.mem_of_getElem? (i := 464) (by decide +kernel)⟩
theorem lw_p10 : lw_okq (⟨"CandleMeadow", "standingAt", "(I)I"⟩, 12) := ⟨⟨by decide +kernel, by decide +kernel⟩, List.mem_of_getElem? (i := 22) (by decide +kernel), List.mem_of_getElem? (i := 471) (by decide +kernel), List.mem_of_getElem? (i := 472) (by decide +kernel)⟩
theorem lw_p11 : lw_okq (⟨"CandleMeadow", "dryDay", "(LCandleMeadow$Plot;)I"⟩, 12) := ⟨⟨by decide +kernel, by decide +kernel⟩, List.mem_of_getElem? (i := 22) (by decide +kernel), List.mem_of_getElem? (i := 480) (by decide +kernel), List.mem_of_getElem? (i := 481) (by decide +kernel)⟩
theorem lw_p12 : lw_okq (⟨"CandleMeadow", "inBarn", "(LCandleMeadow$Plot;)I"⟩, 12) := ⟨⟨by decide +kernel, by decide +kernel⟩, List.mem_of_getElem? (i := 22) (by decide +kernel), List.mem_of_getElem? (i := 488) (by decide +kernel), List.mem_of_getElem? (i := 489) (by decide +kernel)⟩
theorem lw_p13 : lw_okq (⟨"CandleMeadow", "sold", "()I"⟩, 12) := ⟨⟨by decide +kernel, by decide +kernel⟩, List.mem_of_getElem? (i := 22) (by decide +kernel), List.mem_of_getElem? (i := 514) (by decide +kernel), List.mem_of_getElem? (i := 515) (by decide +kernel)⟩
theorem lw_p14 : lw_okq (⟨"CandleMeadow", "allHay", "()I"⟩, 12) := ⟨⟨by decide +kernel, by decide +kernel⟩, List.mem_of_getElem? (i := 22) (by decide +kernel), List.mem_of_getElem? (i := 518) (by decide +kernel), List.mem_of_getElem? (i := 519) (by decide +kernel)⟩
theorem lw_p15 : lw_okq (⟨"CandleMeadow", "rainyDays", "()I"⟩, 12) := ⟨⟨by decide +kernel, by decide +kernel⟩, List.mem_of_getElem? (i := 22) (by decide +kernel), List.mem_of_getElem? (i := 522) (by decide +kernel), List.mem_of_getElem? (i := 523) (by decide +kernel)⟩
def lw_privs_1 : List (MethodName × Nat) := [(⟨"CandleMeadow", "isBuyer", "(I)Z"⟩, 12), (⟨"CandleMeadow", "hayOf", "(I)I"⟩, 12), (⟨"CandleMeadow", "worthTo", "(II)I"⟩, 12), (⟨"CandleMeadow", "ownsBeside", "(II)Z"⟩, 12), (⟨"CandleMeadow", "prepareSale", "(I)V"⟩, 12), (⟨"CandleMeadow$Sale", "greatestBut", "(I)I"⟩, 6), (⟨"CandleMeadow", "hand", "(LCandleMeadow$Plot;II)V"⟩, 12), (⟨"CandleMeadow$Ways", "spread", "()V"⟩, 2), (⟨"CandleMeadow$Ways", "leastBeside", "(I)I"⟩, 2), (⟨"CandleMeadow", "standing", "()I"⟩, 12), (⟨"CandleMeadow", "standingAt", "(I)I"⟩, 12), (⟨"CandleMeadow", "dryDay", "(LCandleMeadow$Plot;)I"⟩, 12), (⟨"CandleMeadow", "inBarn", "(LCandleMeadow$Plot;)I"⟩, 12), (⟨"CandleMeadow", "sold", "()I"⟩, 12), (⟨"CandleMeadow", "allHay", "()I"⟩, 12), (⟨"CandleMeadow", "rainyDays", "()I"⟩, 12)]
theorem lw_r1 : ∀ q ∈ lw_privs_1, lw_okq q := List.forall_mem_cons.mpr ⟨lw_p0, List.forall_mem_cons.mpr ⟨lw_p1, List.forall_mem_cons.mpr ⟨lw_p2, List.forall_mem_cons.mpr ⟨lw_p3, List.forall_mem_cons.mpr ⟨lw_p4, List.forall_mem_cons.mpr ⟨lw_p5, List.forall_mem_cons.mpr ⟨lw_p6, List.forall_mem_cons.mpr ⟨lw_p7, List.forall_mem_cons.mpr ⟨lw_p8, List.forall_mem_cons.mpr ⟨lw_p9, List.forall_mem_cons.mpr ⟨lw_p10, List.forall_mem_cons.mpr ⟨lw_p11, List.forall_mem_cons.mpr ⟨lw_p12, List.forall_mem_cons.mpr ⟨lw_p13, List.forall_mem_cons.mpr ⟨lw_p14, List.forall_mem_cons.mpr ⟨lw_p15, fun _ h => absurd h List.not_mem_nil⟩⟩⟩⟩⟩⟩⟩⟩⟩⟩⟩⟩⟩⟩⟩⟩
theorem lw_p16 : lw_okq (⟨"CandleMeadow", "keepPlot", "(LCandleMeadow$Shelf;I)I"⟩, 12) := ⟨⟨by decide +kernel, by decide +kernel⟩, List.mem_of_getElem? (i := 22) (by decide +kernel), List.mem_of_getElem? (i := 533) (by decide +kernel), List.mem_of_getElem? (i := 534) (by decide +kernel)⟩
theorem lw_p17 : lw_okq (⟨"CandleMeadow", "keepWorths", "(LCandleMeadow$Shelf;I)I"⟩, 12) := ⟨⟨by decide +kernel, by decide +kernel⟩, List.mem_of_getElem? (i := 22) (by decide +kernel), List.mem_of_getElem? (i := 537) (by decide +kernel), List.mem_of_getElem? (i := 538) (by decide +kernel)⟩
theorem lw_p18 : lw_okq (⟨"CandleMeadow", "keepOwners", "(LCandleMeadow$Shelf;)I"⟩, 12) := ⟨⟨by decide +kernel, by decide +kernel⟩, List.mem_of_getElem? (i := 22) (by decide +kernel), List.mem_of_getElem? (i := 549) (by decide +kernel), List.mem_of_getElem? (i := 550) (by decide +kernel)⟩
theorem lw_p19 : lw_okq (⟨"CandleMeadow", "refusalOfPlotOn", "(I)I"⟩, 12) := ⟨⟨by decide +kernel, by decide +kernel⟩, List.mem_of_getElem? (i := 22) (by decide +kernel), List.mem_of_getElem? (i := 576) (by decide +kernel), List.mem_of_getElem? (i := 577) (by decide +kernel)⟩
theorem lw_p20 : lw_okq (⟨"java/lang/Throwable", "fillInStackTrace", "(I)Ljava/lang/Throwable;"⟩, 6) := ⟨⟨by decide +kernel, by decide +kernel⟩, List.mem_of_getElem? (i := 650) (by decide +kernel), List.mem_of_getElem? (i := 648) (by decide +kernel), List.mem_of_getElem? (i := 649) (by decide +kernel)⟩
theorem lw_p21 : lw_okq (⟨"CandleMeadowModel", "isBuyer", "(I)Z"⟩, 40) := ⟨⟨by decide +kernel, by decide +kernel⟩, List.mem_of_getElem? (i := 720) (by decide +kernel), List.mem_of_getElem? (i := 870) (by decide +kernel), List.mem_of_getElem? (i := 871) (by decide +kernel)⟩
theorem lw_p22 : lw_okq (⟨"CandleMeadowModel", "hayOf", "(I)I"⟩, 40) := ⟨⟨by decide +kernel, by decide +kernel⟩, List.mem_of_getElem? (i := 720) (by decide +kernel), List.mem_of_getElem? (i := 893) (by decide +kernel), List.mem_of_getElem? (i := 894) (by decide +kernel)⟩
theorem lw_p23 : lw_okq (⟨"CandleMeadowModel", "stands", "(I)Z"⟩, 40) := ⟨⟨by decide +kernel, by decide +kernel⟩, List.mem_of_getElem? (i := 720) (by decide +kernel), List.mem_of_getElem? (i := 897) (by decide +kernel), List.mem_of_getElem? (i := 898) (by decide +kernel)⟩
theorem lw_p24 : lw_okq (⟨"CandleMeadowModel", "hayHeld", "(I)I"⟩, 40) := ⟨⟨by decide +kernel, by decide +kernel⟩, List.mem_of_getElem? (i := 720) (by decide +kernel), List.mem_of_getElem? (i := 905) (by decide +kernel), List.mem_of_getElem? (i := 906) (by decide +kernel)⟩
theorem lw_p25 : lw_okq (⟨"CandleMeadowModel", "has", "(II)Z"⟩, 40) := ⟨⟨by decide +kernel, by decide +kernel⟩, List.mem_of_getElem? (i := 720) (by decide +kernel), List.mem_of_getElem? (i := 909) (by decide +kernel), List.mem_of_getElem? (i := 910) (by decide +kernel)⟩
theorem lw_p26 : lw_okq (⟨"CandleMeadowModel", "debt", "(I)I"⟩, 40) := ⟨⟨by decide +kernel, by decide +kernel⟩, List.mem_of_getElem? (i := 720) (by decide +kernel), List.mem_of_getElem? (i := 913) (by decide +kernel), List.mem_of_getElem? (i := 914) (by decide +kernel)⟩
theorem lw_p27 : lw_okq (⟨"CandleMeadowModel", "worthOf", "(II)I"⟩, 40) := ⟨⟨by decide +kernel, by decide +kernel⟩, List.mem_of_getElem? (i := 720) (by decide +kernel), List.mem_of_getElem? (i := 921) (by decide +kernel), List.mem_of_getElem? (i := 922) (by decide +kernel)⟩
theorem lw_p28 : lw_okq (⟨"CandleMeadowModel", "value", "(I)V"⟩, 40) := ⟨⟨by decide +kernel, by decide +kernel⟩, List.mem_of_getElem? (i := 720) (by decide +kernel), List.mem_of_getElem? (i := 935) (by decide +kernel), List.mem_of_getElem? (i := 936) (by decide +kernel)⟩
theorem lw_p29 : lw_okq (⟨"CandleMeadowModel", "burn", "(II)I"⟩, 40) := ⟨⟨by decide +kernel, by decide +kernel⟩, List.mem_of_getElem? (i := 720) (by decide +kernel), List.mem_of_getElem? (i := 939) (by decide +kernel), List.mem_of_getElem? (i := 940) (by decide +kernel)⟩
theorem lw_p30 : lw_okq (⟨"CandleMeadowModel", "lotFor", "()I"⟩, 40) := ⟨⟨by decide +kernel, by decide +kernel⟩, List.mem_of_getElem? (i := 720) (by decide +kernel), List.mem_of_getElem? (i := 943) (by decide +kernel), List.mem_of_getElem? (i := 944) (by decide +kernel)⟩
theorem lw_p31 : lw_okq (⟨"CandleMeadowModel", "capOf", "(I)I"⟩, 40) := ⟨⟨by decide +kernel, by decide +kernel⟩, List.mem_of_getElem? (i := 720) (by decide +kernel), List.mem_of_getElem? (i := 947) (by decide +kernel), List.mem_of_getElem? (i := 948) (by decide +kernel)⟩
def lw_privs_2 : List (MethodName × Nat) := [(⟨"CandleMeadow", "keepPlot", "(LCandleMeadow$Shelf;I)I"⟩, 12), (⟨"CandleMeadow", "keepWorths", "(LCandleMeadow$Shelf;I)I"⟩, 12), (⟨"CandleMeadow", "keepOwners", "(LCandleMeadow$Shelf;)I"⟩, 12), (⟨"CandleMeadow", "refusalOfPlotOn", "(I)I"⟩, 12), (⟨"java/lang/Throwable", "fillInStackTrace", "(I)Ljava/lang/Throwable;"⟩, 6), (⟨"CandleMeadowModel", "isBuyer", "(I)Z"⟩, 40), (⟨"CandleMeadowModel", "hayOf", "(I)I"⟩, 40), (⟨"CandleMeadowModel", "stands", "(I)Z"⟩, 40), (⟨"CandleMeadowModel", "hayHeld", "(I)I"⟩, 40), (⟨"CandleMeadowModel", "has", "(II)Z"⟩, 40), (⟨"CandleMeadowModel", "debt", "(I)I"⟩, 40), (⟨"CandleMeadowModel", "worthOf", "(II)I"⟩, 40), (⟨"CandleMeadowModel", "value", "(I)V"⟩, 40), (⟨"CandleMeadowModel", "burn", "(II)I"⟩, 40), (⟨"CandleMeadowModel", "lotFor", "()I"⟩, 40), (⟨"CandleMeadowModel", "capOf", "(I)I"⟩, 40)]
theorem lw_r2 : ∀ q ∈ lw_privs_2, lw_okq q := List.forall_mem_cons.mpr ⟨lw_p16, List.forall_mem_cons.mpr ⟨lw_p17, List.forall_mem_cons.mpr ⟨lw_p18, List.forall_mem_cons.mpr ⟨lw_p19, List.forall_mem_cons.mpr ⟨lw_p20, List.forall_mem_cons.mpr ⟨lw_p21, List.forall_mem_cons.mpr ⟨lw_p22, List.forall_mem_cons.mpr ⟨lw_p23, List.forall_mem_cons.mpr ⟨lw_p24, List.forall_mem_cons.mpr ⟨lw_p25, List.forall_mem_cons.mpr ⟨lw_p26, List.forall_mem_cons.mpr ⟨lw_p27, List.forall_mem_cons.mpr ⟨lw_p28, List.forall_mem_cons.mpr ⟨lw_p29, List.forall_mem_cons.mpr ⟨lw_p30, List.forall_mem_cons.mpr ⟨lw_p31, fun _ h => absurd h List.not_mem_nil⟩⟩⟩⟩⟩⟩⟩⟩⟩⟩⟩⟩⟩⟩⟩⟩
theorem lw_p32 : lw_okq (⟨"CandleMeadowModel", "standUp", "()V"⟩, 40) := ⟨⟨by decide +kernel, by decide +kernel⟩, List.mem_of_getElem? (i := 720) (by decide +kernel), List.mem_of_getElem? (i := 979) (by decide +kernel), List.mem_of_getElem? (i := 980) (by decide +kernel)⟩
theorem lw_p33 : lw_okq (⟨"CandleMeadowModel", "wayFrom", "(I)I"⟩, 40) := ⟨⟨by decide +kernel, by decide +kernel⟩, List.mem_of_getElem? (i := 720) (by decide +kernel), List.mem_of_getElem? (i := 983) (by decide +kernel), List.mem_of_getElem? (i := 984) (by decide +kernel)⟩
theorem lw_p34 : lw_okq (⟨"CandleMeadowModel", "workOut", "()Z"⟩, 40) := ⟨⟨by decide +kernel, by decide +kernel⟩, List.mem_of_getElem? (i := 720) (by decide +kernel), List.mem_of_getElem? (i := 996) (by decide +kernel), List.mem_of_getElem? (i := 997) (by decide +kernel)⟩
theorem lw_p35 : lw_okq (⟨"CandleMeadowModel", "dries", "(I)I"⟩, 40) := ⟨⟨by decide +kernel, by decide +kernel⟩, List.mem_of_getElem? (i := 720) (by decide +kernel), List.mem_of_getElem? (i := 1008) (by decide +kernel), List.mem_of_getElem? (i := 1009) (by decide +kernel)⟩
theorem lw_p36 : lw_okq (⟨"CandleMeadowModel", "inBarn", "(I)I"⟩, 40) := ⟨⟨by decide +kernel, by decide +kernel⟩, List.mem_of_getElem? (i := 720) (by decide +kernel), List.mem_of_getElem? (i := 1016) (by decide +kernel), List.mem_of_getElem? (i := 1017) (by decide +kernel)⟩
theorem lw_p37 : lw_okq (⟨"CandleMeadowModel", "settle", "()V"⟩, 40) := ⟨⟨by decide +kernel, by decide +kernel⟩, List.mem_of_getElem? (i := 720) (by decide +kernel), List.mem_of_getElem? (i := 1028) (by decide +kernel), List.mem_of_getElem? (i := 1029) (by decide +kernel)⟩
theorem lw_p38 : lw_okq (⟨"CandleMeadowModel", "noPlot", "(I)I"⟩, 40) := ⟨⟨by decide +kernel, by decide +kernel⟩, List.mem_of_getElem? (i := 720) (by decide +kernel), List.mem_of_getElem? (i := 1059) (by decide +kernel), List.mem_of_getElem? (i := 1060) (by decide +kernel)⟩
def lw_privs_3 : List (MethodName × Nat) := [(⟨"CandleMeadowModel", "standUp", "()V"⟩, 40), (⟨"CandleMeadowModel", "wayFrom", "(I)I"⟩, 40), (⟨"CandleMeadowModel", "workOut", "()Z"⟩, 40), (⟨"CandleMeadowModel", "dries", "(I)I"⟩, 40), (⟨"CandleMeadowModel", "inBarn", "(I)I"⟩, 40), (⟨"CandleMeadowModel", "settle", "()V"⟩, 40), (⟨"CandleMeadowModel", "noPlot", "(I)I"⟩, 40)]
theorem lw_r3 : ∀ q ∈ lw_privs_3, lw_okq q := List.forall_mem_cons.mpr ⟨lw_p32, List.forall_mem_cons.mpr ⟨lw_p33, List.forall_mem_cons.mpr ⟨lw_p34, List.forall_mem_cons.mpr ⟨lw_p35, List.forall_mem_cons.mpr ⟨lw_p36, List.forall_mem_cons.mpr ⟨lw_p37, List.forall_mem_cons.mpr ⟨lw_p38, fun _ h => absurd h List.not_mem_nil⟩⟩⟩⟩⟩⟩⟩
def lw_privs : List (MethodName × Nat) := lw_privs_1 ++ (lw_privs_2 ++ (lw_privs_3))
def lw_tbl : List Cond := k2_sels lw_privs ++ tables_1
theorem lw_privs_ok : ∀ q ∈ lw_privs, lw_okq q := by
  show ∀ q ∈ lw_privs_1 ++ (lw_privs_2 ++ (lw_privs_3)), lw_okq q
  exact List.forall_mem_append.mpr ⟨lw_r1, List.forall_mem_append.mpr ⟨lw_r2, lw_r3⟩⟩
end
section
/-! ===== BEGIN words of one list among another's, by their places ===== -/
theorem goodIn_r {big : List Cond} (ws : List Cond) (ps : List Nat) (hp : ws = ps.filterMap (fun i => big[i]?)) (h : ws.all goodWord = true) : GoodIn big ws := by
  intro w hw
  have h1 := List.all_eq_true.mp h w hw
  rw [hp] at hw
  obtain ⟨i, -, hi⟩ := List.mem_filterMap.mp hw
  have hm : w ∈ big := by first | exact List.mem_of_getElem? hi | exact List.getElem?_mem hi
  exact ⟨hm, good_of_word h1⟩
theorem goodIn_app {big a b : List Cond} (ha : GoodIn big a) (hb : GoodIn big b) : GoodIn big (a ++ b) := fun w h => (List.mem_append.mp h).elim (ha w) (hb w)
theorem goodIn_ca {big a b : List Cond} {c : Cond} (ha : GoodIn big (c :: a)) (hb : GoodIn big b) : GoodIn big (c :: (a ++ b)) := fun w h => (List.mem_cons.mp h).elim (fun e => ha w (List.mem_cons.mpr (Or.inl e))) (fun h => (List.mem_append.mp h).elim (fun h => ha w (List.mem_cons.mpr (Or.inr h))) (hb w))
theorem goodIn_sub {big ws : List Cond} (hm : ∀ w ∈ ws, w ∈ big) (h : ws.all goodWord = true) : GoodIn big ws := fun w hw => ⟨hm w hw, good_of_word (List.all_eq_true.mp h w hw)⟩
/-! ===== END ===== -/
def RX0 : String := "CandleMeadow$Buyer"
def TX0 : u_T := fun k => match k with
  | 0 => ("CandleMeadow$Buyer", "cows", "I", false)
  | 1 => ("CandleMeadow$Buyer", "purse", "I", false)
  | 2 => ("CandleMeadow$Buyer", "home", "I", false)
  | 3 => ("CandleMeadow$Buyer", "debt", "I", false)
  | 4 => ("CandleMeadow$Buyer", "trampled", "I", false)
  | 5 => ("CandleMeadow$Buyer", "waits", "Z", false)
  | _ => ("CandleMeadow$Buyer", "surety", "I", false)
def tyX0 : Nat → FieldType := fun k => match k with
  | 0 => .int
  | 1 => .int
  | 2 => .int
  | 3 => .int
  | 4 => .int
  | 5 => .boolean
  | _ => .int
abbrev wsX00 : List Cond := u_ws RX0 TX0 7
theorem nmX0 : ∀ a, a < 7 → ∀ b, b < 7 → a ≠ b → (TX0 a).2.1 ≠ (TX0 b).2.1 := by decide +kernel
theorem tyX0_ok : ∀ k, k < 7 → parseFieldDescriptor (TX0 k).2.2.1 = some (tyX0 k) := by decide +kernel
abbrev cX0_init : ByteArray := prog_2_method_1_code
def yX0_init : MethodName := ⟨RX0, "<init>", "()V"⟩
abbrev cX0_need : ByteArray := prog_2_method_2_code
def yX0_need : MethodName := ⟨RX0, "need", "()I"⟩
abbrev cX0_owes : ByteArray := prog_2_method_3_code
def yX0_owes : MethodName := ⟨RX0, "owes", "()I"⟩
def RX1 : String := "CandleMeadow$Dry"
def TX1 : u_T := fun k => match k with
  | _ => ("", "", "", false)
def tyX1 : Nat → FieldType := fun k => match k with
  | _ => .int
abbrev wsX10 : List Cond := u_ws RX1 TX1 0
theorem nmX1 : ∀ a, a < 0 → ∀ b, b < 0 → a ≠ b → (TX1 a).2.1 ≠ (TX1 b).2.1 := by decide +kernel
theorem tyX1_ok : ∀ k, k < 0 → parseFieldDescriptor (TX1 k).2.2.1 = some (tyX1 k) := by decide +kernel
abbrev cX1_init : ByteArray := prog_3_method_1_code
def yX1_init : MethodName := ⟨RX1, "<init>", "()V"⟩
abbrev cX1_chance : ByteArray := prog_3_method_2_code
def yX1_chance : MethodName := ⟨RX1, "chance", "()I"⟩
abbrev cX1_heft : ByteArray := prog_3_method_3_code
def yX1_heft : MethodName := ⟨RX1, "heft", "(I)I"⟩
abbrev cX1_fail : ByteArray := prog_3_method_4_code
def yX1_fail : MethodName := ⟨RX1, "fail", "()V"⟩
def RX2 : String := "CandleMeadow$Flooded"
def TX2 : u_T := fun k => match k with
  | _ => ("", "", "", false)
def tyX2 : Nat → FieldType := fun k => match k with
  | _ => .int
abbrev wsX20 : List Cond := u_ws RX2 TX2 0
theorem nmX2 : ∀ a, a < 0 → ∀ b, b < 0 → a ≠ b → (TX2 a).2.1 ≠ (TX2 b).2.1 := by decide +kernel
theorem tyX2_ok : ∀ k, k < 0 → parseFieldDescriptor (TX2 k).2.2.1 = some (tyX2 k) := by decide +kernel
abbrev cX2_init : ByteArray := prog_4_method_1_code
def yX2_init : MethodName := ⟨RX2, "<init>", "()V"⟩
abbrev cX2_chance : ByteArray := prog_4_method_2_code
def yX2_chance : MethodName := ⟨RX2, "chance", "()I"⟩
abbrev cX2_heft : ByteArray := prog_4_method_3_code
def yX2_heft : MethodName := ⟨RX2, "heft", "(I)I"⟩
abbrev cX2_fail : ByteArray := prog_4_method_4_code
def yX2_fail : MethodName := ⟨RX2, "fail", "()V"⟩
def RX3 : String := "CandleMeadow$High"
def TX3 : u_T := fun k => match k with
  | _ => ("", "", "", false)
def tyX3 : Nat → FieldType := fun k => match k with
  | _ => .int
abbrev wsX30 : List Cond := u_ws RX3 TX3 0
theorem nmX3 : ∀ a, a < 0 → ∀ b, b < 0 → a ≠ b → (TX3 a).2.1 ≠ (TX3 b).2.1 := by decide +kernel
theorem tyX3_ok : ∀ k, k < 0 → parseFieldDescriptor (TX3 k).2.2.1 = some (tyX3 k) := by decide +kernel
abbrev cX3_init : ByteArray := prog_5_method_1_code
def yX3_init : MethodName := ⟨RX3, "<init>", "()V"⟩
abbrev cX3_chance : ByteArray := prog_5_method_2_code
def yX3_chance : MethodName := ⟨RX3, "chance", "()I"⟩
abbrev cX3_heft : ByteArray := prog_5_method_3_code
def yX3_heft : MethodName := ⟨RX3, "heft", "(I)I"⟩
abbrev cX3_fail : ByteArray := prog_5_method_4_code
def yX3_fail : MethodName := ⟨RX3, "fail", "()V"⟩
def RX4 : String := "CandleMeadow$Martinmas"
def TX4 : u_T := fun k => match k with
  | 0 => ("CandleMeadow$Martinmas", "paid", "[I", true)
  | 1 => ("CandleMeadow$Martinmas", "helped", "[I", true)
  | _ => ("CandleMeadow$Martinmas", "left", "[I", true)
def tyX4 : Nat → FieldType := fun k => match k with
  | 0 => .array .int
  | 1 => .array .int
  | _ => .array .int
abbrev wsX40 : List Cond := u_ws RX4 TX4 3
theorem nmX4 : ∀ a, a < 3 → ∀ b, b < 3 → a ≠ b → (TX4 a).2.1 ≠ (TX4 b).2.1 := by decide +kernel
theorem tyX4_ok : ∀ k, k < 3 → parseFieldDescriptor (TX4 k).2.2.1 = some (tyX4 k) := by decide +kernel
abbrev cX4_init : ByteArray := prog_6_method_1_code
def yX4_init : MethodName := ⟨RX4, "<init>", "()V"⟩
abbrev cX4_settle : ByteArray := prog_6_method_2_code
def yX4_settle : MethodName := ⟨RX4, "settle", "([LCandleMeadow$Buyer;I)V"⟩
def RX5 : String := "CandleMeadow$Plot"
def TX5 : u_T := fun k => match k with
  | 0 => ("CandleMeadow$Plot", "kind", "I", false)
  | 1 => ("CandleMeadow$Plot", "ground", "LCandleMeadow$Dry;", false)
  | 2 => ("CandleMeadow$Plot", "grass", "I", false)
  | 3 => ("CandleMeadow$Plot", "owner", "I", false)
  | 4 => ("CandleMeadow$Plot", "price", "I", false)
  | _ => ("CandleMeadow$Plot", "cutDay", "I", false)
def tyX5 : Nat → FieldType := fun k => match k with
  | 0 => .int
  | 1 => .object "CandleMeadow$Dry"
  | 2 => .int
  | 3 => .int
  | 4 => .int
  | _ => .int
abbrev wsX50 : List Cond := u_ws RX5 TX5 6
theorem nmX5 : ∀ a, a < 6 → ∀ b, b < 6 → a ≠ b → (TX5 a).2.1 ≠ (TX5 b).2.1 := by decide +kernel
theorem tyX5_ok : ∀ k, k < 6 → parseFieldDescriptor (TX5 k).2.2.1 = some (tyX5 k) := by decide +kernel
abbrev cX5_init : ByteArray := prog_7_method_1_code
def yX5_init : MethodName := ⟨RX5, "<init>", "(LCandleMeadow$Dry;)V"⟩
abbrev cX5_hay : ByteArray := prog_7_method_2_code
def yX5_hay : MethodName := ⟨RX5, "hay", "()I"⟩
abbrev cX5_isSold : ByteArray := prog_7_method_3_code
def yX5_isSold : MethodName := ⟨RX5, "isSold", "()Z"⟩
abbrev cX5_isCut : ByteArray := prog_7_method_4_code
def yX5_isCut : MethodName := ⟨RX5, "isCut", "()Z"⟩
abbrev cX5_stands : ByteArray := prog_7_method_5_code
def yX5_stands : MethodName := ⟨RX5, "stands", "()Z"⟩
abbrev cX5_toll : ByteArray := prog_7_method_6_code
def yX5_toll : MethodName := ⟨RX5, "toll", "()I"⟩
abbrev cX5_beside : ByteArray := prog_7_method_7_code
def yX5_beside : MethodName := ⟨RX5, "beside", "(II)I"⟩
abbrev cX5_steps : ByteArray := prog_7_method_8_code
def yX5_steps : MethodName := ⟨RX5, "steps", "(II)I"⟩
def RX6 : String := "CandleMeadow$Sale"
def TX6 : u_T := fun k => match k with
  | 0 => ("CandleMeadow$Sale", "caps", "[I", true)
  | 1 => ("CandleMeadow$Sale", "waiting", "[Z", true)
  | 2 => ("CandleMeadow$Sale", "count", "I", false)
  | 3 => ("CandleMeadow$Sale", "step", "I", false)
  | 4 => ("CandleMeadow$Sale", "bidder", "I", false)
  | _ => ("CandleMeadow$Sale", "bid", "I", false)
def tyX6 : Nat → FieldType := fun k => match k with
  | 0 => .array .int
  | 1 => .array .boolean
  | 2 => .int
  | 3 => .int
  | 4 => .int
  | _ => .int
abbrev wsX60 : List Cond := u_ws RX6 TX6 6
theorem nmX6 : ∀ a, a < 6 → ∀ b, b < 6 → a ≠ b → (TX6 a).2.1 ≠ (TX6 b).2.1 := by decide +kernel
theorem tyX6_ok : ∀ k, k < 6 → parseFieldDescriptor (TX6 k).2.2.1 = some (tyX6 k) := by decide +kernel
abbrev cX6_init : ByteArray := prog_8_method_1_code
def yX6_init : MethodName := ⟨RX6, "<init>", "()V"⟩
abbrev cX6_burn : ByteArray := prog_8_method_2_code
def yX6_burn : MethodName := ⟨RX6, "burn", "(II)V"⟩
abbrev cX6_lotTaker : ByteArray := prog_8_method_3_code
def yX6_lotTaker : MethodName := ⟨RX6, "lotTaker", "()I"⟩
abbrev cX6_lotPrice : ByteArray := prog_8_method_4_code
def yX6_lotPrice : MethodName := ⟨RX6, "lotPrice", "(I)I"⟩
abbrev cX6_greatestBut : ByteArray := prog_8_method_5_code
def yX6_greatestBut : MethodName := ⟨RX6, "greatestBut", "(I)I"⟩
def RX7 : String := "CandleMeadow$Shelf"
def TX7 : u_T := fun k => match k with
  | 0 => ("CandleMeadow$Shelf", "holds", "I", false)
  | 1 => ("CandleMeadow$Shelf", "plot", "I", false)
  | 2 => ("CandleMeadow$Shelf", "ground", "LCandleMeadow$Dry;", false)
  | 3 => ("CandleMeadow$Shelf", "grass", "I", false)
  | 4 => ("CandleMeadow$Shelf", "ints", "[I", true)
  | 5 => ("CandleMeadow$Shelf", "bytes", "[B", true)
  | _ => ("CandleMeadow$Shelf", "size", "I", false)
def tyX7 : Nat → FieldType := fun k => match k with
  | 0 => .int
  | 1 => .int
  | 2 => .object "CandleMeadow$Dry"
  | 3 => .int
  | 4 => .array .int
  | 5 => .array .byte
  | _ => .int
abbrev wsX70 : List Cond := u_ws RX7 TX7 7
theorem nmX7 : ∀ a, a < 7 → ∀ b, b < 7 → a ≠ b → (TX7 a).2.1 ≠ (TX7 b).2.1 := by decide +kernel
theorem tyX7_ok : ∀ k, k < 7 → parseFieldDescriptor (TX7 k).2.2.1 = some (tyX7 k) := by decide +kernel
abbrev cX7_init : ByteArray := prog_9_method_1_code
def yX7_init : MethodName := ⟨RX7, "<init>", "(LCandleMeadow$Dry;)V"⟩
abbrev cX7_isRow : ByteArray := prog_9_method_2_code
def yX7_isRow : MethodName := ⟨RX7, "isRow", "()Z"⟩
abbrev cX7_takeRow : ByteArray := prog_9_method_3_code
def yX7_takeRow : MethodName := ⟨RX7, "takeRow", "(II)V"⟩
abbrev cX7_hasPlaces : ByteArray := prog_9_method_4_code
def yX7_hasPlaces : MethodName := ⟨RX7, "hasPlaces", "(II)Z"⟩
def RX8 : String := "CandleMeadow$Ways"
def TX8 : u_T := fun k => match k with
  | 0 => ("CandleMeadow$Ways", "tolls", "[I", true)
  | _ => ("CandleMeadow$Ways", "sums", "[I", true)
def tyX8 : Nat → FieldType := fun k => match k with
  | 0 => .array .int
  | _ => .array .int
abbrev wsX80 : List Cond := u_ws RX8 TX8 2
theorem nmX8 : ∀ a, a < 2 → ∀ b, b < 2 → a ≠ b → (TX8 a).2.1 ≠ (TX8 b).2.1 := by decide +kernel
theorem tyX8_ok : ∀ k, k < 2 → parseFieldDescriptor (TX8 k).2.2.1 = some (tyX8 k) := by decide +kernel
abbrev cX8_init : ByteArray := prog_10_method_1_code
def yX8_init : MethodName := ⟨RX8, "<init>", "()V"⟩
abbrev cX8_trampled : ByteArray := prog_10_method_2_code
def yX8_trampled : MethodName := ⟨RX8, "trampled", "([LCandleMeadow$Plot;I)I"⟩
abbrev cX8_spread : ByteArray := prog_10_method_3_code
def yX8_spread : MethodName := ⟨RX8, "spread", "()V"⟩
abbrev cX8_leastBeside : ByteArray := prog_10_method_4_code
def yX8_leastBeside : MethodName := ⟨RX8, "leastBeside", "(I)I"⟩
def RX9 : String := "CandleMeadow$Wet"
def TX9 : u_T := fun k => match k with
  | _ => ("", "", "", false)
def tyX9 : Nat → FieldType := fun k => match k with
  | _ => .int
abbrev wsX90 : List Cond := u_ws RX9 TX9 0
theorem nmX9 : ∀ a, a < 0 → ∀ b, b < 0 → a ≠ b → (TX9 a).2.1 ≠ (TX9 b).2.1 := by decide +kernel
theorem tyX9_ok : ∀ k, k < 0 → parseFieldDescriptor (TX9 k).2.2.1 = some (tyX9 k) := by decide +kernel
abbrev cX9_init : ByteArray := prog_11_method_1_code
def yX9_init : MethodName := ⟨RX9, "<init>", "()V"⟩
abbrev cX9_chance : ByteArray := prog_11_method_2_code
def yX9_chance : MethodName := ⟨RX9, "chance", "()I"⟩
abbrev cX9_heft : ByteArray := prog_11_method_3_code
def yX9_heft : MethodName := ⟨RX9, "heft", "(I)I"⟩
abbrev cX9_fail : ByteArray := prog_11_method_4_code
def yX9_fail : MethodName := ⟨RX9, "fail", "()V"⟩
def RX10 : String := "CandleMeadow"
def TX10 : u_T := fun k => match k with
  | 0 => ("CandleMeadow", "grounds", "[LCandleMeadow$Dry;", true)
  | 1 => ("CandleMeadow", "plots", "[LCandleMeadow$Plot;", true)
  | 2 => ("CandleMeadow", "buyers", "[LCandleMeadow$Buyer;", true)
  | 3 => ("CandleMeadow", "shelves", "[LCandleMeadow$Shelf;", true)
  | 4 => ("CandleMeadow", "rainy", "[Z", true)
  | 5 => ("CandleMeadow", "sale", "LCandleMeadow$Sale;", true)
  | 6 => ("CandleMeadow", "ways", "LCandleMeadow$Ways;", true)
  | 7 => ("CandleMeadow", "martinmas", "LCandleMeadow$Martinmas;", true)
  | 8 => ("CandleMeadow", "buyerCount", "I", false)
  | 9 => ("CandleMeadow", "bidStep", "I", false)
  | 10 => ("CandleMeadow", "today", "I", false)
  | _ => ("CandleMeadow", "ringSum", "I", false)
def tyX10 : Nat → FieldType := fun k => match k with
  | 0 => .array (.object "CandleMeadow$Dry")
  | 1 => .array (.object "CandleMeadow$Plot")
  | 2 => .array (.object "CandleMeadow$Buyer")
  | 3 => .array (.object "CandleMeadow$Shelf")
  | 4 => .array .boolean
  | 5 => .object "CandleMeadow$Sale"
  | 6 => .object "CandleMeadow$Ways"
  | 7 => .object "CandleMeadow$Martinmas"
  | 8 => .int
  | 9 => .int
  | 10 => .int
  | _ => .int
abbrev wsX100 : List Cond := u_ws RX10 TX10 12
theorem nmX10 : ∀ a, a < 12 → ∀ b, b < 12 → a ≠ b → (TX10 a).2.1 ≠ (TX10 b).2.1 := by decide +kernel
theorem tyX10_ok : ∀ k, k < 12 → parseFieldDescriptor (TX10 k).2.2.1 = some (tyX10 k) := by decide +kernel
abbrev cX10_init : ByteArray := prog_1_method_1_code
def yX10_init : MethodName := ⟨RX10, "<init>", "()V"⟩
abbrev cX10_plot : ByteArray := prog_1_method_2_code
def yX10_plot : MethodName := ⟨RX10, "plot", "(III)I"⟩
abbrev cX10_buyer : ByteArray := prog_1_method_3_code
def yX10_buyer : MethodName := ⟨RX10, "buyer", "(III)I"⟩
abbrev cX10_purse : ByteArray := prog_1_method_4_code
def yX10_purse : MethodName := ⟨RX10, "purse", "(II)I"⟩
abbrev cX10_waits : ByteArray := prog_1_method_5_code
def yX10_waits : MethodName := ⟨RX10, "waits", "(IZ)I"⟩
abbrev cX10_surety : ByteArray := prog_1_method_6_code
def yX10_surety : MethodName := ⟨RX10, "surety", "(II)I"⟩
abbrev cX10_step : ByteArray := prog_1_method_7_code
def yX10_step : MethodName := ⟨RX10, "step", "(I)I"⟩
abbrev cX10_look : ByteArray := prog_1_method_8_code
def yX10_look : MethodName := ⟨RX10, "look", "(II)I"⟩
abbrev cX10_about : ByteArray := prog_1_method_9_code
def yX10_about : MethodName := ⟨RX10, "about", "(II)I"⟩
abbrev cX10_worth : ByteArray := prog_1_method_10_code
def yX10_worth : MethodName := ⟨RX10, "worth", "(II)I"⟩
abbrev cX10_candle : ByteArray := prog_1_method_11_code
def yX10_candle : MethodName := ⟨RX10, "candle", "(III)I"⟩
abbrev cX10_wins : ByteArray := prog_1_method_12_code
def yX10_wins : MethodName := ⟨RX10, "wins", "(III)I"⟩
abbrev cX10_lots : ByteArray := prog_1_method_13_code
def yX10_lots : MethodName := ⟨RX10, "lots", "(I)I"⟩
abbrev cX10_lotter : ByteArray := prog_1_method_14_code
def yX10_lotter : MethodName := ⟨RX10, "lotter", "(I)I"⟩
abbrev cX10_ring : ByteArray := prog_1_method_15_code
def yX10_ring : MethodName := ⟨RX10, "ring", "()I"⟩
abbrev cX10_day : ByteArray := prog_1_method_16_code
def yX10_day : MethodName := ⟨RX10, "day", "(I)I"⟩
abbrev cX10_rain : ByteArray := prog_1_method_17_code
def yX10_rain : MethodName := ⟨RX10, "rain", "(IZ)I"⟩
abbrev cX10_way : ByteArray := prog_1_method_18_code
def yX10_way : MethodName := ⟨RX10, "way", "(I)I"⟩
abbrev cX10_cut : ByteArray := prog_1_method_19_code
def yX10_cut : MethodName := ⟨RX10, "cut", "(I)I"⟩
abbrev cX10_best : ByteArray := prog_1_method_20_code
def yX10_best : MethodName := ⟨RX10, "best", "()I"⟩
abbrev cX10_order : ByteArray := prog_1_method_21_code
def yX10_order : MethodName := ⟨RX10, "order", "(I)I"⟩
abbrev cX10_dry : ByteArray := prog_1_method_22_code
def yX10_dry : MethodName := ⟨RX10, "dry", "(I)I"⟩
abbrev cX10_barn : ByteArray := prog_1_method_23_code
def yX10_barn : MethodName := ⟨RX10, "barn", "(I)I"⟩
abbrev cX10_tithe : ByteArray := prog_1_method_24_code
def yX10_tithe : MethodName := ⟨RX10, "tithe", "(I)I"⟩
abbrev cX10_pays : ByteArray := prog_1_method_25_code
def yX10_pays : MethodName := ⟨RX10, "pays", "(II)I"⟩
abbrev cX10_count : ByteArray := prog_1_method_26_code
def yX10_count : MethodName := ⟨RX10, "count", "(I)I"⟩
abbrev cX10_keep : ByteArray := prog_1_method_27_code
def yX10_keep : MethodName := ⟨RX10, "keep", "(III)I"⟩
abbrev cX10_make : ByteArray := prog_1_method_28_code
def yX10_make : MethodName := ⟨RX10, "make", "(III)I"⟩
abbrev cX10_element : ByteArray := prog_1_method_29_code
def yX10_element : MethodName := ⟨RX10, "element", "(II)J"⟩
abbrev cX10_copy : ByteArray := prog_1_method_30_code
def yX10_copy : MethodName := ⟨RX10, "copy", "(IIIII)I"⟩
abbrev cX10_weight : ByteArray := prog_1_method_31_code
def yX10_weight : MethodName := ⟨RX10, "weight", "(I)I"⟩
abbrev cX10_toss : ByteArray := prog_1_method_32_code
def yX10_toss : MethodName := ⟨RX10, "toss", "(I)I"⟩
abbrev cX10_within : ByteArray := prog_1_method_33_code
def yX10_within : MethodName := ⟨RX10, "within", "(II)Z"⟩
abbrev cX10_oneIf : ByteArray := prog_1_method_34_code
def yX10_oneIf : MethodName := ⟨RX10, "oneIf", "(Z)I"⟩
abbrev cX10_isPlot : ByteArray := prog_1_method_35_code
def yX10_isPlot : MethodName := ⟨RX10, "isPlot", "(I)Z"⟩
abbrev cX10_isShelf : ByteArray := prog_1_method_36_code
def yX10_isShelf : MethodName := ⟨RX10, "isShelf", "(I)Z"⟩
abbrev cX10_isBuyer : ByteArray := prog_1_method_37_code
def yX10_isBuyer : MethodName := ⟨RX10, "isBuyer", "(I)Z"⟩
abbrev cX10_hayOf : ByteArray := prog_1_method_38_code
def yX10_hayOf : MethodName := ⟨RX10, "hayOf", "(I)I"⟩
abbrev cX10_ownsBeside : ByteArray := prog_1_method_39_code
def yX10_ownsBeside : MethodName := ⟨RX10, "ownsBeside", "(II)Z"⟩
abbrev cX10_worthTo : ByteArray := prog_1_method_40_code
def yX10_worthTo : MethodName := ⟨RX10, "worthTo", "(II)I"⟩
abbrev cX10_prepareSale : ByteArray := prog_1_method_41_code
def yX10_prepareSale : MethodName := ⟨RX10, "prepareSale", "(I)V"⟩
abbrev cX10_hand : ByteArray := prog_1_method_42_code
def yX10_hand : MethodName := ⟨RX10, "hand", "(LCandleMeadow$Plot;II)V"⟩
abbrev cX10_sold : ByteArray := prog_1_method_43_code
def yX10_sold : MethodName := ⟨RX10, "sold", "()I"⟩
abbrev cX10_standing : ByteArray := prog_1_method_44_code
def yX10_standing : MethodName := ⟨RX10, "standing", "()I"⟩
abbrev cX10_standingAt : ByteArray := prog_1_method_45_code
def yX10_standingAt : MethodName := ⟨RX10, "standingAt", "(I)I"⟩
abbrev cX10_allHay : ByteArray := prog_1_method_46_code
def yX10_allHay : MethodName := ⟨RX10, "allHay", "()I"⟩
abbrev cX10_rainyDays : ByteArray := prog_1_method_47_code
def yX10_rainyDays : MethodName := ⟨RX10, "rainyDays", "()I"⟩
abbrev cX10_dryDay : ByteArray := prog_1_method_48_code
def yX10_dryDay : MethodName := ⟨RX10, "dryDay", "(LCandleMeadow$Plot;)I"⟩
abbrev cX10_inBarn : ByteArray := prog_1_method_49_code
def yX10_inBarn : MethodName := ⟨RX10, "inBarn", "(LCandleMeadow$Plot;)I"⟩
abbrev cX10_keepPlot : ByteArray := prog_1_method_50_code
def yX10_keepPlot : MethodName := ⟨RX10, "keepPlot", "(LCandleMeadow$Shelf;I)I"⟩
abbrev cX10_keepWorths : ByteArray := prog_1_method_51_code
def yX10_keepWorths : MethodName := ⟨RX10, "keepWorths", "(LCandleMeadow$Shelf;I)I"⟩
abbrev cX10_keepOwners : ByteArray := prog_1_method_52_code
def yX10_keepOwners : MethodName := ⟨RX10, "keepOwners", "(LCandleMeadow$Shelf;)I"⟩
abbrev cX10_refusalOfPlotOn : ByteArray := prog_1_method_53_code
def yX10_refusalOfPlotOn : MethodName := ⟨RX10, "refusalOfPlotOn", "(I)I"⟩
abbrev cX10_isThrown : ByteArray := prog_1_method_54_code
def yX10_isThrown : MethodName := ⟨RX10, "isThrown", "(LCandleMeadow$Dry;)Z"⟩
def RX11 : String := "CandleMeadowModel"
def TX11 : u_T := fun k => match k with
  | 0 => ("CandleMeadowModel", "thrown", "I", false)
  | 1 => ("CandleMeadowModel", "kind", "[I", true)
  | 2 => ("CandleMeadowModel", "grass", "[I", true)
  | 3 => ("CandleMeadowModel", "sold", "[Z", true)
  | 4 => ("CandleMeadowModel", "owner", "[I", true)
  | 5 => ("CandleMeadowModel", "price", "[I", true)
  | 6 => ("CandleMeadowModel", "byLots", "[I", true)
  | 7 => ("CandleMeadowModel", "isCut", "[Z", true)
  | 8 => ("CandleMeadowModel", "cutOn", "[I", true)
  | 9 => ("CandleMeadowModel", "buyers", "I", false)
  | 10 => ("CandleMeadowModel", "cows", "[I", true)
  | 11 => ("CandleMeadowModel", "purses", "[I", true)
  | 12 => ("CandleMeadowModel", "homes", "[I", true)
  | 13 => ("CandleMeadowModel", "waiting", "[Z", true)
  | 14 => ("CandleMeadowModel", "sureties", "[I", true)
  | 15 => ("CandleMeadowModel", "trampled", "[I", true)
  | 16 => ("CandleMeadowModel", "stepNow", "I", false)
  | 17 => ("CandleMeadowModel", "worths", "[I", true)
  | 18 => ("CandleMeadowModel", "rest", "[I", true)
  | 19 => ("CandleMeadowModel", "lastBid", "I", false)
  | 20 => ("CandleMeadowModel", "lotTo", "I", false)
  | 21 => ("CandleMeadowModel", "today", "I", false)
  | 22 => ("CandleMeadowModel", "rains", "[Z", true)
  | 23 => ("CandleMeadowModel", "far", "[I", true)
  | 24 => ("CandleMeadowModel", "up", "[Z", true)
  | 25 => ("CandleMeadowModel", "standing", "I", false)
  | 26 => ("CandleMeadowModel", "standAt", "[I", true)
  | 27 => ("CandleMeadowModel", "least", "[I", true)
  | 28 => ("CandleMeadowModel", "costs", "[I", true)
  | 29 => ("CandleMeadowModel", "left", "I", false)
  | 30 => ("CandleMeadowModel", "owes", "[I", true)
  | 31 => ("CandleMeadowModel", "own", "[I", true)
  | 32 => ("CandleMeadowModel", "bySurety", "[I", true)
  | 33 => ("CandleMeadowModel", "purseLeft", "[I", true)
  | 34 => ("CandleMeadowModel", "held", "[I", true)
  | 35 => ("CandleMeadowModel", "heldNumber", "[I", true)
  | 36 => ("CandleMeadowModel", "heldKind", "[I", true)
  | 37 => ("CandleMeadowModel", "heldGrass", "[I", true)
  | 38 => ("CandleMeadowModel", "rowSize", "[I", true)
  | _ => ("CandleMeadowModel", "rows", "[I", true)
def tyX11 : Nat → FieldType := fun k => match k with
  | 0 => .int
  | 1 => .array .int
  | 2 => .array .int
  | 3 => .array .boolean
  | 4 => .array .int
  | 5 => .array .int
  | 6 => .array .int
  | 7 => .array .boolean
  | 8 => .array .int
  | 9 => .int
  | 10 => .array .int
  | 11 => .array .int
  | 12 => .array .int
  | 13 => .array .boolean
  | 14 => .array .int
  | 15 => .array .int
  | 16 => .int
  | 17 => .array .int
  | 18 => .array .int
  | 19 => .int
  | 20 => .int
  | 21 => .int
  | 22 => .array .boolean
  | 23 => .array .int
  | 24 => .array .boolean
  | 25 => .int
  | 26 => .array .int
  | 27 => .array .int
  | 28 => .array .int
  | 29 => .int
  | 30 => .array .int
  | 31 => .array .int
  | 32 => .array .int
  | 33 => .array .int
  | 34 => .array .int
  | 35 => .array .int
  | 36 => .array .int
  | 37 => .array .int
  | 38 => .array .int
  | _ => .array .int
abbrev wsX110 : List Cond := u_ws RX11 TX11 40
theorem nmX11 : ∀ a, a < 40 → ∀ b, b < 40 → a ≠ b → (TX11 a).2.1 ≠ (TX11 b).2.1 := by decide +kernel
theorem tyX11_ok : ∀ k, k < 40 → parseFieldDescriptor (TX11 k).2.2.1 = some (tyX11 k) := by decide +kernel
abbrev cX11_init : ByteArray := prog_13_method_1_code
def yX11_init : MethodName := ⟨RX11, "<init>", "()V"⟩
abbrev cX11_thrown : ByteArray := prog_13_method_2_code
def yX11_thrown : MethodName := ⟨RX11, "thrown", "()I"⟩
abbrev cX11_in : ByteArray := prog_13_method_3_code
def yX11_in : MethodName := ⟨RX11, "in", "(III)Z"⟩
abbrev cX11_isPlot : ByteArray := prog_13_method_4_code
def yX11_isPlot : MethodName := ⟨RX11, "isPlot", "(I)Z"⟩
abbrev cX11_isBuyer : ByteArray := prog_13_method_5_code
def yX11_isBuyer : MethodName := ⟨RX11, "isBuyer", "(I)Z"⟩
abbrev cX11_plot : ByteArray := prog_13_method_6_code
def yX11_plot : MethodName := ⟨RX11, "plot", "(III)I"⟩
abbrev cX11_buyer : ByteArray := prog_13_method_7_code
def yX11_buyer : MethodName := ⟨RX11, "buyer", "(III)I"⟩
abbrev cX11_purse : ByteArray := prog_13_method_8_code
def yX11_purse : MethodName := ⟨RX11, "purse", "(II)I"⟩
abbrev cX11_waits : ByteArray := prog_13_method_9_code
def yX11_waits : MethodName := ⟨RX11, "waits", "(IZ)I"⟩
abbrev cX11_surety : ByteArray := prog_13_method_10_code
def yX11_surety : MethodName := ⟨RX11, "surety", "(II)I"⟩
abbrev cX11_step : ByteArray := prog_13_method_11_code
def yX11_step : MethodName := ⟨RX11, "step", "(I)I"⟩
abbrev cX11_chanceOf : ByteArray := prog_13_method_12_code
def yX11_chanceOf : MethodName := ⟨RX11, "chanceOf", "(I)I"⟩
abbrev cX11_hayOf : ByteArray := prog_13_method_13_code
def yX11_hayOf : MethodName := ⟨RX11, "hayOf", "(I)I"⟩
abbrev cX11_stands : ByteArray := prog_13_method_14_code
def yX11_stands : MethodName := ⟨RX11, "stands", "(I)Z"⟩
abbrev cX11_look : ByteArray := prog_13_method_15_code
def yX11_look : MethodName := ⟨RX11, "look", "(II)I"⟩
abbrev cX11_has : ByteArray := prog_13_method_16_code
def yX11_has : MethodName := ⟨RX11, "has", "(II)Z"⟩
abbrev cX11_hayHeld : ByteArray := prog_13_method_17_code
def yX11_hayHeld : MethodName := ⟨RX11, "hayHeld", "(I)I"⟩
abbrev cX11_debt : ByteArray := prog_13_method_18_code
def yX11_debt : MethodName := ⟨RX11, "debt", "(I)I"⟩
abbrev cX11_about : ByteArray := prog_13_method_19_code
def yX11_about : MethodName := ⟨RX11, "about", "(II)I"⟩
abbrev cX11_apart : ByteArray := prog_13_method_20_code
def yX11_apart : MethodName := ⟨RX11, "apart", "(II)I"⟩
abbrev cX11_steps : ByteArray := prog_13_method_21_code
def yX11_steps : MethodName := ⟨RX11, "steps", "(II)I"⟩
abbrev cX11_worthOf : ByteArray := prog_13_method_22_code
def yX11_worthOf : MethodName := ⟨RX11, "worthOf", "(II)I"⟩
abbrev cX11_worth : ByteArray := prog_13_method_23_code
def yX11_worth : MethodName := ⟨RX11, "worth", "(II)I"⟩
abbrev cX11_value : ByteArray := prog_13_method_24_code
def yX11_value : MethodName := ⟨RX11, "value", "(I)V"⟩
abbrev cX11_burn : ByteArray := prog_13_method_25_code
def yX11_burn : MethodName := ⟨RX11, "burn", "(II)I"⟩
abbrev cX11_capOf : ByteArray := prog_13_method_26_code
def yX11_capOf : MethodName := ⟨RX11, "capOf", "(I)I"⟩
abbrev cX11_lotFor : ByteArray := prog_13_method_27_code
def yX11_lotFor : MethodName := ⟨RX11, "lotFor", "()I"⟩
abbrev cX11_candle : ByteArray := prog_13_method_28_code
def yX11_candle : MethodName := ⟨RX11, "candle", "(III)I"⟩
abbrev cX11_wins : ByteArray := prog_13_method_29_code
def yX11_wins : MethodName := ⟨RX11, "wins", "(III)I"⟩
abbrev cX11_lots : ByteArray := prog_13_method_30_code
def yX11_lots : MethodName := ⟨RX11, "lots", "(I)I"⟩
abbrev cX11_lotter : ByteArray := prog_13_method_31_code
def yX11_lotter : MethodName := ⟨RX11, "lotter", "(I)I"⟩
abbrev cX11_ring : ByteArray := prog_13_method_32_code
def yX11_ring : MethodName := ⟨RX11, "ring", "()I"⟩
abbrev cX11_standUp : ByteArray := prog_13_method_33_code
def yX11_standUp : MethodName := ⟨RX11, "standUp", "()V"⟩
abbrev cX11_wayFrom : ByteArray := prog_13_method_34_code
def yX11_wayFrom : MethodName := ⟨RX11, "wayFrom", "(I)I"⟩
abbrev cX11_day : ByteArray := prog_13_method_35_code
def yX11_day : MethodName := ⟨RX11, "day", "(I)I"⟩
abbrev cX11_rain : ByteArray := prog_13_method_36_code
def yX11_rain : MethodName := ⟨RX11, "rain", "(IZ)I"⟩
abbrev cX11_way : ByteArray := prog_13_method_37_code
def yX11_way : MethodName := ⟨RX11, "way", "(I)I"⟩
abbrev cX11_cut : ByteArray := prog_13_method_38_code
def yX11_cut : MethodName := ⟨RX11, "cut", "(I)I"⟩
abbrev cX11_workOut : ByteArray := prog_13_method_39_code
def yX11_workOut : MethodName := ⟨RX11, "workOut", "()Z"⟩
abbrev cX11_best : ByteArray := prog_13_method_40_code
def yX11_best : MethodName := ⟨RX11, "best", "()I"⟩
abbrev cX11_order : ByteArray := prog_13_method_41_code
def yX11_order : MethodName := ⟨RX11, "order", "(I)I"⟩
abbrev cX11_dries : ByteArray := prog_13_method_42_code
def yX11_dries : MethodName := ⟨RX11, "dries", "(I)I"⟩
abbrev cX11_dry : ByteArray := prog_13_method_43_code
def yX11_dry : MethodName := ⟨RX11, "dry", "(I)I"⟩
abbrev cX11_inBarn : ByteArray := prog_13_method_44_code
def yX11_inBarn : MethodName := ⟨RX11, "inBarn", "(I)I"⟩
abbrev cX11_barn : ByteArray := prog_13_method_45_code
def yX11_barn : MethodName := ⟨RX11, "barn", "(I)I"⟩
abbrev cX11_tithe : ByteArray := prog_13_method_46_code
def yX11_tithe : MethodName := ⟨RX11, "tithe", "(I)I"⟩
abbrev cX11_settle : ByteArray := prog_13_method_47_code
def yX11_settle : MethodName := ⟨RX11, "settle", "()V"⟩
abbrev cX11_pays : ByteArray := prog_13_method_48_code
def yX11_pays : MethodName := ⟨RX11, "pays", "(II)I"⟩
abbrev cX11_count : ByteArray := prog_13_method_49_code
def yX11_count : MethodName := ⟨RX11, "count", "(I)I"⟩
abbrev cX11_isShelf : ByteArray := prog_13_method_50_code
def yX11_isShelf : MethodName := ⟨RX11, "isShelf", "(I)Z"⟩
abbrev cX11_keep : ByteArray := prog_13_method_51_code
def yX11_keep : MethodName := ⟨RX11, "keep", "(III)I"⟩
abbrev cX11_make : ByteArray := prog_13_method_52_code
def yX11_make : MethodName := ⟨RX11, "make", "(III)I"⟩
abbrev cX11_element : ByteArray := prog_13_method_53_code
def yX11_element : MethodName := ⟨RX11, "element", "(II)J"⟩
abbrev cX11_copy : ByteArray := prog_13_method_54_code
def yX11_copy : MethodName := ⟨RX11, "copy", "(IIIII)I"⟩
abbrev cX11_noPlot : ByteArray := prog_13_method_55_code
def yX11_noPlot : MethodName := ⟨RX11, "noPlot", "(I)I"⟩
abbrev cX11_weight : ByteArray := prog_13_method_56_code
def yX11_weight : MethodName := ⟨RX11, "weight", "(I)I"⟩
abbrev cX11_toss : ByteArray := prog_13_method_57_code
def yX11_toss : MethodName := ⟨RX11, "toss", "(I)I"⟩
def RJ9 : String := "java/lang/Math"
def TJ9 : u_T := fun k => match k with
  | _ => ("", "", "", false)
def tyJ9 : Nat → FieldType := fun k => match k with
  | _ => .int
abbrev wsJ90 : List Cond := u_ws RJ9 TJ9 0
theorem nmJ9 : ∀ a, a < 0 → ∀ b, b < 0 → a ≠ b → (TJ9 a).2.1 ≠ (TJ9 b).2.1 := by decide +kernel
theorem tyJ9_ok : ∀ k, k < 0 → parseFieldDescriptor (TJ9 k).2.2.1 = some (tyJ9 k) := by decide +kernel
abbrev cJ9_abs_0f7a4 : ByteArray := prog_17_method_59_code
def yJ9_abs_0f7a4 : MethodName := ⟨RJ9, "abs", "(I)I"⟩
abbrev cJ9_max_7cf53 : ByteArray := prog_17_method_65_code
def yJ9_max_7cf53 : MethodName := ⟨RJ9, "max", "(II)I"⟩
abbrev cJ9_min_7cf53 : ByteArray := prog_17_method_69_code
def yJ9_min_7cf53 : MethodName := ⟨RJ9, "min", "(II)I"⟩
def RJ0 : String := "java/lang/String"
def TJ0 : u_T := fun k => match k with
  | _ => ("", "", "", false)
def tyJ0 : Nat → FieldType := fun k => match k with
  | _ => .int
abbrev wsJ00 : List Cond := u_ws RJ0 TJ0 0
theorem nmJ0 : ∀ a, a < 0 → ∀ b, b < 0 → a ≠ b → (TJ0 a).2.1 ≠ (TJ0 b).2.1 := by decide +kernel
theorem tyJ0_ok : ∀ k, k < 0 → parseFieldDescriptor (TJ0 k).2.2.1 = some (tyJ0 k) := by decide +kernel
def RJ10 : String := "java/lang/System"
def TJ10 : u_T := fun k => match k with
  | _ => ("", "", "", false)
def tyJ10 : Nat → FieldType := fun k => match k with
  | _ => .int
abbrev wsJ100 : List Cond := u_ws RJ10 TJ10 0
theorem nmJ10 : ∀ a, a < 0 → ∀ b, b < 0 → a ≠ b → (TJ10 a).2.1 ≠ (TJ10 b).2.1 := by decide +kernel
theorem tyJ10_ok : ∀ k, k < 0 → parseFieldDescriptor (TJ10 k).2.2.1 = some (tyJ10 k) := by decide +kernel
def RJ7 : String := "java/util/Arrays"
def TJ7 : u_T := fun k => match k with
  | _ => ("", "", "", false)
def tyJ7 : Nat → FieldType := fun k => match k with
  | _ => .int
abbrev wsJ70 : List Cond := u_ws RJ7 TJ7 0
theorem nmJ7 : ∀ a, a < 0 → ∀ b, b < 0 → a ≠ b → (TJ7 a).2.1 ≠ (TJ7 b).2.1 := by decide +kernel
theorem tyJ7_ok : ∀ k, k < 0 → parseFieldDescriptor (TJ7 k).2.2.1 = some (tyJ7 k) := by decide +kernel
abbrev cJ7_fill_53178 : ByteArray := prog_22_method_103_code
def yJ7_fill_53178 : MethodName := ⟨RJ7, "fill", "([II)V"⟩
abbrev cJ7_fill_031fb : ByteArray := prog_22_method_109_code
def yJ7_fill_031fb : MethodName := ⟨RJ7, "fill", "([BB)V"⟩
def RL : String := "CandleMeadowLaw"
abbrev cL_element : ByteArray := method_3_code
def yL_element : MethodName := ⟨RL, "element", "(LCandleMeadow;II[J)I"⟩
abbrev cL_law : ByteArray := code
def yL_law : MethodName := ⟨RL, "law", "([I)Z"⟩
def wsL_law0_r1 : List Cond := [Cond.classLink RL 8 RX10, Cond.instantiable RX10 12, Cond.initialized RX10, Cond.classLink RL 18 RX11, Cond.instantiable RX11 40, Cond.initialized RX11, Cond.arrayClass .long, Cond.methodLink RL 17 yX10_init, Cond.instanceMethod yX10_init, Cond.code yX10_init cX10_init 2 none, Cond.methodLink RX10 3 objectInit, Cond.instanceMethod objectInit, Cond.code objectInit ⟨#[0xb1]⟩ 1 none, Cond.classLink RX10 9 RX1, Cond.fieldLink RX10 11 "CandleMeadow" "grounds" "[LCandleMeadow$Dry;", Cond.classLink RX10 15 RX5, Cond.fieldLink RX10 17 "CandleMeadow" "plots" "[LCandleMeadow$Plot;", Cond.classLink RX10 21 RX0, Cond.fieldLink RX10 23 "CandleMeadow" "buyers" "[LCandleMeadow$Buyer;", Cond.classLink RX10 27 RX7, Cond.fieldLink RX10 29 "CandleMeadow" "shelves" "[LCandleMeadow$Shelf;", Cond.arrayClass .boolean, Cond.fieldLink RX10 33 "CandleMeadow" "rainy" "[Z", Cond.classLink RX10 37 RX6]
def wsL_law0_r2 : List Cond := [Cond.instantiable RX6 6, Cond.initialized RX6, Cond.fieldLink RX10 40 "CandleMeadow" "sale" "LCandleMeadow$Sale;", Cond.classLink RX10 44 RX8, Cond.instantiable RX8 2, Cond.initialized RX8, Cond.fieldLink RX10 47 "CandleMeadow" "ways" "LCandleMeadow$Ways;", Cond.classLink RX10 51 RX4, Cond.instantiable RX4 3, Cond.initialized RX4, Cond.fieldLink RX10 54 "CandleMeadow" "martinmas" "LCandleMeadow$Martinmas;", Cond.fieldLink RX10 58 "CandleMeadow" "bidStep" "I", Cond.instantiable RX1 0, Cond.initialized RX1, Cond.classLink RX10 63 RX9, Cond.instantiable RX9 0, Cond.initialized RX9, Cond.classLink RX10 66 RX2, Cond.instantiable RX2 0, Cond.initialized RX2, Cond.classLink RX10 69 RX3, Cond.instantiable RX3 0, Cond.initialized RX3, Cond.instantiable RX5 6]
def wsL_law0_r3 : List Cond := [Cond.initialized RX5, Cond.instantiable RX0 7, Cond.initialized RX0, Cond.instantiable RX7 7, Cond.initialized RX7, Cond.methodLink RX10 39 yX6_init, Cond.instanceMethod yX6_init, Cond.code yX6_init cX6_init 1 none, Cond.methodLink RX6 3 objectInit, Cond.arrayClass .int, Cond.fieldLink RX6 9 "CandleMeadow$Sale" "caps" "[I", Cond.fieldLink RX6 15 "CandleMeadow$Sale" "waiting" "[Z", Cond.fieldLink RX6 19 "CandleMeadow$Sale" "bidder" "I", Cond.methodLink RX10 46 yX8_init, Cond.instanceMethod yX8_init, Cond.code yX8_init cX8_init 1 none, Cond.methodLink RX8 3 objectInit, Cond.fieldLink RX8 9 "CandleMeadow$Ways" "tolls" "[I", Cond.fieldLink RX8 15 "CandleMeadow$Ways" "sums" "[I", Cond.methodLink RX10 53 yX4_init, Cond.instanceMethod yX4_init, Cond.code yX4_init cX4_init 1 none, Cond.methodLink RX4 3 objectInit, Cond.fieldLink RX4 9 "CandleMeadow$Martinmas" "paid" "[I"]
def wsL_law0_r4 : List Cond := [Cond.fieldLink RX4 15 "CandleMeadow$Martinmas" "helped" "[I", Cond.fieldLink RX4 18 "CandleMeadow$Martinmas" "left" "[I", Cond.methodLink RX10 62 yX1_init, Cond.instanceMethod yX1_init, Cond.code yX1_init cX1_init 1 none, Cond.methodLink RX1 3 objectInit, Cond.methodLink RX10 65 yX9_init, Cond.instanceMethod yX9_init, Cond.code yX9_init cX9_init 1 none, Cond.methodLink RX9 3 yX1_init, Cond.methodLink RX10 68 yX2_init, Cond.instanceMethod yX2_init, Cond.code yX2_init cX2_init 1 none, Cond.methodLink RX2 3 yX9_init, Cond.methodLink RX10 71 yX3_init, Cond.instanceMethod yX3_init, Cond.code yX3_init cX3_init 1 none, Cond.methodLink RX3 3 yX1_init, Cond.methodLink RX10 72 yX5_init, Cond.instanceMethod yX5_init, Cond.code yX5_init cX5_init 2 none, Cond.methodLink RX5 3 objectInit, Cond.fieldLink RX5 9 "CandleMeadow$Plot" "owner" "I", Cond.fieldLink RX5 15 "CandleMeadow$Plot" "price" "I"]
def wsL_law0_r5 : List Cond := [Cond.fieldLink RX5 18 "CandleMeadow$Plot" "cutDay" "I", Cond.fieldLink RX5 21 "CandleMeadow$Plot" "ground" "LCandleMeadow$Dry;", Cond.methodLink RX10 75 yX0_init, Cond.instanceMethod yX0_init, Cond.code yX0_init cX0_init 1 none, Cond.methodLink RX0 3 objectInit, Cond.fieldLink RX0 9 "CandleMeadow$Buyer" "surety" "I", Cond.methodLink RX10 76 yX7_init, Cond.instanceMethod yX7_init, Cond.code yX7_init cX7_init 2 none, Cond.methodLink RX7 3 objectInit, Cond.fieldLink RX7 9 "CandleMeadow$Shelf" "holds" "I", Cond.fieldLink RX7 15 "CandleMeadow$Shelf" "ints" "[I", Cond.arrayClass .byte, Cond.fieldLink RX7 19 "CandleMeadow$Shelf" "bytes" "[B", Cond.fieldLink RX7 23 "CandleMeadow$Shelf" "ground" "LCandleMeadow$Dry;", Cond.methodLink RL 20 yX11_init, Cond.instanceMethod yX11_init, Cond.code yX11_init cX11_init 1 none, Cond.methodLink RX11 1 objectInit, Cond.fieldLink RX11 7 "CandleMeadowModel" "kind" "[I", Cond.fieldLink RX11 13 "CandleMeadowModel" "grass" "[I", Cond.fieldLink RX11 16 "CandleMeadowModel" "sold" "[Z", Cond.fieldLink RX11 20 "CandleMeadowModel" "owner" "[I"]
def wsL_law0_r6 : List Cond := [Cond.fieldLink RX11 23 "CandleMeadowModel" "price" "[I", Cond.fieldLink RX11 26 "CandleMeadowModel" "byLots" "[I", Cond.fieldLink RX11 29 "CandleMeadowModel" "isCut" "[Z", Cond.fieldLink RX11 32 "CandleMeadowModel" "cutOn" "[I", Cond.fieldLink RX11 35 "CandleMeadowModel" "cows" "[I", Cond.fieldLink RX11 38 "CandleMeadowModel" "purses" "[I", Cond.fieldLink RX11 41 "CandleMeadowModel" "homes" "[I", Cond.fieldLink RX11 44 "CandleMeadowModel" "waiting" "[Z", Cond.fieldLink RX11 47 "CandleMeadowModel" "sureties" "[I", Cond.fieldLink RX11 50 "CandleMeadowModel" "trampled" "[I", Cond.fieldLink RX11 53 "CandleMeadowModel" "stepNow" "I", Cond.fieldLink RX11 57 "CandleMeadowModel" "worths" "[I", Cond.fieldLink RX11 60 "CandleMeadowModel" "rest" "[I", Cond.fieldLink RX11 63 "CandleMeadowModel" "rains" "[Z", Cond.fieldLink RX11 66 "CandleMeadowModel" "far" "[I", Cond.fieldLink RX11 69 "CandleMeadowModel" "up" "[Z", Cond.fieldLink RX11 72 "CandleMeadowModel" "standAt" "[I", Cond.fieldLink RX11 75 "CandleMeadowModel" "least" "[I", Cond.fieldLink RX11 78 "CandleMeadowModel" "costs" "[I", Cond.fieldLink RX11 81 "CandleMeadowModel" "owes" "[I", Cond.fieldLink RX11 84 "CandleMeadowModel" "own" "[I", Cond.fieldLink RX11 87 "CandleMeadowModel" "bySurety" "[I", Cond.fieldLink RX11 90 "CandleMeadowModel" "purseLeft" "[I", Cond.fieldLink RX11 93 "CandleMeadowModel" "held" "[I"]
def wsL_law0_r7 : List Cond := [Cond.fieldLink RX11 96 "CandleMeadowModel" "heldNumber" "[I", Cond.fieldLink RX11 99 "CandleMeadowModel" "heldKind" "[I", Cond.fieldLink RX11 102 "CandleMeadowModel" "heldGrass" "[I", Cond.fieldLink RX11 105 "CandleMeadowModel" "rowSize" "[I", Cond.fieldLink RX11 108 "CandleMeadowModel" "rows" "[I", Cond.methodLink RL 21 yX10_plot, Cond.instanceMethod yX10_plot, Cond.selects RX10 yX10_plot yX10_plot, Cond.code yX10_plot cX10_plot 6 (some .int), Cond.fieldLink RX10 89 "CandleMeadow$Plot" "grass" "I", Cond.fieldLink RX10 92 "CandleMeadow$Plot" "kind" "I", Cond.fieldLink RX10 95 "CandleMeadow$Plot" "ground" "LCandleMeadow$Dry;", Cond.methodLink RX10 77 yX10_isPlot, Cond.static yX10_isPlot, Cond.code yX10_isPlot cX10_isPlot 1 (some .boolean), Cond.methodLink RX10 81 yX10_within, Cond.static yX10_within, Cond.code yX10_within cX10_within 2 (some .boolean), Cond.methodLink RX10 85 yX5_isSold, Cond.instanceMethod yX5_isSold, Cond.selects RX5 yX5_isSold yX5_isSold, Cond.code yX5_isSold cX5_isSold 1 (some .boolean), Cond.methodLink RL 25 yX11_plot, Cond.instanceMethod yX11_plot]
def wsL_law0_r8 : List Cond := [Cond.selects RX11 yX11_plot yX11_plot, Cond.code yX11_plot cX11_plot 5 (some .int), Cond.methodLink RX11 121 yX11_isPlot, Cond.static yX11_isPlot, Cond.code yX11_isPlot cX11_isPlot 1 (some .boolean), Cond.methodLink RX11 114 yX11_in, Cond.static yX11_in, Cond.code yX11_in cX11_in 3 (some .boolean), Cond.methodLink RL 26 yX10_buyer, Cond.instanceMethod yX10_buyer, Cond.selects RX10 yX10_buyer yX10_buyer, Cond.code yX10_buyer cX10_buyer 5 (some .int), Cond.constant RX10 99 (100000), Cond.fieldLink RX10 100 "CandleMeadow" "buyerCount" "I", Cond.fieldLink RX10 103 "CandleMeadow$Buyer" "cows" "I", Cond.fieldLink RX10 106 "CandleMeadow$Buyer" "purse" "I", Cond.fieldLink RX10 109 "CandleMeadow$Buyer" "home" "I", Cond.methodLink RL 29 yX11_buyer, Cond.instanceMethod yX11_buyer, Cond.selects RX11 yX11_buyer yX11_buyer, Cond.code yX11_buyer cX11_buyer 4 (some .int), Cond.constant RX11 125 (100000), Cond.fieldLink RX11 118 "CandleMeadowModel" "buyers" "I", Cond.methodLink RL 30 yX10_purse]
def wsL_law0_r9 : List Cond := [Cond.instanceMethod yX10_purse, Cond.selects RX10 yX10_purse yX10_purse, Cond.code yX10_purse cX10_purse 4 (some .int), Cond.methodLink RX10 112 yX10_isBuyer, Cond.instanceMethod yX10_isBuyer, Cond.selects RX10 yX10_isBuyer yX10_isBuyer, Cond.code yX10_isBuyer cX10_isBuyer 2 (some .boolean), Cond.methodLink RL 34 yX11_purse, Cond.instanceMethod yX11_purse, Cond.selects RX11 yX11_purse yX11_purse, Cond.code yX11_purse cX11_purse 4 (some .int), Cond.methodLink RX11 126 yX11_isBuyer, Cond.instanceMethod yX11_isBuyer, Cond.selects RX11 yX11_isBuyer yX11_isBuyer, Cond.code yX11_isBuyer cX11_isBuyer 2 (some .boolean), Cond.methodLink RL 35 yX10_waits, Cond.instanceMethod yX10_waits, Cond.selects RX10 yX10_waits yX10_waits, Cond.code yX10_waits cX10_waits 4 (some .int), Cond.fieldLink RX10 115 "CandleMeadow$Buyer" "waits" "Z", Cond.methodLink RX10 119 yX10_oneIf, Cond.static yX10_oneIf, Cond.code yX10_oneIf cX10_oneIf 1 (some .int), Cond.methodLink RL 39 yX11_waits]
def wsL_law0_r10 : List Cond := [Cond.instanceMethod yX11_waits, Cond.selects RX11 yX11_waits yX11_waits, Cond.code yX11_waits cX11_waits 4 (some .int), Cond.methodLink RL 40 yX10_surety, Cond.instanceMethod yX10_surety, Cond.selects RX10 yX10_surety yX10_surety, Cond.code yX10_surety cX10_surety 5 (some .int), Cond.fieldLink RX10 123 "CandleMeadow$Buyer" "surety" "I", Cond.methodLink RL 43 yX11_surety, Cond.instanceMethod yX11_surety, Cond.selects RX11 yX11_surety yX11_surety, Cond.code yX11_surety cX11_surety 4 (some .int), Cond.methodLink RL 44 yX10_step, Cond.instanceMethod yX10_step, Cond.selects RX10 yX10_step yX10_step, Cond.code yX10_step cX10_step 3 (some .int), Cond.methodLink RL 48 yX11_step, Cond.instanceMethod yX11_step, Cond.selects RX11 yX11_step yX11_step, Cond.code yX11_step cX11_step 3 (some .int), Cond.methodLink RL 49 yX10_look, Cond.instanceMethod yX10_look, Cond.selects RX10 yX10_look yX10_look, Cond.code yX10_look cX10_look 4 (some .int)]
def wsL_law0_r11 : List Cond := [Cond.fieldLink RX10 133 "CandleMeadow$Plot" "owner" "I", Cond.fieldLink RX10 136 "CandleMeadow$Plot" "price" "I", Cond.fieldLink RX10 139 "CandleMeadow$Plot" "cutDay" "I", Cond.methodLink RX10 126 yX1_chance, Cond.instanceMethod yX1_chance, Cond.selects RX1 yX1_chance yX1_chance, Cond.code yX1_chance cX1_chance 1 (some .int), Cond.methodLink RX10 126 ⟨"CandleMeadow$Dry", "chance", "()I"⟩, Cond.sameMethod "CandleMeadow$Dry" "CandleMeadow$Dry" "chance" "()I", Cond.instanceMethod ⟨"CandleMeadow$Dry", "chance", "()I"⟩, Cond.selects RX2 ⟨"CandleMeadow$Dry", "chance", "()I"⟩ yX2_chance, Cond.instanceMethod yX2_chance, Cond.code yX2_chance cX2_chance 1 (some .int), Cond.selects RX3 ⟨"CandleMeadow$Dry", "chance", "()I"⟩ yX3_chance, Cond.instanceMethod yX3_chance, Cond.code yX3_chance cX3_chance 1 (some .int), Cond.selects RX9 ⟨"CandleMeadow$Dry", "chance", "()I"⟩ yX9_chance, Cond.instanceMethod yX9_chance, Cond.code yX9_chance cX9_chance 1 (some .int), Cond.methodLink RX10 130 yX5_hay, Cond.instanceMethod yX5_hay, Cond.selects RX5 yX5_hay yX5_hay, Cond.code yX5_hay cX5_hay 1 (some .int), Cond.fieldLink RX5 25 "CandleMeadow$Plot" "grass" "I"]
def wsL_law0_r12 : List Cond := [Cond.methodLink RX5 28 yX1_chance, Cond.methodLink RX5 28 ⟨"CandleMeadow$Dry", "chance", "()I"⟩, Cond.methodLink RX10 142 yX5_stands, Cond.instanceMethod yX5_stands, Cond.selects RX5 yX5_stands yX5_stands, Cond.code yX5_stands cX5_stands 1 (some .boolean), Cond.methodLink RX5 34 yX5_isSold, Cond.methodLink RX5 38 yX5_isCut, Cond.instanceMethod yX5_isCut, Cond.selects RX5 yX5_isCut yX5_isCut, Cond.code yX5_isCut cX5_isCut 1 (some .boolean), Cond.methodLink RL 52 yX11_look, Cond.instanceMethod yX11_look, Cond.selects RX11 yX11_look yX11_look, Cond.code yX11_look cX11_look 3 (some .int), Cond.methodLink RX11 129 yX11_chanceOf, Cond.static yX11_chanceOf, Cond.code yX11_chanceOf cX11_chanceOf 1 (some .int), Cond.methodLink RX11 133 yX11_hayOf, Cond.instanceMethod yX11_hayOf, Cond.selects RX11 yX11_hayOf yX11_hayOf, Cond.code yX11_hayOf cX11_hayOf 2 (some .int), Cond.methodLink RX11 136 yX11_stands, Cond.instanceMethod yX11_stands]
def wsL_law0_r13 : List Cond := [Cond.selects RX11 yX11_stands yX11_stands, Cond.code yX11_stands cX11_stands 2 (some .boolean), Cond.methodLink RL 53 yX10_about, Cond.instanceMethod yX10_about, Cond.selects RX10 yX10_about yX10_about, Cond.code yX10_about cX10_about 4 (some .int), Cond.fieldLink RX10 152 "CandleMeadow$Buyer" "debt" "I", Cond.fieldLink RX10 155 "CandleMeadow$Buyer" "trampled" "I", Cond.methodLink RX10 145 yX0_need, Cond.instanceMethod yX0_need, Cond.selects RX0 yX0_need yX0_need, Cond.code yX0_need cX0_need 1 (some .int), Cond.fieldLink RX0 15 "CandleMeadow$Buyer" "cows" "I", Cond.methodLink RX10 148 yX10_hayOf, Cond.instanceMethod yX10_hayOf, Cond.selects RX10 yX10_hayOf yX10_hayOf, Cond.code yX10_hayOf cX10_hayOf 4 (some .int), Cond.methodLink RL 56 yX11_about, Cond.instanceMethod yX11_about, Cond.selects RX11 yX11_about yX11_about, Cond.code yX11_about cX11_about 3 (some .int), Cond.methodLink RX11 143 yX11_hayHeld, Cond.instanceMethod yX11_hayHeld, Cond.selects RX11 yX11_hayHeld yX11_hayHeld]
def wsL_law0_r14 : List Cond := [Cond.code yX11_hayHeld cX11_hayHeld 4 (some .int), Cond.methodLink RX11 139 yX11_has, Cond.instanceMethod yX11_has, Cond.selects RX11 yX11_has yX11_has, Cond.code yX11_has cX11_has 3 (some .boolean), Cond.methodLink RX11 146 yX11_debt, Cond.instanceMethod yX11_debt, Cond.selects RX11 yX11_debt yX11_debt, Cond.code yX11_debt cX11_debt 4 (some .int), Cond.methodLink RL 57 yX10_worth, Cond.instanceMethod yX10_worth, Cond.selects RX10 yX10_worth yX10_worth, Cond.code yX10_worth cX10_worth 3 (some .int), Cond.methodLink RX10 158 yX10_worthTo, Cond.instanceMethod yX10_worthTo, Cond.selects RX10 yX10_worthTo yX10_worthTo, Cond.code yX10_worthTo cX10_worthTo 5 (some .int), Cond.methodLink RX10 317 Lib.Math.max.name, Cond.static Lib.Math.max.name, Cond.initialized "java/lang/Math", Cond.code Lib.Math.max.name Lib.Math.max.code 2 (some .int), Cond.methodLink RX10 311 yX5_steps, Cond.static yX5_steps, Cond.code yX5_steps cX5_steps 2 (some .int)]
def wsL_law0_r15 : List Cond := [Cond.methodLink RX5 44 Lib.Math.abs.name, Cond.static Lib.Math.abs.name, Cond.code Lib.Math.abs.name Lib.Math.abs.code 1 (some .int), Cond.methodLink RX10 314 yX10_ownsBeside, Cond.instanceMethod yX10_ownsBeside, Cond.selects RX10 yX10_ownsBeside yX10_ownsBeside, Cond.code yX10_ownsBeside cX10_ownsBeside 5 (some .boolean), Cond.methodLink RX10 308 yX5_beside, Cond.static yX5_beside, Cond.code yX5_beside cX5_beside 3 (some .int), Cond.methodLink RL 60 yX11_worth, Cond.instanceMethod yX11_worth, Cond.selects RX11 yX11_worth yX11_worth, Cond.code yX11_worth cX11_worth 3 (some .int), Cond.methodLink RX11 156 yX11_worthOf, Cond.instanceMethod yX11_worthOf, Cond.selects RX11 yX11_worthOf yX11_worthOf, Cond.code yX11_worthOf cX11_worthOf 6 (some .int), Cond.methodLink RX11 153 yX11_steps, Cond.static yX11_steps, Cond.code yX11_steps cX11_steps 2 (some .int), Cond.methodLink RX11 149 yX11_apart, Cond.static yX11_apart, Cond.code yX11_apart cX11_apart 2 (some .int)]
def wsL_law0_r16 : List Cond := [Cond.methodLink RL 61 yX10_candle, Cond.instanceMethod yX10_candle, Cond.selects RX10 yX10_candle yX10_candle, Cond.code yX10_candle cX10_candle 4 (some .int), Cond.fieldLink RX10 170 "CandleMeadow$Sale" "bidder" "I", Cond.fieldLink RX10 173 "CandleMeadow" "ringSum" "I", Cond.fieldLink RX10 176 "CandleMeadow$Sale" "bid" "I", Cond.methodLink RX10 162 yX10_prepareSale, Cond.instanceMethod yX10_prepareSale, Cond.selects RX10 yX10_prepareSale yX10_prepareSale, Cond.code yX10_prepareSale cX10_prepareSale 3 none, Cond.fieldLink RX10 322 "CandleMeadow$Sale" "count" "I", Cond.fieldLink RX10 325 "CandleMeadow$Sale" "step" "I", Cond.fieldLink RX10 328 "CandleMeadow$Sale" "caps" "[I", Cond.methodLink RX10 331 Lib.Math.min.name, Cond.static Lib.Math.min.name, Cond.code Lib.Math.min.name Lib.Math.min.code 2 (some .int), Cond.fieldLink RX10 334 "CandleMeadow$Sale" "waiting" "[Z", Cond.methodLink RX10 166 yX6_burn, Cond.instanceMethod yX6_burn, Cond.selects RX6 yX6_burn yX6_burn, Cond.code yX6_burn cX6_burn 6 none, Cond.fieldLink RX6 23 "CandleMeadow$Sale" "bid" "I", Cond.fieldLink RX6 26 "CandleMeadow$Sale" "count" "I"]
def wsL_law0_r17 : List Cond := [Cond.fieldLink RX6 29 "CandleMeadow$Sale" "step" "I", Cond.methodLink RX10 179 yX6_lotTaker, Cond.instanceMethod yX6_lotTaker, Cond.selects RX6 yX6_lotTaker yX6_lotTaker, Cond.code yX6_lotTaker cX6_lotTaker 1 (some .int), Cond.methodLink RX6 32 yX6_greatestBut, Cond.instanceMethod yX6_greatestBut, Cond.selects RX6 yX6_greatestBut yX6_greatestBut, Cond.code yX6_greatestBut cX6_greatestBut 5 (some .int), Cond.methodLink RX10 182 yX6_lotPrice, Cond.instanceMethod yX6_lotPrice, Cond.selects RX6 yX6_lotPrice yX6_lotPrice, Cond.code yX6_lotPrice cX6_lotPrice 3 (some .int), Cond.methodLink RX6 36 Lib.Math.min.name, Cond.methodLink RX10 185 yX10_hand, Cond.instanceMethod yX10_hand, Cond.selects RX10 yX10_hand yX10_hand, Cond.code yX10_hand cX10_hand 4 none, Cond.methodLink RL 64 yX11_candle, Cond.instanceMethod yX11_candle, Cond.selects RX11 yX11_candle yX11_candle, Cond.code yX11_candle cX11_candle 6 (some .int), Cond.fieldLink RX11 159 "CandleMeadowModel" "lastBid" "I", Cond.methodLink RX11 168 yX11_value]
def wsL_law0_r18 : List Cond := [Cond.instanceMethod yX11_value, Cond.selects RX11 yX11_value yX11_value, Cond.code yX11_value cX11_value 3 none, Cond.methodLink RX11 172 yX11_burn, Cond.instanceMethod yX11_burn, Cond.selects RX11 yX11_burn yX11_burn, Cond.code yX11_burn cX11_burn 7 (some .int), Cond.methodLink RX11 175 yX11_lotFor, Cond.instanceMethod yX11_lotFor, Cond.selects RX11 yX11_lotFor yX11_lotFor, Cond.code yX11_lotFor cX11_lotFor 3 (some .int), Cond.fieldLink RX11 162 "CandleMeadowModel" "lotTo" "I", Cond.methodLink RX11 165 yX11_capOf, Cond.instanceMethod yX11_capOf, Cond.selects RX11 yX11_capOf yX11_capOf, Cond.code yX11_capOf cX11_capOf 2 (some .int), Cond.methodLink RL 65 yX10_wins, Cond.instanceMethod yX10_wins, Cond.selects RX10 yX10_wins yX10_wins, Cond.code yX10_wins cX10_wins 6 (some .int), Cond.methodLink RL 68 yX11_wins, Cond.instanceMethod yX11_wins, Cond.selects RX11 yX11_wins yX11_wins, Cond.code yX11_wins cX11_wins 6 (some .int)]
def wsL_law0_r19 : List Cond := [Cond.methodLink RL 69 yX10_lots, Cond.instanceMethod yX10_lots, Cond.selects RX10 yX10_lots yX10_lots, Cond.code yX10_lots cX10_lots 3 (some .int), Cond.methodLink RX10 189 yX10_lotter, Cond.instanceMethod yX10_lotter, Cond.selects RX10 yX10_lotter yX10_lotter, Cond.code yX10_lotter cX10_lotter 3 (some .int), Cond.methodLink RL 72 yX11_lots, Cond.instanceMethod yX11_lots, Cond.selects RX11 yX11_lots yX11_lots, Cond.code yX11_lots cX11_lots 2 (some .int), Cond.methodLink RL 73 yX10_lotter, Cond.methodLink RL 76 yX11_lotter, Cond.instanceMethod yX11_lotter, Cond.selects RX11 yX11_lotter yX11_lotter, Cond.code yX11_lotter cX11_lotter 3 (some .int), Cond.methodLink RL 77 yX10_ring, Cond.instanceMethod yX10_ring, Cond.selects RX10 yX10_ring yX10_ring, Cond.code yX10_ring cX10_ring 1 (some .int), Cond.methodLink RL 81 yX11_ring, Cond.instanceMethod yX11_ring, Cond.selects RX11 yX11_ring yX11_ring]
def wsL_law0_r20 : List Cond := [Cond.code yX11_ring cX11_ring 3 (some .int), Cond.methodLink RL 82 yX10_day, Cond.instanceMethod yX10_day, Cond.selects RX10 yX10_day yX10_day, Cond.code yX10_day cX10_day 3 (some .int), Cond.fieldLink RX10 192 "CandleMeadow" "today" "I", Cond.methodLink RL 85 yX11_day, Cond.instanceMethod yX11_day, Cond.selects RX11 yX11_day yX11_day, Cond.code yX11_day cX11_day 3 (some .int), Cond.fieldLink RX11 180 "CandleMeadowModel" "today" "I", Cond.methodLink RL 86 yX10_rain, Cond.instanceMethod yX10_rain, Cond.selects RX10 yX10_rain yX10_rain, Cond.code yX10_rain cX10_rain 4 (some .int), Cond.methodLink RL 89 yX11_rain, Cond.instanceMethod yX11_rain, Cond.selects RX11 yX11_rain yX11_rain, Cond.code yX11_rain cX11_rain 4 (some .int), Cond.methodLink RL 90 yX10_way, Cond.instanceMethod yX10_way, Cond.selects RX10 yX10_way yX10_way, Cond.code yX10_way cX10_way 2 (some .int), Cond.methodLink RX10 195 yX8_trampled]
def wsL_law0_r21 : List Cond := [Cond.instanceMethod yX8_trampled, Cond.selects RX8 yX8_trampled yX8_trampled, Cond.code yX8_trampled cX8_trampled 4 (some .int), Cond.methodLink RX8 18 yX5_toll, Cond.instanceMethod yX5_toll, Cond.selects RX5 yX5_toll yX5_toll, Cond.code yX5_toll cX5_toll 1 (some .int), Cond.methodLink RX5 41 yX5_stands, Cond.methodLink RX8 24 yX8_spread, Cond.instanceMethod yX8_spread, Cond.selects RX8 yX8_spread yX8_spread, Cond.code yX8_spread cX8_spread 5 none, Cond.constant RX8 27 (1000000), Cond.methodLink RX8 28 yJ7_fill_53178, Cond.static yJ7_fill_53178, Cond.initialized RJ7, Cond.code yJ7_fill_53178 cJ7_fill_53178 4 none, Cond.methodLink RX8 34 yX8_leastBeside, Cond.instanceMethod yX8_leastBeside, Cond.selects RX8 yX8_leastBeside yX8_leastBeside, Cond.code yX8_leastBeside cX8_leastBeside 5 (some .int), Cond.methodLink RX8 42 Lib.Math.min.name, Cond.methodLink RX8 38 yX5_beside, Cond.methodLink RL 93 yX11_way]
def wsL_law0_r22 : List Cond := [Cond.instanceMethod yX11_way, Cond.selects RX11 yX11_way yX11_way, Cond.code yX11_way cX11_way 2 (some .int), Cond.methodLink RX11 183 yX11_standUp, Cond.instanceMethod yX11_standUp, Cond.selects RX11 yX11_standUp yX11_standUp, Cond.code yX11_standUp cX11_standUp 2 none, Cond.methodLink RX11 186 yX11_wayFrom, Cond.instanceMethod yX11_wayFrom, Cond.selects RX11 yX11_wayFrom yX11_wayFrom, Cond.code yX11_wayFrom cX11_wayFrom 6 (some .int), Cond.constant RX11 179 (1000000), Cond.methodLink RL 94 yX10_cut, Cond.instanceMethod yX10_cut, Cond.selects RX10 yX10_cut yX10_cut, Cond.code yX10_cut cX10_cut 4 (some .int), Cond.methodLink RL 97 yX11_cut, Cond.instanceMethod yX11_cut, Cond.selects RX11 yX11_cut yX11_cut, Cond.code yX11_cut cX11_cut 3 (some .int), Cond.methodLink RL 98 yX10_best, Cond.instanceMethod yX10_best, Cond.selects RX10 yX10_best yX10_best, Cond.code yX10_best cX10_best 1 (some .int)]
def wsL_law0_r23 : List Cond := [Cond.methodLink RX10 198 yX10_standing, Cond.instanceMethod yX10_standing, Cond.selects RX10 yX10_standing yX10_standing, Cond.code yX10_standing cX10_standing 3 (some .int), Cond.methodLink RL 101 yX11_best, Cond.instanceMethod yX11_best, Cond.selects RX11 yX11_best yX11_best, Cond.code yX11_best cX11_best 1 (some .int), Cond.fieldLink RX11 189 "CandleMeadowModel" "standing" "I", Cond.methodLink RX11 192 yX11_workOut, Cond.instanceMethod yX11_workOut, Cond.selects RX11 yX11_workOut yX11_workOut, Cond.code yX11_workOut cX11_workOut 4 (some .boolean), Cond.methodLink RL 102 yX10_order, Cond.instanceMethod yX10_order, Cond.selects RX10 yX10_order yX10_order, Cond.code yX10_order cX10_order 3 (some .int), Cond.methodLink RX10 201 yX10_standingAt, Cond.instanceMethod yX10_standingAt, Cond.selects RX10 yX10_standingAt yX10_standingAt, Cond.code yX10_standingAt cX10_standingAt 4 (some .int), Cond.methodLink RL 105 yX11_order, Cond.instanceMethod yX11_order, Cond.selects RX11 yX11_order yX11_order]
def wsL_law0_r24 : List Cond := [Cond.code yX11_order cX11_order 5 (some .int), Cond.methodLink RL 106 yX10_dry, Cond.instanceMethod yX10_dry, Cond.selects RX10 yX10_dry yX10_dry, Cond.code yX10_dry cX10_dry 2 (some .int), Cond.methodLink RX10 204 yX5_isCut, Cond.methodLink RX10 207 yX10_dryDay, Cond.instanceMethod yX10_dryDay, Cond.selects RX10 yX10_dryDay yX10_dryDay, Cond.code yX10_dryDay cX10_dryDay 4 (some .int), Cond.methodLink RL 109 yX11_dry, Cond.instanceMethod yX11_dry, Cond.selects RX11 yX11_dry yX11_dry, Cond.code yX11_dry cX11_dry 2 (some .int), Cond.methodLink RX11 199 yX11_dries, Cond.instanceMethod yX11_dries, Cond.selects RX11 yX11_dries yX11_dries, Cond.code yX11_dries cX11_dries 4 (some .int), Cond.fieldLink RX11 196 "CandleMeadowModel" "left" "I", Cond.methodLink RL 110 yX10_barn, Cond.instanceMethod yX10_barn, Cond.selects RX10 yX10_barn yX10_barn, Cond.code yX10_barn cX10_barn 2 (some .int), Cond.methodLink RX10 211 yX10_inBarn]
def wsL_law0_r25 : List Cond := [Cond.instanceMethod yX10_inBarn, Cond.selects RX10 yX10_inBarn yX10_inBarn, Cond.code yX10_inBarn cX10_inBarn 5 (some .int), Cond.methodLink RL 113 yX11_barn, Cond.instanceMethod yX11_barn, Cond.selects RX11 yX11_barn yX11_barn, Cond.code yX11_barn cX11_barn 2 (some .int), Cond.methodLink RX11 202 yX11_inBarn, Cond.instanceMethod yX11_inBarn, Cond.selects RX11 yX11_inBarn yX11_inBarn, Cond.code yX11_inBarn cX11_inBarn 3 (some .int), Cond.methodLink RL 114 yX10_tithe, Cond.instanceMethod yX10_tithe, Cond.selects RX10 yX10_tithe yX10_tithe, Cond.code yX10_tithe cX10_tithe 4 (some .int), Cond.methodLink RL 117 yX11_tithe, Cond.instanceMethod yX11_tithe, Cond.selects RX11 yX11_tithe yX11_tithe, Cond.code yX11_tithe cX11_tithe 4 (some .int), Cond.methodLink RL 118 yX10_pays, Cond.instanceMethod yX10_pays, Cond.selects RX10 yX10_pays yX10_pays, Cond.code yX10_pays cX10_pays 6 (some .int), Cond.fieldLink RX10 221 "CandleMeadow$Martinmas" "paid" "[I"]
def wsL_law0_r26 : List Cond := [Cond.fieldLink RX10 225 "CandleMeadow$Martinmas" "helped" "[I", Cond.methodLink RX10 214 yX4_settle, Cond.instanceMethod yX4_settle, Cond.selects RX4 yX4_settle yX4_settle, Cond.code yX4_settle cX4_settle 5 none, Cond.fieldLink RX4 27 "CandleMeadow$Buyer" "purse" "I", Cond.methodLink RX4 31 Lib.Math.min.name, Cond.fieldLink RX4 37 "CandleMeadow$Buyer" "surety" "I", Cond.methodLink RX4 21 yX0_owes, Cond.instanceMethod yX0_owes, Cond.selects RX0 yX0_owes yX0_owes, Cond.code yX0_owes cX0_owes 1 (some .int), Cond.fieldLink RX0 18 "CandleMeadow$Buyer" "debt" "I", Cond.fieldLink RX0 21 "CandleMeadow$Buyer" "trampled" "I", Cond.methodLink RX10 218 yX0_owes, Cond.methodLink RL 121 yX11_pays, Cond.instanceMethod yX11_pays, Cond.selects RX11 yX11_pays yX11_pays, Cond.code yX11_pays cX11_pays 3 (some .int), Cond.methodLink RX11 205 yX11_settle, Cond.instanceMethod yX11_settle, Cond.selects RX11 yX11_settle yX11_settle, Cond.code yX11_settle cX11_settle 4 none, Cond.methodLink RL 122 yX10_count]
def wsL_law0_r27 : List Cond := [Cond.instanceMethod yX10_count, Cond.selects RX10 yX10_count yX10_count, Cond.code yX10_count cX10_count 2 (some .int), Cond.methodLink RX10 228 yX10_sold, Cond.instanceMethod yX10_sold, Cond.selects RX10 yX10_sold yX10_sold, Cond.code yX10_sold cX10_sold 3 (some .int), Cond.methodLink RX10 231 yX10_allHay, Cond.instanceMethod yX10_allHay, Cond.selects RX10 yX10_allHay yX10_allHay, Cond.code yX10_allHay cX10_allHay 3 (some .int), Cond.methodLink RX10 234 yX10_rainyDays, Cond.instanceMethod yX10_rainyDays, Cond.selects RX10 yX10_rainyDays yX10_rainyDays, Cond.code yX10_rainyDays cX10_rainyDays 3 (some .int), Cond.methodLink RL 125 yX11_count, Cond.instanceMethod yX11_count, Cond.selects RX11 yX11_count yX11_count, Cond.code yX11_count cX11_count 4 (some .int), Cond.methodLink RL 126 yX10_keep, Cond.instanceMethod yX10_keep, Cond.selects RX10 yX10_keep yX10_keep, Cond.code yX10_keep cX10_keep 4 (some .int), Cond.fieldLink RX10 240 "CandleMeadow$Shelf" "holds" "I"]
def wsL_law0_r28 : List Cond := [Cond.methodLink RX10 237 yX10_isShelf, Cond.static yX10_isShelf, Cond.code yX10_isShelf cX10_isShelf 1 (some .boolean), Cond.methodLink RX10 243 yX10_keepPlot, Cond.instanceMethod yX10_keepPlot, Cond.selects RX10 yX10_keepPlot yX10_keepPlot, Cond.code yX10_keepPlot cX10_keepPlot 3 (some .int), Cond.fieldLink RX10 305 "CandleMeadow$Shelf" "plot" "I", Cond.fieldLink RX10 296 "CandleMeadow$Shelf" "ground" "LCandleMeadow$Dry;", Cond.fieldLink RX10 297 "CandleMeadow$Shelf" "grass" "I", Cond.methodLink RX10 247 yX10_keepWorths, Cond.instanceMethod yX10_keepWorths, Cond.selects RX10 yX10_keepWorths yX10_keepWorths, Cond.code yX10_keepWorths cX10_keepWorths 4 (some .int), Cond.fieldLink RX10 277 "CandleMeadow$Shelf" "ints" "[I", Cond.methodLink RX10 254 yX7_takeRow, Cond.instanceMethod yX7_takeRow, Cond.selects RX7 yX7_takeRow yX7_takeRow, Cond.code yX7_takeRow cX7_takeRow 3 none, Cond.fieldLink RX7 27 "CandleMeadow$Shelf" "size" "I", Cond.methodLink RX7 30 yJ7_fill_53178, Cond.methodLink RX7 36 yJ7_fill_031fb, Cond.static yJ7_fill_031fb, Cond.code yJ7_fill_031fb cJ7_fill_031fb 4 none]
def wsL_law0_r29 : List Cond := [Cond.methodLink RX10 250 yX10_keepOwners, Cond.instanceMethod yX10_keepOwners, Cond.selects RX10 yX10_keepOwners yX10_keepOwners, Cond.code yX10_keepOwners cX10_keepOwners 3 (some .int), Cond.fieldLink RX10 280 "CandleMeadow$Shelf" "bytes" "[B", Cond.methodLink RL 129 yX11_keep, Cond.instanceMethod yX11_keep, Cond.selects RX11 yX11_keep yX11_keep, Cond.code yX11_keep cX11_keep 5 (some .int), Cond.methodLink RX11 208 yX11_isShelf, Cond.static yX11_isShelf, Cond.code yX11_isShelf cX11_isShelf 1 (some .boolean), Cond.methodLink RL 130 yX10_make, Cond.instanceMethod yX10_make, Cond.selects RX10 yX10_make yX10_make, Cond.code yX10_make cX10_make 4 (some .int), Cond.methodLink RL 133 yX11_make, Cond.instanceMethod yX11_make, Cond.selects RX11 yX11_make yX11_make, Cond.code yX11_make cX11_make 5 (some .int), Cond.methodLink RL 134 yL_element, Cond.static yL_element, Cond.initialized RL, Cond.codeWith yL_element cL_element 5 (some .int) [(0, 9, 12, 13), (0, 9, 16, 15)]]
def wsL_law0_r30 : List Cond := [Cond.classLink RL 13 "java/lang/IllegalArgumentException", Cond.classLink RL 15 "java/lang/IllegalStateException", Cond.methodLink RL 7 yX10_element, Cond.instanceMethod yX10_element, Cond.selects RX10 yX10_element yX10_element, Cond.code yX10_element cX10_element 4 (some .long), Cond.classLink RX10 257 "java/lang/IllegalArgumentException", Cond.initialized "java/lang/IllegalArgumentException", Cond.classLink RX10 267 "java/lang/IllegalStateException", Cond.initialized "java/lang/IllegalStateException", Cond.fieldLink RX10 272 "CandleMeadow$Shelf" "size" "I", Cond.methodLink RX10 264 yX7_isRow, Cond.instanceMethod yX7_isRow, Cond.selects RX7 yX7_isRow yX7_isRow, Cond.code yX7_isRow cX7_isRow 1 (some .boolean), Cond.methodLink RL 139 yX11_element, Cond.instanceMethod yX11_element, Cond.selects RX11 yX11_element yX11_element, Cond.code yX11_element cX11_element 3 (some .long), Cond.fieldLink RX11 111 "CandleMeadowModel" "thrown" "I", Cond.methodLink RL 140 yX11_thrown, Cond.instanceMethod yX11_thrown, Cond.selects RX11 yX11_thrown yX11_thrown, Cond.code yX11_thrown cX11_thrown 1 (some .int)]
def wsL_law0_r31 : List Cond := [Cond.methodLink RL 143 yX10_copy, Cond.instanceMethod yX10_copy, Cond.selects RX10 yX10_copy yX10_copy, Cond.code yX10_copy cX10_copy 8 (some .int), Cond.methodLink RX10 287 arraycopyName, Cond.native arraycopyName, Cond.static arraycopyName, Cond.initialized "java/lang/System", Cond.methodLink RX10 284 yX7_hasPlaces, Cond.instanceMethod yX7_hasPlaces, Cond.selects RX7 yX7_hasPlaces yX7_hasPlaces, Cond.code yX7_hasPlaces cX7_hasPlaces 3 (some .boolean), Cond.methodLink RL 147 yX11_copy, Cond.instanceMethod yX11_copy, Cond.selects RX11 yX11_copy yX11_copy, Cond.code yX11_copy cX11_copy 7 (some .int), Cond.methodLink RL 148 yX10_weight, Cond.instanceMethod yX10_weight, Cond.selects RX10 yX10_weight yX10_weight, Cond.code yX10_weight cX10_weight 3 (some .int), Cond.methodLink RX10 293 yX10_refusalOfPlotOn, Cond.instanceMethod yX10_refusalOfPlotOn, Cond.selects RX10 yX10_refusalOfPlotOn yX10_refusalOfPlotOn, Cond.code yX10_refusalOfPlotOn cX10_refusalOfPlotOn 2 (some .int)]
def wsL_law0_r32 : List Cond := [Cond.methodLink RX10 298 yX1_heft, Cond.instanceMethod yX1_heft, Cond.selects RX1 yX1_heft yX1_heft, Cond.code yX1_heft cX1_heft 2 (some .int), Cond.methodLink RX10 298 ⟨"CandleMeadow$Dry", "heft", "(I)I"⟩, Cond.sameMethod "CandleMeadow$Dry" "CandleMeadow$Dry" "heft" "(I)I", Cond.instanceMethod ⟨"CandleMeadow$Dry", "heft", "(I)I"⟩, Cond.selects RX2 ⟨"CandleMeadow$Dry", "heft", "(I)I"⟩ yX2_heft, Cond.instanceMethod yX2_heft, Cond.code yX2_heft cX2_heft 2 (some .int), Cond.methodLink RX2 9 yX9_heft, Cond.sameMethod "CandleMeadow$Wet" "CandleMeadow$Wet" "heft" "(I)I", Cond.superclass RX2 RX9, Cond.instanceMethod yX9_heft, Cond.code yX9_heft cX9_heft 2 (some .int), Cond.methodLink RX9 9 yX1_heft, Cond.superclass RX9 RX1, Cond.methodLink RX9 13 ⟨"CandleMeadow$Wet", "chance", "()I"⟩, Cond.sameMethod "CandleMeadow$Wet" "CandleMeadow$Wet" "chance" "()I", Cond.instanceMethod ⟨"CandleMeadow$Wet", "chance", "()I"⟩, Cond.selects RX2 ⟨"CandleMeadow$Wet", "chance", "()I"⟩ yX2_chance, Cond.methodLink RX9 13 yX9_chance, Cond.selects RX9 yX9_chance yX9_chance, Cond.selects RX3 ⟨"CandleMeadow$Dry", "heft", "(I)I"⟩ yX3_heft]
def wsL_law0_r33 : List Cond := [Cond.instanceMethod yX3_heft, Cond.code yX3_heft cX3_heft 2 (some .int), Cond.methodLink RX3 9 yX1_heft, Cond.superclass RX3 RX1, Cond.selects RX9 ⟨"CandleMeadow$Dry", "heft", "(I)I"⟩ yX9_heft, Cond.methodLink RL 151 yX11_weight, Cond.instanceMethod yX11_weight, Cond.selects RX11 yX11_weight yX11_weight, Cond.code yX11_weight cX11_weight 4 (some .int), Cond.methodLink RX11 211 yX11_noPlot, Cond.instanceMethod yX11_noPlot, Cond.selects RX11 yX11_noPlot yX11_noPlot, Cond.code yX11_noPlot cX11_noPlot 2 (some .int), Cond.methodLink RL 152 yX10_toss, Cond.instanceMethod yX10_toss, Cond.selects RX10 yX10_toss yX10_toss, Cond.code yX10_toss cX10_toss 3 (some .int), Cond.methodLink RX10 301 yX10_isThrown, Cond.static yX10_isThrown, Cond.codeWith yX10_isThrown cX10_isThrown 2 (some .boolean) [(0, 4, 7, 267)], Cond.methodLink RX10 337 yX1_fail, Cond.instanceMethod yX1_fail, Cond.selects RX1 yX1_fail yX1_fail, Cond.code yX1_fail cX1_fail 1 none]
def wsL_law0_r34 : List Cond := [Cond.methodLink RX10 337 ⟨"CandleMeadow$Dry", "fail", "()V"⟩, Cond.sameMethod "CandleMeadow$Dry" "CandleMeadow$Dry" "fail" "()V", Cond.instanceMethod ⟨"CandleMeadow$Dry", "fail", "()V"⟩, Cond.selects RX2 ⟨"CandleMeadow$Dry", "fail", "()V"⟩ yX2_fail, Cond.instanceMethod yX2_fail, Cond.code yX2_fail cX2_fail 1 none, Cond.classLink RX2 13 "java/lang/IllegalStateException", Cond.selects RX3 ⟨"CandleMeadow$Dry", "fail", "()V"⟩ yX3_fail, Cond.instanceMethod yX3_fail, Cond.code yX3_fail cX3_fail 1 none, Cond.classLink RX3 13 "java/lang/IllegalStateException", Cond.selects RX9 ⟨"CandleMeadow$Dry", "fail", "()V"⟩ yX9_fail, Cond.instanceMethod yX9_fail, Cond.code yX9_fail cX9_fail 1 none, Cond.classLink RX9 19 "java/lang/IllegalStateException", Cond.methodLink RL 155 yX11_toss, Cond.instanceMethod yX11_toss, Cond.selects RX11 yX11_toss yX11_toss, Cond.code yX11_toss cX11_toss 3 (some .int)]
def wsL_law0 : List Cond := (wsL_law0_r1 ++ (wsL_law0_r2 ++ (wsL_law0_r3 ++ (wsL_law0_r4 ++ (wsL_law0_r5 ++ (wsL_law0_r6 ++ (wsL_law0_r7 ++ (wsL_law0_r8 ++ (wsL_law0_r9 ++ (wsL_law0_r10 ++ (wsL_law0_r11 ++ (wsL_law0_r12 ++ (wsL_law0_r13 ++ (wsL_law0_r14 ++ (wsL_law0_r15 ++ (wsL_law0_r16 ++ (wsL_law0_r17 ++ (wsL_law0_r18 ++ (wsL_law0_r19 ++ (wsL_law0_r20 ++ (wsL_law0_r21 ++ (wsL_law0_r22 ++ (wsL_law0_r23 ++ (wsL_law0_r24 ++ (wsL_law0_r25 ++ (wsL_law0_r26 ++ (wsL_law0_r27 ++ (wsL_law0_r28 ++ (wsL_law0_r29 ++ (wsL_law0_r30 ++ (wsL_law0_r31 ++ (wsL_law0_r32 ++ (wsL_law0_r33 ++ wsL_law0_r34))))))))))))))))))))))))))))))))) ++ wsX100 ++ wsX110 ++ wsX60 ++ wsX80 ++ wsX40 ++ wsX10 ++ wsX90 ++ wsX20 ++ wsX30 ++ wsX50 ++ wsX00 ++ wsX70 ++ ([] : List Cond)
abbrev vwCl : List vw_C := [(RX0, TX0, 7), (RX1, TX1, 0), (RX2, TX2, 0), (RX3, TX3, 0), (RX4, TX4, 3), (RX5, TX5, 6), (RX6, TX6, 6), (RX7, TX7, 7), (RX8, TX8, 2), (RX9, TX9, 0), (RX10, TX10, 12), (RX11, TX11, 40)]
end
section
theorem dX0_init_0 : decode cX0_init 0 = .ok (.aload_n 0, 1) := by decide +kernel
theorem dX0_init_1 : decode cX0_init 1 = .ok (.invokespecial 3, 3) := by decide +kernel
theorem dX0_init_4 : decode cX0_init 4 = .ok (.aload_n 0, 1) := by decide +kernel
theorem dX0_init_5 : decode cX0_init 5 = .ok (.bipush (-2), 2) := by decide +kernel
theorem dX0_init_7 : decode cX0_init 7 = .ok (.putfield 9, 3) := by decide +kernel
theorem dX0_init_10 : decode cX0_init 10 = .ok (.return_, 1) := by decide +kernel
theorem dX0_need_0 : decode cX0_need 0 = .ok (.bipush 12, 2) := by decide +kernel
theorem dX0_need_2 : decode cX0_need 2 = .ok (.aload_n 0, 1) := by decide +kernel
theorem dX0_need_3 : decode cX0_need 3 = .ok (.getfield 15, 3) := by decide +kernel
theorem dX0_need_6 : decode cX0_need 6 = .ok (.imul, 1) := by decide +kernel
theorem dX0_need_7 : decode cX0_need 7 = .ok (.ireturn, 1) := by decide +kernel
theorem dX0_owes_0 : decode cX0_owes 0 = .ok (.aload_n 0, 1) := by decide +kernel
theorem dX0_owes_1 : decode cX0_owes 1 = .ok (.getfield 18, 3) := by decide +kernel
theorem dX0_owes_4 : decode cX0_owes 4 = .ok (.bipush 10, 2) := by decide +kernel
theorem dX0_owes_6 : decode cX0_owes 6 = .ok (.aload_n 0, 1) := by decide +kernel
theorem dX0_owes_7 : decode cX0_owes 7 = .ok (.getfield 21, 3) := by decide +kernel
theorem dX0_owes_10 : decode cX0_owes 10 = .ok (.imul, 1) := by decide +kernel
theorem dX0_owes_11 : decode cX0_owes 11 = .ok (.iadd, 1) := by decide +kernel
theorem dX0_owes_12 : decode cX0_owes 12 = .ok (.ireturn, 1) := by decide +kernel
theorem dX1_init_0 : decode cX1_init 0 = .ok (.aload_n 0, 1) := by decide +kernel
theorem dX1_init_1 : decode cX1_init 1 = .ok (.invokespecial 3, 3) := by decide +kernel
theorem dX1_init_4 : decode cX1_init 4 = .ok (.return_, 1) := by decide +kernel
theorem dX1_chance_0 : decode cX1_chance 0 = .ok (.bipush 80, 2) := by decide +kernel
theorem dX1_chance_2 : decode cX1_chance 2 = .ok (.ireturn, 1) := by decide +kernel
theorem dX1_heft_0 : decode cX1_heft 0 = .ok (.bipush 10, 2) := by decide +kernel
theorem dX1_heft_2 : decode cX1_heft 2 = .ok (.iload_n 1, 1) := by decide +kernel
theorem dX1_heft_3 : decode cX1_heft 3 = .ok (.iadd, 1) := by decide +kernel
theorem dX1_heft_4 : decode cX1_heft 4 = .ok (.ireturn, 1) := by decide +kernel
theorem dX1_fail_0 : decode cX1_fail 0 = .ok (.return_, 1) := by decide +kernel
theorem dX2_init_0 : decode cX2_init 0 = .ok (.aload_n 0, 1) := by decide +kernel
theorem dX2_init_1 : decode cX2_init 1 = .ok (.invokespecial 3, 3) := by decide +kernel
theorem dX2_init_4 : decode cX2_init 4 = .ok (.return_, 1) := by decide +kernel
theorem dX2_chance_0 : decode cX2_chance 0 = .ok (.bipush 25, 2) := by decide +kernel
theorem dX2_chance_2 : decode cX2_chance 2 = .ok (.ireturn, 1) := by decide +kernel
theorem dX2_heft_0 : decode cX2_heft 0 = .ok (.iconst 2, 1) := by decide +kernel
theorem dX2_heft_1 : decode cX2_heft 1 = .ok (.aload_n 0, 1) := by decide +kernel
theorem dX2_heft_2 : decode cX2_heft 2 = .ok (.iload_n 1, 1) := by decide +kernel
theorem dX2_heft_3 : decode cX2_heft 3 = .ok (.invokespecial 9, 3) := by decide +kernel
theorem dX2_heft_6 : decode cX2_heft 6 = .ok (.imul, 1) := by decide +kernel
theorem dX2_heft_7 : decode cX2_heft 7 = .ok (.ireturn, 1) := by decide +kernel
theorem dX2_fail_0 : decode cX2_fail 0 = .ok (.new 13, 3) := by decide +kernel
theorem dX2_fail_3 : decode cX2_fail 3 = .ok (.dup, 1) := by decide +kernel
theorem dX2_fail_4 : decode cX2_fail 4 = .ok (.ldc 15, 2) := by decide +kernel
theorem dX2_fail_6 : decode cX2_fail 6 = .ok (.invokespecial 17, 3) := by decide +kernel
theorem dX2_fail_9 : decode cX2_fail 9 = .ok (.athrow, 1) := by decide +kernel
theorem dX3_init_0 : decode cX3_init 0 = .ok (.aload_n 0, 1) := by decide +kernel
theorem dX3_init_1 : decode cX3_init 1 = .ok (.invokespecial 3, 3) := by decide +kernel
theorem dX3_init_4 : decode cX3_init 4 = .ok (.return_, 1) := by decide +kernel
theorem dX3_chance_0 : decode cX3_chance 0 = .ok (.bipush 95, 2) := by decide +kernel
theorem dX3_chance_2 : decode cX3_chance 2 = .ok (.ireturn, 1) := by decide +kernel
theorem dX3_heft_0 : decode cX3_heft 0 = .ok (.aload_n 0, 1) := by decide +kernel
theorem dX3_heft_1 : decode cX3_heft 1 = .ok (.iload_n 1, 1) := by decide +kernel
theorem dX3_heft_2 : decode cX3_heft 2 = .ok (.invokespecial 9, 3) := by decide +kernel
theorem dX3_heft_5 : decode cX3_heft 5 = .ok (.bipush 100, 2) := by decide +kernel
theorem dX3_heft_7 : decode cX3_heft 7 = .ok (.iadd, 1) := by decide +kernel
theorem dX3_heft_8 : decode cX3_heft 8 = .ok (.ireturn, 1) := by decide +kernel
theorem dX3_fail_0 : decode cX3_fail 0 = .ok (.new 13, 3) := by decide +kernel
theorem dX3_fail_3 : decode cX3_fail 3 = .ok (.dup, 1) := by decide +kernel
theorem dX3_fail_4 : decode cX3_fail 4 = .ok (.ldc 15, 2) := by decide +kernel
theorem dX3_fail_6 : decode cX3_fail 6 = .ok (.invokespecial 17, 3) := by decide +kernel
theorem dX3_fail_9 : decode cX3_fail 9 = .ok (.athrow, 1) := by decide +kernel
theorem dX4_init_0 : decode cX4_init 0 = .ok (.aload_n 0, 1) := by decide +kernel
theorem dX4_init_1 : decode cX4_init 1 = .ok (.invokespecial 3, 3) := by decide +kernel
theorem dX4_init_4 : decode cX4_init 4 = .ok (.aload_n 0, 1) := by decide +kernel
theorem dX4_init_5 : decode cX4_init 5 = .ok (.bipush 10, 2) := by decide +kernel
theorem dX4_init_7 : decode cX4_init 7 = .ok (.newarray .int, 2) := by decide +kernel
theorem dX4_init_9 : decode cX4_init 9 = .ok (.putfield 9, 3) := by decide +kernel
theorem dX4_init_12 : decode cX4_init 12 = .ok (.aload_n 0, 1) := by decide +kernel
theorem dX4_init_13 : decode cX4_init 13 = .ok (.bipush 10, 2) := by decide +kernel
theorem dX4_init_15 : decode cX4_init 15 = .ok (.newarray .int, 2) := by decide +kernel
theorem dX4_init_17 : decode cX4_init 17 = .ok (.putfield 15, 3) := by decide +kernel
theorem dX4_init_20 : decode cX4_init 20 = .ok (.aload_n 0, 1) := by decide +kernel
theorem dX4_init_21 : decode cX4_init 21 = .ok (.bipush 10, 2) := by decide +kernel
theorem dX4_init_23 : decode cX4_init 23 = .ok (.newarray .int, 2) := by decide +kernel
theorem dX4_init_25 : decode cX4_init 25 = .ok (.putfield 18, 3) := by decide +kernel
theorem dX4_init_28 : decode cX4_init 28 = .ok (.return_, 1) := by decide +kernel
theorem dX4_settle_0 : decode cX4_settle 0 = .ok (.iconst 0, 1) := by decide +kernel
theorem dX4_settle_1 : decode cX4_settle 1 = .ok (.istore_n 3, 1) := by decide +kernel
theorem dX4_settle_2 : decode cX4_settle 2 = .ok (.iload_n 3, 1) := by decide +kernel
theorem dX4_settle_3 : decode cX4_settle 3 = .ok (.iload_n 2, 1) := by decide +kernel
theorem dX4_settle_4 : decode cX4_settle 4 = .ok (.if_icmp .ge 56, 3) := by decide +kernel
theorem dX4_settle_7 : decode cX4_settle 7 = .ok (.aload_n 0, 1) := by decide +kernel
theorem dX4_settle_8 : decode cX4_settle 8 = .ok (.getfield 9, 3) := by decide +kernel
theorem dX4_settle_11 : decode cX4_settle 11 = .ok (.iload_n 3, 1) := by decide +kernel
theorem dX4_settle_12 : decode cX4_settle 12 = .ok (.aload_n 1, 1) := by decide +kernel
theorem dX4_settle_13 : decode cX4_settle 13 = .ok (.iload_n 3, 1) := by decide +kernel
theorem dX4_settle_14 : decode cX4_settle 14 = .ok (.aaload, 1) := by decide +kernel
theorem dX4_settle_15 : decode cX4_settle 15 = .ok (.invokevirtual 21, 3) := by decide +kernel
theorem dX4_settle_18 : decode cX4_settle 18 = .ok (.aload_n 1, 1) := by decide +kernel
theorem dX4_settle_19 : decode cX4_settle 19 = .ok (.iload_n 3, 1) := by decide +kernel
theorem dX4_settle_20 : decode cX4_settle 20 = .ok (.aaload, 1) := by decide +kernel
theorem dX4_settle_21 : decode cX4_settle 21 = .ok (.getfield 27, 3) := by decide +kernel
theorem dX4_settle_24 : decode cX4_settle 24 = .ok (.invokestatic 31, 3) := by decide +kernel
theorem dX4_settle_27 : decode cX4_settle 27 = .ok (.iastore, 1) := by decide +kernel
theorem dX4_settle_28 : decode cX4_settle 28 = .ok (.aload_n 0, 1) := by decide +kernel
theorem dX4_settle_29 : decode cX4_settle 29 = .ok (.getfield 18, 3) := by decide +kernel
theorem dX4_settle_32 : decode cX4_settle 32 = .ok (.iload_n 3, 1) := by decide +kernel
theorem dX4_settle_33 : decode cX4_settle 33 = .ok (.aload_n 1, 1) := by decide +kernel
theorem dX4_settle_34 : decode cX4_settle 34 = .ok (.iload_n 3, 1) := by decide +kernel
theorem dX4_settle_35 : decode cX4_settle 35 = .ok (.aaload, 1) := by decide +kernel
theorem dX4_settle_36 : decode cX4_settle 36 = .ok (.getfield 27, 3) := by decide +kernel
theorem dX4_settle_39 : decode cX4_settle 39 = .ok (.aload_n 0, 1) := by decide +kernel
theorem dX4_settle_40 : decode cX4_settle 40 = .ok (.getfield 9, 3) := by decide +kernel
theorem dX4_settle_43 : decode cX4_settle 43 = .ok (.iload_n 3, 1) := by decide +kernel
theorem dX4_settle_44 : decode cX4_settle 44 = .ok (.iaload, 1) := by decide +kernel
theorem dX4_settle_45 : decode cX4_settle 45 = .ok (.isub, 1) := by decide +kernel
theorem dX4_settle_46 : decode cX4_settle 46 = .ok (.iastore, 1) := by decide +kernel
theorem dX4_settle_47 : decode cX4_settle 47 = .ok (.aload_n 0, 1) := by decide +kernel
theorem dX4_settle_48 : decode cX4_settle 48 = .ok (.getfield 15, 3) := by decide +kernel
theorem dX4_settle_51 : decode cX4_settle 51 = .ok (.iload_n 3, 1) := by decide +kernel
theorem dX4_settle_52 : decode cX4_settle 52 = .ok (.iconst 0, 1) := by decide +kernel
theorem dX4_settle_53 : decode cX4_settle 53 = .ok (.iastore, 1) := by decide +kernel
theorem dX4_settle_54 : decode cX4_settle 54 = .ok (.iinc 3 1, 3) := by decide +kernel
theorem dX4_settle_57 : decode cX4_settle 57 = .ok (.goto (-55), 3) := by decide +kernel
theorem dX4_settle_60 : decode cX4_settle 60 = .ok (.iconst 0, 1) := by decide +kernel
theorem dX4_settle_61 : decode cX4_settle 61 = .ok (.istore_n 3, 1) := by decide +kernel
theorem dX4_settle_62 : decode cX4_settle 62 = .ok (.iload_n 3, 1) := by decide +kernel
theorem dX4_settle_63 : decode cX4_settle 63 = .ok (.iload_n 2, 1) := by decide +kernel
theorem dX4_settle_64 : decode cX4_settle 64 = .ok (.if_icmp .ge 73, 3) := by decide +kernel
theorem dX4_settle_67 : decode cX4_settle 67 = .ok (.aload_n 1, 1) := by decide +kernel
theorem dX4_settle_68 : decode cX4_settle 68 = .ok (.iload_n 3, 1) := by decide +kernel
theorem dX4_settle_69 : decode cX4_settle 69 = .ok (.aaload, 1) := by decide +kernel
theorem dX4_settle_70 : decode cX4_settle 70 = .ok (.getfield 37, 3) := by decide +kernel
theorem dX4_settle_73 : decode cX4_settle 73 = .ok (.istore 4, 2) := by decide +kernel
theorem dX4_settle_75 : decode cX4_settle 75 = .ok (.iload 4, 2) := by decide +kernel
theorem dX4_settle_77 : decode cX4_settle 77 = .ok (.ifCond .lt 54, 3) := by decide +kernel
theorem dX4_settle_80 : decode cX4_settle 80 = .ok (.iload 4, 2) := by decide +kernel
theorem dX4_settle_82 : decode cX4_settle 82 = .ok (.iload_n 2, 1) := by decide +kernel
theorem dX4_settle_83 : decode cX4_settle 83 = .ok (.if_icmp .ge 48, 3) := by decide +kernel
theorem dX4_settle_86 : decode cX4_settle 86 = .ok (.aload_n 0, 1) := by decide +kernel
theorem dX4_settle_87 : decode cX4_settle 87 = .ok (.getfield 15, 3) := by decide +kernel
theorem dX4_settle_90 : decode cX4_settle 90 = .ok (.iload_n 3, 1) := by decide +kernel
theorem dX4_settle_91 : decode cX4_settle 91 = .ok (.aload_n 1, 1) := by decide +kernel
theorem dX4_settle_92 : decode cX4_settle 92 = .ok (.iload_n 3, 1) := by decide +kernel
theorem dX4_settle_93 : decode cX4_settle 93 = .ok (.aaload, 1) := by decide +kernel
theorem dX4_settle_94 : decode cX4_settle 94 = .ok (.invokevirtual 21, 3) := by decide +kernel
theorem dX4_settle_97 : decode cX4_settle 97 = .ok (.aload_n 0, 1) := by decide +kernel
theorem dX4_settle_98 : decode cX4_settle 98 = .ok (.getfield 9, 3) := by decide +kernel
theorem dX4_settle_101 : decode cX4_settle 101 = .ok (.iload_n 3, 1) := by decide +kernel
theorem dX4_settle_102 : decode cX4_settle 102 = .ok (.iaload, 1) := by decide +kernel
theorem dX4_settle_103 : decode cX4_settle 103 = .ok (.isub, 1) := by decide +kernel
theorem dX4_settle_104 : decode cX4_settle 104 = .ok (.aload_n 0, 1) := by decide +kernel
theorem dX4_settle_105 : decode cX4_settle 105 = .ok (.getfield 18, 3) := by decide +kernel
theorem dX4_settle_108 : decode cX4_settle 108 = .ok (.iload 4, 2) := by decide +kernel
theorem dX4_settle_110 : decode cX4_settle 110 = .ok (.iaload, 1) := by decide +kernel
theorem dX4_settle_111 : decode cX4_settle 111 = .ok (.invokestatic 31, 3) := by decide +kernel
theorem dX4_settle_114 : decode cX4_settle 114 = .ok (.iastore, 1) := by decide +kernel
theorem dX4_settle_115 : decode cX4_settle 115 = .ok (.aload_n 0, 1) := by decide +kernel
theorem dX4_settle_116 : decode cX4_settle 116 = .ok (.getfield 18, 3) := by decide +kernel
theorem dX4_settle_119 : decode cX4_settle 119 = .ok (.iload 4, 2) := by decide +kernel
theorem dX4_settle_121 : decode cX4_settle 121 = .ok (.dup2, 1) := by decide +kernel
theorem dX4_settle_122 : decode cX4_settle 122 = .ok (.iaload, 1) := by decide +kernel
theorem dX4_settle_123 : decode cX4_settle 123 = .ok (.aload_n 0, 1) := by decide +kernel
theorem dX4_settle_124 : decode cX4_settle 124 = .ok (.getfield 15, 3) := by decide +kernel
theorem dX4_settle_127 : decode cX4_settle 127 = .ok (.iload_n 3, 1) := by decide +kernel
theorem dX4_settle_128 : decode cX4_settle 128 = .ok (.iaload, 1) := by decide +kernel
theorem dX4_settle_129 : decode cX4_settle 129 = .ok (.isub, 1) := by decide +kernel
theorem dX4_settle_130 : decode cX4_settle 130 = .ok (.iastore, 1) := by decide +kernel
theorem dX4_settle_131 : decode cX4_settle 131 = .ok (.iinc 3 1, 3) := by decide +kernel
theorem dX4_settle_134 : decode cX4_settle 134 = .ok (.goto (-72), 3) := by decide +kernel
theorem dX4_settle_137 : decode cX4_settle 137 = .ok (.return_, 1) := by decide +kernel
theorem dX5_init_0 : decode cX5_init 0 = .ok (.aload_n 0, 1) := by decide +kernel
theorem dX5_init_1 : decode cX5_init 1 = .ok (.invokespecial 3, 3) := by decide +kernel
theorem dX5_init_4 : decode cX5_init 4 = .ok (.aload_n 0, 1) := by decide +kernel
theorem dX5_init_5 : decode cX5_init 5 = .ok (.bipush (-2), 2) := by decide +kernel
theorem dX5_init_7 : decode cX5_init 7 = .ok (.putfield 9, 3) := by decide +kernel
theorem dX5_init_10 : decode cX5_init 10 = .ok (.aload_n 0, 1) := by decide +kernel
theorem dX5_init_11 : decode cX5_init 11 = .ok (.bipush (-2), 2) := by decide +kernel
theorem dX5_init_13 : decode cX5_init 13 = .ok (.putfield 15, 3) := by decide +kernel
theorem dX5_init_16 : decode cX5_init 16 = .ok (.aload_n 0, 1) := by decide +kernel
theorem dX5_init_17 : decode cX5_init 17 = .ok (.bipush (-2), 2) := by decide +kernel
theorem dX5_init_19 : decode cX5_init 19 = .ok (.putfield 18, 3) := by decide +kernel
theorem dX5_init_22 : decode cX5_init 22 = .ok (.aload_n 0, 1) := by decide +kernel
theorem dX5_init_23 : decode cX5_init 23 = .ok (.aload_n 1, 1) := by decide +kernel
theorem dX5_init_24 : decode cX5_init 24 = .ok (.putfield 21, 3) := by decide +kernel
theorem dX5_init_27 : decode cX5_init 27 = .ok (.return_, 1) := by decide +kernel
theorem dX5_hay_0 : decode cX5_hay 0 = .ok (.aload_n 0, 1) := by decide +kernel
theorem dX5_hay_1 : decode cX5_hay 1 = .ok (.getfield 25, 3) := by decide +kernel
theorem dX5_hay_4 : decode cX5_hay 4 = .ok (.aload_n 0, 1) := by decide +kernel
theorem dX5_hay_5 : decode cX5_hay 5 = .ok (.getfield 21, 3) := by decide +kernel
theorem dX5_hay_8 : decode cX5_hay 8 = .ok (.invokevirtual 28, 3) := by decide +kernel
theorem dX5_hay_11 : decode cX5_hay 11 = .ok (.imul, 1) := by decide +kernel
theorem dX5_hay_12 : decode cX5_hay 12 = .ok (.bipush 100, 2) := by decide +kernel
theorem dX5_hay_14 : decode cX5_hay 14 = .ok (.idiv, 1) := by decide +kernel
theorem dX5_hay_15 : decode cX5_hay 15 = .ok (.ireturn, 1) := by decide +kernel
theorem dX5_isSold_0 : decode cX5_isSold 0 = .ok (.aload_n 0, 1) := by decide +kernel
theorem dX5_isSold_1 : decode cX5_isSold 1 = .ok (.getfield 9, 3) := by decide +kernel
theorem dX5_isSold_4 : decode cX5_isSold 4 = .ok (.bipush (-2), 2) := by decide +kernel
theorem dX5_isSold_6 : decode cX5_isSold 6 = .ok (.if_icmp .eq 7, 3) := by decide +kernel
theorem dX5_isSold_9 : decode cX5_isSold 9 = .ok (.iconst 1, 1) := by decide +kernel
theorem dX5_isSold_10 : decode cX5_isSold 10 = .ok (.goto 4, 3) := by decide +kernel
theorem dX5_isSold_13 : decode cX5_isSold 13 = .ok (.iconst 0, 1) := by decide +kernel
theorem dX5_isSold_14 : decode cX5_isSold 14 = .ok (.ireturn, 1) := by decide +kernel
theorem dX5_isCut_0 : decode cX5_isCut 0 = .ok (.aload_n 0, 1) := by decide +kernel
theorem dX5_isCut_1 : decode cX5_isCut 1 = .ok (.getfield 18, 3) := by decide +kernel
theorem dX5_isCut_4 : decode cX5_isCut 4 = .ok (.bipush (-2), 2) := by decide +kernel
theorem dX5_isCut_6 : decode cX5_isCut 6 = .ok (.if_icmp .eq 7, 3) := by decide +kernel
theorem dX5_isCut_9 : decode cX5_isCut 9 = .ok (.iconst 1, 1) := by decide +kernel
theorem dX5_isCut_10 : decode cX5_isCut 10 = .ok (.goto 4, 3) := by decide +kernel
theorem dX5_isCut_13 : decode cX5_isCut 13 = .ok (.iconst 0, 1) := by decide +kernel
theorem dX5_isCut_14 : decode cX5_isCut 14 = .ok (.ireturn, 1) := by decide +kernel
theorem dX5_stands_0 : decode cX5_stands 0 = .ok (.aload_n 0, 1) := by decide +kernel
theorem dX5_stands_1 : decode cX5_stands 1 = .ok (.invokevirtual 34, 3) := by decide +kernel
theorem dX5_stands_4 : decode cX5_stands 4 = .ok (.ifCond .eq 21, 3) := by decide +kernel
theorem dX5_stands_7 : decode cX5_stands 7 = .ok (.aload_n 0, 1) := by decide +kernel
theorem dX5_stands_8 : decode cX5_stands 8 = .ok (.invokevirtual 38, 3) := by decide +kernel
theorem dX5_stands_11 : decode cX5_stands 11 = .ok (.ifCond .ne 14, 3) := by decide +kernel
theorem dX5_stands_14 : decode cX5_stands 14 = .ok (.aload_n 0, 1) := by decide +kernel
theorem dX5_stands_15 : decode cX5_stands 15 = .ok (.getfield 25, 3) := by decide +kernel
theorem dX5_stands_18 : decode cX5_stands 18 = .ok (.ifCond .le 7, 3) := by decide +kernel
theorem dX5_stands_21 : decode cX5_stands 21 = .ok (.iconst 1, 1) := by decide +kernel
theorem dX5_stands_22 : decode cX5_stands 22 = .ok (.goto 4, 3) := by decide +kernel
theorem dX5_stands_25 : decode cX5_stands 25 = .ok (.iconst 0, 1) := by decide +kernel
theorem dX5_stands_26 : decode cX5_stands 26 = .ok (.ireturn, 1) := by decide +kernel
theorem dX5_toll_0 : decode cX5_toll 0 = .ok (.aload_n 0, 1) := by decide +kernel
theorem dX5_toll_1 : decode cX5_toll 1 = .ok (.invokevirtual 41, 3) := by decide +kernel
theorem dX5_toll_4 : decode cX5_toll 4 = .ok (.ifCond .eq 13, 3) := by decide +kernel
theorem dX5_toll_7 : decode cX5_toll 7 = .ok (.aload_n 0, 1) := by decide +kernel
theorem dX5_toll_8 : decode cX5_toll 8 = .ok (.getfield 25, 3) := by decide +kernel
theorem dX5_toll_11 : decode cX5_toll 11 = .ok (.bipush 10, 2) := by decide +kernel
theorem dX5_toll_13 : decode cX5_toll 13 = .ok (.idiv, 1) := by decide +kernel
theorem dX5_toll_14 : decode cX5_toll 14 = .ok (.goto 4, 3) := by decide +kernel
theorem dX5_toll_17 : decode cX5_toll 17 = .ok (.iconst 0, 1) := by decide +kernel
theorem dX5_toll_18 : decode cX5_toll 18 = .ok (.ireturn, 1) := by decide +kernel
theorem dX5_beside_0 : decode cX5_beside 0 = .ok (.iload_n 0, 1) := by decide +kernel
theorem dX5_beside_1 : decode cX5_beside 1 = .ok (.bipush 6, 2) := by decide +kernel
theorem dX5_beside_3 : decode cX5_beside 3 = .ok (.irem, 1) := by decide +kernel
theorem dX5_beside_4 : decode cX5_beside 4 = .ok (.istore_n 2, 1) := by decide +kernel
theorem dX5_beside_5 : decode cX5_beside 5 = .ok (.iload_n 1, 1) := by decide +kernel
theorem dX5_beside_6 : decode cX5_beside 6 = .ok (.tableswitch 66 0 2 #[26, 38, 51], 26) := by decide +kernel
theorem dX5_beside_32 : decode cX5_beside 32 = .ok (.iload_n 2, 1) := by decide +kernel
theorem dX5_beside_33 : decode cX5_beside 33 = .ok (.ifCond .le 9, 3) := by decide +kernel
theorem dX5_beside_36 : decode cX5_beside 36 = .ok (.iload_n 0, 1) := by decide +kernel
theorem dX5_beside_37 : decode cX5_beside 37 = .ok (.iconst 1, 1) := by decide +kernel
theorem dX5_beside_38 : decode cX5_beside 38 = .ok (.isub, 1) := by decide +kernel
theorem dX5_beside_39 : decode cX5_beside 39 = .ok (.goto 4, 3) := by decide +kernel
theorem dX5_beside_42 : decode cX5_beside 42 = .ok (.iconst (-1), 1) := by decide +kernel
theorem dX5_beside_43 : decode cX5_beside 43 = .ok (.ireturn, 1) := by decide +kernel
theorem dX5_beside_44 : decode cX5_beside 44 = .ok (.iload_n 2, 1) := by decide +kernel
theorem dX5_beside_45 : decode cX5_beside 45 = .ok (.iconst 5, 1) := by decide +kernel
theorem dX5_beside_46 : decode cX5_beside 46 = .ok (.if_icmp .ge 9, 3) := by decide +kernel
theorem dX5_beside_49 : decode cX5_beside 49 = .ok (.iload_n 0, 1) := by decide +kernel
theorem dX5_beside_50 : decode cX5_beside 50 = .ok (.iconst 1, 1) := by decide +kernel
theorem dX5_beside_51 : decode cX5_beside 51 = .ok (.iadd, 1) := by decide +kernel
theorem dX5_beside_52 : decode cX5_beside 52 = .ok (.goto 4, 3) := by decide +kernel
theorem dX5_beside_55 : decode cX5_beside 55 = .ok (.iconst (-1), 1) := by decide +kernel
theorem dX5_beside_56 : decode cX5_beside 56 = .ok (.ireturn, 1) := by decide +kernel
theorem dX5_beside_57 : decode cX5_beside 57 = .ok (.iload_n 0, 1) := by decide +kernel
theorem dX5_beside_58 : decode cX5_beside 58 = .ok (.bipush 6, 2) := by decide +kernel
theorem dX5_beside_60 : decode cX5_beside 60 = .ok (.if_icmp .lt 10, 3) := by decide +kernel
theorem dX5_beside_63 : decode cX5_beside 63 = .ok (.iload_n 0, 1) := by decide +kernel
theorem dX5_beside_64 : decode cX5_beside 64 = .ok (.bipush 6, 2) := by decide +kernel
theorem dX5_beside_66 : decode cX5_beside 66 = .ok (.isub, 1) := by decide +kernel
theorem dX5_beside_67 : decode cX5_beside 67 = .ok (.goto 4, 3) := by decide +kernel
theorem dX5_beside_70 : decode cX5_beside 70 = .ok (.iconst (-1), 1) := by decide +kernel
theorem dX5_beside_71 : decode cX5_beside 71 = .ok (.ireturn, 1) := by decide +kernel
theorem dX5_beside_72 : decode cX5_beside 72 = .ok (.iload_n 0, 1) := by decide +kernel
theorem dX5_beside_73 : decode cX5_beside 73 = .ok (.bipush 18, 2) := by decide +kernel
theorem dX5_beside_75 : decode cX5_beside 75 = .ok (.if_icmp .ge 10, 3) := by decide +kernel
theorem dX5_beside_78 : decode cX5_beside 78 = .ok (.iload_n 0, 1) := by decide +kernel
theorem dX5_beside_79 : decode cX5_beside 79 = .ok (.bipush 6, 2) := by decide +kernel
theorem dX5_beside_81 : decode cX5_beside 81 = .ok (.iadd, 1) := by decide +kernel
theorem dX5_beside_82 : decode cX5_beside 82 = .ok (.goto 4, 3) := by decide +kernel
theorem dX5_beside_85 : decode cX5_beside 85 = .ok (.iconst (-1), 1) := by decide +kernel
theorem dX5_beside_86 : decode cX5_beside 86 = .ok (.ireturn, 1) := by decide +kernel
theorem dX5_steps_0 : decode cX5_steps 0 = .ok (.iload_n 0, 1) := by decide +kernel
theorem dX5_steps_1 : decode cX5_steps 1 = .ok (.bipush 6, 2) := by decide +kernel
theorem dX5_steps_3 : decode cX5_steps 3 = .ok (.irem, 1) := by decide +kernel
theorem dX5_steps_4 : decode cX5_steps 4 = .ok (.iload_n 1, 1) := by decide +kernel
theorem dX5_steps_5 : decode cX5_steps 5 = .ok (.bipush 6, 2) := by decide +kernel
theorem dX5_steps_7 : decode cX5_steps 7 = .ok (.irem, 1) := by decide +kernel
theorem dX5_steps_8 : decode cX5_steps 8 = .ok (.isub, 1) := by decide +kernel
theorem dX5_steps_9 : decode cX5_steps 9 = .ok (.invokestatic 44, 3) := by decide +kernel
theorem dX5_steps_12 : decode cX5_steps 12 = .ok (.iload_n 0, 1) := by decide +kernel
theorem dX5_steps_13 : decode cX5_steps 13 = .ok (.bipush 6, 2) := by decide +kernel
theorem dX5_steps_15 : decode cX5_steps 15 = .ok (.idiv, 1) := by decide +kernel
theorem dX5_steps_16 : decode cX5_steps 16 = .ok (.iload_n 1, 1) := by decide +kernel
theorem dX5_steps_17 : decode cX5_steps 17 = .ok (.bipush 6, 2) := by decide +kernel
theorem dX5_steps_19 : decode cX5_steps 19 = .ok (.idiv, 1) := by decide +kernel
theorem dX5_steps_20 : decode cX5_steps 20 = .ok (.isub, 1) := by decide +kernel
theorem dX5_steps_21 : decode cX5_steps 21 = .ok (.invokestatic 44, 3) := by decide +kernel
theorem dX5_steps_24 : decode cX5_steps 24 = .ok (.iadd, 1) := by decide +kernel
theorem dX5_steps_25 : decode cX5_steps 25 = .ok (.ireturn, 1) := by decide +kernel
theorem dX6_init_0 : decode cX6_init 0 = .ok (.aload_n 0, 1) := by decide +kernel
theorem dX6_init_1 : decode cX6_init 1 = .ok (.invokespecial 3, 3) := by decide +kernel
theorem dX6_init_4 : decode cX6_init 4 = .ok (.aload_n 0, 1) := by decide +kernel
theorem dX6_init_5 : decode cX6_init 5 = .ok (.bipush 10, 2) := by decide +kernel
theorem dX6_init_7 : decode cX6_init 7 = .ok (.newarray .int, 2) := by decide +kernel
theorem dX6_init_9 : decode cX6_init 9 = .ok (.putfield 9, 3) := by decide +kernel
theorem dX6_init_12 : decode cX6_init 12 = .ok (.aload_n 0, 1) := by decide +kernel
theorem dX6_init_13 : decode cX6_init 13 = .ok (.bipush 10, 2) := by decide +kernel
theorem dX6_init_15 : decode cX6_init 15 = .ok (.newarray .boolean, 2) := by decide +kernel
theorem dX6_init_17 : decode cX6_init 17 = .ok (.putfield 15, 3) := by decide +kernel
theorem dX6_init_20 : decode cX6_init 20 = .ok (.aload_n 0, 1) := by decide +kernel
theorem dX6_init_21 : decode cX6_init 21 = .ok (.bipush (-2), 2) := by decide +kernel
theorem dX6_init_23 : decode cX6_init 23 = .ok (.putfield 19, 3) := by decide +kernel
theorem dX6_init_26 : decode cX6_init 26 = .ok (.return_, 1) := by decide +kernel
theorem dX6_burn_0 : decode cX6_burn 0 = .ok (.aload_n 0, 1) := by decide +kernel
theorem dX6_burn_1 : decode cX6_burn 1 = .ok (.bipush (-2), 2) := by decide +kernel
theorem dX6_burn_3 : decode cX6_burn 3 = .ok (.putfield 19, 3) := by decide +kernel
theorem dX6_burn_6 : decode cX6_burn 6 = .ok (.aload_n 0, 1) := by decide +kernel
theorem dX6_burn_7 : decode cX6_burn 7 = .ok (.iconst 0, 1) := by decide +kernel
theorem dX6_burn_8 : decode cX6_burn 8 = .ok (.putfield 23, 3) := by decide +kernel
theorem dX6_burn_11 : decode cX6_burn 11 = .ok (.iload_n 2, 1) := by decide +kernel
theorem dX6_burn_12 : decode cX6_burn 12 = .ok (.istore_n 3, 1) := by decide +kernel
theorem dX6_burn_13 : decode cX6_burn 13 = .ok (.iconst 0, 1) := by decide +kernel
theorem dX6_burn_14 : decode cX6_burn 14 = .ok (.istore 4, 2) := by decide +kernel
theorem dX6_burn_16 : decode cX6_burn 16 = .ok (.iload 4, 2) := by decide +kernel
theorem dX6_burn_18 : decode cX6_burn 18 = .ok (.iload_n 1, 1) := by decide +kernel
theorem dX6_burn_19 : decode cX6_burn 19 = .ok (.if_icmp .ge 105, 3) := by decide +kernel
theorem dX6_burn_22 : decode cX6_burn 22 = .ok (.aload_n 0, 1) := by decide +kernel
theorem dX6_burn_23 : decode cX6_burn 23 = .ok (.getfield 15, 3) := by decide +kernel
theorem dX6_burn_26 : decode cX6_burn 26 = .ok (.iload_n 3, 1) := by decide +kernel
theorem dX6_burn_27 : decode cX6_burn 27 = .ok (.baload, 1) := by decide +kernel
theorem dX6_burn_28 : decode cX6_burn 28 = .ok (.ifCond .eq 16, 3) := by decide +kernel
theorem dX6_burn_31 : decode cX6_burn 31 = .ok (.iload_n 1, 1) := by decide +kernel
theorem dX6_burn_32 : decode cX6_burn 32 = .ok (.iload 4, 2) := by decide +kernel
theorem dX6_burn_34 : decode cX6_burn 34 = .ok (.isub, 1) := by decide +kernel
theorem dX6_burn_35 : decode cX6_burn 35 = .ok (.iconst 3, 1) := by decide +kernel
theorem dX6_burn_36 : decode cX6_burn 36 = .ok (.aload_n 0, 1) := by decide +kernel
theorem dX6_burn_37 : decode cX6_burn 37 = .ok (.getfield 26, 3) := by decide +kernel
theorem dX6_burn_40 : decode cX6_burn 40 = .ok (.imul, 1) := by decide +kernel
theorem dX6_burn_41 : decode cX6_burn 41 = .ok (.if_icmp .gt 7, 3) := by decide +kernel
theorem dX6_burn_44 : decode cX6_burn 44 = .ok (.iconst 1, 1) := by decide +kernel
theorem dX6_burn_45 : decode cX6_burn 45 = .ok (.goto 4, 3) := by decide +kernel
theorem dX6_burn_48 : decode cX6_burn 48 = .ok (.iconst 0, 1) := by decide +kernel
theorem dX6_burn_49 : decode cX6_burn 49 = .ok (.istore 5, 2) := by decide +kernel
theorem dX6_burn_51 : decode cX6_burn 51 = .ok (.iload 5, 2) := by decide +kernel
theorem dX6_burn_53 : decode cX6_burn 53 = .ok (.ifCond .eq 47, 3) := by decide +kernel
theorem dX6_burn_56 : decode cX6_burn 56 = .ok (.iload_n 3, 1) := by decide +kernel
theorem dX6_burn_57 : decode cX6_burn 57 = .ok (.aload_n 0, 1) := by decide +kernel
theorem dX6_burn_58 : decode cX6_burn 58 = .ok (.getfield 19, 3) := by decide +kernel
theorem dX6_burn_61 : decode cX6_burn 61 = .ok (.if_icmp .eq 39, 3) := by decide +kernel
theorem dX6_burn_64 : decode cX6_burn 64 = .ok (.aload_n 0, 1) := by decide +kernel
theorem dX6_burn_65 : decode cX6_burn 65 = .ok (.getfield 23, 3) := by decide +kernel
theorem dX6_burn_68 : decode cX6_burn 68 = .ok (.aload_n 0, 1) := by decide +kernel
theorem dX6_burn_69 : decode cX6_burn 69 = .ok (.getfield 29, 3) := by decide +kernel
theorem dX6_burn_72 : decode cX6_burn 72 = .ok (.iadd, 1) := by decide +kernel
theorem dX6_burn_73 : decode cX6_burn 73 = .ok (.aload_n 0, 1) := by decide +kernel
theorem dX6_burn_74 : decode cX6_burn 74 = .ok (.getfield 9, 3) := by decide +kernel
theorem dX6_burn_77 : decode cX6_burn 77 = .ok (.iload_n 3, 1) := by decide +kernel
theorem dX6_burn_78 : decode cX6_burn 78 = .ok (.iaload, 1) := by decide +kernel
theorem dX6_burn_79 : decode cX6_burn 79 = .ok (.if_icmp .gt 21, 3) := by decide +kernel
theorem dX6_burn_82 : decode cX6_burn 82 = .ok (.aload_n 0, 1) := by decide +kernel
theorem dX6_burn_83 : decode cX6_burn 83 = .ok (.iload_n 3, 1) := by decide +kernel
theorem dX6_burn_84 : decode cX6_burn 84 = .ok (.putfield 19, 3) := by decide +kernel
theorem dX6_burn_87 : decode cX6_burn 87 = .ok (.aload_n 0, 1) := by decide +kernel
theorem dX6_burn_88 : decode cX6_burn 88 = .ok (.dup, 1) := by decide +kernel
theorem dX6_burn_89 : decode cX6_burn 89 = .ok (.getfield 23, 3) := by decide +kernel
theorem dX6_burn_92 : decode cX6_burn 92 = .ok (.aload_n 0, 1) := by decide +kernel
theorem dX6_burn_93 : decode cX6_burn 93 = .ok (.getfield 29, 3) := by decide +kernel
theorem dX6_burn_96 : decode cX6_burn 96 = .ok (.iadd, 1) := by decide +kernel
theorem dX6_burn_97 : decode cX6_burn 97 = .ok (.putfield 23, 3) := by decide +kernel
theorem dX6_burn_100 : decode cX6_burn 100 = .ok (.iload_n 3, 1) := by decide +kernel
theorem dX6_burn_101 : decode cX6_burn 101 = .ok (.iconst 1, 1) := by decide +kernel
theorem dX6_burn_102 : decode cX6_burn 102 = .ok (.iadd, 1) := by decide +kernel
theorem dX6_burn_103 : decode cX6_burn 103 = .ok (.aload_n 0, 1) := by decide +kernel
theorem dX6_burn_104 : decode cX6_burn 104 = .ok (.getfield 26, 3) := by decide +kernel
theorem dX6_burn_107 : decode cX6_burn 107 = .ok (.if_icmp .ge 9, 3) := by decide +kernel
theorem dX6_burn_110 : decode cX6_burn 110 = .ok (.iload_n 3, 1) := by decide +kernel
theorem dX6_burn_111 : decode cX6_burn 111 = .ok (.iconst 1, 1) := by decide +kernel
theorem dX6_burn_112 : decode cX6_burn 112 = .ok (.iadd, 1) := by decide +kernel
theorem dX6_burn_113 : decode cX6_burn 113 = .ok (.goto 4, 3) := by decide +kernel
theorem dX6_burn_116 : decode cX6_burn 116 = .ok (.iconst 0, 1) := by decide +kernel
theorem dX6_burn_117 : decode cX6_burn 117 = .ok (.istore_n 3, 1) := by decide +kernel
theorem dX6_burn_118 : decode cX6_burn 118 = .ok (.iinc 4 1, 3) := by decide +kernel
theorem dX6_burn_121 : decode cX6_burn 121 = .ok (.goto (-105), 3) := by decide +kernel
theorem dX6_burn_124 : decode cX6_burn 124 = .ok (.return_, 1) := by decide +kernel
theorem dX6_lotTaker_0 : decode cX6_lotTaker 0 = .ok (.aload_n 0, 1) := by decide +kernel
theorem dX6_lotTaker_1 : decode cX6_lotTaker 1 = .ok (.bipush (-2), 2) := by decide +kernel
theorem dX6_lotTaker_3 : decode cX6_lotTaker 3 = .ok (.invokevirtual 32, 3) := by decide +kernel
theorem dX6_lotTaker_6 : decode cX6_lotTaker 6 = .ok (.ireturn, 1) := by decide +kernel
theorem dX6_lotPrice_0 : decode cX6_lotPrice 0 = .ok (.iload_n 1, 1) := by decide +kernel
theorem dX6_lotPrice_1 : decode cX6_lotPrice 1 = .ok (.bipush (-2), 2) := by decide +kernel
theorem dX6_lotPrice_3 : decode cX6_lotPrice 3 = .ok (.if_icmp .ne 5, 3) := by decide +kernel
theorem dX6_lotPrice_6 : decode cX6_lotPrice 6 = .ok (.iconst 0, 1) := by decide +kernel
theorem dX6_lotPrice_7 : decode cX6_lotPrice 7 = .ok (.ireturn, 1) := by decide +kernel
theorem dX6_lotPrice_8 : decode cX6_lotPrice 8 = .ok (.aload_n 0, 1) := by decide +kernel
theorem dX6_lotPrice_9 : decode cX6_lotPrice 9 = .ok (.iload_n 1, 1) := by decide +kernel
theorem dX6_lotPrice_10 : decode cX6_lotPrice 10 = .ok (.invokevirtual 32, 3) := by decide +kernel
theorem dX6_lotPrice_13 : decode cX6_lotPrice 13 = .ok (.istore_n 2, 1) := by decide +kernel
theorem dX6_lotPrice_14 : decode cX6_lotPrice 14 = .ok (.iload_n 2, 1) := by decide +kernel
theorem dX6_lotPrice_15 : decode cX6_lotPrice 15 = .ok (.bipush (-2), 2) := by decide +kernel
theorem dX6_lotPrice_17 : decode cX6_lotPrice 17 = .ok (.if_icmp .ne 10, 3) := by decide +kernel
theorem dX6_lotPrice_20 : decode cX6_lotPrice 20 = .ok (.aload_n 0, 1) := by decide +kernel
theorem dX6_lotPrice_21 : decode cX6_lotPrice 21 = .ok (.getfield 29, 3) := by decide +kernel
theorem dX6_lotPrice_24 : decode cX6_lotPrice 24 = .ok (.goto 23, 3) := by decide +kernel
theorem dX6_lotPrice_27 : decode cX6_lotPrice 27 = .ok (.aload_n 0, 1) := by decide +kernel
theorem dX6_lotPrice_28 : decode cX6_lotPrice 28 = .ok (.getfield 9, 3) := by decide +kernel
theorem dX6_lotPrice_31 : decode cX6_lotPrice 31 = .ok (.iload_n 1, 1) := by decide +kernel
theorem dX6_lotPrice_32 : decode cX6_lotPrice 32 = .ok (.iaload, 1) := by decide +kernel
theorem dX6_lotPrice_33 : decode cX6_lotPrice 33 = .ok (.aload_n 0, 1) := by decide +kernel
theorem dX6_lotPrice_34 : decode cX6_lotPrice 34 = .ok (.getfield 9, 3) := by decide +kernel
theorem dX6_lotPrice_37 : decode cX6_lotPrice 37 = .ok (.iload_n 2, 1) := by decide +kernel
theorem dX6_lotPrice_38 : decode cX6_lotPrice 38 = .ok (.iaload, 1) := by decide +kernel
theorem dX6_lotPrice_39 : decode cX6_lotPrice 39 = .ok (.aload_n 0, 1) := by decide +kernel
theorem dX6_lotPrice_40 : decode cX6_lotPrice 40 = .ok (.getfield 29, 3) := by decide +kernel
theorem dX6_lotPrice_43 : decode cX6_lotPrice 43 = .ok (.iadd, 1) := by decide +kernel
theorem dX6_lotPrice_44 : decode cX6_lotPrice 44 = .ok (.invokestatic 36, 3) := by decide +kernel
theorem dX6_lotPrice_47 : decode cX6_lotPrice 47 = .ok (.ireturn, 1) := by decide +kernel
theorem dX6_greatestBut_0 : decode cX6_greatestBut 0 = .ok (.bipush (-2), 2) := by decide +kernel
theorem dX6_greatestBut_2 : decode cX6_greatestBut 2 = .ok (.istore_n 2, 1) := by decide +kernel
theorem dX6_greatestBut_3 : decode cX6_greatestBut 3 = .ok (.iconst 0, 1) := by decide +kernel
theorem dX6_greatestBut_4 : decode cX6_greatestBut 4 = .ok (.istore_n 3, 1) := by decide +kernel
theorem dX6_greatestBut_5 : decode cX6_greatestBut 5 = .ok (.iload_n 3, 1) := by decide +kernel
theorem dX6_greatestBut_6 : decode cX6_greatestBut 6 = .ok (.aload_n 0, 1) := by decide +kernel
theorem dX6_greatestBut_7 : decode cX6_greatestBut 7 = .ok (.getfield 26, 3) := by decide +kernel
theorem dX6_greatestBut_10 : decode cX6_greatestBut 10 = .ok (.if_icmp .ge 62, 3) := by decide +kernel
theorem dX6_greatestBut_13 : decode cX6_greatestBut 13 = .ok (.iload_n 3, 1) := by decide +kernel
theorem dX6_greatestBut_14 : decode cX6_greatestBut 14 = .ok (.iload_n 1, 1) := by decide +kernel
theorem dX6_greatestBut_15 : decode cX6_greatestBut 15 = .ok (.if_icmp .eq 20, 3) := by decide +kernel
theorem dX6_greatestBut_18 : decode cX6_greatestBut 18 = .ok (.aload_n 0, 1) := by decide +kernel
theorem dX6_greatestBut_19 : decode cX6_greatestBut 19 = .ok (.getfield 9, 3) := by decide +kernel
theorem dX6_greatestBut_22 : decode cX6_greatestBut 22 = .ok (.iload_n 3, 1) := by decide +kernel
theorem dX6_greatestBut_23 : decode cX6_greatestBut 23 = .ok (.iaload, 1) := by decide +kernel
theorem dX6_greatestBut_24 : decode cX6_greatestBut 24 = .ok (.aload_n 0, 1) := by decide +kernel
theorem dX6_greatestBut_25 : decode cX6_greatestBut 25 = .ok (.getfield 29, 3) := by decide +kernel
theorem dX6_greatestBut_28 : decode cX6_greatestBut 28 = .ok (.if_icmp .lt 7, 3) := by decide +kernel
theorem dX6_greatestBut_31 : decode cX6_greatestBut 31 = .ok (.iconst 1, 1) := by decide +kernel
theorem dX6_greatestBut_32 : decode cX6_greatestBut 32 = .ok (.goto 4, 3) := by decide +kernel
theorem dX6_greatestBut_35 : decode cX6_greatestBut 35 = .ok (.iconst 0, 1) := by decide +kernel
theorem dX6_greatestBut_36 : decode cX6_greatestBut 36 = .ok (.istore 4, 2) := by decide +kernel
theorem dX6_greatestBut_38 : decode cX6_greatestBut 38 = .ok (.iload 4, 2) := by decide +kernel
theorem dX6_greatestBut_40 : decode cX6_greatestBut 40 = .ok (.ifCond .eq 26, 3) := by decide +kernel
theorem dX6_greatestBut_43 : decode cX6_greatestBut 43 = .ok (.iload_n 2, 1) := by decide +kernel
theorem dX6_greatestBut_44 : decode cX6_greatestBut 44 = .ok (.bipush (-2), 2) := by decide +kernel
theorem dX6_greatestBut_46 : decode cX6_greatestBut 46 = .ok (.if_icmp .eq 18, 3) := by decide +kernel
theorem dX6_greatestBut_49 : decode cX6_greatestBut 49 = .ok (.aload_n 0, 1) := by decide +kernel
theorem dX6_greatestBut_50 : decode cX6_greatestBut 50 = .ok (.getfield 9, 3) := by decide +kernel
theorem dX6_greatestBut_53 : decode cX6_greatestBut 53 = .ok (.iload_n 3, 1) := by decide +kernel
theorem dX6_greatestBut_54 : decode cX6_greatestBut 54 = .ok (.iaload, 1) := by decide +kernel
theorem dX6_greatestBut_55 : decode cX6_greatestBut 55 = .ok (.aload_n 0, 1) := by decide +kernel
theorem dX6_greatestBut_56 : decode cX6_greatestBut 56 = .ok (.getfield 9, 3) := by decide +kernel
theorem dX6_greatestBut_59 : decode cX6_greatestBut 59 = .ok (.iload_n 2, 1) := by decide +kernel
theorem dX6_greatestBut_60 : decode cX6_greatestBut 60 = .ok (.iaload, 1) := by decide +kernel
theorem dX6_greatestBut_61 : decode cX6_greatestBut 61 = .ok (.if_icmp .le 5, 3) := by decide +kernel
theorem dX6_greatestBut_64 : decode cX6_greatestBut 64 = .ok (.iload_n 3, 1) := by decide +kernel
theorem dX6_greatestBut_65 : decode cX6_greatestBut 65 = .ok (.istore_n 2, 1) := by decide +kernel
theorem dX6_greatestBut_66 : decode cX6_greatestBut 66 = .ok (.iinc 3 1, 3) := by decide +kernel
theorem dX6_greatestBut_69 : decode cX6_greatestBut 69 = .ok (.goto (-64), 3) := by decide +kernel
theorem dX6_greatestBut_72 : decode cX6_greatestBut 72 = .ok (.iload_n 2, 1) := by decide +kernel
theorem dX6_greatestBut_73 : decode cX6_greatestBut 73 = .ok (.ireturn, 1) := by decide +kernel
theorem dX7_init_0 : decode cX7_init 0 = .ok (.aload_n 0, 1) := by decide +kernel
theorem dX7_init_1 : decode cX7_init 1 = .ok (.invokespecial 3, 3) := by decide +kernel
theorem dX7_init_4 : decode cX7_init 4 = .ok (.aload_n 0, 1) := by decide +kernel
theorem dX7_init_5 : decode cX7_init 5 = .ok (.iconst 0, 1) := by decide +kernel
theorem dX7_init_6 : decode cX7_init 6 = .ok (.putfield 9, 3) := by decide +kernel
theorem dX7_init_9 : decode cX7_init 9 = .ok (.aload_n 0, 1) := by decide +kernel
theorem dX7_init_10 : decode cX7_init 10 = .ok (.bipush 60, 2) := by decide +kernel
theorem dX7_init_12 : decode cX7_init 12 = .ok (.newarray .int, 2) := by decide +kernel
theorem dX7_init_14 : decode cX7_init 14 = .ok (.putfield 15, 3) := by decide +kernel
theorem dX7_init_17 : decode cX7_init 17 = .ok (.aload_n 0, 1) := by decide +kernel
theorem dX7_init_18 : decode cX7_init 18 = .ok (.bipush 60, 2) := by decide +kernel
theorem dX7_init_20 : decode cX7_init 20 = .ok (.newarray .byte, 2) := by decide +kernel
theorem dX7_init_22 : decode cX7_init 22 = .ok (.putfield 19, 3) := by decide +kernel
theorem dX7_init_25 : decode cX7_init 25 = .ok (.aload_n 0, 1) := by decide +kernel
theorem dX7_init_26 : decode cX7_init 26 = .ok (.aload_n 1, 1) := by decide +kernel
theorem dX7_init_27 : decode cX7_init 27 = .ok (.putfield 23, 3) := by decide +kernel
theorem dX7_init_30 : decode cX7_init 30 = .ok (.return_, 1) := by decide +kernel
theorem dX7_isRow_0 : decode cX7_isRow 0 = .ok (.aload_n 0, 1) := by decide +kernel
theorem dX7_isRow_1 : decode cX7_isRow 1 = .ok (.getfield 9, 3) := by decide +kernel
theorem dX7_isRow_4 : decode cX7_isRow 4 = .ok (.iconst 3, 1) := by decide +kernel
theorem dX7_isRow_5 : decode cX7_isRow 5 = .ok (.if_icmp .eq 11, 3) := by decide +kernel
theorem dX7_isRow_8 : decode cX7_isRow 8 = .ok (.aload_n 0, 1) := by decide +kernel
theorem dX7_isRow_9 : decode cX7_isRow 9 = .ok (.getfield 9, 3) := by decide +kernel
theorem dX7_isRow_12 : decode cX7_isRow 12 = .ok (.iconst 4, 1) := by decide +kernel
theorem dX7_isRow_13 : decode cX7_isRow 13 = .ok (.if_icmp .ne 7, 3) := by decide +kernel
theorem dX7_isRow_16 : decode cX7_isRow 16 = .ok (.iconst 1, 1) := by decide +kernel
theorem dX7_isRow_17 : decode cX7_isRow 17 = .ok (.goto 4, 3) := by decide +kernel
theorem dX7_isRow_20 : decode cX7_isRow 20 = .ok (.iconst 0, 1) := by decide +kernel
theorem dX7_isRow_21 : decode cX7_isRow 21 = .ok (.ireturn, 1) := by decide +kernel
theorem dX7_takeRow_0 : decode cX7_takeRow 0 = .ok (.aload_n 0, 1) := by decide +kernel
theorem dX7_takeRow_1 : decode cX7_takeRow 1 = .ok (.iload_n 1, 1) := by decide +kernel
theorem dX7_takeRow_2 : decode cX7_takeRow 2 = .ok (.putfield 9, 3) := by decide +kernel
theorem dX7_takeRow_5 : decode cX7_takeRow 5 = .ok (.aload_n 0, 1) := by decide +kernel
theorem dX7_takeRow_6 : decode cX7_takeRow 6 = .ok (.iload_n 2, 1) := by decide +kernel
theorem dX7_takeRow_7 : decode cX7_takeRow 7 = .ok (.putfield 27, 3) := by decide +kernel
theorem dX7_takeRow_10 : decode cX7_takeRow 10 = .ok (.aload_n 0, 1) := by decide +kernel
theorem dX7_takeRow_11 : decode cX7_takeRow 11 = .ok (.getfield 15, 3) := by decide +kernel
theorem dX7_takeRow_14 : decode cX7_takeRow 14 = .ok (.iconst 0, 1) := by decide +kernel
theorem dX7_takeRow_15 : decode cX7_takeRow 15 = .ok (.invokestatic 30, 3) := by decide +kernel
theorem dX7_takeRow_18 : decode cX7_takeRow 18 = .ok (.aload_n 0, 1) := by decide +kernel
theorem dX7_takeRow_19 : decode cX7_takeRow 19 = .ok (.getfield 19, 3) := by decide +kernel
theorem dX7_takeRow_22 : decode cX7_takeRow 22 = .ok (.iconst 0, 1) := by decide +kernel
theorem dX7_takeRow_23 : decode cX7_takeRow 23 = .ok (.invokestatic 36, 3) := by decide +kernel
theorem dX7_takeRow_26 : decode cX7_takeRow 26 = .ok (.return_, 1) := by decide +kernel
theorem dX7_hasPlaces_0 : decode cX7_hasPlaces 0 = .ok (.iload_n 2, 1) := by decide +kernel
theorem dX7_hasPlaces_1 : decode cX7_hasPlaces 1 = .ok (.ifCond .lt 29, 3) := by decide +kernel
theorem dX7_hasPlaces_4 : decode cX7_hasPlaces 4 = .ok (.iload_n 1, 1) := by decide +kernel
theorem dX7_hasPlaces_5 : decode cX7_hasPlaces 5 = .ok (.ifCond .lt 25, 3) := by decide +kernel
theorem dX7_hasPlaces_8 : decode cX7_hasPlaces 8 = .ok (.iload_n 1, 1) := by decide +kernel
theorem dX7_hasPlaces_9 : decode cX7_hasPlaces 9 = .ok (.aload_n 0, 1) := by decide +kernel
theorem dX7_hasPlaces_10 : decode cX7_hasPlaces 10 = .ok (.getfield 27, 3) := by decide +kernel
theorem dX7_hasPlaces_13 : decode cX7_hasPlaces 13 = .ok (.if_icmp .gt 17, 3) := by decide +kernel
theorem dX7_hasPlaces_16 : decode cX7_hasPlaces 16 = .ok (.iload_n 2, 1) := by decide +kernel
theorem dX7_hasPlaces_17 : decode cX7_hasPlaces 17 = .ok (.aload_n 0, 1) := by decide +kernel
theorem dX7_hasPlaces_18 : decode cX7_hasPlaces 18 = .ok (.getfield 27, 3) := by decide +kernel
theorem dX7_hasPlaces_21 : decode cX7_hasPlaces 21 = .ok (.iload_n 1, 1) := by decide +kernel
theorem dX7_hasPlaces_22 : decode cX7_hasPlaces 22 = .ok (.isub, 1) := by decide +kernel
theorem dX7_hasPlaces_23 : decode cX7_hasPlaces 23 = .ok (.if_icmp .gt 7, 3) := by decide +kernel
theorem dX7_hasPlaces_26 : decode cX7_hasPlaces 26 = .ok (.iconst 1, 1) := by decide +kernel
theorem dX7_hasPlaces_27 : decode cX7_hasPlaces 27 = .ok (.goto 4, 3) := by decide +kernel
theorem dX7_hasPlaces_30 : decode cX7_hasPlaces 30 = .ok (.iconst 0, 1) := by decide +kernel
theorem dX7_hasPlaces_31 : decode cX7_hasPlaces 31 = .ok (.ireturn, 1) := by decide +kernel
theorem dX8_init_0 : decode cX8_init 0 = .ok (.aload_n 0, 1) := by decide +kernel
theorem dX8_init_1 : decode cX8_init 1 = .ok (.invokespecial 3, 3) := by decide +kernel
theorem dX8_init_4 : decode cX8_init 4 = .ok (.aload_n 0, 1) := by decide +kernel
theorem dX8_init_5 : decode cX8_init 5 = .ok (.bipush 24, 2) := by decide +kernel
theorem dX8_init_7 : decode cX8_init 7 = .ok (.newarray .int, 2) := by decide +kernel
theorem dX8_init_9 : decode cX8_init 9 = .ok (.putfield 9, 3) := by decide +kernel
theorem dX8_init_12 : decode cX8_init 12 = .ok (.aload_n 0, 1) := by decide +kernel
theorem dX8_init_13 : decode cX8_init 13 = .ok (.bipush 24, 2) := by decide +kernel
theorem dX8_init_15 : decode cX8_init 15 = .ok (.newarray .int, 2) := by decide +kernel
theorem dX8_init_17 : decode cX8_init 17 = .ok (.putfield 15, 3) := by decide +kernel
theorem dX8_init_20 : decode cX8_init 20 = .ok (.return_, 1) := by decide +kernel
theorem dX8_trampled_0 : decode cX8_trampled 0 = .ok (.iconst 0, 1) := by decide +kernel
theorem dX8_trampled_1 : decode cX8_trampled 1 = .ok (.istore_n 3, 1) := by decide +kernel
theorem dX8_trampled_2 : decode cX8_trampled 2 = .ok (.iload_n 3, 1) := by decide +kernel
theorem dX8_trampled_3 : decode cX8_trampled 3 = .ok (.bipush 24, 2) := by decide +kernel
theorem dX8_trampled_5 : decode cX8_trampled 5 = .ok (.if_icmp .ge 21, 3) := by decide +kernel
theorem dX8_trampled_8 : decode cX8_trampled 8 = .ok (.aload_n 0, 1) := by decide +kernel
theorem dX8_trampled_9 : decode cX8_trampled 9 = .ok (.getfield 9, 3) := by decide +kernel
theorem dX8_trampled_12 : decode cX8_trampled 12 = .ok (.iload_n 3, 1) := by decide +kernel
theorem dX8_trampled_13 : decode cX8_trampled 13 = .ok (.aload_n 1, 1) := by decide +kernel
theorem dX8_trampled_14 : decode cX8_trampled 14 = .ok (.iload_n 3, 1) := by decide +kernel
theorem dX8_trampled_15 : decode cX8_trampled 15 = .ok (.aaload, 1) := by decide +kernel
theorem dX8_trampled_16 : decode cX8_trampled 16 = .ok (.invokevirtual 18, 3) := by decide +kernel
theorem dX8_trampled_19 : decode cX8_trampled 19 = .ok (.iastore, 1) := by decide +kernel
theorem dX8_trampled_20 : decode cX8_trampled 20 = .ok (.iinc 3 1, 3) := by decide +kernel
theorem dX8_trampled_23 : decode cX8_trampled 23 = .ok (.goto (-21), 3) := by decide +kernel
theorem dX8_trampled_26 : decode cX8_trampled 26 = .ok (.aload_n 0, 1) := by decide +kernel
theorem dX8_trampled_27 : decode cX8_trampled 27 = .ok (.invokevirtual 24, 3) := by decide +kernel
theorem dX8_trampled_30 : decode cX8_trampled 30 = .ok (.aload_n 0, 1) := by decide +kernel
theorem dX8_trampled_31 : decode cX8_trampled 31 = .ok (.getfield 15, 3) := by decide +kernel
theorem dX8_trampled_34 : decode cX8_trampled 34 = .ok (.iload_n 2, 1) := by decide +kernel
theorem dX8_trampled_35 : decode cX8_trampled 35 = .ok (.iaload, 1) := by decide +kernel
theorem dX8_trampled_36 : decode cX8_trampled 36 = .ok (.aload_n 0, 1) := by decide +kernel
theorem dX8_trampled_37 : decode cX8_trampled 37 = .ok (.getfield 9, 3) := by decide +kernel
theorem dX8_trampled_40 : decode cX8_trampled 40 = .ok (.iload_n 2, 1) := by decide +kernel
theorem dX8_trampled_41 : decode cX8_trampled 41 = .ok (.iaload, 1) := by decide +kernel
theorem dX8_trampled_42 : decode cX8_trampled 42 = .ok (.isub, 1) := by decide +kernel
theorem dX8_trampled_43 : decode cX8_trampled 43 = .ok (.ireturn, 1) := by decide +kernel
theorem dX8_spread_0 : decode cX8_spread 0 = .ok (.aload_n 0, 1) := by decide +kernel
theorem dX8_spread_1 : decode cX8_spread 1 = .ok (.getfield 15, 3) := by decide +kernel
theorem dX8_spread_4 : decode cX8_spread 4 = .ok (.ldc 27, 2) := by decide +kernel
theorem dX8_spread_6 : decode cX8_spread 6 = .ok (.invokestatic 28, 3) := by decide +kernel
theorem dX8_spread_9 : decode cX8_spread 9 = .ok (.aload_n 0, 1) := by decide +kernel
theorem dX8_spread_10 : decode cX8_spread 10 = .ok (.getfield 15, 3) := by decide +kernel
theorem dX8_spread_13 : decode cX8_spread 13 = .ok (.iconst 0, 1) := by decide +kernel
theorem dX8_spread_14 : decode cX8_spread 14 = .ok (.aload_n 0, 1) := by decide +kernel
theorem dX8_spread_15 : decode cX8_spread 15 = .ok (.getfield 9, 3) := by decide +kernel
theorem dX8_spread_18 : decode cX8_spread 18 = .ok (.iconst 0, 1) := by decide +kernel
theorem dX8_spread_19 : decode cX8_spread 19 = .ok (.iaload, 1) := by decide +kernel
theorem dX8_spread_20 : decode cX8_spread 20 = .ok (.iastore, 1) := by decide +kernel
theorem dX8_spread_21 : decode cX8_spread 21 = .ok (.iconst 1, 1) := by decide +kernel
theorem dX8_spread_22 : decode cX8_spread 22 = .ok (.istore_n 1, 1) := by decide +kernel
theorem dX8_spread_23 : decode cX8_spread 23 = .ok (.iconst 0, 1) := by decide +kernel
theorem dX8_spread_24 : decode cX8_spread 24 = .ok (.istore_n 2, 1) := by decide +kernel
theorem dX8_spread_25 : decode cX8_spread 25 = .ok (.iload_n 2, 1) := by decide +kernel
theorem dX8_spread_26 : decode cX8_spread 26 = .ok (.bipush 24, 2) := by decide +kernel
theorem dX8_spread_28 : decode cX8_spread 28 = .ok (.if_icmp .ge 64, 3) := by decide +kernel
theorem dX8_spread_31 : decode cX8_spread 31 = .ok (.iload_n 1, 1) := by decide +kernel
theorem dX8_spread_32 : decode cX8_spread 32 = .ok (.ifCond .eq 60, 3) := by decide +kernel
theorem dX8_spread_35 : decode cX8_spread 35 = .ok (.iconst 0, 1) := by decide +kernel
theorem dX8_spread_36 : decode cX8_spread 36 = .ok (.istore_n 1, 1) := by decide +kernel
theorem dX8_spread_37 : decode cX8_spread 37 = .ok (.iconst 0, 1) := by decide +kernel
theorem dX8_spread_38 : decode cX8_spread 38 = .ok (.istore_n 3, 1) := by decide +kernel
theorem dX8_spread_39 : decode cX8_spread 39 = .ok (.iload_n 3, 1) := by decide +kernel
theorem dX8_spread_40 : decode cX8_spread 40 = .ok (.bipush 24, 2) := by decide +kernel
theorem dX8_spread_42 : decode cX8_spread 42 = .ok (.if_icmp .ge 44, 3) := by decide +kernel
theorem dX8_spread_45 : decode cX8_spread 45 = .ok (.aload_n 0, 1) := by decide +kernel
theorem dX8_spread_46 : decode cX8_spread 46 = .ok (.iload_n 3, 1) := by decide +kernel
theorem dX8_spread_47 : decode cX8_spread 47 = .ok (.invokevirtual 34, 3) := by decide +kernel
theorem dX8_spread_50 : decode cX8_spread 50 = .ok (.aload_n 0, 1) := by decide +kernel
theorem dX8_spread_51 : decode cX8_spread 51 = .ok (.getfield 9, 3) := by decide +kernel
theorem dX8_spread_54 : decode cX8_spread 54 = .ok (.iload_n 3, 1) := by decide +kernel
theorem dX8_spread_55 : decode cX8_spread 55 = .ok (.iaload, 1) := by decide +kernel
theorem dX8_spread_56 : decode cX8_spread 56 = .ok (.iadd, 1) := by decide +kernel
theorem dX8_spread_57 : decode cX8_spread 57 = .ok (.istore 4, 2) := by decide +kernel
theorem dX8_spread_59 : decode cX8_spread 59 = .ok (.iload 4, 2) := by decide +kernel
theorem dX8_spread_61 : decode cX8_spread 61 = .ok (.aload_n 0, 1) := by decide +kernel
theorem dX8_spread_62 : decode cX8_spread 62 = .ok (.getfield 15, 3) := by decide +kernel
theorem dX8_spread_65 : decode cX8_spread 65 = .ok (.iload_n 3, 1) := by decide +kernel
theorem dX8_spread_66 : decode cX8_spread 66 = .ok (.iaload, 1) := by decide +kernel
theorem dX8_spread_67 : decode cX8_spread 67 = .ok (.if_icmp .ge 13, 3) := by decide +kernel
theorem dX8_spread_70 : decode cX8_spread 70 = .ok (.aload_n 0, 1) := by decide +kernel
theorem dX8_spread_71 : decode cX8_spread 71 = .ok (.getfield 15, 3) := by decide +kernel
theorem dX8_spread_74 : decode cX8_spread 74 = .ok (.iload_n 3, 1) := by decide +kernel
theorem dX8_spread_75 : decode cX8_spread 75 = .ok (.iload 4, 2) := by decide +kernel
theorem dX8_spread_77 : decode cX8_spread 77 = .ok (.iastore, 1) := by decide +kernel
theorem dX8_spread_78 : decode cX8_spread 78 = .ok (.iconst 1, 1) := by decide +kernel
theorem dX8_spread_79 : decode cX8_spread 79 = .ok (.istore_n 1, 1) := by decide +kernel
theorem dX8_spread_80 : decode cX8_spread 80 = .ok (.iinc 3 1, 3) := by decide +kernel
theorem dX8_spread_83 : decode cX8_spread 83 = .ok (.goto (-44), 3) := by decide +kernel
theorem dX8_spread_86 : decode cX8_spread 86 = .ok (.iinc 2 1, 3) := by decide +kernel
theorem dX8_spread_89 : decode cX8_spread 89 = .ok (.goto (-64), 3) := by decide +kernel
theorem dX8_spread_92 : decode cX8_spread 92 = .ok (.return_, 1) := by decide +kernel
theorem dX8_leastBeside_0 : decode cX8_leastBeside 0 = .ok (.ldc 27, 2) := by decide +kernel
theorem dX8_leastBeside_2 : decode cX8_leastBeside 2 = .ok (.istore_n 2, 1) := by decide +kernel
theorem dX8_leastBeside_3 : decode cX8_leastBeside 3 = .ok (.iconst 0, 1) := by decide +kernel
theorem dX8_leastBeside_4 : decode cX8_leastBeside 4 = .ok (.istore_n 3, 1) := by decide +kernel
theorem dX8_leastBeside_5 : decode cX8_leastBeside 5 = .ok (.iload_n 3, 1) := by decide +kernel
theorem dX8_leastBeside_6 : decode cX8_leastBeside 6 = .ok (.iconst 4, 1) := by decide +kernel
theorem dX8_leastBeside_7 : decode cX8_leastBeside 7 = .ok (.if_icmp .ge 33, 3) := by decide +kernel
theorem dX8_leastBeside_10 : decode cX8_leastBeside 10 = .ok (.iload_n 1, 1) := by decide +kernel
theorem dX8_leastBeside_11 : decode cX8_leastBeside 11 = .ok (.iload_n 3, 1) := by decide +kernel
theorem dX8_leastBeside_12 : decode cX8_leastBeside 12 = .ok (.invokestatic 38, 3) := by decide +kernel
theorem dX8_leastBeside_15 : decode cX8_leastBeside 15 = .ok (.istore 4, 2) := by decide +kernel
theorem dX8_leastBeside_17 : decode cX8_leastBeside 17 = .ok (.iload 4, 2) := by decide +kernel
theorem dX8_leastBeside_19 : decode cX8_leastBeside 19 = .ok (.ifCond .lt 15, 3) := by decide +kernel
theorem dX8_leastBeside_22 : decode cX8_leastBeside 22 = .ok (.iload_n 2, 1) := by decide +kernel
theorem dX8_leastBeside_23 : decode cX8_leastBeside 23 = .ok (.aload_n 0, 1) := by decide +kernel
theorem dX8_leastBeside_24 : decode cX8_leastBeside 24 = .ok (.getfield 15, 3) := by decide +kernel
theorem dX8_leastBeside_27 : decode cX8_leastBeside 27 = .ok (.iload 4, 2) := by decide +kernel
theorem dX8_leastBeside_29 : decode cX8_leastBeside 29 = .ok (.iaload, 1) := by decide +kernel
theorem dX8_leastBeside_30 : decode cX8_leastBeside 30 = .ok (.invokestatic 42, 3) := by decide +kernel
theorem dX8_leastBeside_33 : decode cX8_leastBeside 33 = .ok (.istore_n 2, 1) := by decide +kernel
theorem dX8_leastBeside_34 : decode cX8_leastBeside 34 = .ok (.iinc 3 1, 3) := by decide +kernel
theorem dX8_leastBeside_37 : decode cX8_leastBeside 37 = .ok (.goto (-32), 3) := by decide +kernel
theorem dX8_leastBeside_40 : decode cX8_leastBeside 40 = .ok (.iload_n 2, 1) := by decide +kernel
theorem dX8_leastBeside_41 : decode cX8_leastBeside 41 = .ok (.ireturn, 1) := by decide +kernel
theorem dX9_init_0 : decode cX9_init 0 = .ok (.aload_n 0, 1) := by decide +kernel
theorem dX9_init_1 : decode cX9_init 1 = .ok (.invokespecial 3, 3) := by decide +kernel
theorem dX9_init_4 : decode cX9_init 4 = .ok (.return_, 1) := by decide +kernel
theorem dX9_chance_0 : decode cX9_chance 0 = .ok (.bipush 50, 2) := by decide +kernel
theorem dX9_chance_2 : decode cX9_chance 2 = .ok (.ireturn, 1) := by decide +kernel
theorem dX9_heft_0 : decode cX9_heft 0 = .ok (.aload_n 0, 1) := by decide +kernel
theorem dX9_heft_1 : decode cX9_heft 1 = .ok (.iload_n 1, 1) := by decide +kernel
theorem dX9_heft_2 : decode cX9_heft 2 = .ok (.invokespecial 9, 3) := by decide +kernel
theorem dX9_heft_5 : decode cX9_heft 5 = .ok (.aload_n 0, 1) := by decide +kernel
theorem dX9_heft_6 : decode cX9_heft 6 = .ok (.invokevirtual 13, 3) := by decide +kernel
theorem dX9_heft_9 : decode cX9_heft 9 = .ok (.iadd, 1) := by decide +kernel
theorem dX9_heft_10 : decode cX9_heft 10 = .ok (.ireturn, 1) := by decide +kernel
theorem dX9_fail_0 : decode cX9_fail 0 = .ok (.new 19, 3) := by decide +kernel
theorem dX9_fail_3 : decode cX9_fail 3 = .ok (.dup, 1) := by decide +kernel
theorem dX9_fail_4 : decode cX9_fail 4 = .ok (.ldc 21, 2) := by decide +kernel
theorem dX9_fail_6 : decode cX9_fail 6 = .ok (.invokespecial 23, 3) := by decide +kernel
theorem dX9_fail_9 : decode cX9_fail 9 = .ok (.athrow, 1) := by decide +kernel
theorem dX10_init_0 : decode cX10_init 0 = .ok (.aload_n 0, 1) := by decide +kernel
theorem dX10_init_1 : decode cX10_init 1 = .ok (.invokespecial 3, 3) := by decide +kernel
theorem dX10_init_4 : decode cX10_init 4 = .ok (.aload_n 0, 1) := by decide +kernel
theorem dX10_init_5 : decode cX10_init 5 = .ok (.iconst 4, 1) := by decide +kernel
theorem dX10_init_6 : decode cX10_init 6 = .ok (.anewarray 9, 3) := by decide +kernel
theorem dX10_init_9 : decode cX10_init 9 = .ok (.putfield 11, 3) := by decide +kernel
theorem dX10_init_12 : decode cX10_init 12 = .ok (.aload_n 0, 1) := by decide +kernel
theorem dX10_init_13 : decode cX10_init 13 = .ok (.bipush 24, 2) := by decide +kernel
theorem dX10_init_15 : decode cX10_init 15 = .ok (.anewarray 15, 3) := by decide +kernel
theorem dX10_init_18 : decode cX10_init 18 = .ok (.putfield 17, 3) := by decide +kernel
theorem dX10_init_21 : decode cX10_init 21 = .ok (.aload_n 0, 1) := by decide +kernel
theorem dX10_init_22 : decode cX10_init 22 = .ok (.bipush 10, 2) := by decide +kernel
theorem dX10_init_24 : decode cX10_init 24 = .ok (.anewarray 21, 3) := by decide +kernel
theorem dX10_init_27 : decode cX10_init 27 = .ok (.putfield 23, 3) := by decide +kernel
theorem dX10_init_30 : decode cX10_init 30 = .ok (.aload_n 0, 1) := by decide +kernel
theorem dX10_init_31 : decode cX10_init 31 = .ok (.bipush 8, 2) := by decide +kernel
theorem dX10_init_33 : decode cX10_init 33 = .ok (.anewarray 27, 3) := by decide +kernel
theorem dX10_init_36 : decode cX10_init 36 = .ok (.putfield 29, 3) := by decide +kernel
theorem dX10_init_39 : decode cX10_init 39 = .ok (.aload_n 0, 1) := by decide +kernel
theorem dX10_init_40 : decode cX10_init 40 = .ok (.bipush 31, 2) := by decide +kernel
theorem dX10_init_42 : decode cX10_init 42 = .ok (.newarray .boolean, 2) := by decide +kernel
theorem dX10_init_44 : decode cX10_init 44 = .ok (.putfield 33, 3) := by decide +kernel
theorem dX10_init_47 : decode cX10_init 47 = .ok (.aload_n 0, 1) := by decide +kernel
theorem dX10_init_48 : decode cX10_init 48 = .ok (.new 37, 3) := by decide +kernel
theorem dX10_init_51 : decode cX10_init 51 = .ok (.dup, 1) := by decide +kernel
theorem dX10_init_52 : decode cX10_init 52 = .ok (.invokespecial 39, 3) := by decide +kernel
theorem dX10_init_55 : decode cX10_init 55 = .ok (.putfield 40, 3) := by decide +kernel
theorem dX10_init_58 : decode cX10_init 58 = .ok (.aload_n 0, 1) := by decide +kernel
theorem dX10_init_59 : decode cX10_init 59 = .ok (.new 44, 3) := by decide +kernel
theorem dX10_init_62 : decode cX10_init 62 = .ok (.dup, 1) := by decide +kernel
theorem dX10_init_63 : decode cX10_init 63 = .ok (.invokespecial 46, 3) := by decide +kernel
theorem dX10_init_66 : decode cX10_init 66 = .ok (.putfield 47, 3) := by decide +kernel
theorem dX10_init_69 : decode cX10_init 69 = .ok (.aload_n 0, 1) := by decide +kernel
theorem dX10_init_70 : decode cX10_init 70 = .ok (.new 51, 3) := by decide +kernel
theorem dX10_init_73 : decode cX10_init 73 = .ok (.dup, 1) := by decide +kernel
theorem dX10_init_74 : decode cX10_init 74 = .ok (.invokespecial 53, 3) := by decide +kernel
theorem dX10_init_77 : decode cX10_init 77 = .ok (.putfield 54, 3) := by decide +kernel
theorem dX10_init_80 : decode cX10_init 80 = .ok (.aload_n 0, 1) := by decide +kernel
theorem dX10_init_81 : decode cX10_init 81 = .ok (.iconst 5, 1) := by decide +kernel
theorem dX10_init_82 : decode cX10_init 82 = .ok (.putfield 58, 3) := by decide +kernel
theorem dX10_init_85 : decode cX10_init 85 = .ok (.aload_n 0, 1) := by decide +kernel
theorem dX10_init_86 : decode cX10_init 86 = .ok (.getfield 11, 3) := by decide +kernel
theorem dX10_init_89 : decode cX10_init 89 = .ok (.iconst 0, 1) := by decide +kernel
theorem dX10_init_90 : decode cX10_init 90 = .ok (.new 9, 3) := by decide +kernel
theorem dX10_init_93 : decode cX10_init 93 = .ok (.dup, 1) := by decide +kernel
theorem dX10_init_94 : decode cX10_init 94 = .ok (.invokespecial 62, 3) := by decide +kernel
theorem dX10_init_97 : decode cX10_init 97 = .ok (.aastore, 1) := by decide +kernel
theorem dX10_init_98 : decode cX10_init 98 = .ok (.aload_n 0, 1) := by decide +kernel
theorem dX10_init_99 : decode cX10_init 99 = .ok (.getfield 11, 3) := by decide +kernel
theorem dX10_init_102 : decode cX10_init 102 = .ok (.iconst 1, 1) := by decide +kernel
theorem dX10_init_103 : decode cX10_init 103 = .ok (.new 63, 3) := by decide +kernel
theorem dX10_init_106 : decode cX10_init 106 = .ok (.dup, 1) := by decide +kernel
theorem dX10_init_107 : decode cX10_init 107 = .ok (.invokespecial 65, 3) := by decide +kernel
theorem dX10_init_110 : decode cX10_init 110 = .ok (.aastore, 1) := by decide +kernel
theorem dX10_init_111 : decode cX10_init 111 = .ok (.aload_n 0, 1) := by decide +kernel
theorem dX10_init_112 : decode cX10_init 112 = .ok (.getfield 11, 3) := by decide +kernel
theorem dX10_init_115 : decode cX10_init 115 = .ok (.iconst 2, 1) := by decide +kernel
theorem dX10_init_116 : decode cX10_init 116 = .ok (.new 66, 3) := by decide +kernel
theorem dX10_init_119 : decode cX10_init 119 = .ok (.dup, 1) := by decide +kernel
theorem dX10_init_120 : decode cX10_init 120 = .ok (.invokespecial 68, 3) := by decide +kernel
theorem dX10_init_123 : decode cX10_init 123 = .ok (.aastore, 1) := by decide +kernel
theorem dX10_init_124 : decode cX10_init 124 = .ok (.aload_n 0, 1) := by decide +kernel
theorem dX10_init_125 : decode cX10_init 125 = .ok (.getfield 11, 3) := by decide +kernel
theorem dX10_init_128 : decode cX10_init 128 = .ok (.iconst 3, 1) := by decide +kernel
theorem dX10_init_129 : decode cX10_init 129 = .ok (.new 69, 3) := by decide +kernel
theorem dX10_init_132 : decode cX10_init 132 = .ok (.dup, 1) := by decide +kernel
theorem dX10_init_133 : decode cX10_init 133 = .ok (.invokespecial 71, 3) := by decide +kernel
theorem dX10_init_136 : decode cX10_init 136 = .ok (.aastore, 1) := by decide +kernel
theorem dX10_init_137 : decode cX10_init 137 = .ok (.iconst 0, 1) := by decide +kernel
theorem dX10_init_138 : decode cX10_init 138 = .ok (.istore_n 1, 1) := by decide +kernel
theorem dX10_init_139 : decode cX10_init 139 = .ok (.iload_n 1, 1) := by decide +kernel
theorem dX10_init_140 : decode cX10_init 140 = .ok (.bipush 24, 2) := by decide +kernel
theorem dX10_init_142 : decode cX10_init 142 = .ok (.if_icmp .ge 28, 3) := by decide +kernel
theorem dX10_init_145 : decode cX10_init 145 = .ok (.aload_n 0, 1) := by decide +kernel
theorem dX10_init_146 : decode cX10_init 146 = .ok (.getfield 17, 3) := by decide +kernel
theorem dX10_init_149 : decode cX10_init 149 = .ok (.iload_n 1, 1) := by decide +kernel
theorem dX10_init_150 : decode cX10_init 150 = .ok (.new 15, 3) := by decide +kernel
theorem dX10_init_153 : decode cX10_init 153 = .ok (.dup, 1) := by decide +kernel
theorem dX10_init_154 : decode cX10_init 154 = .ok (.aload_n 0, 1) := by decide +kernel
theorem dX10_init_155 : decode cX10_init 155 = .ok (.getfield 11, 3) := by decide +kernel
theorem dX10_init_158 : decode cX10_init 158 = .ok (.iconst 0, 1) := by decide +kernel
theorem dX10_init_159 : decode cX10_init 159 = .ok (.aaload, 1) := by decide +kernel
theorem dX10_init_160 : decode cX10_init 160 = .ok (.invokespecial 72, 3) := by decide +kernel
theorem dX10_init_163 : decode cX10_init 163 = .ok (.aastore, 1) := by decide +kernel
theorem dX10_init_164 : decode cX10_init 164 = .ok (.iinc 1 1, 3) := by decide +kernel
theorem dX10_init_167 : decode cX10_init 167 = .ok (.goto (-28), 3) := by decide +kernel
theorem dX10_init_170 : decode cX10_init 170 = .ok (.iconst 0, 1) := by decide +kernel
theorem dX10_init_171 : decode cX10_init 171 = .ok (.istore_n 1, 1) := by decide +kernel
theorem dX10_init_172 : decode cX10_init 172 = .ok (.iload_n 1, 1) := by decide +kernel
theorem dX10_init_173 : decode cX10_init 173 = .ok (.bipush 10, 2) := by decide +kernel
theorem dX10_init_175 : decode cX10_init 175 = .ok (.if_icmp .ge 22, 3) := by decide +kernel
theorem dX10_init_178 : decode cX10_init 178 = .ok (.aload_n 0, 1) := by decide +kernel
theorem dX10_init_179 : decode cX10_init 179 = .ok (.getfield 23, 3) := by decide +kernel
theorem dX10_init_182 : decode cX10_init 182 = .ok (.iload_n 1, 1) := by decide +kernel
theorem dX10_init_183 : decode cX10_init 183 = .ok (.new 21, 3) := by decide +kernel
theorem dX10_init_186 : decode cX10_init 186 = .ok (.dup, 1) := by decide +kernel
theorem dX10_init_187 : decode cX10_init 187 = .ok (.invokespecial 75, 3) := by decide +kernel
theorem dX10_init_190 : decode cX10_init 190 = .ok (.aastore, 1) := by decide +kernel
theorem dX10_init_191 : decode cX10_init 191 = .ok (.iinc 1 1, 3) := by decide +kernel
theorem dX10_init_194 : decode cX10_init 194 = .ok (.goto (-22), 3) := by decide +kernel
theorem dX10_init_197 : decode cX10_init 197 = .ok (.iconst 0, 1) := by decide +kernel
theorem dX10_init_198 : decode cX10_init 198 = .ok (.istore_n 1, 1) := by decide +kernel
theorem dX10_init_199 : decode cX10_init 199 = .ok (.iload_n 1, 1) := by decide +kernel
theorem dX10_init_200 : decode cX10_init 200 = .ok (.bipush 8, 2) := by decide +kernel
theorem dX10_init_202 : decode cX10_init 202 = .ok (.if_icmp .ge 28, 3) := by decide +kernel
theorem dX10_init_205 : decode cX10_init 205 = .ok (.aload_n 0, 1) := by decide +kernel
theorem dX10_init_206 : decode cX10_init 206 = .ok (.getfield 29, 3) := by decide +kernel
theorem dX10_init_209 : decode cX10_init 209 = .ok (.iload_n 1, 1) := by decide +kernel
theorem dX10_init_210 : decode cX10_init 210 = .ok (.new 27, 3) := by decide +kernel
theorem dX10_init_213 : decode cX10_init 213 = .ok (.dup, 1) := by decide +kernel
theorem dX10_init_214 : decode cX10_init 214 = .ok (.aload_n 0, 1) := by decide +kernel
theorem dX10_init_215 : decode cX10_init 215 = .ok (.getfield 11, 3) := by decide +kernel
theorem dX10_init_218 : decode cX10_init 218 = .ok (.iconst 0, 1) := by decide +kernel
theorem dX10_init_219 : decode cX10_init 219 = .ok (.aaload, 1) := by decide +kernel
theorem dX10_init_220 : decode cX10_init 220 = .ok (.invokespecial 76, 3) := by decide +kernel
theorem dX10_init_223 : decode cX10_init 223 = .ok (.aastore, 1) := by decide +kernel
theorem dX10_init_224 : decode cX10_init 224 = .ok (.iinc 1 1, 3) := by decide +kernel
theorem dX10_init_227 : decode cX10_init 227 = .ok (.goto (-28), 3) := by decide +kernel
theorem dX10_init_230 : decode cX10_init 230 = .ok (.return_, 1) := by decide +kernel
theorem dX10_plot_0 : decode cX10_plot 0 = .ok (.iload_n 1, 1) := by decide +kernel
theorem dX10_plot_1 : decode cX10_plot 1 = .ok (.invokestatic 77, 3) := by decide +kernel
theorem dX10_plot_4 : decode cX10_plot 4 = .ok (.ifCond .eq 21, 3) := by decide +kernel
theorem dX10_plot_7 : decode cX10_plot 7 = .ok (.iload_n 2, 1) := by decide +kernel
theorem dX10_plot_8 : decode cX10_plot 8 = .ok (.iconst 3, 1) := by decide +kernel
theorem dX10_plot_9 : decode cX10_plot 9 = .ok (.invokestatic 81, 3) := by decide +kernel
theorem dX10_plot_12 : decode cX10_plot 12 = .ok (.ifCond .eq 13, 3) := by decide +kernel
theorem dX10_plot_15 : decode cX10_plot 15 = .ok (.iload_n 3, 1) := by decide +kernel
theorem dX10_plot_16 : decode cX10_plot 16 = .ok (.sipush 200, 3) := by decide +kernel
theorem dX10_plot_19 : decode cX10_plot 19 = .ok (.invokestatic 81, 3) := by decide +kernel
theorem dX10_plot_22 : decode cX10_plot 22 = .ok (.ifCond .ne 5, 3) := by decide +kernel
theorem dX10_plot_25 : decode cX10_plot 25 = .ok (.iconst (-1), 1) := by decide +kernel
theorem dX10_plot_26 : decode cX10_plot 26 = .ok (.ireturn, 1) := by decide +kernel
theorem dX10_plot_27 : decode cX10_plot 27 = .ok (.aload_n 0, 1) := by decide +kernel
theorem dX10_plot_28 : decode cX10_plot 28 = .ok (.getfield 17, 3) := by decide +kernel
theorem dX10_plot_31 : decode cX10_plot 31 = .ok (.iload_n 1, 1) := by decide +kernel
theorem dX10_plot_32 : decode cX10_plot 32 = .ok (.aaload, 1) := by decide +kernel
theorem dX10_plot_33 : decode cX10_plot 33 = .ok (.astore 4, 2) := by decide +kernel
theorem dX10_plot_35 : decode cX10_plot 35 = .ok (.aload 4, 2) := by decide +kernel
theorem dX10_plot_37 : decode cX10_plot 37 = .ok (.invokevirtual 85, 3) := by decide +kernel
theorem dX10_plot_40 : decode cX10_plot 40 = .ok (.ifCond .eq 6, 3) := by decide +kernel
theorem dX10_plot_43 : decode cX10_plot 43 = .ok (.bipush (-3), 2) := by decide +kernel
theorem dX10_plot_45 : decode cX10_plot 45 = .ok (.ireturn, 1) := by decide +kernel
theorem dX10_plot_46 : decode cX10_plot 46 = .ok (.aload 4, 2) := by decide +kernel
theorem dX10_plot_48 : decode cX10_plot 48 = .ok (.getfield 89, 3) := by decide +kernel
theorem dX10_plot_51 : decode cX10_plot 51 = .ok (.istore 5, 2) := by decide +kernel
theorem dX10_plot_53 : decode cX10_plot 53 = .ok (.aload 4, 2) := by decide +kernel
theorem dX10_plot_55 : decode cX10_plot 55 = .ok (.iload_n 2, 1) := by decide +kernel
theorem dX10_plot_56 : decode cX10_plot 56 = .ok (.putfield 92, 3) := by decide +kernel
theorem dX10_plot_59 : decode cX10_plot 59 = .ok (.aload 4, 2) := by decide +kernel
theorem dX10_plot_61 : decode cX10_plot 61 = .ok (.aload_n 0, 1) := by decide +kernel
theorem dX10_plot_62 : decode cX10_plot 62 = .ok (.getfield 11, 3) := by decide +kernel
theorem dX10_plot_65 : decode cX10_plot 65 = .ok (.iload_n 2, 1) := by decide +kernel
theorem dX10_plot_66 : decode cX10_plot 66 = .ok (.aaload, 1) := by decide +kernel
theorem dX10_plot_67 : decode cX10_plot 67 = .ok (.putfield 95, 3) := by decide +kernel
theorem dX10_plot_70 : decode cX10_plot 70 = .ok (.aload 4, 2) := by decide +kernel
theorem dX10_plot_72 : decode cX10_plot 72 = .ok (.iload_n 3, 1) := by decide +kernel
theorem dX10_plot_73 : decode cX10_plot 73 = .ok (.putfield 89, 3) := by decide +kernel
theorem dX10_plot_76 : decode cX10_plot 76 = .ok (.iload 5, 2) := by decide +kernel
theorem dX10_plot_78 : decode cX10_plot 78 = .ok (.ireturn, 1) := by decide +kernel
theorem dX10_buyer_0 : decode cX10_buyer 0 = .ok (.iload_n 1, 1) := by decide +kernel
theorem dX10_buyer_1 : decode cX10_buyer 1 = .ok (.bipush 50, 2) := by decide +kernel
theorem dX10_buyer_3 : decode cX10_buyer 3 = .ok (.invokestatic 81, 3) := by decide +kernel
theorem dX10_buyer_6 : decode cX10_buyer 6 = .ok (.ifCond .eq 19, 3) := by decide +kernel
theorem dX10_buyer_9 : decode cX10_buyer 9 = .ok (.iload_n 2, 1) := by decide +kernel
theorem dX10_buyer_10 : decode cX10_buyer 10 = .ok (.ldc 99, 2) := by decide +kernel
theorem dX10_buyer_12 : decode cX10_buyer 12 = .ok (.invokestatic 81, 3) := by decide +kernel
theorem dX10_buyer_15 : decode cX10_buyer 15 = .ok (.ifCond .eq 10, 3) := by decide +kernel
theorem dX10_buyer_18 : decode cX10_buyer 18 = .ok (.iload_n 3, 1) := by decide +kernel
theorem dX10_buyer_19 : decode cX10_buyer 19 = .ok (.invokestatic 77, 3) := by decide +kernel
theorem dX10_buyer_22 : decode cX10_buyer 22 = .ok (.ifCond .ne 5, 3) := by decide +kernel
theorem dX10_buyer_25 : decode cX10_buyer 25 = .ok (.iconst (-1), 1) := by decide +kernel
theorem dX10_buyer_26 : decode cX10_buyer 26 = .ok (.ireturn, 1) := by decide +kernel
theorem dX10_buyer_27 : decode cX10_buyer 27 = .ok (.aload_n 0, 1) := by decide +kernel
theorem dX10_buyer_28 : decode cX10_buyer 28 = .ok (.getfield 100, 3) := by decide +kernel
theorem dX10_buyer_31 : decode cX10_buyer 31 = .ok (.bipush 10, 2) := by decide +kernel
theorem dX10_buyer_33 : decode cX10_buyer 33 = .ok (.if_icmp .lt 6, 3) := by decide +kernel
theorem dX10_buyer_36 : decode cX10_buyer 36 = .ok (.bipush (-2), 2) := by decide +kernel
theorem dX10_buyer_38 : decode cX10_buyer 38 = .ok (.ireturn, 1) := by decide +kernel
theorem dX10_buyer_39 : decode cX10_buyer 39 = .ok (.aload_n 0, 1) := by decide +kernel
theorem dX10_buyer_40 : decode cX10_buyer 40 = .ok (.getfield 23, 3) := by decide +kernel
theorem dX10_buyer_43 : decode cX10_buyer 43 = .ok (.aload_n 0, 1) := by decide +kernel
theorem dX10_buyer_44 : decode cX10_buyer 44 = .ok (.getfield 100, 3) := by decide +kernel
theorem dX10_buyer_47 : decode cX10_buyer 47 = .ok (.aaload, 1) := by decide +kernel
theorem dX10_buyer_48 : decode cX10_buyer 48 = .ok (.astore 4, 2) := by decide +kernel
theorem dX10_buyer_50 : decode cX10_buyer 50 = .ok (.aload 4, 2) := by decide +kernel
theorem dX10_buyer_52 : decode cX10_buyer 52 = .ok (.iload_n 1, 1) := by decide +kernel
theorem dX10_buyer_53 : decode cX10_buyer 53 = .ok (.putfield 103, 3) := by decide +kernel
theorem dX10_buyer_56 : decode cX10_buyer 56 = .ok (.aload 4, 2) := by decide +kernel
theorem dX10_buyer_58 : decode cX10_buyer 58 = .ok (.iload_n 2, 1) := by decide +kernel
theorem dX10_buyer_59 : decode cX10_buyer 59 = .ok (.putfield 106, 3) := by decide +kernel
theorem dX10_buyer_62 : decode cX10_buyer 62 = .ok (.aload 4, 2) := by decide +kernel
theorem dX10_buyer_64 : decode cX10_buyer 64 = .ok (.iload_n 3, 1) := by decide +kernel
theorem dX10_buyer_65 : decode cX10_buyer 65 = .ok (.putfield 109, 3) := by decide +kernel
theorem dX10_buyer_68 : decode cX10_buyer 68 = .ok (.aload_n 0, 1) := by decide +kernel
theorem dX10_buyer_69 : decode cX10_buyer 69 = .ok (.dup, 1) := by decide +kernel
theorem dX10_buyer_70 : decode cX10_buyer 70 = .ok (.getfield 100, 3) := by decide +kernel
theorem dX10_buyer_73 : decode cX10_buyer 73 = .ok (.iconst 1, 1) := by decide +kernel
theorem dX10_buyer_74 : decode cX10_buyer 74 = .ok (.iadd, 1) := by decide +kernel
theorem dX10_buyer_75 : decode cX10_buyer 75 = .ok (.putfield 100, 3) := by decide +kernel
theorem dX10_buyer_78 : decode cX10_buyer 78 = .ok (.aload_n 0, 1) := by decide +kernel
theorem dX10_buyer_79 : decode cX10_buyer 79 = .ok (.getfield 100, 3) := by decide +kernel
theorem dX10_buyer_82 : decode cX10_buyer 82 = .ok (.iconst 1, 1) := by decide +kernel
theorem dX10_buyer_83 : decode cX10_buyer 83 = .ok (.isub, 1) := by decide +kernel
theorem dX10_buyer_84 : decode cX10_buyer 84 = .ok (.ireturn, 1) := by decide +kernel
theorem dX10_purse_0 : decode cX10_purse 0 = .ok (.aload_n 0, 1) := by decide +kernel
theorem dX10_purse_1 : decode cX10_purse 1 = .ok (.iload_n 1, 1) := by decide +kernel
theorem dX10_purse_2 : decode cX10_purse 2 = .ok (.invokevirtual 112, 3) := by decide +kernel
theorem dX10_purse_5 : decode cX10_purse 5 = .ok (.ifCond .eq 12, 3) := by decide +kernel
theorem dX10_purse_8 : decode cX10_purse 8 = .ok (.iload_n 2, 1) := by decide +kernel
theorem dX10_purse_9 : decode cX10_purse 9 = .ok (.ldc 99, 2) := by decide +kernel
theorem dX10_purse_11 : decode cX10_purse 11 = .ok (.invokestatic 81, 3) := by decide +kernel
theorem dX10_purse_14 : decode cX10_purse 14 = .ok (.ifCond .ne 5, 3) := by decide +kernel
theorem dX10_purse_17 : decode cX10_purse 17 = .ok (.iconst (-1), 1) := by decide +kernel
theorem dX10_purse_18 : decode cX10_purse 18 = .ok (.ireturn, 1) := by decide +kernel
theorem dX10_purse_19 : decode cX10_purse 19 = .ok (.aload_n 0, 1) := by decide +kernel
theorem dX10_purse_20 : decode cX10_purse 20 = .ok (.getfield 23, 3) := by decide +kernel
theorem dX10_purse_23 : decode cX10_purse 23 = .ok (.iload_n 1, 1) := by decide +kernel
theorem dX10_purse_24 : decode cX10_purse 24 = .ok (.aaload, 1) := by decide +kernel
theorem dX10_purse_25 : decode cX10_purse 25 = .ok (.getfield 106, 3) := by decide +kernel
theorem dX10_purse_28 : decode cX10_purse 28 = .ok (.istore_n 3, 1) := by decide +kernel
theorem dX10_purse_29 : decode cX10_purse 29 = .ok (.aload_n 0, 1) := by decide +kernel
theorem dX10_purse_30 : decode cX10_purse 30 = .ok (.getfield 23, 3) := by decide +kernel
theorem dX10_purse_33 : decode cX10_purse 33 = .ok (.iload_n 1, 1) := by decide +kernel
theorem dX10_purse_34 : decode cX10_purse 34 = .ok (.aaload, 1) := by decide +kernel
theorem dX10_purse_35 : decode cX10_purse 35 = .ok (.iload_n 2, 1) := by decide +kernel
theorem dX10_purse_36 : decode cX10_purse 36 = .ok (.putfield 106, 3) := by decide +kernel
theorem dX10_purse_39 : decode cX10_purse 39 = .ok (.iload_n 3, 1) := by decide +kernel
theorem dX10_purse_40 : decode cX10_purse 40 = .ok (.ireturn, 1) := by decide +kernel
theorem dX10_waits_0 : decode cX10_waits 0 = .ok (.aload_n 0, 1) := by decide +kernel
theorem dX10_waits_1 : decode cX10_waits 1 = .ok (.iload_n 1, 1) := by decide +kernel
theorem dX10_waits_2 : decode cX10_waits 2 = .ok (.invokevirtual 112, 3) := by decide +kernel
theorem dX10_waits_5 : decode cX10_waits 5 = .ok (.ifCond .ne 5, 3) := by decide +kernel
theorem dX10_waits_8 : decode cX10_waits 8 = .ok (.iconst (-1), 1) := by decide +kernel
theorem dX10_waits_9 : decode cX10_waits 9 = .ok (.ireturn, 1) := by decide +kernel
theorem dX10_waits_10 : decode cX10_waits 10 = .ok (.aload_n 0, 1) := by decide +kernel
theorem dX10_waits_11 : decode cX10_waits 11 = .ok (.getfield 23, 3) := by decide +kernel
theorem dX10_waits_14 : decode cX10_waits 14 = .ok (.iload_n 1, 1) := by decide +kernel
theorem dX10_waits_15 : decode cX10_waits 15 = .ok (.aaload, 1) := by decide +kernel
theorem dX10_waits_16 : decode cX10_waits 16 = .ok (.getfield 115, 3) := by decide +kernel
theorem dX10_waits_19 : decode cX10_waits 19 = .ok (.istore_n 3, 1) := by decide +kernel
theorem dX10_waits_20 : decode cX10_waits 20 = .ok (.aload_n 0, 1) := by decide +kernel
theorem dX10_waits_21 : decode cX10_waits 21 = .ok (.getfield 23, 3) := by decide +kernel
theorem dX10_waits_24 : decode cX10_waits 24 = .ok (.iload_n 1, 1) := by decide +kernel
theorem dX10_waits_25 : decode cX10_waits 25 = .ok (.aaload, 1) := by decide +kernel
theorem dX10_waits_26 : decode cX10_waits 26 = .ok (.iload_n 2, 1) := by decide +kernel
theorem dX10_waits_27 : decode cX10_waits 27 = .ok (.putfield 115, 3) := by decide +kernel
theorem dX10_waits_30 : decode cX10_waits 30 = .ok (.iload_n 3, 1) := by decide +kernel
theorem dX10_waits_31 : decode cX10_waits 31 = .ok (.iload_n 2, 1) := by decide +kernel
theorem dX10_waits_32 : decode cX10_waits 32 = .ok (.if_icmp .eq 7, 3) := by decide +kernel
theorem dX10_waits_35 : decode cX10_waits 35 = .ok (.iconst 1, 1) := by decide +kernel
theorem dX10_waits_36 : decode cX10_waits 36 = .ok (.goto 4, 3) := by decide +kernel
theorem dX10_waits_39 : decode cX10_waits 39 = .ok (.iconst 0, 1) := by decide +kernel
theorem dX10_waits_40 : decode cX10_waits 40 = .ok (.invokestatic 119, 3) := by decide +kernel
theorem dX10_waits_43 : decode cX10_waits 43 = .ok (.ireturn, 1) := by decide +kernel
theorem dX10_surety_0 : decode cX10_surety 0 = .ok (.iload_n 2, 1) := by decide +kernel
theorem dX10_surety_1 : decode cX10_surety 1 = .ok (.iconst (-1), 1) := by decide +kernel
theorem dX10_surety_2 : decode cX10_surety 2 = .ok (.if_icmp .ne 7, 3) := by decide +kernel
theorem dX10_surety_5 : decode cX10_surety 5 = .ok (.iconst 1, 1) := by decide +kernel
theorem dX10_surety_6 : decode cX10_surety 6 = .ok (.goto 4, 3) := by decide +kernel
theorem dX10_surety_9 : decode cX10_surety 9 = .ok (.iconst 0, 1) := by decide +kernel
theorem dX10_surety_10 : decode cX10_surety 10 = .ok (.istore_n 3, 1) := by decide +kernel
theorem dX10_surety_11 : decode cX10_surety 11 = .ok (.aload_n 0, 1) := by decide +kernel
theorem dX10_surety_12 : decode cX10_surety 12 = .ok (.iload_n 1, 1) := by decide +kernel
theorem dX10_surety_13 : decode cX10_surety 13 = .ok (.invokevirtual 112, 3) := by decide +kernel
theorem dX10_surety_16 : decode cX10_surety 16 = .ok (.ifCond .eq 20, 3) := by decide +kernel
theorem dX10_surety_19 : decode cX10_surety 19 = .ok (.iload_n 3, 1) := by decide +kernel
theorem dX10_surety_20 : decode cX10_surety 20 = .ok (.ifCond .ne 11, 3) := by decide +kernel
theorem dX10_surety_23 : decode cX10_surety 23 = .ok (.aload_n 0, 1) := by decide +kernel
theorem dX10_surety_24 : decode cX10_surety 24 = .ok (.iload_n 2, 1) := by decide +kernel
theorem dX10_surety_25 : decode cX10_surety 25 = .ok (.invokevirtual 112, 3) := by decide +kernel
theorem dX10_surety_28 : decode cX10_surety 28 = .ok (.ifCond .eq 8, 3) := by decide +kernel
theorem dX10_surety_31 : decode cX10_surety 31 = .ok (.iload_n 2, 1) := by decide +kernel
theorem dX10_surety_32 : decode cX10_surety 32 = .ok (.iload_n 1, 1) := by decide +kernel
theorem dX10_surety_33 : decode cX10_surety 33 = .ok (.if_icmp .ne 5, 3) := by decide +kernel
theorem dX10_surety_36 : decode cX10_surety 36 = .ok (.iconst (-1), 1) := by decide +kernel
theorem dX10_surety_37 : decode cX10_surety 37 = .ok (.ireturn, 1) := by decide +kernel
theorem dX10_surety_38 : decode cX10_surety 38 = .ok (.aload_n 0, 1) := by decide +kernel
theorem dX10_surety_39 : decode cX10_surety 39 = .ok (.getfield 23, 3) := by decide +kernel
theorem dX10_surety_42 : decode cX10_surety 42 = .ok (.iload_n 1, 1) := by decide +kernel
theorem dX10_surety_43 : decode cX10_surety 43 = .ok (.aaload, 1) := by decide +kernel
theorem dX10_surety_44 : decode cX10_surety 44 = .ok (.getfield 123, 3) := by decide +kernel
theorem dX10_surety_47 : decode cX10_surety 47 = .ok (.istore 4, 2) := by decide +kernel
theorem dX10_surety_49 : decode cX10_surety 49 = .ok (.aload_n 0, 1) := by decide +kernel
theorem dX10_surety_50 : decode cX10_surety 50 = .ok (.getfield 23, 3) := by decide +kernel
theorem dX10_surety_53 : decode cX10_surety 53 = .ok (.iload_n 1, 1) := by decide +kernel
theorem dX10_surety_54 : decode cX10_surety 54 = .ok (.aaload, 1) := by decide +kernel
theorem dX10_surety_55 : decode cX10_surety 55 = .ok (.iload_n 3, 1) := by decide +kernel
theorem dX10_surety_56 : decode cX10_surety 56 = .ok (.ifCond .eq 8, 3) := by decide +kernel
theorem dX10_surety_59 : decode cX10_surety 59 = .ok (.bipush (-2), 2) := by decide +kernel
theorem dX10_surety_61 : decode cX10_surety 61 = .ok (.goto 4, 3) := by decide +kernel
theorem dX10_surety_64 : decode cX10_surety 64 = .ok (.iload_n 2, 1) := by decide +kernel
theorem dX10_surety_65 : decode cX10_surety 65 = .ok (.putfield 123, 3) := by decide +kernel
theorem dX10_surety_68 : decode cX10_surety 68 = .ok (.iload 4, 2) := by decide +kernel
theorem dX10_surety_70 : decode cX10_surety 70 = .ok (.ireturn, 1) := by decide +kernel
theorem dX10_step_0 : decode cX10_step 0 = .ok (.iload_n 1, 1) := by decide +kernel
theorem dX10_step_1 : decode cX10_step 1 = .ok (.iconst 1, 1) := by decide +kernel
theorem dX10_step_2 : decode cX10_step 2 = .ok (.if_icmp .lt 9, 3) := by decide +kernel
theorem dX10_step_5 : decode cX10_step 5 = .ok (.iload_n 1, 1) := by decide +kernel
theorem dX10_step_6 : decode cX10_step 6 = .ok (.bipush 100, 2) := by decide +kernel
theorem dX10_step_8 : decode cX10_step 8 = .ok (.if_icmp .le 5, 3) := by decide +kernel
theorem dX10_step_11 : decode cX10_step 11 = .ok (.iconst (-1), 1) := by decide +kernel
theorem dX10_step_12 : decode cX10_step 12 = .ok (.ireturn, 1) := by decide +kernel
theorem dX10_step_13 : decode cX10_step 13 = .ok (.aload_n 0, 1) := by decide +kernel
theorem dX10_step_14 : decode cX10_step 14 = .ok (.getfield 58, 3) := by decide +kernel
theorem dX10_step_17 : decode cX10_step 17 = .ok (.istore_n 2, 1) := by decide +kernel
theorem dX10_step_18 : decode cX10_step 18 = .ok (.aload_n 0, 1) := by decide +kernel
theorem dX10_step_19 : decode cX10_step 19 = .ok (.iload_n 1, 1) := by decide +kernel
theorem dX10_step_20 : decode cX10_step 20 = .ok (.putfield 58, 3) := by decide +kernel
theorem dX10_step_23 : decode cX10_step 23 = .ok (.iload_n 2, 1) := by decide +kernel
theorem dX10_step_24 : decode cX10_step 24 = .ok (.ireturn, 1) := by decide +kernel
theorem dX10_look_0 : decode cX10_look 0 = .ok (.iload_n 1, 1) := by decide +kernel
theorem dX10_look_1 : decode cX10_look 1 = .ok (.invokestatic 77, 3) := by decide +kernel
theorem dX10_look_4 : decode cX10_look 4 = .ok (.ifCond .ne 5, 3) := by decide +kernel
theorem dX10_look_7 : decode cX10_look 7 = .ok (.iconst (-1), 1) := by decide +kernel
theorem dX10_look_8 : decode cX10_look 8 = .ok (.ireturn, 1) := by decide +kernel
theorem dX10_look_9 : decode cX10_look 9 = .ok (.aload_n 0, 1) := by decide +kernel
theorem dX10_look_10 : decode cX10_look 10 = .ok (.getfield 17, 3) := by decide +kernel
theorem dX10_look_13 : decode cX10_look 13 = .ok (.iload_n 1, 1) := by decide +kernel
theorem dX10_look_14 : decode cX10_look 14 = .ok (.aaload, 1) := by decide +kernel
theorem dX10_look_15 : decode cX10_look 15 = .ok (.astore_n 3, 1) := by decide +kernel
theorem dX10_look_16 : decode cX10_look 16 = .ok (.iload_n 2, 1) := by decide +kernel
theorem dX10_look_17 : decode cX10_look 17 = .ok (.tableswitch 93 0 7 #[47, 52, 57, 65, 70, 75, 80, 85], 47) := by decide +kernel
theorem dX10_look_64 : decode cX10_look 64 = .ok (.aload_n 3, 1) := by decide +kernel
theorem dX10_look_65 : decode cX10_look 65 = .ok (.getfield 92, 3) := by decide +kernel
theorem dX10_look_68 : decode cX10_look 68 = .ok (.ireturn, 1) := by decide +kernel
theorem dX10_look_69 : decode cX10_look 69 = .ok (.aload_n 3, 1) := by decide +kernel
theorem dX10_look_70 : decode cX10_look 70 = .ok (.getfield 89, 3) := by decide +kernel
theorem dX10_look_73 : decode cX10_look 73 = .ok (.ireturn, 1) := by decide +kernel
theorem dX10_look_74 : decode cX10_look 74 = .ok (.aload_n 3, 1) := by decide +kernel
theorem dX10_look_75 : decode cX10_look 75 = .ok (.getfield 95, 3) := by decide +kernel
theorem dX10_look_78 : decode cX10_look 78 = .ok (.invokevirtual 126, 3) := by decide +kernel
theorem dX10_look_81 : decode cX10_look 81 = .ok (.ireturn, 1) := by decide +kernel
theorem dX10_look_82 : decode cX10_look 82 = .ok (.aload_n 3, 1) := by decide +kernel
theorem dX10_look_83 : decode cX10_look 83 = .ok (.invokevirtual 130, 3) := by decide +kernel
theorem dX10_look_86 : decode cX10_look 86 = .ok (.ireturn, 1) := by decide +kernel
theorem dX10_look_87 : decode cX10_look 87 = .ok (.aload_n 3, 1) := by decide +kernel
theorem dX10_look_88 : decode cX10_look 88 = .ok (.getfield 133, 3) := by decide +kernel
theorem dX10_look_91 : decode cX10_look 91 = .ok (.ireturn, 1) := by decide +kernel
theorem dX10_look_92 : decode cX10_look 92 = .ok (.aload_n 3, 1) := by decide +kernel
theorem dX10_look_93 : decode cX10_look 93 = .ok (.getfield 136, 3) := by decide +kernel
theorem dX10_look_96 : decode cX10_look 96 = .ok (.ireturn, 1) := by decide +kernel
theorem dX10_look_97 : decode cX10_look 97 = .ok (.aload_n 3, 1) := by decide +kernel
theorem dX10_look_98 : decode cX10_look 98 = .ok (.getfield 139, 3) := by decide +kernel
theorem dX10_look_101 : decode cX10_look 101 = .ok (.ireturn, 1) := by decide +kernel
theorem dX10_look_102 : decode cX10_look 102 = .ok (.aload_n 3, 1) := by decide +kernel
theorem dX10_look_103 : decode cX10_look 103 = .ok (.invokevirtual 142, 3) := by decide +kernel
theorem dX10_look_106 : decode cX10_look 106 = .ok (.invokestatic 119, 3) := by decide +kernel
theorem dX10_look_109 : decode cX10_look 109 = .ok (.ireturn, 1) := by decide +kernel
theorem dX10_look_110 : decode cX10_look 110 = .ok (.iconst (-1), 1) := by decide +kernel
theorem dX10_look_111 : decode cX10_look 111 = .ok (.ireturn, 1) := by decide +kernel
theorem dX10_about_0 : decode cX10_about 0 = .ok (.aload_n 0, 1) := by decide +kernel
theorem dX10_about_1 : decode cX10_about 1 = .ok (.iload_n 1, 1) := by decide +kernel
theorem dX10_about_2 : decode cX10_about 2 = .ok (.invokevirtual 112, 3) := by decide +kernel
theorem dX10_about_5 : decode cX10_about 5 = .ok (.ifCond .ne 5, 3) := by decide +kernel
theorem dX10_about_8 : decode cX10_about 8 = .ok (.iconst (-1), 1) := by decide +kernel
theorem dX10_about_9 : decode cX10_about 9 = .ok (.ireturn, 1) := by decide +kernel
theorem dX10_about_10 : decode cX10_about 10 = .ok (.aload_n 0, 1) := by decide +kernel
theorem dX10_about_11 : decode cX10_about 11 = .ok (.getfield 23, 3) := by decide +kernel
theorem dX10_about_14 : decode cX10_about 14 = .ok (.iload_n 1, 1) := by decide +kernel
theorem dX10_about_15 : decode cX10_about 15 = .ok (.aaload, 1) := by decide +kernel
theorem dX10_about_16 : decode cX10_about 16 = .ok (.astore_n 3, 1) := by decide +kernel
theorem dX10_about_17 : decode cX10_about 17 = .ok (.iload_n 2, 1) := by decide +kernel
theorem dX10_about_18 : decode cX10_about 18 = .ok (.tableswitch 90 0 7 #[46, 51, 56, 61, 66, 72, 77, 82], 46) := by decide +kernel
theorem dX10_about_64 : decode cX10_about 64 = .ok (.aload_n 3, 1) := by decide +kernel
theorem dX10_about_65 : decode cX10_about 65 = .ok (.getfield 103, 3) := by decide +kernel
theorem dX10_about_68 : decode cX10_about 68 = .ok (.ireturn, 1) := by decide +kernel
theorem dX10_about_69 : decode cX10_about 69 = .ok (.aload_n 3, 1) := by decide +kernel
theorem dX10_about_70 : decode cX10_about 70 = .ok (.getfield 106, 3) := by decide +kernel
theorem dX10_about_73 : decode cX10_about 73 = .ok (.ireturn, 1) := by decide +kernel
theorem dX10_about_74 : decode cX10_about 74 = .ok (.aload_n 3, 1) := by decide +kernel
theorem dX10_about_75 : decode cX10_about 75 = .ok (.getfield 109, 3) := by decide +kernel
theorem dX10_about_78 : decode cX10_about 78 = .ok (.ireturn, 1) := by decide +kernel
theorem dX10_about_79 : decode cX10_about 79 = .ok (.aload_n 3, 1) := by decide +kernel
theorem dX10_about_80 : decode cX10_about 80 = .ok (.invokevirtual 145, 3) := by decide +kernel
theorem dX10_about_83 : decode cX10_about 83 = .ok (.ireturn, 1) := by decide +kernel
theorem dX10_about_84 : decode cX10_about 84 = .ok (.aload_n 0, 1) := by decide +kernel
theorem dX10_about_85 : decode cX10_about 85 = .ok (.iload_n 1, 1) := by decide +kernel
theorem dX10_about_86 : decode cX10_about 86 = .ok (.invokevirtual 148, 3) := by decide +kernel
theorem dX10_about_89 : decode cX10_about 89 = .ok (.ireturn, 1) := by decide +kernel
theorem dX10_about_90 : decode cX10_about 90 = .ok (.aload_n 3, 1) := by decide +kernel
theorem dX10_about_91 : decode cX10_about 91 = .ok (.getfield 152, 3) := by decide +kernel
theorem dX10_about_94 : decode cX10_about 94 = .ok (.ireturn, 1) := by decide +kernel
theorem dX10_about_95 : decode cX10_about 95 = .ok (.aload_n 3, 1) := by decide +kernel
theorem dX10_about_96 : decode cX10_about 96 = .ok (.getfield 155, 3) := by decide +kernel
theorem dX10_about_99 : decode cX10_about 99 = .ok (.ireturn, 1) := by decide +kernel
theorem dX10_about_100 : decode cX10_about 100 = .ok (.aload_n 3, 1) := by decide +kernel
theorem dX10_about_101 : decode cX10_about 101 = .ok (.getfield 115, 3) := by decide +kernel
theorem dX10_about_104 : decode cX10_about 104 = .ok (.invokestatic 119, 3) := by decide +kernel
theorem dX10_about_107 : decode cX10_about 107 = .ok (.ireturn, 1) := by decide +kernel
theorem dX10_about_108 : decode cX10_about 108 = .ok (.iconst (-1), 1) := by decide +kernel
theorem dX10_about_109 : decode cX10_about 109 = .ok (.ireturn, 1) := by decide +kernel
theorem dX10_worth_0 : decode cX10_worth 0 = .ok (.iload_n 1, 1) := by decide +kernel
theorem dX10_worth_1 : decode cX10_worth 1 = .ok (.invokestatic 77, 3) := by decide +kernel
theorem dX10_worth_4 : decode cX10_worth 4 = .ok (.ifCond .eq 11, 3) := by decide +kernel
theorem dX10_worth_7 : decode cX10_worth 7 = .ok (.aload_n 0, 1) := by decide +kernel
theorem dX10_worth_8 : decode cX10_worth 8 = .ok (.iload_n 2, 1) := by decide +kernel
theorem dX10_worth_9 : decode cX10_worth 9 = .ok (.invokevirtual 112, 3) := by decide +kernel
theorem dX10_worth_12 : decode cX10_worth 12 = .ok (.ifCond .ne 5, 3) := by decide +kernel
theorem dX10_worth_15 : decode cX10_worth 15 = .ok (.iconst (-1), 1) := by decide +kernel
theorem dX10_worth_16 : decode cX10_worth 16 = .ok (.ireturn, 1) := by decide +kernel
theorem dX10_worth_17 : decode cX10_worth 17 = .ok (.aload_n 0, 1) := by decide +kernel
theorem dX10_worth_18 : decode cX10_worth 18 = .ok (.iload_n 2, 1) := by decide +kernel
theorem dX10_worth_19 : decode cX10_worth 19 = .ok (.iload_n 1, 1) := by decide +kernel
theorem dX10_worth_20 : decode cX10_worth 20 = .ok (.invokevirtual 158, 3) := by decide +kernel
theorem dX10_worth_23 : decode cX10_worth 23 = .ok (.ireturn, 1) := by decide +kernel
theorem dX10_candle_0 : decode cX10_candle 0 = .ok (.iload_n 1, 1) := by decide +kernel
theorem dX10_candle_1 : decode cX10_candle 1 = .ok (.invokestatic 77, 3) := by decide +kernel
theorem dX10_candle_4 : decode cX10_candle 4 = .ok (.ifCond .eq 22, 3) := by decide +kernel
theorem dX10_candle_7 : decode cX10_candle 7 = .ok (.iload_n 2, 1) := by decide +kernel
theorem dX10_candle_8 : decode cX10_candle 8 = .ok (.iconst 1, 1) := by decide +kernel
theorem dX10_candle_9 : decode cX10_candle 9 = .ok (.if_icmp .lt 17, 3) := by decide +kernel
theorem dX10_candle_12 : decode cX10_candle 12 = .ok (.iload_n 2, 1) := by decide +kernel
theorem dX10_candle_13 : decode cX10_candle 13 = .ok (.bipush 60, 2) := by decide +kernel
theorem dX10_candle_15 : decode cX10_candle 15 = .ok (.if_icmp .gt 11, 3) := by decide +kernel
theorem dX10_candle_18 : decode cX10_candle 18 = .ok (.aload_n 0, 1) := by decide +kernel
theorem dX10_candle_19 : decode cX10_candle 19 = .ok (.iload_n 3, 1) := by decide +kernel
theorem dX10_candle_20 : decode cX10_candle 20 = .ok (.invokevirtual 112, 3) := by decide +kernel
theorem dX10_candle_23 : decode cX10_candle 23 = .ok (.ifCond .ne 5, 3) := by decide +kernel
theorem dX10_candle_26 : decode cX10_candle 26 = .ok (.iconst (-1), 1) := by decide +kernel
theorem dX10_candle_27 : decode cX10_candle 27 = .ok (.ireturn, 1) := by decide +kernel
theorem dX10_candle_28 : decode cX10_candle 28 = .ok (.aload_n 0, 1) := by decide +kernel
theorem dX10_candle_29 : decode cX10_candle 29 = .ok (.getfield 17, 3) := by decide +kernel
theorem dX10_candle_32 : decode cX10_candle 32 = .ok (.iload_n 1, 1) := by decide +kernel
theorem dX10_candle_33 : decode cX10_candle 33 = .ok (.aaload, 1) := by decide +kernel
theorem dX10_candle_34 : decode cX10_candle 34 = .ok (.invokevirtual 85, 3) := by decide +kernel
theorem dX10_candle_37 : decode cX10_candle 37 = .ok (.ifCond .eq 6, 3) := by decide +kernel
theorem dX10_candle_40 : decode cX10_candle 40 = .ok (.bipush (-3), 2) := by decide +kernel
theorem dX10_candle_42 : decode cX10_candle 42 = .ok (.ireturn, 1) := by decide +kernel
theorem dX10_candle_43 : decode cX10_candle 43 = .ok (.aload_n 0, 1) := by decide +kernel
theorem dX10_candle_44 : decode cX10_candle 44 = .ok (.iload_n 1, 1) := by decide +kernel
theorem dX10_candle_45 : decode cX10_candle 45 = .ok (.invokevirtual 162, 3) := by decide +kernel
theorem dX10_candle_48 : decode cX10_candle 48 = .ok (.aload_n 0, 1) := by decide +kernel
theorem dX10_candle_49 : decode cX10_candle 49 = .ok (.getfield 40, 3) := by decide +kernel
theorem dX10_candle_52 : decode cX10_candle 52 = .ok (.iload_n 2, 1) := by decide +kernel
theorem dX10_candle_53 : decode cX10_candle 53 = .ok (.iload_n 3, 1) := by decide +kernel
theorem dX10_candle_54 : decode cX10_candle 54 = .ok (.invokevirtual 166, 3) := by decide +kernel
theorem dX10_candle_57 : decode cX10_candle 57 = .ok (.aload_n 0, 1) := by decide +kernel
theorem dX10_candle_58 : decode cX10_candle 58 = .ok (.getfield 40, 3) := by decide +kernel
theorem dX10_candle_61 : decode cX10_candle 61 = .ok (.getfield 170, 3) := by decide +kernel
theorem dX10_candle_64 : decode cX10_candle 64 = .ok (.bipush (-2), 2) := by decide +kernel
theorem dX10_candle_66 : decode cX10_candle 66 = .ok (.if_icmp .ne 6, 3) := by decide +kernel
theorem dX10_candle_69 : decode cX10_candle 69 = .ok (.bipush (-4), 2) := by decide +kernel
theorem dX10_candle_71 : decode cX10_candle 71 = .ok (.ireturn, 1) := by decide +kernel
theorem dX10_candle_72 : decode cX10_candle 72 = .ok (.aload_n 0, 1) := by decide +kernel
theorem dX10_candle_73 : decode cX10_candle 73 = .ok (.dup, 1) := by decide +kernel
theorem dX10_candle_74 : decode cX10_candle 74 = .ok (.getfield 173, 3) := by decide +kernel
theorem dX10_candle_77 : decode cX10_candle 77 = .ok (.aload_n 0, 1) := by decide +kernel
theorem dX10_candle_78 : decode cX10_candle 78 = .ok (.getfield 40, 3) := by decide +kernel
theorem dX10_candle_81 : decode cX10_candle 81 = .ok (.getfield 176, 3) := by decide +kernel
theorem dX10_candle_84 : decode cX10_candle 84 = .ok (.aload_n 0, 1) := by decide +kernel
theorem dX10_candle_85 : decode cX10_candle 85 = .ok (.getfield 40, 3) := by decide +kernel
theorem dX10_candle_88 : decode cX10_candle 88 = .ok (.aload_n 0, 1) := by decide +kernel
theorem dX10_candle_89 : decode cX10_candle 89 = .ok (.getfield 40, 3) := by decide +kernel
theorem dX10_candle_92 : decode cX10_candle 92 = .ok (.invokevirtual 179, 3) := by decide +kernel
theorem dX10_candle_95 : decode cX10_candle 95 = .ok (.invokevirtual 182, 3) := by decide +kernel
theorem dX10_candle_98 : decode cX10_candle 98 = .ok (.isub, 1) := by decide +kernel
theorem dX10_candle_99 : decode cX10_candle 99 = .ok (.iadd, 1) := by decide +kernel
theorem dX10_candle_100 : decode cX10_candle 100 = .ok (.putfield 173, 3) := by decide +kernel
theorem dX10_candle_103 : decode cX10_candle 103 = .ok (.aload_n 0, 1) := by decide +kernel
theorem dX10_candle_104 : decode cX10_candle 104 = .ok (.aload_n 0, 1) := by decide +kernel
theorem dX10_candle_105 : decode cX10_candle 105 = .ok (.getfield 17, 3) := by decide +kernel
theorem dX10_candle_108 : decode cX10_candle 108 = .ok (.iload_n 1, 1) := by decide +kernel
end
section
theorem dX10_candle_109 : decode cX10_candle 109 = .ok (.aaload, 1) := by decide +kernel
theorem dX10_candle_110 : decode cX10_candle 110 = .ok (.aload_n 0, 1) := by decide +kernel
theorem dX10_candle_111 : decode cX10_candle 111 = .ok (.getfield 40, 3) := by decide +kernel
theorem dX10_candle_114 : decode cX10_candle 114 = .ok (.getfield 170, 3) := by decide +kernel
theorem dX10_candle_117 : decode cX10_candle 117 = .ok (.aload_n 0, 1) := by decide +kernel
theorem dX10_candle_118 : decode cX10_candle 118 = .ok (.getfield 40, 3) := by decide +kernel
theorem dX10_candle_121 : decode cX10_candle 121 = .ok (.getfield 176, 3) := by decide +kernel
theorem dX10_candle_124 : decode cX10_candle 124 = .ok (.invokevirtual 185, 3) := by decide +kernel
theorem dX10_candle_127 : decode cX10_candle 127 = .ok (.aload_n 0, 1) := by decide +kernel
theorem dX10_candle_128 : decode cX10_candle 128 = .ok (.getfield 40, 3) := by decide +kernel
theorem dX10_candle_131 : decode cX10_candle 131 = .ok (.getfield 176, 3) := by decide +kernel
theorem dX10_candle_134 : decode cX10_candle 134 = .ok (.ireturn, 1) := by decide +kernel
theorem dX10_wins_0 : decode cX10_wins 0 = .ok (.iload_n 1, 1) := by decide +kernel
theorem dX10_wins_1 : decode cX10_wins 1 = .ok (.invokestatic 77, 3) := by decide +kernel
theorem dX10_wins_4 : decode cX10_wins 4 = .ok (.ifCond .eq 19, 3) := by decide +kernel
theorem dX10_wins_7 : decode cX10_wins 7 = .ok (.aload_n 0, 1) := by decide +kernel
theorem dX10_wins_8 : decode cX10_wins 8 = .ok (.iload_n 2, 1) := by decide +kernel
theorem dX10_wins_9 : decode cX10_wins 9 = .ok (.invokevirtual 112, 3) := by decide +kernel
theorem dX10_wins_12 : decode cX10_wins 12 = .ok (.ifCond .eq 11, 3) := by decide +kernel
theorem dX10_wins_15 : decode cX10_wins 15 = .ok (.aload_n 0, 1) := by decide +kernel
theorem dX10_wins_16 : decode cX10_wins 16 = .ok (.iload_n 3, 1) := by decide +kernel
theorem dX10_wins_17 : decode cX10_wins 17 = .ok (.invokevirtual 112, 3) := by decide +kernel
theorem dX10_wins_20 : decode cX10_wins 20 = .ok (.ifCond .ne 5, 3) := by decide +kernel
theorem dX10_wins_23 : decode cX10_wins 23 = .ok (.iconst (-1), 1) := by decide +kernel
theorem dX10_wins_24 : decode cX10_wins 24 = .ok (.ireturn, 1) := by decide +kernel
theorem dX10_wins_25 : decode cX10_wins 25 = .ok (.aload_n 0, 1) := by decide +kernel
theorem dX10_wins_26 : decode cX10_wins 26 = .ok (.getfield 17, 3) := by decide +kernel
theorem dX10_wins_29 : decode cX10_wins 29 = .ok (.iload_n 1, 1) := by decide +kernel
theorem dX10_wins_30 : decode cX10_wins 30 = .ok (.aaload, 1) := by decide +kernel
theorem dX10_wins_31 : decode cX10_wins 31 = .ok (.invokevirtual 85, 3) := by decide +kernel
theorem dX10_wins_34 : decode cX10_wins 34 = .ok (.ifCond .eq 6, 3) := by decide +kernel
theorem dX10_wins_37 : decode cX10_wins 37 = .ok (.bipush (-3), 2) := by decide +kernel
theorem dX10_wins_39 : decode cX10_wins 39 = .ok (.ireturn, 1) := by decide +kernel
theorem dX10_wins_40 : decode cX10_wins 40 = .ok (.aload_n 0, 1) := by decide +kernel
theorem dX10_wins_41 : decode cX10_wins 41 = .ok (.iload_n 1, 1) := by decide +kernel
theorem dX10_wins_42 : decode cX10_wins 42 = .ok (.invokevirtual 162, 3) := by decide +kernel
theorem dX10_wins_45 : decode cX10_wins 45 = .ok (.iconst 0, 1) := by decide +kernel
theorem dX10_wins_46 : decode cX10_wins 46 = .ok (.istore 4, 2) := by decide +kernel
theorem dX10_wins_48 : decode cX10_wins 48 = .ok (.iconst 1, 1) := by decide +kernel
theorem dX10_wins_49 : decode cX10_wins 49 = .ok (.istore 5, 2) := by decide +kernel
theorem dX10_wins_51 : decode cX10_wins 51 = .ok (.iload 5, 2) := by decide +kernel
theorem dX10_wins_53 : decode cX10_wins 53 = .ok (.bipush 60, 2) := by decide +kernel
theorem dX10_wins_55 : decode cX10_wins 55 = .ok (.if_icmp .gt 33, 3) := by decide +kernel
theorem dX10_wins_58 : decode cX10_wins 58 = .ok (.aload_n 0, 1) := by decide +kernel
theorem dX10_wins_59 : decode cX10_wins 59 = .ok (.getfield 40, 3) := by decide +kernel
theorem dX10_wins_62 : decode cX10_wins 62 = .ok (.iload 5, 2) := by decide +kernel
theorem dX10_wins_64 : decode cX10_wins 64 = .ok (.iload_n 2, 1) := by decide +kernel
theorem dX10_wins_65 : decode cX10_wins 65 = .ok (.invokevirtual 166, 3) := by decide +kernel
theorem dX10_wins_68 : decode cX10_wins 68 = .ok (.aload_n 0, 1) := by decide +kernel
theorem dX10_wins_69 : decode cX10_wins 69 = .ok (.getfield 40, 3) := by decide +kernel
theorem dX10_wins_72 : decode cX10_wins 72 = .ok (.getfield 170, 3) := by decide +kernel
theorem dX10_wins_75 : decode cX10_wins 75 = .ok (.iload_n 3, 1) := by decide +kernel
theorem dX10_wins_76 : decode cX10_wins 76 = .ok (.if_icmp .ne 6, 3) := by decide +kernel
theorem dX10_wins_79 : decode cX10_wins 79 = .ok (.iinc 4 1, 3) := by decide +kernel
theorem dX10_wins_82 : decode cX10_wins 82 = .ok (.iinc 5 1, 3) := by decide +kernel
theorem dX10_wins_85 : decode cX10_wins 85 = .ok (.goto (-34), 3) := by decide +kernel
theorem dX10_wins_88 : decode cX10_wins 88 = .ok (.iload 4, 2) := by decide +kernel
theorem dX10_wins_90 : decode cX10_wins 90 = .ok (.ireturn, 1) := by decide +kernel
theorem dX10_lots_0 : decode cX10_lots 0 = .ok (.aload_n 0, 1) := by decide +kernel
theorem dX10_lots_1 : decode cX10_lots 1 = .ok (.iload_n 1, 1) := by decide +kernel
theorem dX10_lots_2 : decode cX10_lots 2 = .ok (.invokevirtual 189, 3) := by decide +kernel
theorem dX10_lots_5 : decode cX10_lots 5 = .ok (.istore_n 2, 1) := by decide +kernel
theorem dX10_lots_6 : decode cX10_lots 6 = .ok (.iload_n 2, 1) := by decide +kernel
theorem dX10_lots_7 : decode cX10_lots 7 = .ok (.ifCond .ge 7, 3) := by decide +kernel
theorem dX10_lots_10 : decode cX10_lots 10 = .ok (.iload_n 2, 1) := by decide +kernel
theorem dX10_lots_11 : decode cX10_lots 11 = .ok (.goto 11, 3) := by decide +kernel
theorem dX10_lots_14 : decode cX10_lots 14 = .ok (.aload_n 0, 1) := by decide +kernel
theorem dX10_lots_15 : decode cX10_lots 15 = .ok (.getfield 40, 3) := by decide +kernel
theorem dX10_lots_18 : decode cX10_lots 18 = .ok (.iload_n 2, 1) := by decide +kernel
theorem dX10_lots_19 : decode cX10_lots 19 = .ok (.invokevirtual 182, 3) := by decide +kernel
theorem dX10_lots_22 : decode cX10_lots 22 = .ok (.ireturn, 1) := by decide +kernel
theorem dX10_lotter_0 : decode cX10_lotter 0 = .ok (.iload_n 1, 1) := by decide +kernel
theorem dX10_lotter_1 : decode cX10_lotter 1 = .ok (.invokestatic 77, 3) := by decide +kernel
theorem dX10_lotter_4 : decode cX10_lotter 4 = .ok (.ifCond .ne 5, 3) := by decide +kernel
theorem dX10_lotter_7 : decode cX10_lotter 7 = .ok (.iconst (-1), 1) := by decide +kernel
theorem dX10_lotter_8 : decode cX10_lotter 8 = .ok (.ireturn, 1) := by decide +kernel
theorem dX10_lotter_9 : decode cX10_lotter 9 = .ok (.aload_n 0, 1) := by decide +kernel
theorem dX10_lotter_10 : decode cX10_lotter 10 = .ok (.getfield 17, 3) := by decide +kernel
theorem dX10_lotter_13 : decode cX10_lotter 13 = .ok (.iload_n 1, 1) := by decide +kernel
theorem dX10_lotter_14 : decode cX10_lotter 14 = .ok (.aaload, 1) := by decide +kernel
theorem dX10_lotter_15 : decode cX10_lotter 15 = .ok (.invokevirtual 85, 3) := by decide +kernel
theorem dX10_lotter_18 : decode cX10_lotter 18 = .ok (.ifCond .eq 6, 3) := by decide +kernel
theorem dX10_lotter_21 : decode cX10_lotter 21 = .ok (.bipush (-3), 2) := by decide +kernel
theorem dX10_lotter_23 : decode cX10_lotter 23 = .ok (.ireturn, 1) := by decide +kernel
theorem dX10_lotter_24 : decode cX10_lotter 24 = .ok (.aload_n 0, 1) := by decide +kernel
theorem dX10_lotter_25 : decode cX10_lotter 25 = .ok (.iload_n 1, 1) := by decide +kernel
theorem dX10_lotter_26 : decode cX10_lotter 26 = .ok (.invokevirtual 162, 3) := by decide +kernel
theorem dX10_lotter_29 : decode cX10_lotter 29 = .ok (.aload_n 0, 1) := by decide +kernel
theorem dX10_lotter_30 : decode cX10_lotter 30 = .ok (.getfield 40, 3) := by decide +kernel
theorem dX10_lotter_33 : decode cX10_lotter 33 = .ok (.invokevirtual 179, 3) := by decide +kernel
theorem dX10_lotter_36 : decode cX10_lotter 36 = .ok (.istore_n 2, 1) := by decide +kernel
theorem dX10_lotter_37 : decode cX10_lotter 37 = .ok (.iload_n 2, 1) := by decide +kernel
theorem dX10_lotter_38 : decode cX10_lotter 38 = .ok (.bipush (-2), 2) := by decide +kernel
theorem dX10_lotter_40 : decode cX10_lotter 40 = .ok (.if_icmp .ne 8, 3) := by decide +kernel
theorem dX10_lotter_43 : decode cX10_lotter 43 = .ok (.bipush (-4), 2) := by decide +kernel
theorem dX10_lotter_45 : decode cX10_lotter 45 = .ok (.goto 4, 3) := by decide +kernel
theorem dX10_lotter_48 : decode cX10_lotter 48 = .ok (.iload_n 2, 1) := by decide +kernel
theorem dX10_lotter_49 : decode cX10_lotter 49 = .ok (.ireturn, 1) := by decide +kernel
theorem dX10_ring_0 : decode cX10_ring 0 = .ok (.aload_n 0, 1) := by decide +kernel
theorem dX10_ring_1 : decode cX10_ring 1 = .ok (.getfield 173, 3) := by decide +kernel
theorem dX10_ring_4 : decode cX10_ring 4 = .ok (.ireturn, 1) := by decide +kernel
theorem dX10_day_0 : decode cX10_day 0 = .ok (.iload_n 1, 1) := by decide +kernel
theorem dX10_day_1 : decode cX10_day 1 = .ok (.aload_n 0, 1) := by decide +kernel
theorem dX10_day_2 : decode cX10_day 2 = .ok (.getfield 192, 3) := by decide +kernel
theorem dX10_day_5 : decode cX10_day 5 = .ok (.if_icmp .lt 9, 3) := by decide +kernel
theorem dX10_day_8 : decode cX10_day 8 = .ok (.iload_n 1, 1) := by decide +kernel
theorem dX10_day_9 : decode cX10_day 9 = .ok (.bipush 30, 2) := by decide +kernel
theorem dX10_day_11 : decode cX10_day 11 = .ok (.if_icmp .le 5, 3) := by decide +kernel
theorem dX10_day_14 : decode cX10_day 14 = .ok (.iconst (-1), 1) := by decide +kernel
theorem dX10_day_15 : decode cX10_day 15 = .ok (.ireturn, 1) := by decide +kernel
theorem dX10_day_16 : decode cX10_day 16 = .ok (.aload_n 0, 1) := by decide +kernel
theorem dX10_day_17 : decode cX10_day 17 = .ok (.getfield 192, 3) := by decide +kernel
theorem dX10_day_20 : decode cX10_day 20 = .ok (.istore_n 2, 1) := by decide +kernel
theorem dX10_day_21 : decode cX10_day 21 = .ok (.aload_n 0, 1) := by decide +kernel
theorem dX10_day_22 : decode cX10_day 22 = .ok (.iload_n 1, 1) := by decide +kernel
theorem dX10_day_23 : decode cX10_day 23 = .ok (.putfield 192, 3) := by decide +kernel
theorem dX10_day_26 : decode cX10_day 26 = .ok (.iload_n 2, 1) := by decide +kernel
theorem dX10_day_27 : decode cX10_day 27 = .ok (.ireturn, 1) := by decide +kernel
theorem dX10_rain_0 : decode cX10_rain 0 = .ok (.iload_n 1, 1) := by decide +kernel
theorem dX10_rain_1 : decode cX10_rain 1 = .ok (.bipush 30, 2) := by decide +kernel
theorem dX10_rain_3 : decode cX10_rain 3 = .ok (.invokestatic 81, 3) := by decide +kernel
theorem dX10_rain_6 : decode cX10_rain 6 = .ok (.ifCond .ne 5, 3) := by decide +kernel
theorem dX10_rain_9 : decode cX10_rain 9 = .ok (.iconst (-1), 1) := by decide +kernel
theorem dX10_rain_10 : decode cX10_rain 10 = .ok (.ireturn, 1) := by decide +kernel
theorem dX10_rain_11 : decode cX10_rain 11 = .ok (.aload_n 0, 1) := by decide +kernel
theorem dX10_rain_12 : decode cX10_rain 12 = .ok (.getfield 33, 3) := by decide +kernel
theorem dX10_rain_15 : decode cX10_rain 15 = .ok (.iload_n 1, 1) := by decide +kernel
theorem dX10_rain_16 : decode cX10_rain 16 = .ok (.baload, 1) := by decide +kernel
theorem dX10_rain_17 : decode cX10_rain 17 = .ok (.istore_n 3, 1) := by decide +kernel
theorem dX10_rain_18 : decode cX10_rain 18 = .ok (.aload_n 0, 1) := by decide +kernel
theorem dX10_rain_19 : decode cX10_rain 19 = .ok (.getfield 33, 3) := by decide +kernel
theorem dX10_rain_22 : decode cX10_rain 22 = .ok (.iload_n 1, 1) := by decide +kernel
theorem dX10_rain_23 : decode cX10_rain 23 = .ok (.iload_n 2, 1) := by decide +kernel
theorem dX10_rain_24 : decode cX10_rain 24 = .ok (.bastore, 1) := by decide +kernel
theorem dX10_rain_25 : decode cX10_rain 25 = .ok (.iload_n 3, 1) := by decide +kernel
theorem dX10_rain_26 : decode cX10_rain 26 = .ok (.iload_n 2, 1) := by decide +kernel
theorem dX10_rain_27 : decode cX10_rain 27 = .ok (.if_icmp .eq 7, 3) := by decide +kernel
theorem dX10_rain_30 : decode cX10_rain 30 = .ok (.iconst 1, 1) := by decide +kernel
theorem dX10_rain_31 : decode cX10_rain 31 = .ok (.goto 4, 3) := by decide +kernel
theorem dX10_rain_34 : decode cX10_rain 34 = .ok (.iconst 0, 1) := by decide +kernel
theorem dX10_rain_35 : decode cX10_rain 35 = .ok (.invokestatic 119, 3) := by decide +kernel
theorem dX10_rain_38 : decode cX10_rain 38 = .ok (.ireturn, 1) := by decide +kernel
theorem dX10_way_0 : decode cX10_way 0 = .ok (.iload_n 1, 1) := by decide +kernel
theorem dX10_way_1 : decode cX10_way 1 = .ok (.invokestatic 77, 3) := by decide +kernel
theorem dX10_way_4 : decode cX10_way 4 = .ok (.ifCond .ne 5, 3) := by decide +kernel
theorem dX10_way_7 : decode cX10_way 7 = .ok (.iconst (-1), 1) := by decide +kernel
theorem dX10_way_8 : decode cX10_way 8 = .ok (.ireturn, 1) := by decide +kernel
theorem dX10_way_9 : decode cX10_way 9 = .ok (.aload_n 0, 1) := by decide +kernel
theorem dX10_way_10 : decode cX10_way 10 = .ok (.getfield 47, 3) := by decide +kernel
theorem dX10_way_13 : decode cX10_way 13 = .ok (.aload_n 0, 1) := by decide +kernel
theorem dX10_way_14 : decode cX10_way 14 = .ok (.getfield 17, 3) := by decide +kernel
theorem dX10_way_17 : decode cX10_way 17 = .ok (.iload_n 1, 1) := by decide +kernel
theorem dX10_way_18 : decode cX10_way 18 = .ok (.invokevirtual 195, 3) := by decide +kernel
theorem dX10_way_21 : decode cX10_way 21 = .ok (.ireturn, 1) := by decide +kernel
theorem dX10_cut_0 : decode cX10_cut 0 = .ok (.iload_n 1, 1) := by decide +kernel
theorem dX10_cut_1 : decode cX10_cut 1 = .ok (.invokestatic 77, 3) := by decide +kernel
theorem dX10_cut_4 : decode cX10_cut 4 = .ok (.ifCond .ne 5, 3) := by decide +kernel
theorem dX10_cut_7 : decode cX10_cut 7 = .ok (.iconst (-1), 1) := by decide +kernel
theorem dX10_cut_8 : decode cX10_cut 8 = .ok (.ireturn, 1) := by decide +kernel
theorem dX10_cut_9 : decode cX10_cut 9 = .ok (.aload_n 0, 1) := by decide +kernel
theorem dX10_cut_10 : decode cX10_cut 10 = .ok (.getfield 17, 3) := by decide +kernel
theorem dX10_cut_13 : decode cX10_cut 13 = .ok (.iload_n 1, 1) := by decide +kernel
theorem dX10_cut_14 : decode cX10_cut 14 = .ok (.aaload, 1) := by decide +kernel
theorem dX10_cut_15 : decode cX10_cut 15 = .ok (.astore_n 2, 1) := by decide +kernel
theorem dX10_cut_16 : decode cX10_cut 16 = .ok (.aload_n 2, 1) := by decide +kernel
theorem dX10_cut_17 : decode cX10_cut 17 = .ok (.invokevirtual 142, 3) := by decide +kernel
theorem dX10_cut_20 : decode cX10_cut 20 = .ok (.ifCond .eq 14, 3) := by decide +kernel
theorem dX10_cut_23 : decode cX10_cut 23 = .ok (.aload_n 0, 1) := by decide +kernel
theorem dX10_cut_24 : decode cX10_cut 24 = .ok (.aload_n 2, 1) := by decide +kernel
theorem dX10_cut_25 : decode cX10_cut 25 = .ok (.getfield 133, 3) := by decide +kernel
theorem dX10_cut_28 : decode cX10_cut 28 = .ok (.invokevirtual 112, 3) := by decide +kernel
theorem dX10_cut_31 : decode cX10_cut 31 = .ok (.ifCond .ne 6, 3) := by decide +kernel
theorem dX10_cut_34 : decode cX10_cut 34 = .ok (.bipush (-3), 2) := by decide +kernel
theorem dX10_cut_36 : decode cX10_cut 36 = .ok (.ireturn, 1) := by decide +kernel
theorem dX10_cut_37 : decode cX10_cut 37 = .ok (.aload_n 0, 1) := by decide +kernel
theorem dX10_cut_38 : decode cX10_cut 38 = .ok (.getfield 47, 3) := by decide +kernel
theorem dX10_cut_41 : decode cX10_cut 41 = .ok (.aload_n 0, 1) := by decide +kernel
theorem dX10_cut_42 : decode cX10_cut 42 = .ok (.getfield 17, 3) := by decide +kernel
theorem dX10_cut_45 : decode cX10_cut 45 = .ok (.iload_n 1, 1) := by decide +kernel
theorem dX10_cut_46 : decode cX10_cut 46 = .ok (.invokevirtual 195, 3) := by decide +kernel
theorem dX10_cut_49 : decode cX10_cut 49 = .ok (.istore_n 3, 1) := by decide +kernel
theorem dX10_cut_50 : decode cX10_cut 50 = .ok (.aload_n 0, 1) := by decide +kernel
theorem dX10_cut_51 : decode cX10_cut 51 = .ok (.getfield 23, 3) := by decide +kernel
theorem dX10_cut_54 : decode cX10_cut 54 = .ok (.aload_n 2, 1) := by decide +kernel
theorem dX10_cut_55 : decode cX10_cut 55 = .ok (.getfield 133, 3) := by decide +kernel
theorem dX10_cut_58 : decode cX10_cut 58 = .ok (.aaload, 1) := by decide +kernel
theorem dX10_cut_59 : decode cX10_cut 59 = .ok (.dup, 1) := by decide +kernel
theorem dX10_cut_60 : decode cX10_cut 60 = .ok (.getfield 155, 3) := by decide +kernel
theorem dX10_cut_63 : decode cX10_cut 63 = .ok (.iload_n 3, 1) := by decide +kernel
theorem dX10_cut_64 : decode cX10_cut 64 = .ok (.iadd, 1) := by decide +kernel
theorem dX10_cut_65 : decode cX10_cut 65 = .ok (.putfield 155, 3) := by decide +kernel
theorem dX10_cut_68 : decode cX10_cut 68 = .ok (.aload_n 2, 1) := by decide +kernel
theorem dX10_cut_69 : decode cX10_cut 69 = .ok (.aload_n 0, 1) := by decide +kernel
theorem dX10_cut_70 : decode cX10_cut 70 = .ok (.getfield 192, 3) := by decide +kernel
theorem dX10_cut_73 : decode cX10_cut 73 = .ok (.putfield 139, 3) := by decide +kernel
theorem dX10_cut_76 : decode cX10_cut 76 = .ok (.iload_n 3, 1) := by decide +kernel
theorem dX10_cut_77 : decode cX10_cut 77 = .ok (.ireturn, 1) := by decide +kernel
theorem dX10_best_0 : decode cX10_best 0 = .ok (.aload_n 0, 1) := by decide +kernel
theorem dX10_best_1 : decode cX10_best 1 = .ok (.invokevirtual 198, 3) := by decide +kernel
theorem dX10_best_4 : decode cX10_best 4 = .ok (.bipush 6, 2) := by decide +kernel
theorem dX10_best_6 : decode cX10_best 6 = .ok (.if_icmp .le 8, 3) := by decide +kernel
theorem dX10_best_9 : decode cX10_best 9 = .ok (.bipush (-5), 2) := by decide +kernel
theorem dX10_best_11 : decode cX10_best 11 = .ok (.goto 4, 3) := by decide +kernel
theorem dX10_best_14 : decode cX10_best 14 = .ok (.iconst 0, 1) := by decide +kernel
theorem dX10_best_15 : decode cX10_best 15 = .ok (.ireturn, 1) := by decide +kernel
theorem dX10_order_0 : decode cX10_order 0 = .ok (.iload_n 1, 1) := by decide +kernel
theorem dX10_order_1 : decode cX10_order 1 = .ok (.ifCond .ge 5, 3) := by decide +kernel
theorem dX10_order_4 : decode cX10_order 4 = .ok (.iconst (-1), 1) := by decide +kernel
theorem dX10_order_5 : decode cX10_order 5 = .ok (.ireturn, 1) := by decide +kernel
theorem dX10_order_6 : decode cX10_order 6 = .ok (.aload_n 0, 1) := by decide +kernel
theorem dX10_order_7 : decode cX10_order 7 = .ok (.invokevirtual 198, 3) := by decide +kernel
theorem dX10_order_10 : decode cX10_order 10 = .ok (.istore_n 2, 1) := by decide +kernel
theorem dX10_order_11 : decode cX10_order 11 = .ok (.iload_n 2, 1) := by decide +kernel
theorem dX10_order_12 : decode cX10_order 12 = .ok (.bipush 6, 2) := by decide +kernel
theorem dX10_order_14 : decode cX10_order 14 = .ok (.if_icmp .le 6, 3) := by decide +kernel
theorem dX10_order_17 : decode cX10_order 17 = .ok (.bipush (-5), 2) := by decide +kernel
theorem dX10_order_19 : decode cX10_order 19 = .ok (.ireturn, 1) := by decide +kernel
theorem dX10_order_20 : decode cX10_order 20 = .ok (.iload_n 1, 1) := by decide +kernel
theorem dX10_order_21 : decode cX10_order 21 = .ok (.iload_n 2, 1) := by decide +kernel
theorem dX10_order_22 : decode cX10_order 22 = .ok (.if_icmp .ge 11, 3) := by decide +kernel
theorem dX10_order_25 : decode cX10_order 25 = .ok (.aload_n 0, 1) := by decide +kernel
theorem dX10_order_26 : decode cX10_order 26 = .ok (.iload_n 1, 1) := by decide +kernel
theorem dX10_order_27 : decode cX10_order 27 = .ok (.invokevirtual 201, 3) := by decide +kernel
theorem dX10_order_30 : decode cX10_order 30 = .ok (.goto 5, 3) := by decide +kernel
theorem dX10_order_33 : decode cX10_order 33 = .ok (.bipush (-3), 2) := by decide +kernel
theorem dX10_order_35 : decode cX10_order 35 = .ok (.ireturn, 1) := by decide +kernel
theorem dX10_dry_0 : decode cX10_dry 0 = .ok (.iload_n 1, 1) := by decide +kernel
theorem dX10_dry_1 : decode cX10_dry 1 = .ok (.invokestatic 77, 3) := by decide +kernel
theorem dX10_dry_4 : decode cX10_dry 4 = .ok (.ifCond .ne 5, 3) := by decide +kernel
theorem dX10_dry_7 : decode cX10_dry 7 = .ok (.iconst (-1), 1) := by decide +kernel
theorem dX10_dry_8 : decode cX10_dry 8 = .ok (.ireturn, 1) := by decide +kernel
theorem dX10_dry_9 : decode cX10_dry 9 = .ok (.aload_n 0, 1) := by decide +kernel
theorem dX10_dry_10 : decode cX10_dry 10 = .ok (.getfield 17, 3) := by decide +kernel
theorem dX10_dry_13 : decode cX10_dry 13 = .ok (.iload_n 1, 1) := by decide +kernel
theorem dX10_dry_14 : decode cX10_dry 14 = .ok (.aaload, 1) := by decide +kernel
theorem dX10_dry_15 : decode cX10_dry 15 = .ok (.invokevirtual 204, 3) := by decide +kernel
theorem dX10_dry_18 : decode cX10_dry 18 = .ok (.ifCond .ne 6, 3) := by decide +kernel
theorem dX10_dry_21 : decode cX10_dry 21 = .ok (.bipush (-3), 2) := by decide +kernel
theorem dX10_dry_23 : decode cX10_dry 23 = .ok (.ireturn, 1) := by decide +kernel
theorem dX10_dry_24 : decode cX10_dry 24 = .ok (.aload_n 0, 1) := by decide +kernel
theorem dX10_dry_25 : decode cX10_dry 25 = .ok (.aload_n 0, 1) := by decide +kernel
theorem dX10_dry_26 : decode cX10_dry 26 = .ok (.getfield 17, 3) := by decide +kernel
theorem dX10_dry_29 : decode cX10_dry 29 = .ok (.iload_n 1, 1) := by decide +kernel
theorem dX10_dry_30 : decode cX10_dry 30 = .ok (.aaload, 1) := by decide +kernel
theorem dX10_dry_31 : decode cX10_dry 31 = .ok (.invokevirtual 207, 3) := by decide +kernel
theorem dX10_dry_34 : decode cX10_dry 34 = .ok (.ireturn, 1) := by decide +kernel
theorem dX10_barn_0 : decode cX10_barn 0 = .ok (.iload_n 1, 1) := by decide +kernel
theorem dX10_barn_1 : decode cX10_barn 1 = .ok (.invokestatic 77, 3) := by decide +kernel
theorem dX10_barn_4 : decode cX10_barn 4 = .ok (.ifCond .ne 5, 3) := by decide +kernel
theorem dX10_barn_7 : decode cX10_barn 7 = .ok (.iconst (-1), 1) := by decide +kernel
theorem dX10_barn_8 : decode cX10_barn 8 = .ok (.ireturn, 1) := by decide +kernel
theorem dX10_barn_9 : decode cX10_barn 9 = .ok (.aload_n 0, 1) := by decide +kernel
theorem dX10_barn_10 : decode cX10_barn 10 = .ok (.getfield 17, 3) := by decide +kernel
theorem dX10_barn_13 : decode cX10_barn 13 = .ok (.iload_n 1, 1) := by decide +kernel
theorem dX10_barn_14 : decode cX10_barn 14 = .ok (.aaload, 1) := by decide +kernel
theorem dX10_barn_15 : decode cX10_barn 15 = .ok (.invokevirtual 204, 3) := by decide +kernel
theorem dX10_barn_18 : decode cX10_barn 18 = .ok (.ifCond .ne 6, 3) := by decide +kernel
theorem dX10_barn_21 : decode cX10_barn 21 = .ok (.bipush (-3), 2) := by decide +kernel
theorem dX10_barn_23 : decode cX10_barn 23 = .ok (.ireturn, 1) := by decide +kernel
theorem dX10_barn_24 : decode cX10_barn 24 = .ok (.aload_n 0, 1) := by decide +kernel
theorem dX10_barn_25 : decode cX10_barn 25 = .ok (.aload_n 0, 1) := by decide +kernel
theorem dX10_barn_26 : decode cX10_barn 26 = .ok (.getfield 17, 3) := by decide +kernel
theorem dX10_barn_29 : decode cX10_barn 29 = .ok (.iload_n 1, 1) := by decide +kernel
theorem dX10_barn_30 : decode cX10_barn 30 = .ok (.aaload, 1) := by decide +kernel
theorem dX10_barn_31 : decode cX10_barn 31 = .ok (.invokevirtual 211, 3) := by decide +kernel
theorem dX10_barn_34 : decode cX10_barn 34 = .ok (.ireturn, 1) := by decide +kernel
theorem dX10_tithe_0 : decode cX10_tithe 0 = .ok (.aload_n 0, 1) := by decide +kernel
theorem dX10_tithe_1 : decode cX10_tithe 1 = .ok (.iload_n 1, 1) := by decide +kernel
theorem dX10_tithe_2 : decode cX10_tithe 2 = .ok (.invokevirtual 112, 3) := by decide +kernel
theorem dX10_tithe_5 : decode cX10_tithe 5 = .ok (.ifCond .ne 5, 3) := by decide +kernel
theorem dX10_tithe_8 : decode cX10_tithe 8 = .ok (.iconst (-1), 1) := by decide +kernel
theorem dX10_tithe_9 : decode cX10_tithe 9 = .ok (.ireturn, 1) := by decide +kernel
theorem dX10_tithe_10 : decode cX10_tithe 10 = .ok (.iconst 0, 1) := by decide +kernel
theorem dX10_tithe_11 : decode cX10_tithe 11 = .ok (.istore_n 2, 1) := by decide +kernel
theorem dX10_tithe_12 : decode cX10_tithe 12 = .ok (.iconst 0, 1) := by decide +kernel
theorem dX10_tithe_13 : decode cX10_tithe 13 = .ok (.istore_n 3, 1) := by decide +kernel
theorem dX10_tithe_14 : decode cX10_tithe 14 = .ok (.iload_n 3, 1) := by decide +kernel
theorem dX10_tithe_15 : decode cX10_tithe 15 = .ok (.bipush 24, 2) := by decide +kernel
theorem dX10_tithe_17 : decode cX10_tithe 17 = .ok (.if_icmp .ge 47, 3) := by decide +kernel
theorem dX10_tithe_20 : decode cX10_tithe 20 = .ok (.aload_n 0, 1) := by decide +kernel
theorem dX10_tithe_21 : decode cX10_tithe 21 = .ok (.getfield 17, 3) := by decide +kernel
theorem dX10_tithe_24 : decode cX10_tithe 24 = .ok (.iload_n 3, 1) := by decide +kernel
theorem dX10_tithe_25 : decode cX10_tithe 25 = .ok (.aaload, 1) := by decide +kernel
theorem dX10_tithe_26 : decode cX10_tithe 26 = .ok (.getfield 133, 3) := by decide +kernel
theorem dX10_tithe_29 : decode cX10_tithe 29 = .ok (.iload_n 1, 1) := by decide +kernel
theorem dX10_tithe_30 : decode cX10_tithe 30 = .ok (.if_icmp .ne 28, 3) := by decide +kernel
theorem dX10_tithe_33 : decode cX10_tithe 33 = .ok (.aload_n 0, 1) := by decide +kernel
theorem dX10_tithe_34 : decode cX10_tithe 34 = .ok (.getfield 17, 3) := by decide +kernel
theorem dX10_tithe_37 : decode cX10_tithe 37 = .ok (.iload_n 3, 1) := by decide +kernel
theorem dX10_tithe_38 : decode cX10_tithe 38 = .ok (.aaload, 1) := by decide +kernel
theorem dX10_tithe_39 : decode cX10_tithe 39 = .ok (.invokevirtual 204, 3) := by decide +kernel
theorem dX10_tithe_42 : decode cX10_tithe 42 = .ok (.ifCond .eq 16, 3) := by decide +kernel
theorem dX10_tithe_45 : decode cX10_tithe 45 = .ok (.iload_n 2, 1) := by decide +kernel
theorem dX10_tithe_46 : decode cX10_tithe 46 = .ok (.aload_n 0, 1) := by decide +kernel
theorem dX10_tithe_47 : decode cX10_tithe 47 = .ok (.aload_n 0, 1) := by decide +kernel
theorem dX10_tithe_48 : decode cX10_tithe 48 = .ok (.getfield 17, 3) := by decide +kernel
theorem dX10_tithe_51 : decode cX10_tithe 51 = .ok (.iload_n 3, 1) := by decide +kernel
theorem dX10_tithe_52 : decode cX10_tithe 52 = .ok (.aaload, 1) := by decide +kernel
theorem dX10_tithe_53 : decode cX10_tithe 53 = .ok (.invokevirtual 211, 3) := by decide +kernel
theorem dX10_tithe_56 : decode cX10_tithe 56 = .ok (.iadd, 1) := by decide +kernel
theorem dX10_tithe_57 : decode cX10_tithe 57 = .ok (.istore_n 2, 1) := by decide +kernel
theorem dX10_tithe_58 : decode cX10_tithe 58 = .ok (.iinc 3 1, 3) := by decide +kernel
theorem dX10_tithe_61 : decode cX10_tithe 61 = .ok (.goto (-47), 3) := by decide +kernel
theorem dX10_tithe_64 : decode cX10_tithe 64 = .ok (.iload_n 2, 1) := by decide +kernel
theorem dX10_tithe_65 : decode cX10_tithe 65 = .ok (.bipush 10, 2) := by decide +kernel
theorem dX10_tithe_67 : decode cX10_tithe 67 = .ok (.idiv, 1) := by decide +kernel
theorem dX10_tithe_68 : decode cX10_tithe 68 = .ok (.ireturn, 1) := by decide +kernel
theorem dX10_pays_0 : decode cX10_pays 0 = .ok (.aload_n 0, 1) := by decide +kernel
theorem dX10_pays_1 : decode cX10_pays 1 = .ok (.iload_n 1, 1) := by decide +kernel
theorem dX10_pays_2 : decode cX10_pays 2 = .ok (.invokevirtual 112, 3) := by decide +kernel
theorem dX10_pays_5 : decode cX10_pays 5 = .ok (.ifCond .ne 5, 3) := by decide +kernel
theorem dX10_pays_8 : decode cX10_pays 8 = .ok (.iconst (-1), 1) := by decide +kernel
theorem dX10_pays_9 : decode cX10_pays 9 = .ok (.ireturn, 1) := by decide +kernel
theorem dX10_pays_10 : decode cX10_pays 10 = .ok (.aload_n 0, 1) := by decide +kernel
theorem dX10_pays_11 : decode cX10_pays 11 = .ok (.getfield 54, 3) := by decide +kernel
theorem dX10_pays_14 : decode cX10_pays 14 = .ok (.aload_n 0, 1) := by decide +kernel
theorem dX10_pays_15 : decode cX10_pays 15 = .ok (.getfield 23, 3) := by decide +kernel
theorem dX10_pays_18 : decode cX10_pays 18 = .ok (.aload_n 0, 1) := by decide +kernel
theorem dX10_pays_19 : decode cX10_pays 19 = .ok (.getfield 100, 3) := by decide +kernel
theorem dX10_pays_22 : decode cX10_pays 22 = .ok (.invokevirtual 214, 3) := by decide +kernel
theorem dX10_pays_25 : decode cX10_pays 25 = .ok (.aload_n 0, 1) := by decide +kernel
theorem dX10_pays_26 : decode cX10_pays 26 = .ok (.getfield 23, 3) := by decide +kernel
theorem dX10_pays_29 : decode cX10_pays 29 = .ok (.iload_n 1, 1) := by decide +kernel
theorem dX10_pays_30 : decode cX10_pays 30 = .ok (.aaload, 1) := by decide +kernel
theorem dX10_pays_31 : decode cX10_pays 31 = .ok (.invokevirtual 218, 3) := by decide +kernel
theorem dX10_pays_34 : decode cX10_pays 34 = .ok (.istore_n 3, 1) := by decide +kernel
theorem dX10_pays_35 : decode cX10_pays 35 = .ok (.aload_n 0, 1) := by decide +kernel
theorem dX10_pays_36 : decode cX10_pays 36 = .ok (.getfield 54, 3) := by decide +kernel
theorem dX10_pays_39 : decode cX10_pays 39 = .ok (.getfield 221, 3) := by decide +kernel
theorem dX10_pays_42 : decode cX10_pays 42 = .ok (.iload_n 1, 1) := by decide +kernel
theorem dX10_pays_43 : decode cX10_pays 43 = .ok (.iaload, 1) := by decide +kernel
theorem dX10_pays_44 : decode cX10_pays 44 = .ok (.istore 4, 2) := by decide +kernel
theorem dX10_pays_46 : decode cX10_pays 46 = .ok (.aload_n 0, 1) := by decide +kernel
theorem dX10_pays_47 : decode cX10_pays 47 = .ok (.getfield 54, 3) := by decide +kernel
theorem dX10_pays_50 : decode cX10_pays 50 = .ok (.getfield 225, 3) := by decide +kernel
theorem dX10_pays_53 : decode cX10_pays 53 = .ok (.iload_n 1, 1) := by decide +kernel
theorem dX10_pays_54 : decode cX10_pays 54 = .ok (.iaload, 1) := by decide +kernel
theorem dX10_pays_55 : decode cX10_pays 55 = .ok (.istore 5, 2) := by decide +kernel
theorem dX10_pays_57 : decode cX10_pays 57 = .ok (.iload_n 2, 1) := by decide +kernel
theorem dX10_pays_58 : decode cX10_pays 58 = .ok (.tableswitch 46 0 3 #[30, 32, 35, 38], 30) := by decide +kernel
theorem dX10_pays_88 : decode cX10_pays 88 = .ok (.iload_n 3, 1) := by decide +kernel
theorem dX10_pays_89 : decode cX10_pays 89 = .ok (.ireturn, 1) := by decide +kernel
theorem dX10_pays_90 : decode cX10_pays 90 = .ok (.iload 4, 2) := by decide +kernel
theorem dX10_pays_92 : decode cX10_pays 92 = .ok (.ireturn, 1) := by decide +kernel
theorem dX10_pays_93 : decode cX10_pays 93 = .ok (.iload 5, 2) := by decide +kernel
theorem dX10_pays_95 : decode cX10_pays 95 = .ok (.ireturn, 1) := by decide +kernel
theorem dX10_pays_96 : decode cX10_pays 96 = .ok (.iload_n 3, 1) := by decide +kernel
theorem dX10_pays_97 : decode cX10_pays 97 = .ok (.iload 4, 2) := by decide +kernel
theorem dX10_pays_99 : decode cX10_pays 99 = .ok (.isub, 1) := by decide +kernel
theorem dX10_pays_100 : decode cX10_pays 100 = .ok (.iload 5, 2) := by decide +kernel
theorem dX10_pays_102 : decode cX10_pays 102 = .ok (.isub, 1) := by decide +kernel
theorem dX10_pays_103 : decode cX10_pays 103 = .ok (.ireturn, 1) := by decide +kernel
theorem dX10_pays_104 : decode cX10_pays 104 = .ok (.iconst (-1), 1) := by decide +kernel
theorem dX10_pays_105 : decode cX10_pays 105 = .ok (.ireturn, 1) := by decide +kernel
theorem dX10_count_0 : decode cX10_count 0 = .ok (.iload_n 1, 1) := by decide +kernel
theorem dX10_count_1 : decode cX10_count 1 = .ok (.tableswitch 78 0 6 #[43, 48, 53, 58, 63, 68, 73], 43) := by decide +kernel
theorem dX10_count_44 : decode cX10_count 44 = .ok (.aload_n 0, 1) := by decide +kernel
theorem dX10_count_45 : decode cX10_count 45 = .ok (.getfield 100, 3) := by decide +kernel
theorem dX10_count_48 : decode cX10_count 48 = .ok (.ireturn, 1) := by decide +kernel
theorem dX10_count_49 : decode cX10_count 49 = .ok (.aload_n 0, 1) := by decide +kernel
theorem dX10_count_50 : decode cX10_count 50 = .ok (.invokevirtual 228, 3) := by decide +kernel
theorem dX10_count_53 : decode cX10_count 53 = .ok (.ireturn, 1) := by decide +kernel
theorem dX10_count_54 : decode cX10_count 54 = .ok (.aload_n 0, 1) := by decide +kernel
theorem dX10_count_55 : decode cX10_count 55 = .ok (.invokevirtual 198, 3) := by decide +kernel
theorem dX10_count_58 : decode cX10_count 58 = .ok (.ireturn, 1) := by decide +kernel
theorem dX10_count_59 : decode cX10_count 59 = .ok (.aload_n 0, 1) := by decide +kernel
theorem dX10_count_60 : decode cX10_count 60 = .ok (.getfield 192, 3) := by decide +kernel
theorem dX10_count_63 : decode cX10_count 63 = .ok (.ireturn, 1) := by decide +kernel
theorem dX10_count_64 : decode cX10_count 64 = .ok (.aload_n 0, 1) := by decide +kernel
theorem dX10_count_65 : decode cX10_count 65 = .ok (.getfield 58, 3) := by decide +kernel
theorem dX10_count_68 : decode cX10_count 68 = .ok (.ireturn, 1) := by decide +kernel
theorem dX10_count_69 : decode cX10_count 69 = .ok (.aload_n 0, 1) := by decide +kernel
theorem dX10_count_70 : decode cX10_count 70 = .ok (.invokevirtual 231, 3) := by decide +kernel
theorem dX10_count_73 : decode cX10_count 73 = .ok (.ireturn, 1) := by decide +kernel
theorem dX10_count_74 : decode cX10_count 74 = .ok (.aload_n 0, 1) := by decide +kernel
theorem dX10_count_75 : decode cX10_count 75 = .ok (.invokevirtual 234, 3) := by decide +kernel
theorem dX10_count_78 : decode cX10_count 78 = .ok (.ireturn, 1) := by decide +kernel
theorem dX10_count_79 : decode cX10_count 79 = .ok (.iconst (-1), 1) := by decide +kernel
theorem dX10_count_80 : decode cX10_count 80 = .ok (.ireturn, 1) := by decide +kernel
theorem dX10_keep_0 : decode cX10_keep 0 = .ok (.iload_n 1, 1) := by decide +kernel
theorem dX10_keep_1 : decode cX10_keep 1 = .ok (.invokestatic 237, 3) := by decide +kernel
theorem dX10_keep_4 : decode cX10_keep 4 = .ok (.ifCond .ne 5, 3) := by decide +kernel
theorem dX10_keep_7 : decode cX10_keep 7 = .ok (.iconst (-1), 1) := by decide +kernel
theorem dX10_keep_8 : decode cX10_keep 8 = .ok (.ireturn, 1) := by decide +kernel
theorem dX10_keep_9 : decode cX10_keep 9 = .ok (.iload_n 2, 1) := by decide +kernel
theorem dX10_keep_10 : decode cX10_keep 10 = .ok (.tableswitch 81 0 4 #[34, 46, 81, 58, 70], 34) := by decide +kernel
theorem dX10_keep_44 : decode cX10_keep 44 = .ok (.aload_n 0, 1) := by decide +kernel
theorem dX10_keep_45 : decode cX10_keep 45 = .ok (.getfield 29, 3) := by decide +kernel
theorem dX10_keep_48 : decode cX10_keep 48 = .ok (.iload_n 1, 1) := by decide +kernel
theorem dX10_keep_49 : decode cX10_keep 49 = .ok (.aaload, 1) := by decide +kernel
theorem dX10_keep_50 : decode cX10_keep 50 = .ok (.iconst 0, 1) := by decide +kernel
theorem dX10_keep_51 : decode cX10_keep 51 = .ok (.putfield 240, 3) := by decide +kernel
theorem dX10_keep_54 : decode cX10_keep 54 = .ok (.iconst 0, 1) := by decide +kernel
theorem dX10_keep_55 : decode cX10_keep 55 = .ok (.ireturn, 1) := by decide +kernel
theorem dX10_keep_56 : decode cX10_keep 56 = .ok (.aload_n 0, 1) := by decide +kernel
theorem dX10_keep_57 : decode cX10_keep 57 = .ok (.aload_n 0, 1) := by decide +kernel
theorem dX10_keep_58 : decode cX10_keep 58 = .ok (.getfield 29, 3) := by decide +kernel
theorem dX10_keep_61 : decode cX10_keep 61 = .ok (.iload_n 1, 1) := by decide +kernel
theorem dX10_keep_62 : decode cX10_keep 62 = .ok (.aaload, 1) := by decide +kernel
theorem dX10_keep_63 : decode cX10_keep 63 = .ok (.iload_n 3, 1) := by decide +kernel
theorem dX10_keep_64 : decode cX10_keep 64 = .ok (.invokevirtual 243, 3) := by decide +kernel
theorem dX10_keep_67 : decode cX10_keep 67 = .ok (.ireturn, 1) := by decide +kernel
theorem dX10_keep_68 : decode cX10_keep 68 = .ok (.aload_n 0, 1) := by decide +kernel
theorem dX10_keep_69 : decode cX10_keep 69 = .ok (.aload_n 0, 1) := by decide +kernel
theorem dX10_keep_70 : decode cX10_keep 70 = .ok (.getfield 29, 3) := by decide +kernel
theorem dX10_keep_73 : decode cX10_keep 73 = .ok (.iload_n 1, 1) := by decide +kernel
theorem dX10_keep_74 : decode cX10_keep 74 = .ok (.aaload, 1) := by decide +kernel
theorem dX10_keep_75 : decode cX10_keep 75 = .ok (.iload_n 3, 1) := by decide +kernel
theorem dX10_keep_76 : decode cX10_keep 76 = .ok (.invokevirtual 247, 3) := by decide +kernel
theorem dX10_keep_79 : decode cX10_keep 79 = .ok (.ireturn, 1) := by decide +kernel
theorem dX10_keep_80 : decode cX10_keep 80 = .ok (.aload_n 0, 1) := by decide +kernel
theorem dX10_keep_81 : decode cX10_keep 81 = .ok (.aload_n 0, 1) := by decide +kernel
theorem dX10_keep_82 : decode cX10_keep 82 = .ok (.getfield 29, 3) := by decide +kernel
theorem dX10_keep_85 : decode cX10_keep 85 = .ok (.iload_n 1, 1) := by decide +kernel
theorem dX10_keep_86 : decode cX10_keep 86 = .ok (.aaload, 1) := by decide +kernel
theorem dX10_keep_87 : decode cX10_keep 87 = .ok (.invokevirtual 250, 3) := by decide +kernel
theorem dX10_keep_90 : decode cX10_keep 90 = .ok (.ireturn, 1) := by decide +kernel
theorem dX10_keep_91 : decode cX10_keep 91 = .ok (.iconst (-1), 1) := by decide +kernel
theorem dX10_keep_92 : decode cX10_keep 92 = .ok (.ireturn, 1) := by decide +kernel
theorem dX10_make_0 : decode cX10_make 0 = .ok (.iload_n 1, 1) := by decide +kernel
theorem dX10_make_1 : decode cX10_make 1 = .ok (.invokestatic 237, 3) := by decide +kernel
theorem dX10_make_4 : decode cX10_make 4 = .ok (.ifCond .eq 19, 3) := by decide +kernel
theorem dX10_make_7 : decode cX10_make 7 = .ok (.iload_n 2, 1) := by decide +kernel
theorem dX10_make_8 : decode cX10_make 8 = .ok (.iconst 3, 1) := by decide +kernel
theorem dX10_make_9 : decode cX10_make 9 = .ok (.if_icmp .eq 8, 3) := by decide +kernel
theorem dX10_make_12 : decode cX10_make 12 = .ok (.iload_n 2, 1) := by decide +kernel
theorem dX10_make_13 : decode cX10_make 13 = .ok (.iconst 4, 1) := by decide +kernel
theorem dX10_make_14 : decode cX10_make 14 = .ok (.if_icmp .ne 9, 3) := by decide +kernel
theorem dX10_make_17 : decode cX10_make 17 = .ok (.iload_n 3, 1) := by decide +kernel
theorem dX10_make_18 : decode cX10_make 18 = .ok (.bipush 60, 2) := by decide +kernel
theorem dX10_make_20 : decode cX10_make 20 = .ok (.if_icmp .le 5, 3) := by decide +kernel
theorem dX10_make_23 : decode cX10_make 23 = .ok (.iconst (-1), 1) := by decide +kernel
theorem dX10_make_24 : decode cX10_make 24 = .ok (.ireturn, 1) := by decide +kernel
theorem dX10_make_25 : decode cX10_make 25 = .ok (.iload_n 3, 1) := by decide +kernel
theorem dX10_make_26 : decode cX10_make 26 = .ok (.ifCond .ge 6, 3) := by decide +kernel
theorem dX10_make_29 : decode cX10_make 29 = .ok (.bipush (-14), 2) := by decide +kernel
theorem dX10_make_31 : decode cX10_make 31 = .ok (.ireturn, 1) := by decide +kernel
theorem dX10_make_32 : decode cX10_make 32 = .ok (.aload_n 0, 1) := by decide +kernel
theorem dX10_make_33 : decode cX10_make 33 = .ok (.getfield 29, 3) := by decide +kernel
theorem dX10_make_36 : decode cX10_make 36 = .ok (.iload_n 1, 1) := by decide +kernel
theorem dX10_make_37 : decode cX10_make 37 = .ok (.aaload, 1) := by decide +kernel
theorem dX10_make_38 : decode cX10_make 38 = .ok (.iload_n 2, 1) := by decide +kernel
theorem dX10_make_39 : decode cX10_make 39 = .ok (.iload_n 3, 1) := by decide +kernel
theorem dX10_make_40 : decode cX10_make 40 = .ok (.invokevirtual 254, 3) := by decide +kernel
theorem dX10_make_43 : decode cX10_make 43 = .ok (.iconst 0, 1) := by decide +kernel
theorem dX10_make_44 : decode cX10_make 44 = .ok (.ireturn, 1) := by decide +kernel
theorem dX10_element_0 : decode cX10_element 0 = .ok (.iload_n 1, 1) := by decide +kernel
theorem dX10_element_1 : decode cX10_element 1 = .ok (.invokestatic 237, 3) := by decide +kernel
theorem dX10_element_4 : decode cX10_element 4 = .ok (.ifCond .ne 14, 3) := by decide +kernel
theorem dX10_element_7 : decode cX10_element 7 = .ok (.new 257, 3) := by decide +kernel
theorem dX10_element_10 : decode cX10_element 10 = .ok (.dup, 1) := by decide +kernel
theorem dX10_element_11 : decode cX10_element 11 = .ok (.ldc_w 259, 3) := by decide +kernel
theorem dX10_element_14 : decode cX10_element 14 = .ok (.invokespecial 261, 3) := by decide +kernel
theorem dX10_element_17 : decode cX10_element 17 = .ok (.athrow, 1) := by decide +kernel
theorem dX10_element_18 : decode cX10_element 18 = .ok (.aload_n 0, 1) := by decide +kernel
theorem dX10_element_19 : decode cX10_element 19 = .ok (.getfield 29, 3) := by decide +kernel
theorem dX10_element_22 : decode cX10_element 22 = .ok (.iload_n 1, 1) := by decide +kernel
theorem dX10_element_23 : decode cX10_element 23 = .ok (.aaload, 1) := by decide +kernel
theorem dX10_element_24 : decode cX10_element 24 = .ok (.astore_n 3, 1) := by decide +kernel
theorem dX10_element_25 : decode cX10_element 25 = .ok (.aload_n 3, 1) := by decide +kernel
theorem dX10_element_26 : decode cX10_element 26 = .ok (.invokevirtual 264, 3) := by decide +kernel
theorem dX10_element_29 : decode cX10_element 29 = .ok (.ifCond .ne 14, 3) := by decide +kernel
theorem dX10_element_32 : decode cX10_element 32 = .ok (.new 267, 3) := by decide +kernel
theorem dX10_element_35 : decode cX10_element 35 = .ok (.dup, 1) := by decide +kernel
theorem dX10_element_36 : decode cX10_element 36 = .ok (.ldc_w 269, 3) := by decide +kernel
theorem dX10_element_39 : decode cX10_element 39 = .ok (.invokespecial 271, 3) := by decide +kernel
theorem dX10_element_42 : decode cX10_element 42 = .ok (.athrow, 1) := by decide +kernel
theorem dX10_element_43 : decode cX10_element 43 = .ok (.iload_n 2, 1) := by decide +kernel
theorem dX10_element_44 : decode cX10_element 44 = .ok (.ifCond .lt 11, 3) := by decide +kernel
theorem dX10_element_47 : decode cX10_element 47 = .ok (.iload_n 2, 1) := by decide +kernel
theorem dX10_element_48 : decode cX10_element 48 = .ok (.aload_n 3, 1) := by decide +kernel
theorem dX10_element_49 : decode cX10_element 49 = .ok (.getfield 272, 3) := by decide +kernel
theorem dX10_element_52 : decode cX10_element 52 = .ok (.if_icmp .lt 14, 3) := by decide +kernel
theorem dX10_element_55 : decode cX10_element 55 = .ok (.new 267, 3) := by decide +kernel
theorem dX10_element_58 : decode cX10_element 58 = .ok (.dup, 1) := by decide +kernel
theorem dX10_element_59 : decode cX10_element 59 = .ok (.ldc_w 275, 3) := by decide +kernel
theorem dX10_element_62 : decode cX10_element 62 = .ok (.invokespecial 271, 3) := by decide +kernel
theorem dX10_element_65 : decode cX10_element 65 = .ok (.athrow, 1) := by decide +kernel
theorem dX10_element_66 : decode cX10_element 66 = .ok (.aload_n 3, 1) := by decide +kernel
theorem dX10_element_67 : decode cX10_element 67 = .ok (.getfield 240, 3) := by decide +kernel
theorem dX10_element_70 : decode cX10_element 70 = .ok (.iconst 3, 1) := by decide +kernel
theorem dX10_element_71 : decode cX10_element 71 = .ok (.if_icmp .ne 13, 3) := by decide +kernel
theorem dX10_element_74 : decode cX10_element 74 = .ok (.aload_n 3, 1) := by decide +kernel
theorem dX10_element_75 : decode cX10_element 75 = .ok (.getfield 277, 3) := by decide +kernel
theorem dX10_element_78 : decode cX10_element 78 = .ok (.iload_n 2, 1) := by decide +kernel
theorem dX10_element_79 : decode cX10_element 79 = .ok (.iaload, 1) := by decide +kernel
theorem dX10_element_80 : decode cX10_element 80 = .ok (.i2l, 1) := by decide +kernel
theorem dX10_element_81 : decode cX10_element 81 = .ok (.goto 10, 3) := by decide +kernel
theorem dX10_element_84 : decode cX10_element 84 = .ok (.aload_n 3, 1) := by decide +kernel
theorem dX10_element_85 : decode cX10_element 85 = .ok (.getfield 280, 3) := by decide +kernel
theorem dX10_element_88 : decode cX10_element 88 = .ok (.iload_n 2, 1) := by decide +kernel
theorem dX10_element_89 : decode cX10_element 89 = .ok (.baload, 1) := by decide +kernel
theorem dX10_element_90 : decode cX10_element 90 = .ok (.i2l, 1) := by decide +kernel
theorem dX10_element_91 : decode cX10_element 91 = .ok (.lreturn, 1) := by decide +kernel
theorem dX10_copy_0 : decode cX10_copy 0 = .ok (.iload_n 1, 1) := by decide +kernel
theorem dX10_copy_1 : decode cX10_copy 1 = .ok (.invokestatic 237, 3) := by decide +kernel
theorem dX10_copy_4 : decode cX10_copy 4 = .ok (.ifCond .eq 10, 3) := by decide +kernel
theorem dX10_copy_7 : decode cX10_copy 7 = .ok (.iload_n 3, 1) := by decide +kernel
theorem dX10_copy_8 : decode cX10_copy 8 = .ok (.invokestatic 237, 3) := by decide +kernel
theorem dX10_copy_11 : decode cX10_copy 11 = .ok (.ifCond .ne 5, 3) := by decide +kernel
theorem dX10_copy_14 : decode cX10_copy 14 = .ok (.iconst (-1), 1) := by decide +kernel
theorem dX10_copy_15 : decode cX10_copy 15 = .ok (.ireturn, 1) := by decide +kernel
theorem dX10_copy_16 : decode cX10_copy 16 = .ok (.aload_n 0, 1) := by decide +kernel
theorem dX10_copy_17 : decode cX10_copy 17 = .ok (.getfield 29, 3) := by decide +kernel
theorem dX10_copy_20 : decode cX10_copy 20 = .ok (.iload_n 1, 1) := by decide +kernel
theorem dX10_copy_21 : decode cX10_copy 21 = .ok (.aaload, 1) := by decide +kernel
theorem dX10_copy_22 : decode cX10_copy 22 = .ok (.astore 6, 2) := by decide +kernel
theorem dX10_copy_24 : decode cX10_copy 24 = .ok (.aload_n 0, 1) := by decide +kernel
theorem dX10_copy_25 : decode cX10_copy 25 = .ok (.getfield 29, 3) := by decide +kernel
theorem dX10_copy_28 : decode cX10_copy 28 = .ok (.iload_n 3, 1) := by decide +kernel
theorem dX10_copy_29 : decode cX10_copy 29 = .ok (.aaload, 1) := by decide +kernel
theorem dX10_copy_30 : decode cX10_copy 30 = .ok (.astore 7, 2) := by decide +kernel
theorem dX10_copy_32 : decode cX10_copy 32 = .ok (.aload 6, 2) := by decide +kernel
theorem dX10_copy_34 : decode cX10_copy 34 = .ok (.getfield 240, 3) := by decide +kernel
theorem dX10_copy_37 : decode cX10_copy 37 = .ok (.ifCond .eq 11, 3) := by decide +kernel
theorem dX10_copy_40 : decode cX10_copy 40 = .ok (.aload 7, 2) := by decide +kernel
theorem dX10_copy_42 : decode cX10_copy 42 = .ok (.getfield 240, 3) := by decide +kernel
theorem dX10_copy_45 : decode cX10_copy 45 = .ok (.ifCond .ne 6, 3) := by decide +kernel
theorem dX10_copy_48 : decode cX10_copy 48 = .ok (.bipush (-11), 2) := by decide +kernel
theorem dX10_copy_50 : decode cX10_copy 50 = .ok (.ireturn, 1) := by decide +kernel
theorem dX10_copy_51 : decode cX10_copy 51 = .ok (.aload 6, 2) := by decide +kernel
theorem dX10_copy_53 : decode cX10_copy 53 = .ok (.invokevirtual 264, 3) := by decide +kernel
theorem dX10_copy_56 : decode cX10_copy 56 = .ok (.ifCond .eq 16, 3) := by decide +kernel
theorem dX10_copy_59 : decode cX10_copy 59 = .ok (.aload 6, 2) := by decide +kernel
theorem dX10_copy_61 : decode cX10_copy 61 = .ok (.getfield 240, 3) := by decide +kernel
theorem dX10_copy_64 : decode cX10_copy 64 = .ok (.aload 7, 2) := by decide +kernel
theorem dX10_copy_66 : decode cX10_copy 66 = .ok (.getfield 240, 3) := by decide +kernel
theorem dX10_copy_69 : decode cX10_copy 69 = .ok (.if_icmp .eq 6, 3) := by decide +kernel
theorem dX10_copy_72 : decode cX10_copy 72 = .ok (.bipush (-12), 2) := by decide +kernel
theorem dX10_copy_74 : decode cX10_copy 74 = .ok (.ireturn, 1) := by decide +kernel
theorem dX10_copy_75 : decode cX10_copy 75 = .ok (.aload 6, 2) := by decide +kernel
theorem dX10_copy_77 : decode cX10_copy 77 = .ok (.iload_n 2, 1) := by decide +kernel
theorem dX10_copy_78 : decode cX10_copy 78 = .ok (.iload 5, 2) := by decide +kernel
theorem dX10_copy_80 : decode cX10_copy 80 = .ok (.invokevirtual 284, 3) := by decide +kernel
theorem dX10_copy_83 : decode cX10_copy 83 = .ok (.ifCond .eq 15, 3) := by decide +kernel
theorem dX10_copy_86 : decode cX10_copy 86 = .ok (.aload 7, 2) := by decide +kernel
theorem dX10_copy_88 : decode cX10_copy 88 = .ok (.iload 4, 2) := by decide +kernel
theorem dX10_copy_90 : decode cX10_copy 90 = .ok (.iload 5, 2) := by decide +kernel
theorem dX10_copy_92 : decode cX10_copy 92 = .ok (.invokevirtual 284, 3) := by decide +kernel
theorem dX10_copy_95 : decode cX10_copy 95 = .ok (.ifCond .ne 6, 3) := by decide +kernel
theorem dX10_copy_98 : decode cX10_copy 98 = .ok (.bipush (-13), 2) := by decide +kernel
theorem dX10_copy_100 : decode cX10_copy 100 = .ok (.ireturn, 1) := by decide +kernel
theorem dX10_copy_101 : decode cX10_copy 101 = .ok (.aload 6, 2) := by decide +kernel
theorem dX10_copy_103 : decode cX10_copy 103 = .ok (.getfield 240, 3) := by decide +kernel
theorem dX10_copy_106 : decode cX10_copy 106 = .ok (.iconst 3, 1) := by decide +kernel
theorem dX10_copy_107 : decode cX10_copy 107 = .ok (.if_icmp .ne 24, 3) := by decide +kernel
theorem dX10_copy_110 : decode cX10_copy 110 = .ok (.aload 6, 2) := by decide +kernel
theorem dX10_copy_112 : decode cX10_copy 112 = .ok (.getfield 277, 3) := by decide +kernel
theorem dX10_copy_115 : decode cX10_copy 115 = .ok (.iload_n 2, 1) := by decide +kernel
theorem dX10_copy_116 : decode cX10_copy 116 = .ok (.aload 7, 2) := by decide +kernel
theorem dX10_copy_118 : decode cX10_copy 118 = .ok (.getfield 277, 3) := by decide +kernel
theorem dX10_copy_121 : decode cX10_copy 121 = .ok (.iload 4, 2) := by decide +kernel
theorem dX10_copy_123 : decode cX10_copy 123 = .ok (.iload 5, 2) := by decide +kernel
theorem dX10_copy_125 : decode cX10_copy 125 = .ok (.invokestatic 287, 3) := by decide +kernel
theorem dX10_copy_128 : decode cX10_copy 128 = .ok (.goto 21, 3) := by decide +kernel
theorem dX10_copy_131 : decode cX10_copy 131 = .ok (.aload 6, 2) := by decide +kernel
theorem dX10_copy_133 : decode cX10_copy 133 = .ok (.getfield 280, 3) := by decide +kernel
theorem dX10_copy_136 : decode cX10_copy 136 = .ok (.iload_n 2, 1) := by decide +kernel
theorem dX10_copy_137 : decode cX10_copy 137 = .ok (.aload 7, 2) := by decide +kernel
theorem dX10_copy_139 : decode cX10_copy 139 = .ok (.getfield 280, 3) := by decide +kernel
theorem dX10_copy_142 : decode cX10_copy 142 = .ok (.iload 4, 2) := by decide +kernel
theorem dX10_copy_144 : decode cX10_copy 144 = .ok (.iload 5, 2) := by decide +kernel
theorem dX10_copy_146 : decode cX10_copy 146 = .ok (.invokestatic 287, 3) := by decide +kernel
theorem dX10_copy_149 : decode cX10_copy 149 = .ok (.iload 5, 2) := by decide +kernel
theorem dX10_copy_151 : decode cX10_copy 151 = .ok (.ireturn, 1) := by decide +kernel
theorem dX10_weight_0 : decode cX10_weight 0 = .ok (.aload_n 0, 1) := by decide +kernel
theorem dX10_weight_1 : decode cX10_weight 1 = .ok (.iload_n 1, 1) := by decide +kernel
theorem dX10_weight_2 : decode cX10_weight 2 = .ok (.invokevirtual 293, 3) := by decide +kernel
theorem dX10_weight_5 : decode cX10_weight 5 = .ok (.istore_n 2, 1) := by decide +kernel
theorem dX10_weight_6 : decode cX10_weight 6 = .ok (.iload_n 2, 1) := by decide +kernel
theorem dX10_weight_7 : decode cX10_weight 7 = .ok (.ifCond .eq 5, 3) := by decide +kernel
theorem dX10_weight_10 : decode cX10_weight 10 = .ok (.iload_n 2, 1) := by decide +kernel
theorem dX10_weight_11 : decode cX10_weight 11 = .ok (.ireturn, 1) := by decide +kernel
theorem dX10_weight_12 : decode cX10_weight 12 = .ok (.aload_n 0, 1) := by decide +kernel
theorem dX10_weight_13 : decode cX10_weight 13 = .ok (.getfield 29, 3) := by decide +kernel
theorem dX10_weight_16 : decode cX10_weight 16 = .ok (.iload_n 1, 1) := by decide +kernel
theorem dX10_weight_17 : decode cX10_weight 17 = .ok (.aaload, 1) := by decide +kernel
theorem dX10_weight_18 : decode cX10_weight 18 = .ok (.getfield 296, 3) := by decide +kernel
theorem dX10_weight_21 : decode cX10_weight 21 = .ok (.aload_n 0, 1) := by decide +kernel
theorem dX10_weight_22 : decode cX10_weight 22 = .ok (.getfield 29, 3) := by decide +kernel
theorem dX10_weight_25 : decode cX10_weight 25 = .ok (.iload_n 1, 1) := by decide +kernel
theorem dX10_weight_26 : decode cX10_weight 26 = .ok (.aaload, 1) := by decide +kernel
theorem dX10_weight_27 : decode cX10_weight 27 = .ok (.getfield 297, 3) := by decide +kernel
theorem dX10_weight_30 : decode cX10_weight 30 = .ok (.invokevirtual 298, 3) := by decide +kernel
theorem dX10_weight_33 : decode cX10_weight 33 = .ok (.ireturn, 1) := by decide +kernel
theorem dX10_toss_0 : decode cX10_toss 0 = .ok (.aload_n 0, 1) := by decide +kernel
theorem dX10_toss_1 : decode cX10_toss 1 = .ok (.iload_n 1, 1) := by decide +kernel
theorem dX10_toss_2 : decode cX10_toss 2 = .ok (.invokevirtual 293, 3) := by decide +kernel
theorem dX10_toss_5 : decode cX10_toss 5 = .ok (.istore_n 2, 1) := by decide +kernel
theorem dX10_toss_6 : decode cX10_toss 6 = .ok (.iload_n 2, 1) := by decide +kernel
theorem dX10_toss_7 : decode cX10_toss 7 = .ok (.ifCond .eq 5, 3) := by decide +kernel
theorem dX10_toss_10 : decode cX10_toss 10 = .ok (.iload_n 2, 1) := by decide +kernel
theorem dX10_toss_11 : decode cX10_toss 11 = .ok (.ireturn, 1) := by decide +kernel
theorem dX10_toss_12 : decode cX10_toss 12 = .ok (.aload_n 0, 1) := by decide +kernel
theorem dX10_toss_13 : decode cX10_toss 13 = .ok (.getfield 29, 3) := by decide +kernel
theorem dX10_toss_16 : decode cX10_toss 16 = .ok (.iload_n 1, 1) := by decide +kernel
theorem dX10_toss_17 : decode cX10_toss 17 = .ok (.aaload, 1) := by decide +kernel
theorem dX10_toss_18 : decode cX10_toss 18 = .ok (.getfield 296, 3) := by decide +kernel
theorem dX10_toss_21 : decode cX10_toss 21 = .ok (.invokestatic 301, 3) := by decide +kernel
theorem dX10_toss_24 : decode cX10_toss 24 = .ok (.ifCond .eq 15, 3) := by decide +kernel
theorem dX10_toss_27 : decode cX10_toss 27 = .ok (.aload_n 0, 1) := by decide +kernel
theorem dX10_toss_28 : decode cX10_toss 28 = .ok (.getfield 29, 3) := by decide +kernel
theorem dX10_toss_31 : decode cX10_toss 31 = .ok (.iload_n 1, 1) := by decide +kernel
theorem dX10_toss_32 : decode cX10_toss 32 = .ok (.aaload, 1) := by decide +kernel
theorem dX10_toss_33 : decode cX10_toss 33 = .ok (.getfield 305, 3) := by decide +kernel
theorem dX10_toss_36 : decode cX10_toss 36 = .ok (.goto 5, 3) := by decide +kernel
theorem dX10_toss_39 : decode cX10_toss 39 = .ok (.bipush (-15), 2) := by decide +kernel
theorem dX10_toss_41 : decode cX10_toss 41 = .ok (.ireturn, 1) := by decide +kernel
theorem dX10_within_0 : decode cX10_within 0 = .ok (.iload_n 0, 1) := by decide +kernel
theorem dX10_within_1 : decode cX10_within 1 = .ok (.ifCond .lt 12, 3) := by decide +kernel
theorem dX10_within_4 : decode cX10_within 4 = .ok (.iload_n 0, 1) := by decide +kernel
theorem dX10_within_5 : decode cX10_within 5 = .ok (.iload_n 1, 1) := by decide +kernel
theorem dX10_within_6 : decode cX10_within 6 = .ok (.if_icmp .gt 7, 3) := by decide +kernel
theorem dX10_within_9 : decode cX10_within 9 = .ok (.iconst 1, 1) := by decide +kernel
theorem dX10_within_10 : decode cX10_within 10 = .ok (.goto 4, 3) := by decide +kernel
theorem dX10_within_13 : decode cX10_within 13 = .ok (.iconst 0, 1) := by decide +kernel
theorem dX10_within_14 : decode cX10_within 14 = .ok (.ireturn, 1) := by decide +kernel
theorem dX10_oneIf_0 : decode cX10_oneIf 0 = .ok (.iload_n 0, 1) := by decide +kernel
theorem dX10_oneIf_1 : decode cX10_oneIf 1 = .ok (.ifCond .eq 7, 3) := by decide +kernel
theorem dX10_oneIf_4 : decode cX10_oneIf 4 = .ok (.iconst 1, 1) := by decide +kernel
theorem dX10_oneIf_5 : decode cX10_oneIf 5 = .ok (.goto 4, 3) := by decide +kernel
theorem dX10_oneIf_8 : decode cX10_oneIf 8 = .ok (.iconst 0, 1) := by decide +kernel
theorem dX10_oneIf_9 : decode cX10_oneIf 9 = .ok (.ireturn, 1) := by decide +kernel
theorem dX10_isPlot_0 : decode cX10_isPlot 0 = .ok (.iload_n 0, 1) := by decide +kernel
theorem dX10_isPlot_1 : decode cX10_isPlot 1 = .ok (.ifCond .lt 13, 3) := by decide +kernel
theorem dX10_isPlot_4 : decode cX10_isPlot 4 = .ok (.iload_n 0, 1) := by decide +kernel
theorem dX10_isPlot_5 : decode cX10_isPlot 5 = .ok (.bipush 24, 2) := by decide +kernel
theorem dX10_isPlot_7 : decode cX10_isPlot 7 = .ok (.if_icmp .ge 7, 3) := by decide +kernel
theorem dX10_isPlot_10 : decode cX10_isPlot 10 = .ok (.iconst 1, 1) := by decide +kernel
theorem dX10_isPlot_11 : decode cX10_isPlot 11 = .ok (.goto 4, 3) := by decide +kernel
theorem dX10_isPlot_14 : decode cX10_isPlot 14 = .ok (.iconst 0, 1) := by decide +kernel
theorem dX10_isPlot_15 : decode cX10_isPlot 15 = .ok (.ireturn, 1) := by decide +kernel
theorem dX10_isShelf_0 : decode cX10_isShelf 0 = .ok (.iload_n 0, 1) := by decide +kernel
theorem dX10_isShelf_1 : decode cX10_isShelf 1 = .ok (.ifCond .lt 13, 3) := by decide +kernel
theorem dX10_isShelf_4 : decode cX10_isShelf 4 = .ok (.iload_n 0, 1) := by decide +kernel
theorem dX10_isShelf_5 : decode cX10_isShelf 5 = .ok (.bipush 8, 2) := by decide +kernel
theorem dX10_isShelf_7 : decode cX10_isShelf 7 = .ok (.if_icmp .ge 7, 3) := by decide +kernel
theorem dX10_isShelf_10 : decode cX10_isShelf 10 = .ok (.iconst 1, 1) := by decide +kernel
theorem dX10_isShelf_11 : decode cX10_isShelf 11 = .ok (.goto 4, 3) := by decide +kernel
theorem dX10_isShelf_14 : decode cX10_isShelf 14 = .ok (.iconst 0, 1) := by decide +kernel
theorem dX10_isShelf_15 : decode cX10_isShelf 15 = .ok (.ireturn, 1) := by decide +kernel
theorem dX10_isBuyer_0 : decode cX10_isBuyer 0 = .ok (.iload_n 1, 1) := by decide +kernel
theorem dX10_isBuyer_1 : decode cX10_isBuyer 1 = .ok (.ifCond .lt 15, 3) := by decide +kernel
theorem dX10_isBuyer_4 : decode cX10_isBuyer 4 = .ok (.iload_n 1, 1) := by decide +kernel
theorem dX10_isBuyer_5 : decode cX10_isBuyer 5 = .ok (.aload_n 0, 1) := by decide +kernel
theorem dX10_isBuyer_6 : decode cX10_isBuyer 6 = .ok (.getfield 100, 3) := by decide +kernel
theorem dX10_isBuyer_9 : decode cX10_isBuyer 9 = .ok (.if_icmp .ge 7, 3) := by decide +kernel
theorem dX10_isBuyer_12 : decode cX10_isBuyer 12 = .ok (.iconst 1, 1) := by decide +kernel
theorem dX10_isBuyer_13 : decode cX10_isBuyer 13 = .ok (.goto 4, 3) := by decide +kernel
theorem dX10_isBuyer_16 : decode cX10_isBuyer 16 = .ok (.iconst 0, 1) := by decide +kernel
theorem dX10_isBuyer_17 : decode cX10_isBuyer 17 = .ok (.ireturn, 1) := by decide +kernel
theorem dX10_hayOf_0 : decode cX10_hayOf 0 = .ok (.iconst 0, 1) := by decide +kernel
theorem dX10_hayOf_1 : decode cX10_hayOf 1 = .ok (.istore_n 2, 1) := by decide +kernel
theorem dX10_hayOf_2 : decode cX10_hayOf 2 = .ok (.iconst 0, 1) := by decide +kernel
theorem dX10_hayOf_3 : decode cX10_hayOf 3 = .ok (.istore_n 3, 1) := by decide +kernel
theorem dX10_hayOf_4 : decode cX10_hayOf 4 = .ok (.iload_n 3, 1) := by decide +kernel
theorem dX10_hayOf_5 : decode cX10_hayOf 5 = .ok (.bipush 24, 2) := by decide +kernel
theorem dX10_hayOf_7 : decode cX10_hayOf 7 = .ok (.if_icmp .ge 34, 3) := by decide +kernel
theorem dX10_hayOf_10 : decode cX10_hayOf 10 = .ok (.aload_n 0, 1) := by decide +kernel
theorem dX10_hayOf_11 : decode cX10_hayOf 11 = .ok (.getfield 17, 3) := by decide +kernel
theorem dX10_hayOf_14 : decode cX10_hayOf 14 = .ok (.iload_n 3, 1) := by decide +kernel
theorem dX10_hayOf_15 : decode cX10_hayOf 15 = .ok (.aaload, 1) := by decide +kernel
theorem dX10_hayOf_16 : decode cX10_hayOf 16 = .ok (.getfield 133, 3) := by decide +kernel
theorem dX10_hayOf_19 : decode cX10_hayOf 19 = .ok (.iload_n 1, 1) := by decide +kernel
theorem dX10_hayOf_20 : decode cX10_hayOf 20 = .ok (.if_icmp .ne 15, 3) := by decide +kernel
theorem dX10_hayOf_23 : decode cX10_hayOf 23 = .ok (.iload_n 2, 1) := by decide +kernel
theorem dX10_hayOf_24 : decode cX10_hayOf 24 = .ok (.aload_n 0, 1) := by decide +kernel
theorem dX10_hayOf_25 : decode cX10_hayOf 25 = .ok (.getfield 17, 3) := by decide +kernel
theorem dX10_hayOf_28 : decode cX10_hayOf 28 = .ok (.iload_n 3, 1) := by decide +kernel
theorem dX10_hayOf_29 : decode cX10_hayOf 29 = .ok (.aaload, 1) := by decide +kernel
theorem dX10_hayOf_30 : decode cX10_hayOf 30 = .ok (.invokevirtual 130, 3) := by decide +kernel
theorem dX10_hayOf_33 : decode cX10_hayOf 33 = .ok (.iadd, 1) := by decide +kernel
theorem dX10_hayOf_34 : decode cX10_hayOf 34 = .ok (.istore_n 2, 1) := by decide +kernel
theorem dX10_hayOf_35 : decode cX10_hayOf 35 = .ok (.iinc 3 1, 3) := by decide +kernel
theorem dX10_hayOf_38 : decode cX10_hayOf 38 = .ok (.goto (-34), 3) := by decide +kernel
theorem dX10_hayOf_41 : decode cX10_hayOf 41 = .ok (.iload_n 2, 1) := by decide +kernel
theorem dX10_hayOf_42 : decode cX10_hayOf 42 = .ok (.ireturn, 1) := by decide +kernel
theorem dX10_ownsBeside_0 : decode cX10_ownsBeside 0 = .ok (.iconst 0, 1) := by decide +kernel
theorem dX10_ownsBeside_1 : decode cX10_ownsBeside 1 = .ok (.istore_n 3, 1) := by decide +kernel
theorem dX10_ownsBeside_2 : decode cX10_ownsBeside 2 = .ok (.iload_n 3, 1) := by decide +kernel
theorem dX10_ownsBeside_3 : decode cX10_ownsBeside 3 = .ok (.iconst 4, 1) := by decide +kernel
theorem dX10_ownsBeside_4 : decode cX10_ownsBeside 4 = .ok (.if_icmp .ge 37, 3) := by decide +kernel
theorem dX10_ownsBeside_7 : decode cX10_ownsBeside 7 = .ok (.iload_n 2, 1) := by decide +kernel
theorem dX10_ownsBeside_8 : decode cX10_ownsBeside 8 = .ok (.iload_n 3, 1) := by decide +kernel
theorem dX10_ownsBeside_9 : decode cX10_ownsBeside 9 = .ok (.invokestatic 308, 3) := by decide +kernel
theorem dX10_ownsBeside_12 : decode cX10_ownsBeside 12 = .ok (.istore 4, 2) := by decide +kernel
theorem dX10_ownsBeside_14 : decode cX10_ownsBeside 14 = .ok (.iload 4, 2) := by decide +kernel
theorem dX10_ownsBeside_16 : decode cX10_ownsBeside 16 = .ok (.ifCond .lt 19, 3) := by decide +kernel
theorem dX10_ownsBeside_19 : decode cX10_ownsBeside 19 = .ok (.aload_n 0, 1) := by decide +kernel
theorem dX10_ownsBeside_20 : decode cX10_ownsBeside 20 = .ok (.getfield 17, 3) := by decide +kernel
theorem dX10_ownsBeside_23 : decode cX10_ownsBeside 23 = .ok (.iload 4, 2) := by decide +kernel
theorem dX10_ownsBeside_25 : decode cX10_ownsBeside 25 = .ok (.aaload, 1) := by decide +kernel
theorem dX10_ownsBeside_26 : decode cX10_ownsBeside 26 = .ok (.getfield 133, 3) := by decide +kernel
theorem dX10_ownsBeside_29 : decode cX10_ownsBeside 29 = .ok (.iload_n 1, 1) := by decide +kernel
theorem dX10_ownsBeside_30 : decode cX10_ownsBeside 30 = .ok (.if_icmp .ne 5, 3) := by decide +kernel
theorem dX10_ownsBeside_33 : decode cX10_ownsBeside 33 = .ok (.iconst 1, 1) := by decide +kernel
theorem dX10_ownsBeside_34 : decode cX10_ownsBeside 34 = .ok (.ireturn, 1) := by decide +kernel
theorem dX10_ownsBeside_35 : decode cX10_ownsBeside 35 = .ok (.iinc 3 1, 3) := by decide +kernel
theorem dX10_ownsBeside_38 : decode cX10_ownsBeside 38 = .ok (.goto (-36), 3) := by decide +kernel
theorem dX10_ownsBeside_41 : decode cX10_ownsBeside 41 = .ok (.iconst 0, 1) := by decide +kernel
theorem dX10_ownsBeside_42 : decode cX10_ownsBeside 42 = .ok (.ireturn, 1) := by decide +kernel
theorem dX10_worthTo_0 : decode cX10_worthTo 0 = .ok (.aload_n 0, 1) := by decide +kernel
theorem dX10_worthTo_1 : decode cX10_worthTo 1 = .ok (.getfield 23, 3) := by decide +kernel
theorem dX10_worthTo_4 : decode cX10_worthTo 4 = .ok (.iload_n 1, 1) := by decide +kernel
theorem dX10_worthTo_5 : decode cX10_worthTo 5 = .ok (.aaload, 1) := by decide +kernel
theorem dX10_worthTo_6 : decode cX10_worthTo 6 = .ok (.astore_n 3, 1) := by decide +kernel
theorem dX10_worthTo_7 : decode cX10_worthTo 7 = .ok (.bipush 10, 2) := by decide +kernel
theorem dX10_worthTo_9 : decode cX10_worthTo 9 = .ok (.aload_n 0, 1) := by decide +kernel
theorem dX10_worthTo_10 : decode cX10_worthTo 10 = .ok (.getfield 17, 3) := by decide +kernel
theorem dX10_worthTo_13 : decode cX10_worthTo 13 = .ok (.iload_n 2, 1) := by decide +kernel
theorem dX10_worthTo_14 : decode cX10_worthTo 14 = .ok (.aaload, 1) := by decide +kernel
theorem dX10_worthTo_15 : decode cX10_worthTo 15 = .ok (.invokevirtual 130, 3) := by decide +kernel
theorem dX10_worthTo_18 : decode cX10_worthTo 18 = .ok (.imul, 1) := by decide +kernel
theorem dX10_worthTo_19 : decode cX10_worthTo 19 = .ok (.iconst 5, 1) := by decide +kernel
theorem dX10_worthTo_20 : decode cX10_worthTo 20 = .ok (.iload_n 2, 1) := by decide +kernel
theorem dX10_worthTo_21 : decode cX10_worthTo 21 = .ok (.aload_n 3, 1) := by decide +kernel
theorem dX10_worthTo_22 : decode cX10_worthTo 22 = .ok (.getfield 109, 3) := by decide +kernel
theorem dX10_worthTo_25 : decode cX10_worthTo 25 = .ok (.invokestatic 311, 3) := by decide +kernel
theorem dX10_worthTo_28 : decode cX10_worthTo 28 = .ok (.imul, 1) := by decide +kernel
theorem dX10_worthTo_29 : decode cX10_worthTo 29 = .ok (.isub, 1) := by decide +kernel
theorem dX10_worthTo_30 : decode cX10_worthTo 30 = .ok (.istore 4, 2) := by decide +kernel
theorem dX10_worthTo_32 : decode cX10_worthTo 32 = .ok (.aload_n 0, 1) := by decide +kernel
theorem dX10_worthTo_33 : decode cX10_worthTo 33 = .ok (.iload_n 1, 1) := by decide +kernel
theorem dX10_worthTo_34 : decode cX10_worthTo 34 = .ok (.iload_n 2, 1) := by decide +kernel
theorem dX10_worthTo_35 : decode cX10_worthTo 35 = .ok (.invokevirtual 314, 3) := by decide +kernel
theorem dX10_worthTo_38 : decode cX10_worthTo 38 = .ok (.ifCond .eq 6, 3) := by decide +kernel
theorem dX10_worthTo_41 : decode cX10_worthTo 41 = .ok (.iinc 4 20, 3) := by decide +kernel
theorem dX10_worthTo_44 : decode cX10_worthTo 44 = .ok (.aload_n 0, 1) := by decide +kernel
theorem dX10_worthTo_45 : decode cX10_worthTo 45 = .ok (.iload_n 1, 1) := by decide +kernel
theorem dX10_worthTo_46 : decode cX10_worthTo 46 = .ok (.invokevirtual 148, 3) := by decide +kernel
theorem dX10_worthTo_49 : decode cX10_worthTo 49 = .ok (.aload_n 3, 1) := by decide +kernel
theorem dX10_worthTo_50 : decode cX10_worthTo 50 = .ok (.invokevirtual 145, 3) := by decide +kernel
theorem dX10_worthTo_53 : decode cX10_worthTo 53 = .ok (.if_icmp .ge 9, 3) := by decide +kernel
theorem dX10_worthTo_56 : decode cX10_worthTo 56 = .ok (.iload 4, 2) := by decide +kernel
theorem dX10_worthTo_58 : decode cX10_worthTo 58 = .ok (.iconst 2, 1) := by decide +kernel
theorem dX10_worthTo_59 : decode cX10_worthTo 59 = .ok (.imul, 1) := by decide +kernel
theorem dX10_worthTo_60 : decode cX10_worthTo 60 = .ok (.istore 4, 2) := by decide +kernel
theorem dX10_worthTo_62 : decode cX10_worthTo 62 = .ok (.iload 4, 2) := by decide +kernel
theorem dX10_worthTo_64 : decode cX10_worthTo 64 = .ok (.iconst 0, 1) := by decide +kernel
theorem dX10_worthTo_65 : decode cX10_worthTo 65 = .ok (.invokestatic 317, 3) := by decide +kernel
theorem dX10_worthTo_68 : decode cX10_worthTo 68 = .ok (.ireturn, 1) := by decide +kernel
theorem dX10_prepareSale_0 : decode cX10_prepareSale 0 = .ok (.aload_n 0, 1) := by decide +kernel
theorem dX10_prepareSale_1 : decode cX10_prepareSale 1 = .ok (.getfield 40, 3) := by decide +kernel
theorem dX10_prepareSale_4 : decode cX10_prepareSale 4 = .ok (.aload_n 0, 1) := by decide +kernel
theorem dX10_prepareSale_5 : decode cX10_prepareSale 5 = .ok (.getfield 100, 3) := by decide +kernel
theorem dX10_prepareSale_8 : decode cX10_prepareSale 8 = .ok (.putfield 322, 3) := by decide +kernel
theorem dX10_prepareSale_11 : decode cX10_prepareSale 11 = .ok (.aload_n 0, 1) := by decide +kernel
theorem dX10_prepareSale_12 : decode cX10_prepareSale 12 = .ok (.getfield 40, 3) := by decide +kernel
theorem dX10_prepareSale_15 : decode cX10_prepareSale 15 = .ok (.aload_n 0, 1) := by decide +kernel
theorem dX10_prepareSale_16 : decode cX10_prepareSale 16 = .ok (.getfield 58, 3) := by decide +kernel
theorem dX10_prepareSale_19 : decode cX10_prepareSale 19 = .ok (.putfield 325, 3) := by decide +kernel
theorem dX10_prepareSale_22 : decode cX10_prepareSale 22 = .ok (.iconst 0, 1) := by decide +kernel
theorem dX10_prepareSale_23 : decode cX10_prepareSale 23 = .ok (.istore_n 2, 1) := by decide +kernel
theorem dX10_prepareSale_24 : decode cX10_prepareSale 24 = .ok (.iload_n 2, 1) := by decide +kernel
theorem dX10_prepareSale_25 : decode cX10_prepareSale 25 = .ok (.aload_n 0, 1) := by decide +kernel
theorem dX10_prepareSale_26 : decode cX10_prepareSale 26 = .ok (.getfield 100, 3) := by decide +kernel
theorem dX10_prepareSale_29 : decode cX10_prepareSale 29 = .ok (.if_icmp .ge 64, 3) := by decide +kernel
theorem dX10_prepareSale_32 : decode cX10_prepareSale 32 = .ok (.aload_n 0, 1) := by decide +kernel
theorem dX10_prepareSale_33 : decode cX10_prepareSale 33 = .ok (.getfield 40, 3) := by decide +kernel
theorem dX10_prepareSale_36 : decode cX10_prepareSale 36 = .ok (.getfield 328, 3) := by decide +kernel
theorem dX10_prepareSale_39 : decode cX10_prepareSale 39 = .ok (.iload_n 2, 1) := by decide +kernel
theorem dX10_prepareSale_40 : decode cX10_prepareSale 40 = .ok (.aload_n 0, 1) := by decide +kernel
theorem dX10_prepareSale_41 : decode cX10_prepareSale 41 = .ok (.iload_n 2, 1) := by decide +kernel
theorem dX10_prepareSale_42 : decode cX10_prepareSale 42 = .ok (.iload_n 1, 1) := by decide +kernel
theorem dX10_prepareSale_43 : decode cX10_prepareSale 43 = .ok (.invokevirtual 158, 3) := by decide +kernel
theorem dX10_prepareSale_46 : decode cX10_prepareSale 46 = .ok (.aload_n 0, 1) := by decide +kernel
theorem dX10_prepareSale_47 : decode cX10_prepareSale 47 = .ok (.getfield 23, 3) := by decide +kernel
theorem dX10_prepareSale_50 : decode cX10_prepareSale 50 = .ok (.iload_n 2, 1) := by decide +kernel
theorem dX10_prepareSale_51 : decode cX10_prepareSale 51 = .ok (.aaload, 1) := by decide +kernel
theorem dX10_prepareSale_52 : decode cX10_prepareSale 52 = .ok (.getfield 106, 3) := by decide +kernel
theorem dX10_prepareSale_55 : decode cX10_prepareSale 55 = .ok (.aload_n 0, 1) := by decide +kernel
theorem dX10_prepareSale_56 : decode cX10_prepareSale 56 = .ok (.getfield 23, 3) := by decide +kernel
theorem dX10_prepareSale_59 : decode cX10_prepareSale 59 = .ok (.iload_n 2, 1) := by decide +kernel
theorem dX10_prepareSale_60 : decode cX10_prepareSale 60 = .ok (.aaload, 1) := by decide +kernel
theorem dX10_prepareSale_61 : decode cX10_prepareSale 61 = .ok (.getfield 152, 3) := by decide +kernel
theorem dX10_prepareSale_64 : decode cX10_prepareSale 64 = .ok (.isub, 1) := by decide +kernel
theorem dX10_prepareSale_65 : decode cX10_prepareSale 65 = .ok (.invokestatic 331, 3) := by decide +kernel
theorem dX10_prepareSale_68 : decode cX10_prepareSale 68 = .ok (.iastore, 1) := by decide +kernel
theorem dX10_prepareSale_69 : decode cX10_prepareSale 69 = .ok (.aload_n 0, 1) := by decide +kernel
theorem dX10_prepareSale_70 : decode cX10_prepareSale 70 = .ok (.getfield 40, 3) := by decide +kernel
theorem dX10_prepareSale_73 : decode cX10_prepareSale 73 = .ok (.getfield 334, 3) := by decide +kernel
theorem dX10_prepareSale_76 : decode cX10_prepareSale 76 = .ok (.iload_n 2, 1) := by decide +kernel
theorem dX10_prepareSale_77 : decode cX10_prepareSale 77 = .ok (.aload_n 0, 1) := by decide +kernel
theorem dX10_prepareSale_78 : decode cX10_prepareSale 78 = .ok (.getfield 23, 3) := by decide +kernel
theorem dX10_prepareSale_81 : decode cX10_prepareSale 81 = .ok (.iload_n 2, 1) := by decide +kernel
theorem dX10_prepareSale_82 : decode cX10_prepareSale 82 = .ok (.aaload, 1) := by decide +kernel
theorem dX10_prepareSale_83 : decode cX10_prepareSale 83 = .ok (.getfield 115, 3) := by decide +kernel
theorem dX10_prepareSale_86 : decode cX10_prepareSale 86 = .ok (.bastore, 1) := by decide +kernel
theorem dX10_prepareSale_87 : decode cX10_prepareSale 87 = .ok (.iinc 2 1, 3) := by decide +kernel
theorem dX10_prepareSale_90 : decode cX10_prepareSale 90 = .ok (.goto (-66), 3) := by decide +kernel
theorem dX10_prepareSale_93 : decode cX10_prepareSale 93 = .ok (.return_, 1) := by decide +kernel
theorem dX10_hand_0 : decode cX10_hand 0 = .ok (.aload_n 1, 1) := by decide +kernel
theorem dX10_hand_1 : decode cX10_hand 1 = .ok (.iload_n 2, 1) := by decide +kernel
theorem dX10_hand_2 : decode cX10_hand 2 = .ok (.putfield 133, 3) := by decide +kernel
theorem dX10_hand_5 : decode cX10_hand 5 = .ok (.aload_n 1, 1) := by decide +kernel
theorem dX10_hand_6 : decode cX10_hand 6 = .ok (.iload_n 3, 1) := by decide +kernel
theorem dX10_hand_7 : decode cX10_hand 7 = .ok (.putfield 136, 3) := by decide +kernel
theorem dX10_hand_10 : decode cX10_hand 10 = .ok (.aload_n 0, 1) := by decide +kernel
theorem dX10_hand_11 : decode cX10_hand 11 = .ok (.getfield 23, 3) := by decide +kernel
theorem dX10_hand_14 : decode cX10_hand 14 = .ok (.iload_n 2, 1) := by decide +kernel
theorem dX10_hand_15 : decode cX10_hand 15 = .ok (.aaload, 1) := by decide +kernel
theorem dX10_hand_16 : decode cX10_hand 16 = .ok (.dup, 1) := by decide +kernel
theorem dX10_hand_17 : decode cX10_hand 17 = .ok (.getfield 152, 3) := by decide +kernel
theorem dX10_hand_20 : decode cX10_hand 20 = .ok (.iload_n 3, 1) := by decide +kernel
theorem dX10_hand_21 : decode cX10_hand 21 = .ok (.iadd, 1) := by decide +kernel
theorem dX10_hand_22 : decode cX10_hand 22 = .ok (.putfield 152, 3) := by decide +kernel
theorem dX10_hand_25 : decode cX10_hand 25 = .ok (.return_, 1) := by decide +kernel
theorem dX10_sold_0 : decode cX10_sold 0 = .ok (.iconst 0, 1) := by decide +kernel
theorem dX10_sold_1 : decode cX10_sold 1 = .ok (.istore_n 1, 1) := by decide +kernel
theorem dX10_sold_2 : decode cX10_sold 2 = .ok (.iconst 0, 1) := by decide +kernel
theorem dX10_sold_3 : decode cX10_sold 3 = .ok (.istore_n 2, 1) := by decide +kernel
theorem dX10_sold_4 : decode cX10_sold 4 = .ok (.iload_n 2, 1) := by decide +kernel
theorem dX10_sold_5 : decode cX10_sold 5 = .ok (.bipush 24, 2) := by decide +kernel
theorem dX10_sold_7 : decode cX10_sold 7 = .ok (.if_icmp .ge 24, 3) := by decide +kernel
theorem dX10_sold_10 : decode cX10_sold 10 = .ok (.iload_n 1, 1) := by decide +kernel
theorem dX10_sold_11 : decode cX10_sold 11 = .ok (.aload_n 0, 1) := by decide +kernel
theorem dX10_sold_12 : decode cX10_sold 12 = .ok (.getfield 17, 3) := by decide +kernel
theorem dX10_sold_15 : decode cX10_sold 15 = .ok (.iload_n 2, 1) := by decide +kernel
theorem dX10_sold_16 : decode cX10_sold 16 = .ok (.aaload, 1) := by decide +kernel
theorem dX10_sold_17 : decode cX10_sold 17 = .ok (.invokevirtual 85, 3) := by decide +kernel
theorem dX10_sold_20 : decode cX10_sold 20 = .ok (.invokestatic 119, 3) := by decide +kernel
theorem dX10_sold_23 : decode cX10_sold 23 = .ok (.iadd, 1) := by decide +kernel
theorem dX10_sold_24 : decode cX10_sold 24 = .ok (.istore_n 1, 1) := by decide +kernel
theorem dX10_sold_25 : decode cX10_sold 25 = .ok (.iinc 2 1, 3) := by decide +kernel
theorem dX10_sold_28 : decode cX10_sold 28 = .ok (.goto (-24), 3) := by decide +kernel
theorem dX10_sold_31 : decode cX10_sold 31 = .ok (.iload_n 1, 1) := by decide +kernel
theorem dX10_sold_32 : decode cX10_sold 32 = .ok (.ireturn, 1) := by decide +kernel
theorem dX10_standing_0 : decode cX10_standing 0 = .ok (.iconst 0, 1) := by decide +kernel
theorem dX10_standing_1 : decode cX10_standing 1 = .ok (.istore_n 1, 1) := by decide +kernel
theorem dX10_standing_2 : decode cX10_standing 2 = .ok (.iconst 0, 1) := by decide +kernel
theorem dX10_standing_3 : decode cX10_standing 3 = .ok (.istore_n 2, 1) := by decide +kernel
theorem dX10_standing_4 : decode cX10_standing 4 = .ok (.iload_n 2, 1) := by decide +kernel
theorem dX10_standing_5 : decode cX10_standing 5 = .ok (.bipush 24, 2) := by decide +kernel
theorem dX10_standing_7 : decode cX10_standing 7 = .ok (.if_icmp .ge 24, 3) := by decide +kernel
theorem dX10_standing_10 : decode cX10_standing 10 = .ok (.iload_n 1, 1) := by decide +kernel
theorem dX10_standing_11 : decode cX10_standing 11 = .ok (.aload_n 0, 1) := by decide +kernel
theorem dX10_standing_12 : decode cX10_standing 12 = .ok (.getfield 17, 3) := by decide +kernel
theorem dX10_standing_15 : decode cX10_standing 15 = .ok (.iload_n 2, 1) := by decide +kernel
theorem dX10_standing_16 : decode cX10_standing 16 = .ok (.aaload, 1) := by decide +kernel
theorem dX10_standing_17 : decode cX10_standing 17 = .ok (.invokevirtual 142, 3) := by decide +kernel
theorem dX10_standing_20 : decode cX10_standing 20 = .ok (.invokestatic 119, 3) := by decide +kernel
theorem dX10_standing_23 : decode cX10_standing 23 = .ok (.iadd, 1) := by decide +kernel
theorem dX10_standing_24 : decode cX10_standing 24 = .ok (.istore_n 1, 1) := by decide +kernel
theorem dX10_standing_25 : decode cX10_standing 25 = .ok (.iinc 2 1, 3) := by decide +kernel
theorem dX10_standing_28 : decode cX10_standing 28 = .ok (.goto (-24), 3) := by decide +kernel
theorem dX10_standing_31 : decode cX10_standing 31 = .ok (.iload_n 1, 1) := by decide +kernel
theorem dX10_standing_32 : decode cX10_standing 32 = .ok (.ireturn, 1) := by decide +kernel
theorem dX10_standingAt_0 : decode cX10_standingAt 0 = .ok (.iconst 0, 1) := by decide +kernel
theorem dX10_standingAt_1 : decode cX10_standingAt 1 = .ok (.istore_n 2, 1) := by decide +kernel
theorem dX10_standingAt_2 : decode cX10_standingAt 2 = .ok (.iconst 0, 1) := by decide +kernel
theorem dX10_standingAt_3 : decode cX10_standingAt 3 = .ok (.istore_n 3, 1) := by decide +kernel
theorem dX10_standingAt_4 : decode cX10_standingAt 4 = .ok (.iload_n 3, 1) := by decide +kernel
theorem dX10_standingAt_5 : decode cX10_standingAt 5 = .ok (.bipush 24, 2) := by decide +kernel
theorem dX10_standingAt_7 : decode cX10_standingAt 7 = .ok (.if_icmp .ge 31, 3) := by decide +kernel
theorem dX10_standingAt_10 : decode cX10_standingAt 10 = .ok (.aload_n 0, 1) := by decide +kernel
theorem dX10_standingAt_11 : decode cX10_standingAt 11 = .ok (.getfield 17, 3) := by decide +kernel
theorem dX10_standingAt_14 : decode cX10_standingAt 14 = .ok (.iload_n 3, 1) := by decide +kernel
theorem dX10_standingAt_15 : decode cX10_standingAt 15 = .ok (.aaload, 1) := by decide +kernel
theorem dX10_standingAt_16 : decode cX10_standingAt 16 = .ok (.invokevirtual 142, 3) := by decide +kernel
theorem dX10_standingAt_19 : decode cX10_standingAt 19 = .ok (.ifCond .eq 13, 3) := by decide +kernel
theorem dX10_standingAt_22 : decode cX10_standingAt 22 = .ok (.iload_n 2, 1) := by decide +kernel
theorem dX10_standingAt_23 : decode cX10_standingAt 23 = .ok (.iload_n 1, 1) := by decide +kernel
theorem dX10_standingAt_24 : decode cX10_standingAt 24 = .ok (.if_icmp .ne 5, 3) := by decide +kernel
theorem dX10_standingAt_27 : decode cX10_standingAt 27 = .ok (.iload_n 3, 1) := by decide +kernel
theorem dX10_standingAt_28 : decode cX10_standingAt 28 = .ok (.ireturn, 1) := by decide +kernel
theorem dX10_standingAt_29 : decode cX10_standingAt 29 = .ok (.iinc 2 1, 3) := by decide +kernel
theorem dX10_standingAt_32 : decode cX10_standingAt 32 = .ok (.iinc 3 1, 3) := by decide +kernel
theorem dX10_standingAt_35 : decode cX10_standingAt 35 = .ok (.goto (-31), 3) := by decide +kernel
theorem dX10_standingAt_38 : decode cX10_standingAt 38 = .ok (.bipush (-3), 2) := by decide +kernel
theorem dX10_standingAt_40 : decode cX10_standingAt 40 = .ok (.ireturn, 1) := by decide +kernel
theorem dX10_allHay_0 : decode cX10_allHay 0 = .ok (.iconst 0, 1) := by decide +kernel
theorem dX10_allHay_1 : decode cX10_allHay 1 = .ok (.istore_n 1, 1) := by decide +kernel
theorem dX10_allHay_2 : decode cX10_allHay 2 = .ok (.iconst 0, 1) := by decide +kernel
theorem dX10_allHay_3 : decode cX10_allHay 3 = .ok (.istore_n 2, 1) := by decide +kernel
theorem dX10_allHay_4 : decode cX10_allHay 4 = .ok (.iload_n 2, 1) := by decide +kernel
theorem dX10_allHay_5 : decode cX10_allHay 5 = .ok (.bipush 24, 2) := by decide +kernel
theorem dX10_allHay_7 : decode cX10_allHay 7 = .ok (.if_icmp .ge 21, 3) := by decide +kernel
theorem dX10_allHay_10 : decode cX10_allHay 10 = .ok (.iload_n 1, 1) := by decide +kernel
theorem dX10_allHay_11 : decode cX10_allHay 11 = .ok (.aload_n 0, 1) := by decide +kernel
theorem dX10_allHay_12 : decode cX10_allHay 12 = .ok (.getfield 17, 3) := by decide +kernel
theorem dX10_allHay_15 : decode cX10_allHay 15 = .ok (.iload_n 2, 1) := by decide +kernel
theorem dX10_allHay_16 : decode cX10_allHay 16 = .ok (.aaload, 1) := by decide +kernel
theorem dX10_allHay_17 : decode cX10_allHay 17 = .ok (.invokevirtual 130, 3) := by decide +kernel
theorem dX10_allHay_20 : decode cX10_allHay 20 = .ok (.iadd, 1) := by decide +kernel
theorem dX10_allHay_21 : decode cX10_allHay 21 = .ok (.istore_n 1, 1) := by decide +kernel
theorem dX10_allHay_22 : decode cX10_allHay 22 = .ok (.iinc 2 1, 3) := by decide +kernel
theorem dX10_allHay_25 : decode cX10_allHay 25 = .ok (.goto (-21), 3) := by decide +kernel
theorem dX10_allHay_28 : decode cX10_allHay 28 = .ok (.iload_n 1, 1) := by decide +kernel
theorem dX10_allHay_29 : decode cX10_allHay 29 = .ok (.ireturn, 1) := by decide +kernel
theorem dX10_rainyDays_0 : decode cX10_rainyDays 0 = .ok (.iconst 0, 1) := by decide +kernel
theorem dX10_rainyDays_1 : decode cX10_rainyDays 1 = .ok (.istore_n 1, 1) := by decide +kernel
theorem dX10_rainyDays_2 : decode cX10_rainyDays 2 = .ok (.iconst 0, 1) := by decide +kernel
theorem dX10_rainyDays_3 : decode cX10_rainyDays 3 = .ok (.istore_n 2, 1) := by decide +kernel
theorem dX10_rainyDays_4 : decode cX10_rainyDays 4 = .ok (.iload_n 2, 1) := by decide +kernel
theorem dX10_rainyDays_5 : decode cX10_rainyDays 5 = .ok (.bipush 30, 2) := by decide +kernel
theorem dX10_rainyDays_7 : decode cX10_rainyDays 7 = .ok (.if_icmp .gt 21, 3) := by decide +kernel
theorem dX10_rainyDays_10 : decode cX10_rainyDays 10 = .ok (.iload_n 1, 1) := by decide +kernel
theorem dX10_rainyDays_11 : decode cX10_rainyDays 11 = .ok (.aload_n 0, 1) := by decide +kernel
theorem dX10_rainyDays_12 : decode cX10_rainyDays 12 = .ok (.getfield 33, 3) := by decide +kernel
theorem dX10_rainyDays_15 : decode cX10_rainyDays 15 = .ok (.iload_n 2, 1) := by decide +kernel
theorem dX10_rainyDays_16 : decode cX10_rainyDays 16 = .ok (.baload, 1) := by decide +kernel
theorem dX10_rainyDays_17 : decode cX10_rainyDays 17 = .ok (.invokestatic 119, 3) := by decide +kernel
theorem dX10_rainyDays_20 : decode cX10_rainyDays 20 = .ok (.iadd, 1) := by decide +kernel
theorem dX10_rainyDays_21 : decode cX10_rainyDays 21 = .ok (.istore_n 1, 1) := by decide +kernel
theorem dX10_rainyDays_22 : decode cX10_rainyDays 22 = .ok (.iinc 2 1, 3) := by decide +kernel
theorem dX10_rainyDays_25 : decode cX10_rainyDays 25 = .ok (.goto (-21), 3) := by decide +kernel
theorem dX10_rainyDays_28 : decode cX10_rainyDays 28 = .ok (.iload_n 1, 1) := by decide +kernel
theorem dX10_rainyDays_29 : decode cX10_rainyDays 29 = .ok (.ireturn, 1) := by decide +kernel
theorem dX10_dryDay_0 : decode cX10_dryDay 0 = .ok (.iconst 0, 1) := by decide +kernel
theorem dX10_dryDay_1 : decode cX10_dryDay 1 = .ok (.istore_n 2, 1) := by decide +kernel
theorem dX10_dryDay_2 : decode cX10_dryDay 2 = .ok (.aload_n 1, 1) := by decide +kernel
theorem dX10_dryDay_3 : decode cX10_dryDay 3 = .ok (.getfield 139, 3) := by decide +kernel
theorem dX10_dryDay_6 : decode cX10_dryDay 6 = .ok (.iconst 1, 1) := by decide +kernel
theorem dX10_dryDay_7 : decode cX10_dryDay 7 = .ok (.iadd, 1) := by decide +kernel
theorem dX10_dryDay_8 : decode cX10_dryDay 8 = .ok (.istore_n 3, 1) := by decide +kernel
theorem dX10_dryDay_9 : decode cX10_dryDay 9 = .ok (.iload_n 3, 1) := by decide +kernel
theorem dX10_dryDay_10 : decode cX10_dryDay 10 = .ok (.bipush 30, 2) := by decide +kernel
theorem dX10_dryDay_12 : decode cX10_dryDay 12 = .ok (.if_icmp .gt 39, 3) := by decide +kernel
theorem dX10_dryDay_15 : decode cX10_dryDay 15 = .ok (.aload_n 0, 1) := by decide +kernel
theorem dX10_dryDay_16 : decode cX10_dryDay 16 = .ok (.getfield 33, 3) := by decide +kernel
theorem dX10_dryDay_19 : decode cX10_dryDay 19 = .ok (.iload_n 3, 1) := by decide +kernel
theorem dX10_dryDay_20 : decode cX10_dryDay 20 = .ok (.baload, 1) := by decide +kernel
theorem dX10_dryDay_21 : decode cX10_dryDay 21 = .ok (.ifCond .eq 13, 3) := by decide +kernel
theorem dX10_dryDay_24 : decode cX10_dryDay 24 = .ok (.iload_n 2, 1) := by decide +kernel
theorem dX10_dryDay_25 : decode cX10_dryDay 25 = .ok (.iconst 1, 1) := by decide +kernel
theorem dX10_dryDay_26 : decode cX10_dryDay 26 = .ok (.isub, 1) := by decide +kernel
theorem dX10_dryDay_27 : decode cX10_dryDay 27 = .ok (.iconst 0, 1) := by decide +kernel
theorem dX10_dryDay_28 : decode cX10_dryDay 28 = .ok (.invokestatic 317, 3) := by decide +kernel
theorem dX10_dryDay_31 : decode cX10_dryDay 31 = .ok (.goto 6, 3) := by decide +kernel
theorem dX10_dryDay_34 : decode cX10_dryDay 34 = .ok (.iload_n 2, 1) := by decide +kernel
theorem dX10_dryDay_35 : decode cX10_dryDay 35 = .ok (.iconst 1, 1) := by decide +kernel
theorem dX10_dryDay_36 : decode cX10_dryDay 36 = .ok (.iadd, 1) := by decide +kernel
theorem dX10_dryDay_37 : decode cX10_dryDay 37 = .ok (.istore_n 2, 1) := by decide +kernel
theorem dX10_dryDay_38 : decode cX10_dryDay 38 = .ok (.iload_n 2, 1) := by decide +kernel
theorem dX10_dryDay_39 : decode cX10_dryDay 39 = .ok (.iconst 3, 1) := by decide +kernel
theorem dX10_dryDay_40 : decode cX10_dryDay 40 = .ok (.if_icmp .ne 5, 3) := by decide +kernel
theorem dX10_dryDay_43 : decode cX10_dryDay 43 = .ok (.iload_n 3, 1) := by decide +kernel
theorem dX10_dryDay_44 : decode cX10_dryDay 44 = .ok (.ireturn, 1) := by decide +kernel
theorem dX10_dryDay_45 : decode cX10_dryDay 45 = .ok (.iinc 3 1, 3) := by decide +kernel
theorem dX10_dryDay_48 : decode cX10_dryDay 48 = .ok (.goto (-39), 3) := by decide +kernel
theorem dX10_dryDay_51 : decode cX10_dryDay 51 = .ok (.bipush (-4), 2) := by decide +kernel
theorem dX10_dryDay_53 : decode cX10_dryDay 53 = .ok (.ireturn, 1) := by decide +kernel
theorem dX10_inBarn_0 : decode cX10_inBarn 0 = .ok (.aload_n 0, 1) := by decide +kernel
theorem dX10_inBarn_1 : decode cX10_inBarn 1 = .ok (.aload_n 1, 1) := by decide +kernel
theorem dX10_inBarn_2 : decode cX10_inBarn 2 = .ok (.invokevirtual 207, 3) := by decide +kernel
theorem dX10_inBarn_5 : decode cX10_inBarn 5 = .ok (.istore_n 2, 1) := by decide +kernel
theorem dX10_inBarn_6 : decode cX10_inBarn 6 = .ok (.iload_n 2, 1) := by decide +kernel
theorem dX10_inBarn_7 : decode cX10_inBarn 7 = .ok (.bipush (-4), 2) := by decide +kernel
theorem dX10_inBarn_9 : decode cX10_inBarn 9 = .ok (.if_icmp .ne 5, 3) := by decide +kernel
theorem dX10_inBarn_12 : decode cX10_inBarn 12 = .ok (.iconst 0, 1) := by decide +kernel
theorem dX10_inBarn_13 : decode cX10_inBarn 13 = .ok (.ireturn, 1) := by decide +kernel
theorem dX10_inBarn_14 : decode cX10_inBarn 14 = .ok (.aload_n 1, 1) := by decide +kernel
theorem dX10_inBarn_15 : decode cX10_inBarn 15 = .ok (.invokevirtual 130, 3) := by decide +kernel
theorem dX10_inBarn_18 : decode cX10_inBarn 18 = .ok (.istore_n 3, 1) := by decide +kernel
theorem dX10_inBarn_19 : decode cX10_inBarn 19 = .ok (.aload_n 1, 1) := by decide +kernel
theorem dX10_inBarn_20 : decode cX10_inBarn 20 = .ok (.getfield 139, 3) := by decide +kernel
theorem dX10_inBarn_23 : decode cX10_inBarn 23 = .ok (.iconst 1, 1) := by decide +kernel
theorem dX10_inBarn_24 : decode cX10_inBarn 24 = .ok (.iadd, 1) := by decide +kernel
theorem dX10_inBarn_25 : decode cX10_inBarn 25 = .ok (.istore 4, 2) := by decide +kernel
theorem dX10_inBarn_27 : decode cX10_inBarn 27 = .ok (.iload 4, 2) := by decide +kernel
theorem dX10_inBarn_29 : decode cX10_inBarn 29 = .ok (.iload_n 2, 1) := by decide +kernel
theorem dX10_inBarn_30 : decode cX10_inBarn 30 = .ok (.if_icmp .gt 26, 3) := by decide +kernel
theorem dX10_inBarn_33 : decode cX10_inBarn 33 = .ok (.aload_n 0, 1) := by decide +kernel
theorem dX10_inBarn_34 : decode cX10_inBarn 34 = .ok (.getfield 33, 3) := by decide +kernel
theorem dX10_inBarn_37 : decode cX10_inBarn 37 = .ok (.iload 4, 2) := by decide +kernel
theorem dX10_inBarn_39 : decode cX10_inBarn 39 = .ok (.baload, 1) := by decide +kernel
theorem dX10_inBarn_40 : decode cX10_inBarn 40 = .ok (.ifCond .eq 10, 3) := by decide +kernel
theorem dX10_inBarn_43 : decode cX10_inBarn 43 = .ok (.iload_n 3, 1) := by decide +kernel
theorem dX10_inBarn_44 : decode cX10_inBarn 44 = .ok (.iload_n 3, 1) := by decide +kernel
theorem dX10_inBarn_45 : decode cX10_inBarn 45 = .ok (.bipush 10, 2) := by decide +kernel
theorem dX10_inBarn_47 : decode cX10_inBarn 47 = .ok (.idiv, 1) := by decide +kernel
theorem dX10_inBarn_48 : decode cX10_inBarn 48 = .ok (.isub, 1) := by decide +kernel
theorem dX10_inBarn_49 : decode cX10_inBarn 49 = .ok (.istore_n 3, 1) := by decide +kernel
theorem dX10_inBarn_50 : decode cX10_inBarn 50 = .ok (.iinc 4 1, 3) := by decide +kernel
theorem dX10_inBarn_53 : decode cX10_inBarn 53 = .ok (.goto (-26), 3) := by decide +kernel
theorem dX10_inBarn_56 : decode cX10_inBarn 56 = .ok (.iload_n 3, 1) := by decide +kernel
theorem dX10_inBarn_57 : decode cX10_inBarn 57 = .ok (.ireturn, 1) := by decide +kernel
theorem dX10_keepPlot_0 : decode cX10_keepPlot 0 = .ok (.iload_n 2, 1) := by decide +kernel
theorem dX10_keepPlot_1 : decode cX10_keepPlot 1 = .ok (.invokestatic 77, 3) := by decide +kernel
theorem dX10_keepPlot_4 : decode cX10_keepPlot 4 = .ok (.ifCond .ne 5, 3) := by decide +kernel
theorem dX10_keepPlot_7 : decode cX10_keepPlot 7 = .ok (.iconst (-1), 1) := by decide +kernel
theorem dX10_keepPlot_8 : decode cX10_keepPlot 8 = .ok (.ireturn, 1) := by decide +kernel
theorem dX10_keepPlot_9 : decode cX10_keepPlot 9 = .ok (.aload_n 1, 1) := by decide +kernel
theorem dX10_keepPlot_10 : decode cX10_keepPlot 10 = .ok (.iconst 1, 1) := by decide +kernel
theorem dX10_keepPlot_11 : decode cX10_keepPlot 11 = .ok (.putfield 240, 3) := by decide +kernel
theorem dX10_keepPlot_14 : decode cX10_keepPlot 14 = .ok (.aload_n 1, 1) := by decide +kernel
theorem dX10_keepPlot_15 : decode cX10_keepPlot 15 = .ok (.iload_n 2, 1) := by decide +kernel
theorem dX10_keepPlot_16 : decode cX10_keepPlot 16 = .ok (.putfield 305, 3) := by decide +kernel
theorem dX10_keepPlot_19 : decode cX10_keepPlot 19 = .ok (.aload_n 1, 1) := by decide +kernel
theorem dX10_keepPlot_20 : decode cX10_keepPlot 20 = .ok (.aload_n 0, 1) := by decide +kernel
theorem dX10_keepPlot_21 : decode cX10_keepPlot 21 = .ok (.getfield 17, 3) := by decide +kernel
theorem dX10_keepPlot_24 : decode cX10_keepPlot 24 = .ok (.iload_n 2, 1) := by decide +kernel
theorem dX10_keepPlot_25 : decode cX10_keepPlot 25 = .ok (.aaload, 1) := by decide +kernel
theorem dX10_keepPlot_26 : decode cX10_keepPlot 26 = .ok (.getfield 95, 3) := by decide +kernel
theorem dX10_keepPlot_29 : decode cX10_keepPlot 29 = .ok (.putfield 296, 3) := by decide +kernel
theorem dX10_keepPlot_32 : decode cX10_keepPlot 32 = .ok (.aload_n 1, 1) := by decide +kernel
theorem dX10_keepPlot_33 : decode cX10_keepPlot 33 = .ok (.aload_n 0, 1) := by decide +kernel
theorem dX10_keepPlot_34 : decode cX10_keepPlot 34 = .ok (.getfield 17, 3) := by decide +kernel
theorem dX10_keepPlot_37 : decode cX10_keepPlot 37 = .ok (.iload_n 2, 1) := by decide +kernel
theorem dX10_keepPlot_38 : decode cX10_keepPlot 38 = .ok (.aaload, 1) := by decide +kernel
theorem dX10_keepPlot_39 : decode cX10_keepPlot 39 = .ok (.getfield 89, 3) := by decide +kernel
theorem dX10_keepPlot_42 : decode cX10_keepPlot 42 = .ok (.putfield 297, 3) := by decide +kernel
theorem dX10_keepPlot_45 : decode cX10_keepPlot 45 = .ok (.iconst 0, 1) := by decide +kernel
theorem dX10_keepPlot_46 : decode cX10_keepPlot 46 = .ok (.ireturn, 1) := by decide +kernel
theorem dX10_keepWorths_0 : decode cX10_keepWorths 0 = .ok (.aload_n 0, 1) := by decide +kernel
theorem dX10_keepWorths_1 : decode cX10_keepWorths 1 = .ok (.iload_n 2, 1) := by decide +kernel
theorem dX10_keepWorths_2 : decode cX10_keepWorths 2 = .ok (.invokevirtual 112, 3) := by decide +kernel
theorem dX10_keepWorths_5 : decode cX10_keepWorths 5 = .ok (.ifCond .ne 5, 3) := by decide +kernel
theorem dX10_keepWorths_8 : decode cX10_keepWorths 8 = .ok (.iconst (-1), 1) := by decide +kernel
theorem dX10_keepWorths_9 : decode cX10_keepWorths 9 = .ok (.ireturn, 1) := by decide +kernel
theorem dX10_keepWorths_10 : decode cX10_keepWorths 10 = .ok (.aload_n 1, 1) := by decide +kernel
theorem dX10_keepWorths_11 : decode cX10_keepWorths 11 = .ok (.iconst 3, 1) := by decide +kernel
theorem dX10_keepWorths_12 : decode cX10_keepWorths 12 = .ok (.bipush 24, 2) := by decide +kernel
theorem dX10_keepWorths_14 : decode cX10_keepWorths 14 = .ok (.invokevirtual 254, 3) := by decide +kernel
theorem dX10_keepWorths_17 : decode cX10_keepWorths 17 = .ok (.iconst 0, 1) := by decide +kernel
theorem dX10_keepWorths_18 : decode cX10_keepWorths 18 = .ok (.istore_n 3, 1) := by decide +kernel
theorem dX10_keepWorths_19 : decode cX10_keepWorths 19 = .ok (.iload_n 3, 1) := by decide +kernel
theorem dX10_keepWorths_20 : decode cX10_keepWorths 20 = .ok (.bipush 24, 2) := by decide +kernel
theorem dX10_keepWorths_22 : decode cX10_keepWorths 22 = .ok (.if_icmp .ge 21, 3) := by decide +kernel
theorem dX10_keepWorths_25 : decode cX10_keepWorths 25 = .ok (.aload_n 1, 1) := by decide +kernel
theorem dX10_keepWorths_26 : decode cX10_keepWorths 26 = .ok (.getfield 277, 3) := by decide +kernel
theorem dX10_keepWorths_29 : decode cX10_keepWorths 29 = .ok (.iload_n 3, 1) := by decide +kernel
theorem dX10_keepWorths_30 : decode cX10_keepWorths 30 = .ok (.aload_n 0, 1) := by decide +kernel
theorem dX10_keepWorths_31 : decode cX10_keepWorths 31 = .ok (.iload_n 2, 1) := by decide +kernel
theorem dX10_keepWorths_32 : decode cX10_keepWorths 32 = .ok (.iload_n 3, 1) := by decide +kernel
theorem dX10_keepWorths_33 : decode cX10_keepWorths 33 = .ok (.invokevirtual 158, 3) := by decide +kernel
theorem dX10_keepWorths_36 : decode cX10_keepWorths 36 = .ok (.iastore, 1) := by decide +kernel
theorem dX10_keepWorths_37 : decode cX10_keepWorths 37 = .ok (.iinc 3 1, 3) := by decide +kernel
theorem dX10_keepWorths_40 : decode cX10_keepWorths 40 = .ok (.goto (-21), 3) := by decide +kernel
theorem dX10_keepWorths_43 : decode cX10_keepWorths 43 = .ok (.iconst 0, 1) := by decide +kernel
theorem dX10_keepWorths_44 : decode cX10_keepWorths 44 = .ok (.ireturn, 1) := by decide +kernel
theorem dX10_keepOwners_0 : decode cX10_keepOwners 0 = .ok (.aload_n 1, 1) := by decide +kernel
theorem dX10_keepOwners_1 : decode cX10_keepOwners 1 = .ok (.iconst 4, 1) := by decide +kernel
theorem dX10_keepOwners_2 : decode cX10_keepOwners 2 = .ok (.bipush 24, 2) := by decide +kernel
theorem dX10_keepOwners_4 : decode cX10_keepOwners 4 = .ok (.invokevirtual 254, 3) := by decide +kernel
theorem dX10_keepOwners_7 : decode cX10_keepOwners 7 = .ok (.iconst 0, 1) := by decide +kernel
theorem dX10_keepOwners_8 : decode cX10_keepOwners 8 = .ok (.istore_n 2, 1) := by decide +kernel
theorem dX10_keepOwners_9 : decode cX10_keepOwners 9 = .ok (.iload_n 2, 1) := by decide +kernel
theorem dX10_keepOwners_10 : decode cX10_keepOwners 10 = .ok (.bipush 24, 2) := by decide +kernel
theorem dX10_keepOwners_12 : decode cX10_keepOwners 12 = .ok (.if_icmp .ge 41, 3) := by decide +kernel
theorem dX10_keepOwners_15 : decode cX10_keepOwners 15 = .ok (.aload_n 1, 1) := by decide +kernel
theorem dX10_keepOwners_16 : decode cX10_keepOwners 16 = .ok (.getfield 280, 3) := by decide +kernel
theorem dX10_keepOwners_19 : decode cX10_keepOwners 19 = .ok (.iload_n 2, 1) := by decide +kernel
theorem dX10_keepOwners_20 : decode cX10_keepOwners 20 = .ok (.aload_n 0, 1) := by decide +kernel
theorem dX10_keepOwners_21 : decode cX10_keepOwners 21 = .ok (.getfield 17, 3) := by decide +kernel
theorem dX10_keepOwners_24 : decode cX10_keepOwners 24 = .ok (.iload_n 2, 1) := by decide +kernel
theorem dX10_keepOwners_25 : decode cX10_keepOwners 25 = .ok (.aaload, 1) := by decide +kernel
theorem dX10_keepOwners_26 : decode cX10_keepOwners 26 = .ok (.invokevirtual 85, 3) := by decide +kernel
theorem dX10_keepOwners_29 : decode cX10_keepOwners 29 = .ok (.ifCond .eq 15, 3) := by decide +kernel
theorem dX10_keepOwners_32 : decode cX10_keepOwners 32 = .ok (.aload_n 0, 1) := by decide +kernel
theorem dX10_keepOwners_33 : decode cX10_keepOwners 33 = .ok (.getfield 17, 3) := by decide +kernel
theorem dX10_keepOwners_36 : decode cX10_keepOwners 36 = .ok (.iload_n 2, 1) := by decide +kernel
theorem dX10_keepOwners_37 : decode cX10_keepOwners 37 = .ok (.aaload, 1) := by decide +kernel
theorem dX10_keepOwners_38 : decode cX10_keepOwners 38 = .ok (.getfield 133, 3) := by decide +kernel
theorem dX10_keepOwners_41 : decode cX10_keepOwners 41 = .ok (.goto 4, 3) := by decide +kernel
theorem dX10_keepOwners_44 : decode cX10_keepOwners 44 = .ok (.iconst (-1), 1) := by decide +kernel
theorem dX10_keepOwners_45 : decode cX10_keepOwners 45 = .ok (.i2b, 1) := by decide +kernel
theorem dX10_keepOwners_46 : decode cX10_keepOwners 46 = .ok (.bastore, 1) := by decide +kernel
theorem dX10_keepOwners_47 : decode cX10_keepOwners 47 = .ok (.iinc 2 1, 3) := by decide +kernel
theorem dX10_keepOwners_50 : decode cX10_keepOwners 50 = .ok (.goto (-41), 3) := by decide +kernel
theorem dX10_keepOwners_53 : decode cX10_keepOwners 53 = .ok (.iconst 0, 1) := by decide +kernel
theorem dX10_keepOwners_54 : decode cX10_keepOwners 54 = .ok (.ireturn, 1) := by decide +kernel
theorem dX10_refusalOfPlotOn_0 : decode cX10_refusalOfPlotOn 0 = .ok (.iload_n 1, 1) := by decide +kernel
theorem dX10_refusalOfPlotOn_1 : decode cX10_refusalOfPlotOn 1 = .ok (.invokestatic 237, 3) := by decide +kernel
theorem dX10_refusalOfPlotOn_4 : decode cX10_refusalOfPlotOn 4 = .ok (.ifCond .ne 5, 3) := by decide +kernel
theorem dX10_refusalOfPlotOn_7 : decode cX10_refusalOfPlotOn 7 = .ok (.iconst (-1), 1) := by decide +kernel
theorem dX10_refusalOfPlotOn_8 : decode cX10_refusalOfPlotOn 8 = .ok (.ireturn, 1) := by decide +kernel
theorem dX10_refusalOfPlotOn_9 : decode cX10_refusalOfPlotOn 9 = .ok (.aload_n 0, 1) := by decide +kernel
theorem dX10_refusalOfPlotOn_10 : decode cX10_refusalOfPlotOn 10 = .ok (.getfield 29, 3) := by decide +kernel
theorem dX10_refusalOfPlotOn_13 : decode cX10_refusalOfPlotOn 13 = .ok (.iload_n 1, 1) := by decide +kernel
theorem dX10_refusalOfPlotOn_14 : decode cX10_refusalOfPlotOn 14 = .ok (.aaload, 1) := by decide +kernel
theorem dX10_refusalOfPlotOn_15 : decode cX10_refusalOfPlotOn 15 = .ok (.getfield 240, 3) := by decide +kernel
theorem dX10_refusalOfPlotOn_18 : decode cX10_refusalOfPlotOn 18 = .ok (.ifCond .ne 6, 3) := by decide +kernel
theorem dX10_refusalOfPlotOn_21 : decode cX10_refusalOfPlotOn 21 = .ok (.bipush (-11), 2) := by decide +kernel
theorem dX10_refusalOfPlotOn_23 : decode cX10_refusalOfPlotOn 23 = .ok (.ireturn, 1) := by decide +kernel
theorem dX10_refusalOfPlotOn_24 : decode cX10_refusalOfPlotOn 24 = .ok (.aload_n 0, 1) := by decide +kernel
theorem dX10_refusalOfPlotOn_25 : decode cX10_refusalOfPlotOn 25 = .ok (.getfield 29, 3) := by decide +kernel
theorem dX10_refusalOfPlotOn_28 : decode cX10_refusalOfPlotOn 28 = .ok (.iload_n 1, 1) := by decide +kernel
theorem dX10_refusalOfPlotOn_29 : decode cX10_refusalOfPlotOn 29 = .ok (.aaload, 1) := by decide +kernel
theorem dX10_refusalOfPlotOn_30 : decode cX10_refusalOfPlotOn 30 = .ok (.getfield 240, 3) := by decide +kernel
theorem dX10_refusalOfPlotOn_33 : decode cX10_refusalOfPlotOn 33 = .ok (.iconst 1, 1) := by decide +kernel
theorem dX10_refusalOfPlotOn_34 : decode cX10_refusalOfPlotOn 34 = .ok (.if_icmp .ne 7, 3) := by decide +kernel
theorem dX10_refusalOfPlotOn_37 : decode cX10_refusalOfPlotOn 37 = .ok (.iconst 0, 1) := by decide +kernel
theorem dX10_refusalOfPlotOn_38 : decode cX10_refusalOfPlotOn 38 = .ok (.goto 5, 3) := by decide +kernel
theorem dX10_refusalOfPlotOn_41 : decode cX10_refusalOfPlotOn 41 = .ok (.bipush (-12), 2) := by decide +kernel
theorem dX10_refusalOfPlotOn_43 : decode cX10_refusalOfPlotOn 43 = .ok (.ireturn, 1) := by decide +kernel
theorem dX10_isThrown_0 : decode cX10_isThrown 0 = .ok (.aload_n 0, 1) := by decide +kernel
theorem dX10_isThrown_1 : decode cX10_isThrown 1 = .ok (.invokevirtual 337, 3) := by decide +kernel
theorem dX10_isThrown_4 : decode cX10_isThrown 4 = .ok (.goto 6, 3) := by decide +kernel
theorem dX10_isThrown_7 : decode cX10_isThrown 7 = .ok (.astore_n 1, 1) := by decide +kernel
theorem dX10_isThrown_8 : decode cX10_isThrown 8 = .ok (.iconst 1, 1) := by decide +kernel
theorem dX10_isThrown_9 : decode cX10_isThrown 9 = .ok (.ireturn, 1) := by decide +kernel
theorem dX10_isThrown_10 : decode cX10_isThrown 10 = .ok (.iconst 0, 1) := by decide +kernel
theorem dX10_isThrown_11 : decode cX10_isThrown 11 = .ok (.ireturn, 1) := by decide +kernel
theorem dX11_init_0 : decode cX11_init 0 = .ok (.aload_n 0, 1) := by decide +kernel
theorem dX11_init_1 : decode cX11_init 1 = .ok (.invokespecial 1, 3) := by decide +kernel
theorem dX11_init_4 : decode cX11_init 4 = .ok (.aload_n 0, 1) := by decide +kernel
theorem dX11_init_5 : decode cX11_init 5 = .ok (.bipush 24, 2) := by decide +kernel
theorem dX11_init_7 : decode cX11_init 7 = .ok (.newarray .int, 2) := by decide +kernel
theorem dX11_init_9 : decode cX11_init 9 = .ok (.putfield 7, 3) := by decide +kernel
end
section
theorem dX11_init_12 : decode cX11_init 12 = .ok (.aload_n 0, 1) := by decide +kernel
theorem dX11_init_13 : decode cX11_init 13 = .ok (.bipush 24, 2) := by decide +kernel
theorem dX11_init_15 : decode cX11_init 15 = .ok (.newarray .int, 2) := by decide +kernel
theorem dX11_init_17 : decode cX11_init 17 = .ok (.putfield 13, 3) := by decide +kernel
theorem dX11_init_20 : decode cX11_init 20 = .ok (.aload_n 0, 1) := by decide +kernel
theorem dX11_init_21 : decode cX11_init 21 = .ok (.bipush 24, 2) := by decide +kernel
theorem dX11_init_23 : decode cX11_init 23 = .ok (.newarray .boolean, 2) := by decide +kernel
theorem dX11_init_25 : decode cX11_init 25 = .ok (.putfield 16, 3) := by decide +kernel
theorem dX11_init_28 : decode cX11_init 28 = .ok (.aload_n 0, 1) := by decide +kernel
theorem dX11_init_29 : decode cX11_init 29 = .ok (.bipush 24, 2) := by decide +kernel
theorem dX11_init_31 : decode cX11_init 31 = .ok (.newarray .int, 2) := by decide +kernel
theorem dX11_init_33 : decode cX11_init 33 = .ok (.putfield 20, 3) := by decide +kernel
theorem dX11_init_36 : decode cX11_init 36 = .ok (.aload_n 0, 1) := by decide +kernel
theorem dX11_init_37 : decode cX11_init 37 = .ok (.bipush 24, 2) := by decide +kernel
theorem dX11_init_39 : decode cX11_init 39 = .ok (.newarray .int, 2) := by decide +kernel
theorem dX11_init_41 : decode cX11_init 41 = .ok (.putfield 23, 3) := by decide +kernel
theorem dX11_init_44 : decode cX11_init 44 = .ok (.aload_n 0, 1) := by decide +kernel
theorem dX11_init_45 : decode cX11_init 45 = .ok (.bipush 24, 2) := by decide +kernel
theorem dX11_init_47 : decode cX11_init 47 = .ok (.newarray .int, 2) := by decide +kernel
theorem dX11_init_49 : decode cX11_init 49 = .ok (.putfield 26, 3) := by decide +kernel
theorem dX11_init_52 : decode cX11_init 52 = .ok (.aload_n 0, 1) := by decide +kernel
theorem dX11_init_53 : decode cX11_init 53 = .ok (.bipush 24, 2) := by decide +kernel
theorem dX11_init_55 : decode cX11_init 55 = .ok (.newarray .boolean, 2) := by decide +kernel
theorem dX11_init_57 : decode cX11_init 57 = .ok (.putfield 29, 3) := by decide +kernel
theorem dX11_init_60 : decode cX11_init 60 = .ok (.aload_n 0, 1) := by decide +kernel
theorem dX11_init_61 : decode cX11_init 61 = .ok (.bipush 24, 2) := by decide +kernel
theorem dX11_init_63 : decode cX11_init 63 = .ok (.newarray .int, 2) := by decide +kernel
theorem dX11_init_65 : decode cX11_init 65 = .ok (.putfield 32, 3) := by decide +kernel
theorem dX11_init_68 : decode cX11_init 68 = .ok (.aload_n 0, 1) := by decide +kernel
theorem dX11_init_69 : decode cX11_init 69 = .ok (.bipush 10, 2) := by decide +kernel
theorem dX11_init_71 : decode cX11_init 71 = .ok (.newarray .int, 2) := by decide +kernel
theorem dX11_init_73 : decode cX11_init 73 = .ok (.putfield 35, 3) := by decide +kernel
theorem dX11_init_76 : decode cX11_init 76 = .ok (.aload_n 0, 1) := by decide +kernel
theorem dX11_init_77 : decode cX11_init 77 = .ok (.bipush 10, 2) := by decide +kernel
theorem dX11_init_79 : decode cX11_init 79 = .ok (.newarray .int, 2) := by decide +kernel
theorem dX11_init_81 : decode cX11_init 81 = .ok (.putfield 38, 3) := by decide +kernel
theorem dX11_init_84 : decode cX11_init 84 = .ok (.aload_n 0, 1) := by decide +kernel
theorem dX11_init_85 : decode cX11_init 85 = .ok (.bipush 10, 2) := by decide +kernel
theorem dX11_init_87 : decode cX11_init 87 = .ok (.newarray .int, 2) := by decide +kernel
theorem dX11_init_89 : decode cX11_init 89 = .ok (.putfield 41, 3) := by decide +kernel
theorem dX11_init_92 : decode cX11_init 92 = .ok (.aload_n 0, 1) := by decide +kernel
theorem dX11_init_93 : decode cX11_init 93 = .ok (.bipush 10, 2) := by decide +kernel
theorem dX11_init_95 : decode cX11_init 95 = .ok (.newarray .boolean, 2) := by decide +kernel
theorem dX11_init_97 : decode cX11_init 97 = .ok (.putfield 44, 3) := by decide +kernel
theorem dX11_init_100 : decode cX11_init 100 = .ok (.aload_n 0, 1) := by decide +kernel
theorem dX11_init_101 : decode cX11_init 101 = .ok (.bipush 10, 2) := by decide +kernel
theorem dX11_init_103 : decode cX11_init 103 = .ok (.newarray .int, 2) := by decide +kernel
theorem dX11_init_105 : decode cX11_init 105 = .ok (.putfield 47, 3) := by decide +kernel
theorem dX11_init_108 : decode cX11_init 108 = .ok (.aload_n 0, 1) := by decide +kernel
theorem dX11_init_109 : decode cX11_init 109 = .ok (.bipush 10, 2) := by decide +kernel
theorem dX11_init_111 : decode cX11_init 111 = .ok (.newarray .int, 2) := by decide +kernel
theorem dX11_init_113 : decode cX11_init 113 = .ok (.putfield 50, 3) := by decide +kernel
theorem dX11_init_116 : decode cX11_init 116 = .ok (.aload_n 0, 1) := by decide +kernel
theorem dX11_init_117 : decode cX11_init 117 = .ok (.iconst 5, 1) := by decide +kernel
theorem dX11_init_118 : decode cX11_init 118 = .ok (.putfield 53, 3) := by decide +kernel
theorem dX11_init_121 : decode cX11_init 121 = .ok (.aload_n 0, 1) := by decide +kernel
theorem dX11_init_122 : decode cX11_init 122 = .ok (.bipush 10, 2) := by decide +kernel
theorem dX11_init_124 : decode cX11_init 124 = .ok (.newarray .int, 2) := by decide +kernel
theorem dX11_init_126 : decode cX11_init 126 = .ok (.putfield 57, 3) := by decide +kernel
theorem dX11_init_129 : decode cX11_init 129 = .ok (.aload_n 0, 1) := by decide +kernel
theorem dX11_init_130 : decode cX11_init 130 = .ok (.bipush 10, 2) := by decide +kernel
theorem dX11_init_132 : decode cX11_init 132 = .ok (.newarray .int, 2) := by decide +kernel
theorem dX11_init_134 : decode cX11_init 134 = .ok (.putfield 60, 3) := by decide +kernel
theorem dX11_init_137 : decode cX11_init 137 = .ok (.aload_n 0, 1) := by decide +kernel
theorem dX11_init_138 : decode cX11_init 138 = .ok (.bipush 31, 2) := by decide +kernel
theorem dX11_init_140 : decode cX11_init 140 = .ok (.newarray .boolean, 2) := by decide +kernel
theorem dX11_init_142 : decode cX11_init 142 = .ok (.putfield 63, 3) := by decide +kernel
theorem dX11_init_145 : decode cX11_init 145 = .ok (.aload_n 0, 1) := by decide +kernel
theorem dX11_init_146 : decode cX11_init 146 = .ok (.bipush 24, 2) := by decide +kernel
theorem dX11_init_148 : decode cX11_init 148 = .ok (.newarray .int, 2) := by decide +kernel
theorem dX11_init_150 : decode cX11_init 150 = .ok (.putfield 66, 3) := by decide +kernel
theorem dX11_init_153 : decode cX11_init 153 = .ok (.aload_n 0, 1) := by decide +kernel
theorem dX11_init_154 : decode cX11_init 154 = .ok (.bipush 24, 2) := by decide +kernel
theorem dX11_init_156 : decode cX11_init 156 = .ok (.newarray .boolean, 2) := by decide +kernel
theorem dX11_init_158 : decode cX11_init 158 = .ok (.putfield 69, 3) := by decide +kernel
theorem dX11_init_161 : decode cX11_init 161 = .ok (.aload_n 0, 1) := by decide +kernel
theorem dX11_init_162 : decode cX11_init 162 = .ok (.bipush 6, 2) := by decide +kernel
theorem dX11_init_164 : decode cX11_init 164 = .ok (.newarray .int, 2) := by decide +kernel
theorem dX11_init_166 : decode cX11_init 166 = .ok (.putfield 72, 3) := by decide +kernel
theorem dX11_init_169 : decode cX11_init 169 = .ok (.aload_n 0, 1) := by decide +kernel
theorem dX11_init_170 : decode cX11_init 170 = .ok (.bipush 64, 2) := by decide +kernel
theorem dX11_init_172 : decode cX11_init 172 = .ok (.newarray .int, 2) := by decide +kernel
theorem dX11_init_174 : decode cX11_init 174 = .ok (.putfield 75, 3) := by decide +kernel
theorem dX11_init_177 : decode cX11_init 177 = .ok (.aload_n 0, 1) := by decide +kernel
theorem dX11_init_178 : decode cX11_init 178 = .ok (.sipush 384, 3) := by decide +kernel
theorem dX11_init_181 : decode cX11_init 181 = .ok (.newarray .int, 2) := by decide +kernel
theorem dX11_init_183 : decode cX11_init 183 = .ok (.putfield 78, 3) := by decide +kernel
theorem dX11_init_186 : decode cX11_init 186 = .ok (.aload_n 0, 1) := by decide +kernel
theorem dX11_init_187 : decode cX11_init 187 = .ok (.bipush 10, 2) := by decide +kernel
theorem dX11_init_189 : decode cX11_init 189 = .ok (.newarray .int, 2) := by decide +kernel
theorem dX11_init_191 : decode cX11_init 191 = .ok (.putfield 81, 3) := by decide +kernel
theorem dX11_init_194 : decode cX11_init 194 = .ok (.aload_n 0, 1) := by decide +kernel
theorem dX11_init_195 : decode cX11_init 195 = .ok (.bipush 10, 2) := by decide +kernel
theorem dX11_init_197 : decode cX11_init 197 = .ok (.newarray .int, 2) := by decide +kernel
theorem dX11_init_199 : decode cX11_init 199 = .ok (.putfield 84, 3) := by decide +kernel
theorem dX11_init_202 : decode cX11_init 202 = .ok (.aload_n 0, 1) := by decide +kernel
theorem dX11_init_203 : decode cX11_init 203 = .ok (.bipush 10, 2) := by decide +kernel
theorem dX11_init_205 : decode cX11_init 205 = .ok (.newarray .int, 2) := by decide +kernel
theorem dX11_init_207 : decode cX11_init 207 = .ok (.putfield 87, 3) := by decide +kernel
theorem dX11_init_210 : decode cX11_init 210 = .ok (.aload_n 0, 1) := by decide +kernel
theorem dX11_init_211 : decode cX11_init 211 = .ok (.bipush 10, 2) := by decide +kernel
theorem dX11_init_213 : decode cX11_init 213 = .ok (.newarray .int, 2) := by decide +kernel
theorem dX11_init_215 : decode cX11_init 215 = .ok (.putfield 90, 3) := by decide +kernel
theorem dX11_init_218 : decode cX11_init 218 = .ok (.aload_n 0, 1) := by decide +kernel
theorem dX11_init_219 : decode cX11_init 219 = .ok (.bipush 8, 2) := by decide +kernel
theorem dX11_init_221 : decode cX11_init 221 = .ok (.newarray .int, 2) := by decide +kernel
theorem dX11_init_223 : decode cX11_init 223 = .ok (.putfield 93, 3) := by decide +kernel
theorem dX11_init_226 : decode cX11_init 226 = .ok (.aload_n 0, 1) := by decide +kernel
theorem dX11_init_227 : decode cX11_init 227 = .ok (.bipush 8, 2) := by decide +kernel
theorem dX11_init_229 : decode cX11_init 229 = .ok (.newarray .int, 2) := by decide +kernel
theorem dX11_init_231 : decode cX11_init 231 = .ok (.putfield 96, 3) := by decide +kernel
theorem dX11_init_234 : decode cX11_init 234 = .ok (.aload_n 0, 1) := by decide +kernel
theorem dX11_init_235 : decode cX11_init 235 = .ok (.bipush 8, 2) := by decide +kernel
theorem dX11_init_237 : decode cX11_init 237 = .ok (.newarray .int, 2) := by decide +kernel
theorem dX11_init_239 : decode cX11_init 239 = .ok (.putfield 99, 3) := by decide +kernel
theorem dX11_init_242 : decode cX11_init 242 = .ok (.aload_n 0, 1) := by decide +kernel
theorem dX11_init_243 : decode cX11_init 243 = .ok (.bipush 8, 2) := by decide +kernel
theorem dX11_init_245 : decode cX11_init 245 = .ok (.newarray .int, 2) := by decide +kernel
theorem dX11_init_247 : decode cX11_init 247 = .ok (.putfield 102, 3) := by decide +kernel
theorem dX11_init_250 : decode cX11_init 250 = .ok (.aload_n 0, 1) := by decide +kernel
theorem dX11_init_251 : decode cX11_init 251 = .ok (.bipush 8, 2) := by decide +kernel
theorem dX11_init_253 : decode cX11_init 253 = .ok (.newarray .int, 2) := by decide +kernel
theorem dX11_init_255 : decode cX11_init 255 = .ok (.putfield 105, 3) := by decide +kernel
theorem dX11_init_258 : decode cX11_init 258 = .ok (.aload_n 0, 1) := by decide +kernel
theorem dX11_init_259 : decode cX11_init 259 = .ok (.sipush 480, 3) := by decide +kernel
theorem dX11_init_262 : decode cX11_init 262 = .ok (.newarray .int, 2) := by decide +kernel
theorem dX11_init_264 : decode cX11_init 264 = .ok (.putfield 108, 3) := by decide +kernel
theorem dX11_init_267 : decode cX11_init 267 = .ok (.return_, 1) := by decide +kernel
theorem dX11_thrown_0 : decode cX11_thrown 0 = .ok (.aload_n 0, 1) := by decide +kernel
theorem dX11_thrown_1 : decode cX11_thrown 1 = .ok (.getfield 111, 3) := by decide +kernel
theorem dX11_thrown_4 : decode cX11_thrown 4 = .ok (.ireturn, 1) := by decide +kernel
theorem dX11_in_0 : decode cX11_in 0 = .ok (.iload_n 0, 1) := by decide +kernel
theorem dX11_in_1 : decode cX11_in 1 = .ok (.iload_n 1, 1) := by decide +kernel
theorem dX11_in_2 : decode cX11_in 2 = .ok (.if_icmp .lt 12, 3) := by decide +kernel
theorem dX11_in_5 : decode cX11_in 5 = .ok (.iload_n 0, 1) := by decide +kernel
theorem dX11_in_6 : decode cX11_in 6 = .ok (.iload_n 2, 1) := by decide +kernel
theorem dX11_in_7 : decode cX11_in 7 = .ok (.if_icmp .gt 7, 3) := by decide +kernel
theorem dX11_in_10 : decode cX11_in 10 = .ok (.iconst 1, 1) := by decide +kernel
theorem dX11_in_11 : decode cX11_in 11 = .ok (.goto 4, 3) := by decide +kernel
theorem dX11_in_14 : decode cX11_in 14 = .ok (.iconst 0, 1) := by decide +kernel
theorem dX11_in_15 : decode cX11_in 15 = .ok (.ireturn, 1) := by decide +kernel
theorem dX11_isPlot_0 : decode cX11_isPlot 0 = .ok (.iload_n 0, 1) := by decide +kernel
theorem dX11_isPlot_1 : decode cX11_isPlot 1 = .ok (.iconst 0, 1) := by decide +kernel
theorem dX11_isPlot_2 : decode cX11_isPlot 2 = .ok (.bipush 23, 2) := by decide +kernel
theorem dX11_isPlot_4 : decode cX11_isPlot 4 = .ok (.invokestatic 114, 3) := by decide +kernel
theorem dX11_isPlot_7 : decode cX11_isPlot 7 = .ok (.ireturn, 1) := by decide +kernel
theorem dX11_isBuyer_0 : decode cX11_isBuyer 0 = .ok (.iload_n 1, 1) := by decide +kernel
theorem dX11_isBuyer_1 : decode cX11_isBuyer 1 = .ok (.iconst 0, 1) := by decide +kernel
theorem dX11_isBuyer_2 : decode cX11_isBuyer 2 = .ok (.aload_n 0, 1) := by decide +kernel
theorem dX11_isBuyer_3 : decode cX11_isBuyer 3 = .ok (.getfield 118, 3) := by decide +kernel
theorem dX11_isBuyer_6 : decode cX11_isBuyer 6 = .ok (.iconst 1, 1) := by decide +kernel
theorem dX11_isBuyer_7 : decode cX11_isBuyer 7 = .ok (.isub, 1) := by decide +kernel
theorem dX11_isBuyer_8 : decode cX11_isBuyer 8 = .ok (.invokestatic 114, 3) := by decide +kernel
theorem dX11_isBuyer_11 : decode cX11_isBuyer 11 = .ok (.ireturn, 1) := by decide +kernel
theorem dX11_plot_0 : decode cX11_plot 0 = .ok (.iload_n 1, 1) := by decide +kernel
theorem dX11_plot_1 : decode cX11_plot 1 = .ok (.invokestatic 121, 3) := by decide +kernel
theorem dX11_plot_4 : decode cX11_plot 4 = .ok (.ifCond .eq 23, 3) := by decide +kernel
theorem dX11_plot_7 : decode cX11_plot 7 = .ok (.iload_n 2, 1) := by decide +kernel
theorem dX11_plot_8 : decode cX11_plot 8 = .ok (.iconst 0, 1) := by decide +kernel
theorem dX11_plot_9 : decode cX11_plot 9 = .ok (.iconst 3, 1) := by decide +kernel
theorem dX11_plot_10 : decode cX11_plot 10 = .ok (.invokestatic 114, 3) := by decide +kernel
theorem dX11_plot_13 : decode cX11_plot 13 = .ok (.ifCond .eq 14, 3) := by decide +kernel
theorem dX11_plot_16 : decode cX11_plot 16 = .ok (.iload_n 3, 1) := by decide +kernel
theorem dX11_plot_17 : decode cX11_plot 17 = .ok (.iconst 0, 1) := by decide +kernel
theorem dX11_plot_18 : decode cX11_plot 18 = .ok (.sipush 200, 3) := by decide +kernel
theorem dX11_plot_21 : decode cX11_plot 21 = .ok (.invokestatic 114, 3) := by decide +kernel
theorem dX11_plot_24 : decode cX11_plot 24 = .ok (.ifCond .ne 5, 3) := by decide +kernel
theorem dX11_plot_27 : decode cX11_plot 27 = .ok (.iconst (-1), 1) := by decide +kernel
theorem dX11_plot_28 : decode cX11_plot 28 = .ok (.ireturn, 1) := by decide +kernel
theorem dX11_plot_29 : decode cX11_plot 29 = .ok (.aload_n 0, 1) := by decide +kernel
theorem dX11_plot_30 : decode cX11_plot 30 = .ok (.getfield 16, 3) := by decide +kernel
theorem dX11_plot_33 : decode cX11_plot 33 = .ok (.iload_n 1, 1) := by decide +kernel
theorem dX11_plot_34 : decode cX11_plot 34 = .ok (.baload, 1) := by decide +kernel
theorem dX11_plot_35 : decode cX11_plot 35 = .ok (.ifCond .eq 6, 3) := by decide +kernel
theorem dX11_plot_38 : decode cX11_plot 38 = .ok (.bipush (-3), 2) := by decide +kernel
theorem dX11_plot_40 : decode cX11_plot 40 = .ok (.ireturn, 1) := by decide +kernel
theorem dX11_plot_41 : decode cX11_plot 41 = .ok (.aload_n 0, 1) := by decide +kernel
theorem dX11_plot_42 : decode cX11_plot 42 = .ok (.getfield 13, 3) := by decide +kernel
theorem dX11_plot_45 : decode cX11_plot 45 = .ok (.iload_n 1, 1) := by decide +kernel
theorem dX11_plot_46 : decode cX11_plot 46 = .ok (.iaload, 1) := by decide +kernel
theorem dX11_plot_47 : decode cX11_plot 47 = .ok (.istore 4, 2) := by decide +kernel
theorem dX11_plot_49 : decode cX11_plot 49 = .ok (.aload_n 0, 1) := by decide +kernel
theorem dX11_plot_50 : decode cX11_plot 50 = .ok (.getfield 7, 3) := by decide +kernel
theorem dX11_plot_53 : decode cX11_plot 53 = .ok (.iload_n 1, 1) := by decide +kernel
theorem dX11_plot_54 : decode cX11_plot 54 = .ok (.iload_n 2, 1) := by decide +kernel
theorem dX11_plot_55 : decode cX11_plot 55 = .ok (.iastore, 1) := by decide +kernel
theorem dX11_plot_56 : decode cX11_plot 56 = .ok (.aload_n 0, 1) := by decide +kernel
theorem dX11_plot_57 : decode cX11_plot 57 = .ok (.getfield 13, 3) := by decide +kernel
theorem dX11_plot_60 : decode cX11_plot 60 = .ok (.iload_n 1, 1) := by decide +kernel
theorem dX11_plot_61 : decode cX11_plot 61 = .ok (.iload_n 3, 1) := by decide +kernel
theorem dX11_plot_62 : decode cX11_plot 62 = .ok (.iastore, 1) := by decide +kernel
theorem dX11_plot_63 : decode cX11_plot 63 = .ok (.iload 4, 2) := by decide +kernel
theorem dX11_plot_65 : decode cX11_plot 65 = .ok (.ireturn, 1) := by decide +kernel
theorem dX11_buyer_0 : decode cX11_buyer 0 = .ok (.iload_n 1, 1) := by decide +kernel
theorem dX11_buyer_1 : decode cX11_buyer 1 = .ok (.iconst 0, 1) := by decide +kernel
theorem dX11_buyer_2 : decode cX11_buyer 2 = .ok (.bipush 50, 2) := by decide +kernel
theorem dX11_buyer_4 : decode cX11_buyer 4 = .ok (.invokestatic 114, 3) := by decide +kernel
theorem dX11_buyer_7 : decode cX11_buyer 7 = .ok (.ifCond .eq 20, 3) := by decide +kernel
theorem dX11_buyer_10 : decode cX11_buyer 10 = .ok (.iload_n 2, 1) := by decide +kernel
theorem dX11_buyer_11 : decode cX11_buyer 11 = .ok (.iconst 0, 1) := by decide +kernel
theorem dX11_buyer_12 : decode cX11_buyer 12 = .ok (.ldc 125, 2) := by decide +kernel
theorem dX11_buyer_14 : decode cX11_buyer 14 = .ok (.invokestatic 114, 3) := by decide +kernel
theorem dX11_buyer_17 : decode cX11_buyer 17 = .ok (.ifCond .eq 10, 3) := by decide +kernel
theorem dX11_buyer_20 : decode cX11_buyer 20 = .ok (.iload_n 3, 1) := by decide +kernel
theorem dX11_buyer_21 : decode cX11_buyer 21 = .ok (.invokestatic 121, 3) := by decide +kernel
theorem dX11_buyer_24 : decode cX11_buyer 24 = .ok (.ifCond .ne 5, 3) := by decide +kernel
theorem dX11_buyer_27 : decode cX11_buyer 27 = .ok (.iconst (-1), 1) := by decide +kernel
theorem dX11_buyer_28 : decode cX11_buyer 28 = .ok (.ireturn, 1) := by decide +kernel
theorem dX11_buyer_29 : decode cX11_buyer 29 = .ok (.aload_n 0, 1) := by decide +kernel
theorem dX11_buyer_30 : decode cX11_buyer 30 = .ok (.getfield 118, 3) := by decide +kernel
theorem dX11_buyer_33 : decode cX11_buyer 33 = .ok (.bipush 10, 2) := by decide +kernel
theorem dX11_buyer_35 : decode cX11_buyer 35 = .ok (.if_icmp .ne 6, 3) := by decide +kernel
theorem dX11_buyer_38 : decode cX11_buyer 38 = .ok (.bipush (-2), 2) := by decide +kernel
theorem dX11_buyer_40 : decode cX11_buyer 40 = .ok (.ireturn, 1) := by decide +kernel
theorem dX11_buyer_41 : decode cX11_buyer 41 = .ok (.aload_n 0, 1) := by decide +kernel
theorem dX11_buyer_42 : decode cX11_buyer 42 = .ok (.getfield 35, 3) := by decide +kernel
theorem dX11_buyer_45 : decode cX11_buyer 45 = .ok (.aload_n 0, 1) := by decide +kernel
theorem dX11_buyer_46 : decode cX11_buyer 46 = .ok (.getfield 118, 3) := by decide +kernel
theorem dX11_buyer_49 : decode cX11_buyer 49 = .ok (.iload_n 1, 1) := by decide +kernel
theorem dX11_buyer_50 : decode cX11_buyer 50 = .ok (.iastore, 1) := by decide +kernel
theorem dX11_buyer_51 : decode cX11_buyer 51 = .ok (.aload_n 0, 1) := by decide +kernel
theorem dX11_buyer_52 : decode cX11_buyer 52 = .ok (.getfield 38, 3) := by decide +kernel
theorem dX11_buyer_55 : decode cX11_buyer 55 = .ok (.aload_n 0, 1) := by decide +kernel
theorem dX11_buyer_56 : decode cX11_buyer 56 = .ok (.getfield 118, 3) := by decide +kernel
theorem dX11_buyer_59 : decode cX11_buyer 59 = .ok (.iload_n 2, 1) := by decide +kernel
theorem dX11_buyer_60 : decode cX11_buyer 60 = .ok (.iastore, 1) := by decide +kernel
theorem dX11_buyer_61 : decode cX11_buyer 61 = .ok (.aload_n 0, 1) := by decide +kernel
theorem dX11_buyer_62 : decode cX11_buyer 62 = .ok (.getfield 41, 3) := by decide +kernel
theorem dX11_buyer_65 : decode cX11_buyer 65 = .ok (.aload_n 0, 1) := by decide +kernel
theorem dX11_buyer_66 : decode cX11_buyer 66 = .ok (.getfield 118, 3) := by decide +kernel
theorem dX11_buyer_69 : decode cX11_buyer 69 = .ok (.iload_n 3, 1) := by decide +kernel
theorem dX11_buyer_70 : decode cX11_buyer 70 = .ok (.iastore, 1) := by decide +kernel
theorem dX11_buyer_71 : decode cX11_buyer 71 = .ok (.aload_n 0, 1) := by decide +kernel
theorem dX11_buyer_72 : decode cX11_buyer 72 = .ok (.getfield 44, 3) := by decide +kernel
theorem dX11_buyer_75 : decode cX11_buyer 75 = .ok (.aload_n 0, 1) := by decide +kernel
theorem dX11_buyer_76 : decode cX11_buyer 76 = .ok (.getfield 118, 3) := by decide +kernel
theorem dX11_buyer_79 : decode cX11_buyer 79 = .ok (.iconst 0, 1) := by decide +kernel
theorem dX11_buyer_80 : decode cX11_buyer 80 = .ok (.bastore, 1) := by decide +kernel
theorem dX11_buyer_81 : decode cX11_buyer 81 = .ok (.aload_n 0, 1) := by decide +kernel
theorem dX11_buyer_82 : decode cX11_buyer 82 = .ok (.getfield 47, 3) := by decide +kernel
theorem dX11_buyer_85 : decode cX11_buyer 85 = .ok (.aload_n 0, 1) := by decide +kernel
theorem dX11_buyer_86 : decode cX11_buyer 86 = .ok (.getfield 118, 3) := by decide +kernel
theorem dX11_buyer_89 : decode cX11_buyer 89 = .ok (.bipush (-2), 2) := by decide +kernel
theorem dX11_buyer_91 : decode cX11_buyer 91 = .ok (.iastore, 1) := by decide +kernel
theorem dX11_buyer_92 : decode cX11_buyer 92 = .ok (.aload_n 0, 1) := by decide +kernel
theorem dX11_buyer_93 : decode cX11_buyer 93 = .ok (.getfield 50, 3) := by decide +kernel
theorem dX11_buyer_96 : decode cX11_buyer 96 = .ok (.aload_n 0, 1) := by decide +kernel
theorem dX11_buyer_97 : decode cX11_buyer 97 = .ok (.getfield 118, 3) := by decide +kernel
theorem dX11_buyer_100 : decode cX11_buyer 100 = .ok (.iconst 0, 1) := by decide +kernel
theorem dX11_buyer_101 : decode cX11_buyer 101 = .ok (.iastore, 1) := by decide +kernel
theorem dX11_buyer_102 : decode cX11_buyer 102 = .ok (.aload_n 0, 1) := by decide +kernel
theorem dX11_buyer_103 : decode cX11_buyer 103 = .ok (.dup, 1) := by decide +kernel
theorem dX11_buyer_104 : decode cX11_buyer 104 = .ok (.getfield 118, 3) := by decide +kernel
theorem dX11_buyer_107 : decode cX11_buyer 107 = .ok (.iconst 1, 1) := by decide +kernel
theorem dX11_buyer_108 : decode cX11_buyer 108 = .ok (.iadd, 1) := by decide +kernel
theorem dX11_buyer_109 : decode cX11_buyer 109 = .ok (.putfield 118, 3) := by decide +kernel
theorem dX11_buyer_112 : decode cX11_buyer 112 = .ok (.aload_n 0, 1) := by decide +kernel
theorem dX11_buyer_113 : decode cX11_buyer 113 = .ok (.getfield 118, 3) := by decide +kernel
theorem dX11_buyer_116 : decode cX11_buyer 116 = .ok (.iconst 1, 1) := by decide +kernel
theorem dX11_buyer_117 : decode cX11_buyer 117 = .ok (.isub, 1) := by decide +kernel
theorem dX11_buyer_118 : decode cX11_buyer 118 = .ok (.ireturn, 1) := by decide +kernel
theorem dX11_purse_0 : decode cX11_purse 0 = .ok (.aload_n 0, 1) := by decide +kernel
theorem dX11_purse_1 : decode cX11_purse 1 = .ok (.iload_n 1, 1) := by decide +kernel
theorem dX11_purse_2 : decode cX11_purse 2 = .ok (.invokevirtual 126, 3) := by decide +kernel
theorem dX11_purse_5 : decode cX11_purse 5 = .ok (.ifCond .eq 13, 3) := by decide +kernel
theorem dX11_purse_8 : decode cX11_purse 8 = .ok (.iload_n 2, 1) := by decide +kernel
theorem dX11_purse_9 : decode cX11_purse 9 = .ok (.iconst 0, 1) := by decide +kernel
theorem dX11_purse_10 : decode cX11_purse 10 = .ok (.ldc 125, 2) := by decide +kernel
theorem dX11_purse_12 : decode cX11_purse 12 = .ok (.invokestatic 114, 3) := by decide +kernel
theorem dX11_purse_15 : decode cX11_purse 15 = .ok (.ifCond .ne 5, 3) := by decide +kernel
theorem dX11_purse_18 : decode cX11_purse 18 = .ok (.iconst (-1), 1) := by decide +kernel
theorem dX11_purse_19 : decode cX11_purse 19 = .ok (.ireturn, 1) := by decide +kernel
theorem dX11_purse_20 : decode cX11_purse 20 = .ok (.aload_n 0, 1) := by decide +kernel
theorem dX11_purse_21 : decode cX11_purse 21 = .ok (.getfield 38, 3) := by decide +kernel
theorem dX11_purse_24 : decode cX11_purse 24 = .ok (.iload_n 1, 1) := by decide +kernel
theorem dX11_purse_25 : decode cX11_purse 25 = .ok (.iaload, 1) := by decide +kernel
theorem dX11_purse_26 : decode cX11_purse 26 = .ok (.istore_n 3, 1) := by decide +kernel
theorem dX11_purse_27 : decode cX11_purse 27 = .ok (.aload_n 0, 1) := by decide +kernel
theorem dX11_purse_28 : decode cX11_purse 28 = .ok (.getfield 38, 3) := by decide +kernel
theorem dX11_purse_31 : decode cX11_purse 31 = .ok (.iload_n 1, 1) := by decide +kernel
theorem dX11_purse_32 : decode cX11_purse 32 = .ok (.iload_n 2, 1) := by decide +kernel
theorem dX11_purse_33 : decode cX11_purse 33 = .ok (.iastore, 1) := by decide +kernel
theorem dX11_purse_34 : decode cX11_purse 34 = .ok (.iload_n 3, 1) := by decide +kernel
theorem dX11_purse_35 : decode cX11_purse 35 = .ok (.ireturn, 1) := by decide +kernel
theorem dX11_waits_0 : decode cX11_waits 0 = .ok (.aload_n 0, 1) := by decide +kernel
theorem dX11_waits_1 : decode cX11_waits 1 = .ok (.iload_n 1, 1) := by decide +kernel
theorem dX11_waits_2 : decode cX11_waits 2 = .ok (.invokevirtual 126, 3) := by decide +kernel
theorem dX11_waits_5 : decode cX11_waits 5 = .ok (.ifCond .ne 5, 3) := by decide +kernel
theorem dX11_waits_8 : decode cX11_waits 8 = .ok (.iconst (-1), 1) := by decide +kernel
theorem dX11_waits_9 : decode cX11_waits 9 = .ok (.ireturn, 1) := by decide +kernel
theorem dX11_waits_10 : decode cX11_waits 10 = .ok (.aload_n 0, 1) := by decide +kernel
theorem dX11_waits_11 : decode cX11_waits 11 = .ok (.getfield 44, 3) := by decide +kernel
theorem dX11_waits_14 : decode cX11_waits 14 = .ok (.iload_n 1, 1) := by decide +kernel
theorem dX11_waits_15 : decode cX11_waits 15 = .ok (.baload, 1) := by decide +kernel
theorem dX11_waits_16 : decode cX11_waits 16 = .ok (.iload_n 2, 1) := by decide +kernel
theorem dX11_waits_17 : decode cX11_waits 17 = .ok (.if_icmp .eq 7, 3) := by decide +kernel
theorem dX11_waits_20 : decode cX11_waits 20 = .ok (.iconst 1, 1) := by decide +kernel
theorem dX11_waits_21 : decode cX11_waits 21 = .ok (.goto 4, 3) := by decide +kernel
theorem dX11_waits_24 : decode cX11_waits 24 = .ok (.iconst 0, 1) := by decide +kernel
theorem dX11_waits_25 : decode cX11_waits 25 = .ok (.istore_n 3, 1) := by decide +kernel
theorem dX11_waits_26 : decode cX11_waits 26 = .ok (.aload_n 0, 1) := by decide +kernel
theorem dX11_waits_27 : decode cX11_waits 27 = .ok (.getfield 44, 3) := by decide +kernel
theorem dX11_waits_30 : decode cX11_waits 30 = .ok (.iload_n 1, 1) := by decide +kernel
theorem dX11_waits_31 : decode cX11_waits 31 = .ok (.iload_n 2, 1) := by decide +kernel
theorem dX11_waits_32 : decode cX11_waits 32 = .ok (.bastore, 1) := by decide +kernel
theorem dX11_waits_33 : decode cX11_waits 33 = .ok (.iload_n 3, 1) := by decide +kernel
theorem dX11_waits_34 : decode cX11_waits 34 = .ok (.ireturn, 1) := by decide +kernel
theorem dX11_surety_0 : decode cX11_surety 0 = .ok (.aload_n 0, 1) := by decide +kernel
theorem dX11_surety_1 : decode cX11_surety 1 = .ok (.iload_n 1, 1) := by decide +kernel
theorem dX11_surety_2 : decode cX11_surety 2 = .ok (.invokevirtual 126, 3) := by decide +kernel
theorem dX11_surety_5 : decode cX11_surety 5 = .ok (.ifCond .eq 21, 3) := by decide +kernel
theorem dX11_surety_8 : decode cX11_surety 8 = .ok (.iload_n 2, 1) := by decide +kernel
theorem dX11_surety_9 : decode cX11_surety 9 = .ok (.iload_n 1, 1) := by decide +kernel
theorem dX11_surety_10 : decode cX11_surety 10 = .ok (.if_icmp .eq 16, 3) := by decide +kernel
theorem dX11_surety_13 : decode cX11_surety 13 = .ok (.iload_n 2, 1) := by decide +kernel
theorem dX11_surety_14 : decode cX11_surety 14 = .ok (.iconst (-1), 1) := by decide +kernel
theorem dX11_surety_15 : decode cX11_surety 15 = .ok (.if_icmp .eq 13, 3) := by decide +kernel
theorem dX11_surety_18 : decode cX11_surety 18 = .ok (.aload_n 0, 1) := by decide +kernel
theorem dX11_surety_19 : decode cX11_surety 19 = .ok (.iload_n 2, 1) := by decide +kernel
theorem dX11_surety_20 : decode cX11_surety 20 = .ok (.invokevirtual 126, 3) := by decide +kernel
theorem dX11_surety_23 : decode cX11_surety 23 = .ok (.ifCond .ne 5, 3) := by decide +kernel
theorem dX11_surety_26 : decode cX11_surety 26 = .ok (.iconst (-1), 1) := by decide +kernel
theorem dX11_surety_27 : decode cX11_surety 27 = .ok (.ireturn, 1) := by decide +kernel
theorem dX11_surety_28 : decode cX11_surety 28 = .ok (.aload_n 0, 1) := by decide +kernel
theorem dX11_surety_29 : decode cX11_surety 29 = .ok (.getfield 47, 3) := by decide +kernel
theorem dX11_surety_32 : decode cX11_surety 32 = .ok (.iload_n 1, 1) := by decide +kernel
theorem dX11_surety_33 : decode cX11_surety 33 = .ok (.iaload, 1) := by decide +kernel
theorem dX11_surety_34 : decode cX11_surety 34 = .ok (.istore_n 3, 1) := by decide +kernel
theorem dX11_surety_35 : decode cX11_surety 35 = .ok (.aload_n 0, 1) := by decide +kernel
theorem dX11_surety_36 : decode cX11_surety 36 = .ok (.getfield 47, 3) := by decide +kernel
theorem dX11_surety_39 : decode cX11_surety 39 = .ok (.iload_n 1, 1) := by decide +kernel
theorem dX11_surety_40 : decode cX11_surety 40 = .ok (.iload_n 2, 1) := by decide +kernel
theorem dX11_surety_41 : decode cX11_surety 41 = .ok (.iconst (-1), 1) := by decide +kernel
theorem dX11_surety_42 : decode cX11_surety 42 = .ok (.if_icmp .ne 8, 3) := by decide +kernel
theorem dX11_surety_45 : decode cX11_surety 45 = .ok (.bipush (-2), 2) := by decide +kernel
theorem dX11_surety_47 : decode cX11_surety 47 = .ok (.goto 4, 3) := by decide +kernel
theorem dX11_surety_50 : decode cX11_surety 50 = .ok (.iload_n 2, 1) := by decide +kernel
theorem dX11_surety_51 : decode cX11_surety 51 = .ok (.iastore, 1) := by decide +kernel
theorem dX11_surety_52 : decode cX11_surety 52 = .ok (.iload_n 3, 1) := by decide +kernel
theorem dX11_surety_53 : decode cX11_surety 53 = .ok (.ireturn, 1) := by decide +kernel
theorem dX11_step_0 : decode cX11_step 0 = .ok (.iload_n 1, 1) := by decide +kernel
theorem dX11_step_1 : decode cX11_step 1 = .ok (.iconst 1, 1) := by decide +kernel
theorem dX11_step_2 : decode cX11_step 2 = .ok (.bipush 100, 2) := by decide +kernel
theorem dX11_step_4 : decode cX11_step 4 = .ok (.invokestatic 114, 3) := by decide +kernel
theorem dX11_step_7 : decode cX11_step 7 = .ok (.ifCond .ne 5, 3) := by decide +kernel
theorem dX11_step_10 : decode cX11_step 10 = .ok (.iconst (-1), 1) := by decide +kernel
theorem dX11_step_11 : decode cX11_step 11 = .ok (.ireturn, 1) := by decide +kernel
theorem dX11_step_12 : decode cX11_step 12 = .ok (.aload_n 0, 1) := by decide +kernel
theorem dX11_step_13 : decode cX11_step 13 = .ok (.getfield 53, 3) := by decide +kernel
theorem dX11_step_16 : decode cX11_step 16 = .ok (.istore_n 2, 1) := by decide +kernel
theorem dX11_step_17 : decode cX11_step 17 = .ok (.aload_n 0, 1) := by decide +kernel
theorem dX11_step_18 : decode cX11_step 18 = .ok (.iload_n 1, 1) := by decide +kernel
theorem dX11_step_19 : decode cX11_step 19 = .ok (.putfield 53, 3) := by decide +kernel
theorem dX11_step_22 : decode cX11_step 22 = .ok (.iload_n 2, 1) := by decide +kernel
theorem dX11_step_23 : decode cX11_step 23 = .ok (.ireturn, 1) := by decide +kernel
theorem dX11_chanceOf_0 : decode cX11_chanceOf 0 = .ok (.iload_n 0, 1) := by decide +kernel
theorem dX11_chanceOf_1 : decode cX11_chanceOf 1 = .ok (.ifCond .ne 8, 3) := by decide +kernel
theorem dX11_chanceOf_4 : decode cX11_chanceOf 4 = .ok (.bipush 80, 2) := by decide +kernel
theorem dX11_chanceOf_6 : decode cX11_chanceOf 6 = .ok (.goto 25, 3) := by decide +kernel
theorem dX11_chanceOf_9 : decode cX11_chanceOf 9 = .ok (.iload_n 0, 1) := by decide +kernel
theorem dX11_chanceOf_10 : decode cX11_chanceOf 10 = .ok (.iconst 1, 1) := by decide +kernel
theorem dX11_chanceOf_11 : decode cX11_chanceOf 11 = .ok (.if_icmp .ne 8, 3) := by decide +kernel
theorem dX11_chanceOf_14 : decode cX11_chanceOf 14 = .ok (.bipush 50, 2) := by decide +kernel
theorem dX11_chanceOf_16 : decode cX11_chanceOf 16 = .ok (.goto 15, 3) := by decide +kernel
theorem dX11_chanceOf_19 : decode cX11_chanceOf 19 = .ok (.iload_n 0, 1) := by decide +kernel
theorem dX11_chanceOf_20 : decode cX11_chanceOf 20 = .ok (.iconst 2, 1) := by decide +kernel
theorem dX11_chanceOf_21 : decode cX11_chanceOf 21 = .ok (.if_icmp .ne 8, 3) := by decide +kernel
theorem dX11_chanceOf_24 : decode cX11_chanceOf 24 = .ok (.bipush 25, 2) := by decide +kernel
theorem dX11_chanceOf_26 : decode cX11_chanceOf 26 = .ok (.goto 5, 3) := by decide +kernel
theorem dX11_chanceOf_29 : decode cX11_chanceOf 29 = .ok (.bipush 95, 2) := by decide +kernel
theorem dX11_chanceOf_31 : decode cX11_chanceOf 31 = .ok (.ireturn, 1) := by decide +kernel
theorem dX11_hayOf_0 : decode cX11_hayOf 0 = .ok (.aload_n 0, 1) := by decide +kernel
theorem dX11_hayOf_1 : decode cX11_hayOf 1 = .ok (.getfield 13, 3) := by decide +kernel
theorem dX11_hayOf_4 : decode cX11_hayOf 4 = .ok (.iload_n 1, 1) := by decide +kernel
theorem dX11_hayOf_5 : decode cX11_hayOf 5 = .ok (.iaload, 1) := by decide +kernel
theorem dX11_hayOf_6 : decode cX11_hayOf 6 = .ok (.aload_n 0, 1) := by decide +kernel
theorem dX11_hayOf_7 : decode cX11_hayOf 7 = .ok (.getfield 7, 3) := by decide +kernel
theorem dX11_hayOf_10 : decode cX11_hayOf 10 = .ok (.iload_n 1, 1) := by decide +kernel
theorem dX11_hayOf_11 : decode cX11_hayOf 11 = .ok (.iaload, 1) := by decide +kernel
theorem dX11_hayOf_12 : decode cX11_hayOf 12 = .ok (.invokestatic 129, 3) := by decide +kernel
theorem dX11_hayOf_15 : decode cX11_hayOf 15 = .ok (.imul, 1) := by decide +kernel
theorem dX11_hayOf_16 : decode cX11_hayOf 16 = .ok (.bipush 100, 2) := by decide +kernel
theorem dX11_hayOf_18 : decode cX11_hayOf 18 = .ok (.idiv, 1) := by decide +kernel
theorem dX11_hayOf_19 : decode cX11_hayOf 19 = .ok (.ireturn, 1) := by decide +kernel
theorem dX11_stands_0 : decode cX11_stands 0 = .ok (.aload_n 0, 1) := by decide +kernel
theorem dX11_stands_1 : decode cX11_stands 1 = .ok (.getfield 16, 3) := by decide +kernel
theorem dX11_stands_4 : decode cX11_stands 4 = .ok (.iload_n 1, 1) := by decide +kernel
theorem dX11_stands_5 : decode cX11_stands 5 = .ok (.baload, 1) := by decide +kernel
theorem dX11_stands_6 : decode cX11_stands 6 = .ok (.ifCond .eq 25, 3) := by decide +kernel
theorem dX11_stands_9 : decode cX11_stands 9 = .ok (.aload_n 0, 1) := by decide +kernel
theorem dX11_stands_10 : decode cX11_stands 10 = .ok (.getfield 29, 3) := by decide +kernel
theorem dX11_stands_13 : decode cX11_stands 13 = .ok (.iload_n 1, 1) := by decide +kernel
theorem dX11_stands_14 : decode cX11_stands 14 = .ok (.baload, 1) := by decide +kernel
theorem dX11_stands_15 : decode cX11_stands 15 = .ok (.ifCond .ne 16, 3) := by decide +kernel
theorem dX11_stands_18 : decode cX11_stands 18 = .ok (.aload_n 0, 1) := by decide +kernel
theorem dX11_stands_19 : decode cX11_stands 19 = .ok (.getfield 13, 3) := by decide +kernel
theorem dX11_stands_22 : decode cX11_stands 22 = .ok (.iload_n 1, 1) := by decide +kernel
theorem dX11_stands_23 : decode cX11_stands 23 = .ok (.iaload, 1) := by decide +kernel
theorem dX11_stands_24 : decode cX11_stands 24 = .ok (.ifCond .le 7, 3) := by decide +kernel
theorem dX11_stands_27 : decode cX11_stands 27 = .ok (.iconst 1, 1) := by decide +kernel
theorem dX11_stands_28 : decode cX11_stands 28 = .ok (.goto 4, 3) := by decide +kernel
theorem dX11_stands_31 : decode cX11_stands 31 = .ok (.iconst 0, 1) := by decide +kernel
theorem dX11_stands_32 : decode cX11_stands 32 = .ok (.ireturn, 1) := by decide +kernel
theorem dX11_look_0 : decode cX11_look 0 = .ok (.iload_n 1, 1) := by decide +kernel
theorem dX11_look_1 : decode cX11_look 1 = .ok (.invokestatic 121, 3) := by decide +kernel
theorem dX11_look_4 : decode cX11_look 4 = .ok (.ifCond .ne 5, 3) := by decide +kernel
theorem dX11_look_7 : decode cX11_look 7 = .ok (.iconst (-1), 1) := by decide +kernel
theorem dX11_look_8 : decode cX11_look 8 = .ok (.ireturn, 1) := by decide +kernel
theorem dX11_look_9 : decode cX11_look 9 = .ok (.iload_n 2, 1) := by decide +kernel
theorem dX11_look_10 : decode cX11_look 10 = .ok (.tableswitch 153 0 7 #[46, 53, 60, 70, 76, 97, 118, 139], 46) := by decide +kernel
theorem dX11_look_56 : decode cX11_look 56 = .ok (.aload_n 0, 1) := by decide +kernel
theorem dX11_look_57 : decode cX11_look 57 = .ok (.getfield 7, 3) := by decide +kernel
theorem dX11_look_60 : decode cX11_look 60 = .ok (.iload_n 1, 1) := by decide +kernel
theorem dX11_look_61 : decode cX11_look 61 = .ok (.iaload, 1) := by decide +kernel
theorem dX11_look_62 : decode cX11_look 62 = .ok (.ireturn, 1) := by decide +kernel
theorem dX11_look_63 : decode cX11_look 63 = .ok (.aload_n 0, 1) := by decide +kernel
theorem dX11_look_64 : decode cX11_look 64 = .ok (.getfield 13, 3) := by decide +kernel
theorem dX11_look_67 : decode cX11_look 67 = .ok (.iload_n 1, 1) := by decide +kernel
theorem dX11_look_68 : decode cX11_look 68 = .ok (.iaload, 1) := by decide +kernel
theorem dX11_look_69 : decode cX11_look 69 = .ok (.ireturn, 1) := by decide +kernel
theorem dX11_look_70 : decode cX11_look 70 = .ok (.aload_n 0, 1) := by decide +kernel
theorem dX11_look_71 : decode cX11_look 71 = .ok (.getfield 7, 3) := by decide +kernel
theorem dX11_look_74 : decode cX11_look 74 = .ok (.iload_n 1, 1) := by decide +kernel
theorem dX11_look_75 : decode cX11_look 75 = .ok (.iaload, 1) := by decide +kernel
theorem dX11_look_76 : decode cX11_look 76 = .ok (.invokestatic 129, 3) := by decide +kernel
theorem dX11_look_79 : decode cX11_look 79 = .ok (.ireturn, 1) := by decide +kernel
theorem dX11_look_80 : decode cX11_look 80 = .ok (.aload_n 0, 1) := by decide +kernel
theorem dX11_look_81 : decode cX11_look 81 = .ok (.iload_n 1, 1) := by decide +kernel
theorem dX11_look_82 : decode cX11_look 82 = .ok (.invokevirtual 133, 3) := by decide +kernel
theorem dX11_look_85 : decode cX11_look 85 = .ok (.ireturn, 1) := by decide +kernel
theorem dX11_look_86 : decode cX11_look 86 = .ok (.aload_n 0, 1) := by decide +kernel
theorem dX11_look_87 : decode cX11_look 87 = .ok (.getfield 16, 3) := by decide +kernel
theorem dX11_look_90 : decode cX11_look 90 = .ok (.iload_n 1, 1) := by decide +kernel
theorem dX11_look_91 : decode cX11_look 91 = .ok (.baload, 1) := by decide +kernel
theorem dX11_look_92 : decode cX11_look 92 = .ok (.ifCond .eq 12, 3) := by decide +kernel
theorem dX11_look_95 : decode cX11_look 95 = .ok (.aload_n 0, 1) := by decide +kernel
theorem dX11_look_96 : decode cX11_look 96 = .ok (.getfield 20, 3) := by decide +kernel
theorem dX11_look_99 : decode cX11_look 99 = .ok (.iload_n 1, 1) := by decide +kernel
theorem dX11_look_100 : decode cX11_look 100 = .ok (.iaload, 1) := by decide +kernel
theorem dX11_look_101 : decode cX11_look 101 = .ok (.goto 5, 3) := by decide +kernel
theorem dX11_look_104 : decode cX11_look 104 = .ok (.bipush (-2), 2) := by decide +kernel
theorem dX11_look_106 : decode cX11_look 106 = .ok (.ireturn, 1) := by decide +kernel
theorem dX11_look_107 : decode cX11_look 107 = .ok (.aload_n 0, 1) := by decide +kernel
theorem dX11_look_108 : decode cX11_look 108 = .ok (.getfield 16, 3) := by decide +kernel
theorem dX11_look_111 : decode cX11_look 111 = .ok (.iload_n 1, 1) := by decide +kernel
theorem dX11_look_112 : decode cX11_look 112 = .ok (.baload, 1) := by decide +kernel
theorem dX11_look_113 : decode cX11_look 113 = .ok (.ifCond .eq 12, 3) := by decide +kernel
theorem dX11_look_116 : decode cX11_look 116 = .ok (.aload_n 0, 1) := by decide +kernel
theorem dX11_look_117 : decode cX11_look 117 = .ok (.getfield 23, 3) := by decide +kernel
theorem dX11_look_120 : decode cX11_look 120 = .ok (.iload_n 1, 1) := by decide +kernel
theorem dX11_look_121 : decode cX11_look 121 = .ok (.iaload, 1) := by decide +kernel
theorem dX11_look_122 : decode cX11_look 122 = .ok (.goto 5, 3) := by decide +kernel
theorem dX11_look_125 : decode cX11_look 125 = .ok (.bipush (-2), 2) := by decide +kernel
theorem dX11_look_127 : decode cX11_look 127 = .ok (.ireturn, 1) := by decide +kernel
theorem dX11_look_128 : decode cX11_look 128 = .ok (.aload_n 0, 1) := by decide +kernel
theorem dX11_look_129 : decode cX11_look 129 = .ok (.getfield 29, 3) := by decide +kernel
theorem dX11_look_132 : decode cX11_look 132 = .ok (.iload_n 1, 1) := by decide +kernel
theorem dX11_look_133 : decode cX11_look 133 = .ok (.baload, 1) := by decide +kernel
theorem dX11_look_134 : decode cX11_look 134 = .ok (.ifCond .eq 12, 3) := by decide +kernel
theorem dX11_look_137 : decode cX11_look 137 = .ok (.aload_n 0, 1) := by decide +kernel
theorem dX11_look_138 : decode cX11_look 138 = .ok (.getfield 32, 3) := by decide +kernel
theorem dX11_look_141 : decode cX11_look 141 = .ok (.iload_n 1, 1) := by decide +kernel
theorem dX11_look_142 : decode cX11_look 142 = .ok (.iaload, 1) := by decide +kernel
theorem dX11_look_143 : decode cX11_look 143 = .ok (.goto 5, 3) := by decide +kernel
theorem dX11_look_146 : decode cX11_look 146 = .ok (.bipush (-2), 2) := by decide +kernel
theorem dX11_look_148 : decode cX11_look 148 = .ok (.ireturn, 1) := by decide +kernel
theorem dX11_look_149 : decode cX11_look 149 = .ok (.aload_n 0, 1) := by decide +kernel
theorem dX11_look_150 : decode cX11_look 150 = .ok (.iload_n 1, 1) := by decide +kernel
theorem dX11_look_151 : decode cX11_look 151 = .ok (.invokevirtual 136, 3) := by decide +kernel
theorem dX11_look_154 : decode cX11_look 154 = .ok (.ifCond .eq 7, 3) := by decide +kernel
theorem dX11_look_157 : decode cX11_look 157 = .ok (.iconst 1, 1) := by decide +kernel
theorem dX11_look_158 : decode cX11_look 158 = .ok (.goto 4, 3) := by decide +kernel
theorem dX11_look_161 : decode cX11_look 161 = .ok (.iconst 0, 1) := by decide +kernel
theorem dX11_look_162 : decode cX11_look 162 = .ok (.ireturn, 1) := by decide +kernel
theorem dX11_look_163 : decode cX11_look 163 = .ok (.iconst (-1), 1) := by decide +kernel
theorem dX11_look_164 : decode cX11_look 164 = .ok (.ireturn, 1) := by decide +kernel
theorem dX11_has_0 : decode cX11_has 0 = .ok (.aload_n 0, 1) := by decide +kernel
theorem dX11_has_1 : decode cX11_has 1 = .ok (.getfield 16, 3) := by decide +kernel
theorem dX11_has_4 : decode cX11_has 4 = .ok (.iload_n 2, 1) := by decide +kernel
theorem dX11_has_5 : decode cX11_has 5 = .ok (.baload, 1) := by decide +kernel
theorem dX11_has_6 : decode cX11_has 6 = .ok (.ifCond .eq 17, 3) := by decide +kernel
theorem dX11_has_9 : decode cX11_has 9 = .ok (.aload_n 0, 1) := by decide +kernel
theorem dX11_has_10 : decode cX11_has 10 = .ok (.getfield 20, 3) := by decide +kernel
theorem dX11_has_13 : decode cX11_has 13 = .ok (.iload_n 2, 1) := by decide +kernel
theorem dX11_has_14 : decode cX11_has 14 = .ok (.iaload, 1) := by decide +kernel
theorem dX11_has_15 : decode cX11_has 15 = .ok (.iload_n 1, 1) := by decide +kernel
theorem dX11_has_16 : decode cX11_has 16 = .ok (.if_icmp .ne 7, 3) := by decide +kernel
theorem dX11_has_19 : decode cX11_has 19 = .ok (.iconst 1, 1) := by decide +kernel
theorem dX11_has_20 : decode cX11_has 20 = .ok (.goto 4, 3) := by decide +kernel
theorem dX11_has_23 : decode cX11_has 23 = .ok (.iconst 0, 1) := by decide +kernel
theorem dX11_has_24 : decode cX11_has 24 = .ok (.ireturn, 1) := by decide +kernel
theorem dX11_hayHeld_0 : decode cX11_hayHeld 0 = .ok (.iconst 0, 1) := by decide +kernel
theorem dX11_hayHeld_1 : decode cX11_hayHeld 1 = .ok (.istore_n 2, 1) := by decide +kernel
theorem dX11_hayHeld_2 : decode cX11_hayHeld 2 = .ok (.iconst 0, 1) := by decide +kernel
theorem dX11_hayHeld_3 : decode cX11_hayHeld 3 = .ok (.istore_n 3, 1) := by decide +kernel
theorem dX11_hayHeld_4 : decode cX11_hayHeld 4 = .ok (.iload_n 3, 1) := by decide +kernel
theorem dX11_hayHeld_5 : decode cX11_hayHeld 5 = .ok (.bipush 24, 2) := by decide +kernel
theorem dX11_hayHeld_7 : decode cX11_hayHeld 7 = .ok (.if_icmp .ge 30, 3) := by decide +kernel
theorem dX11_hayHeld_10 : decode cX11_hayHeld 10 = .ok (.iload_n 2, 1) := by decide +kernel
theorem dX11_hayHeld_11 : decode cX11_hayHeld 11 = .ok (.aload_n 0, 1) := by decide +kernel
theorem dX11_hayHeld_12 : decode cX11_hayHeld 12 = .ok (.iload_n 1, 1) := by decide +kernel
theorem dX11_hayHeld_13 : decode cX11_hayHeld 13 = .ok (.iload_n 3, 1) := by decide +kernel
theorem dX11_hayHeld_14 : decode cX11_hayHeld 14 = .ok (.invokevirtual 139, 3) := by decide +kernel
theorem dX11_hayHeld_17 : decode cX11_hayHeld 17 = .ok (.ifCond .eq 11, 3) := by decide +kernel
theorem dX11_hayHeld_20 : decode cX11_hayHeld 20 = .ok (.aload_n 0, 1) := by decide +kernel
theorem dX11_hayHeld_21 : decode cX11_hayHeld 21 = .ok (.iload_n 3, 1) := by decide +kernel
theorem dX11_hayHeld_22 : decode cX11_hayHeld 22 = .ok (.invokevirtual 133, 3) := by decide +kernel
theorem dX11_hayHeld_25 : decode cX11_hayHeld 25 = .ok (.goto 4, 3) := by decide +kernel
theorem dX11_hayHeld_28 : decode cX11_hayHeld 28 = .ok (.iconst 0, 1) := by decide +kernel
theorem dX11_hayHeld_29 : decode cX11_hayHeld 29 = .ok (.iadd, 1) := by decide +kernel
theorem dX11_hayHeld_30 : decode cX11_hayHeld 30 = .ok (.istore_n 2, 1) := by decide +kernel
theorem dX11_hayHeld_31 : decode cX11_hayHeld 31 = .ok (.iinc 3 1, 3) := by decide +kernel
theorem dX11_hayHeld_34 : decode cX11_hayHeld 34 = .ok (.goto (-30), 3) := by decide +kernel
theorem dX11_hayHeld_37 : decode cX11_hayHeld 37 = .ok (.iload_n 2, 1) := by decide +kernel
theorem dX11_hayHeld_38 : decode cX11_hayHeld 38 = .ok (.ireturn, 1) := by decide +kernel
theorem dX11_debt_0 : decode cX11_debt 0 = .ok (.iconst 0, 1) := by decide +kernel
theorem dX11_debt_1 : decode cX11_debt 1 = .ok (.istore_n 2, 1) := by decide +kernel
theorem dX11_debt_2 : decode cX11_debt 2 = .ok (.iconst 0, 1) := by decide +kernel
theorem dX11_debt_3 : decode cX11_debt 3 = .ok (.istore_n 3, 1) := by decide +kernel
theorem dX11_debt_4 : decode cX11_debt 4 = .ok (.iload_n 3, 1) := by decide +kernel
theorem dX11_debt_5 : decode cX11_debt 5 = .ok (.bipush 24, 2) := by decide +kernel
theorem dX11_debt_7 : decode cX11_debt 7 = .ok (.if_icmp .ge 31, 3) := by decide +kernel
theorem dX11_debt_10 : decode cX11_debt 10 = .ok (.iload_n 2, 1) := by decide +kernel
theorem dX11_debt_11 : decode cX11_debt 11 = .ok (.aload_n 0, 1) := by decide +kernel
theorem dX11_debt_12 : decode cX11_debt 12 = .ok (.iload_n 1, 1) := by decide +kernel
theorem dX11_debt_13 : decode cX11_debt 13 = .ok (.iload_n 3, 1) := by decide +kernel
theorem dX11_debt_14 : decode cX11_debt 14 = .ok (.invokevirtual 139, 3) := by decide +kernel
theorem dX11_debt_17 : decode cX11_debt 17 = .ok (.ifCond .eq 12, 3) := by decide +kernel
theorem dX11_debt_20 : decode cX11_debt 20 = .ok (.aload_n 0, 1) := by decide +kernel
theorem dX11_debt_21 : decode cX11_debt 21 = .ok (.getfield 23, 3) := by decide +kernel
theorem dX11_debt_24 : decode cX11_debt 24 = .ok (.iload_n 3, 1) := by decide +kernel
theorem dX11_debt_25 : decode cX11_debt 25 = .ok (.iaload, 1) := by decide +kernel
theorem dX11_debt_26 : decode cX11_debt 26 = .ok (.goto 4, 3) := by decide +kernel
theorem dX11_debt_29 : decode cX11_debt 29 = .ok (.iconst 0, 1) := by decide +kernel
theorem dX11_debt_30 : decode cX11_debt 30 = .ok (.iadd, 1) := by decide +kernel
theorem dX11_debt_31 : decode cX11_debt 31 = .ok (.istore_n 2, 1) := by decide +kernel
theorem dX11_debt_32 : decode cX11_debt 32 = .ok (.iinc 3 1, 3) := by decide +kernel
theorem dX11_debt_35 : decode cX11_debt 35 = .ok (.goto (-31), 3) := by decide +kernel
theorem dX11_debt_38 : decode cX11_debt 38 = .ok (.iload_n 2, 1) := by decide +kernel
theorem dX11_debt_39 : decode cX11_debt 39 = .ok (.ireturn, 1) := by decide +kernel
theorem dX11_about_0 : decode cX11_about 0 = .ok (.aload_n 0, 1) := by decide +kernel
theorem dX11_about_1 : decode cX11_about 1 = .ok (.iload_n 1, 1) := by decide +kernel
theorem dX11_about_2 : decode cX11_about 2 = .ok (.invokevirtual 126, 3) := by decide +kernel
theorem dX11_about_5 : decode cX11_about 5 = .ok (.ifCond .ne 5, 3) := by decide +kernel
theorem dX11_about_8 : decode cX11_about 8 = .ok (.iconst (-1), 1) := by decide +kernel
theorem dX11_about_9 : decode cX11_about 9 = .ok (.ireturn, 1) := by decide +kernel
theorem dX11_about_10 : decode cX11_about 10 = .ok (.iload_n 2, 1) := by decide +kernel
theorem dX11_about_11 : decode cX11_about 11 = .ok (.tableswitch 110 0 7 #[45, 52, 59, 66, 76, 82, 88, 95], 45) := by decide +kernel
theorem dX11_about_56 : decode cX11_about 56 = .ok (.aload_n 0, 1) := by decide +kernel
theorem dX11_about_57 : decode cX11_about 57 = .ok (.getfield 35, 3) := by decide +kernel
theorem dX11_about_60 : decode cX11_about 60 = .ok (.iload_n 1, 1) := by decide +kernel
theorem dX11_about_61 : decode cX11_about 61 = .ok (.iaload, 1) := by decide +kernel
theorem dX11_about_62 : decode cX11_about 62 = .ok (.ireturn, 1) := by decide +kernel
theorem dX11_about_63 : decode cX11_about 63 = .ok (.aload_n 0, 1) := by decide +kernel
theorem dX11_about_64 : decode cX11_about 64 = .ok (.getfield 38, 3) := by decide +kernel
theorem dX11_about_67 : decode cX11_about 67 = .ok (.iload_n 1, 1) := by decide +kernel
theorem dX11_about_68 : decode cX11_about 68 = .ok (.iaload, 1) := by decide +kernel
theorem dX11_about_69 : decode cX11_about 69 = .ok (.ireturn, 1) := by decide +kernel
theorem dX11_about_70 : decode cX11_about 70 = .ok (.aload_n 0, 1) := by decide +kernel
theorem dX11_about_71 : decode cX11_about 71 = .ok (.getfield 41, 3) := by decide +kernel
theorem dX11_about_74 : decode cX11_about 74 = .ok (.iload_n 1, 1) := by decide +kernel
theorem dX11_about_75 : decode cX11_about 75 = .ok (.iaload, 1) := by decide +kernel
theorem dX11_about_76 : decode cX11_about 76 = .ok (.ireturn, 1) := by decide +kernel
theorem dX11_about_77 : decode cX11_about 77 = .ok (.bipush 12, 2) := by decide +kernel
theorem dX11_about_79 : decode cX11_about 79 = .ok (.aload_n 0, 1) := by decide +kernel
theorem dX11_about_80 : decode cX11_about 80 = .ok (.getfield 35, 3) := by decide +kernel
theorem dX11_about_83 : decode cX11_about 83 = .ok (.iload_n 1, 1) := by decide +kernel
theorem dX11_about_84 : decode cX11_about 84 = .ok (.iaload, 1) := by decide +kernel
theorem dX11_about_85 : decode cX11_about 85 = .ok (.imul, 1) := by decide +kernel
theorem dX11_about_86 : decode cX11_about 86 = .ok (.ireturn, 1) := by decide +kernel
theorem dX11_about_87 : decode cX11_about 87 = .ok (.aload_n 0, 1) := by decide +kernel
theorem dX11_about_88 : decode cX11_about 88 = .ok (.iload_n 1, 1) := by decide +kernel
theorem dX11_about_89 : decode cX11_about 89 = .ok (.invokevirtual 143, 3) := by decide +kernel
theorem dX11_about_92 : decode cX11_about 92 = .ok (.ireturn, 1) := by decide +kernel
theorem dX11_about_93 : decode cX11_about 93 = .ok (.aload_n 0, 1) := by decide +kernel
theorem dX11_about_94 : decode cX11_about 94 = .ok (.iload_n 1, 1) := by decide +kernel
theorem dX11_about_95 : decode cX11_about 95 = .ok (.invokevirtual 146, 3) := by decide +kernel
theorem dX11_about_98 : decode cX11_about 98 = .ok (.ireturn, 1) := by decide +kernel
theorem dX11_about_99 : decode cX11_about 99 = .ok (.aload_n 0, 1) := by decide +kernel
theorem dX11_about_100 : decode cX11_about 100 = .ok (.getfield 50, 3) := by decide +kernel
theorem dX11_about_103 : decode cX11_about 103 = .ok (.iload_n 1, 1) := by decide +kernel
theorem dX11_about_104 : decode cX11_about 104 = .ok (.iaload, 1) := by decide +kernel
theorem dX11_about_105 : decode cX11_about 105 = .ok (.ireturn, 1) := by decide +kernel
theorem dX11_about_106 : decode cX11_about 106 = .ok (.aload_n 0, 1) := by decide +kernel
theorem dX11_about_107 : decode cX11_about 107 = .ok (.getfield 44, 3) := by decide +kernel
theorem dX11_about_110 : decode cX11_about 110 = .ok (.iload_n 1, 1) := by decide +kernel
theorem dX11_about_111 : decode cX11_about 111 = .ok (.baload, 1) := by decide +kernel
theorem dX11_about_112 : decode cX11_about 112 = .ok (.ifCond .eq 7, 3) := by decide +kernel
theorem dX11_about_115 : decode cX11_about 115 = .ok (.iconst 1, 1) := by decide +kernel
theorem dX11_about_116 : decode cX11_about 116 = .ok (.goto 4, 3) := by decide +kernel
theorem dX11_about_119 : decode cX11_about 119 = .ok (.iconst 0, 1) := by decide +kernel
theorem dX11_about_120 : decode cX11_about 120 = .ok (.ireturn, 1) := by decide +kernel
theorem dX11_about_121 : decode cX11_about 121 = .ok (.iconst (-1), 1) := by decide +kernel
theorem dX11_about_122 : decode cX11_about 122 = .ok (.ireturn, 1) := by decide +kernel
theorem dX11_apart_0 : decode cX11_apart 0 = .ok (.iload_n 0, 1) := by decide +kernel
theorem dX11_apart_1 : decode cX11_apart 1 = .ok (.iload_n 1, 1) := by decide +kernel
theorem dX11_apart_2 : decode cX11_apart 2 = .ok (.if_icmp .le 9, 3) := by decide +kernel
theorem dX11_apart_5 : decode cX11_apart 5 = .ok (.iload_n 0, 1) := by decide +kernel
theorem dX11_apart_6 : decode cX11_apart 6 = .ok (.iload_n 1, 1) := by decide +kernel
theorem dX11_apart_7 : decode cX11_apart 7 = .ok (.isub, 1) := by decide +kernel
theorem dX11_apart_8 : decode cX11_apart 8 = .ok (.goto 6, 3) := by decide +kernel
theorem dX11_apart_11 : decode cX11_apart 11 = .ok (.iload_n 1, 1) := by decide +kernel
theorem dX11_apart_12 : decode cX11_apart 12 = .ok (.iload_n 0, 1) := by decide +kernel
theorem dX11_apart_13 : decode cX11_apart 13 = .ok (.isub, 1) := by decide +kernel
theorem dX11_apart_14 : decode cX11_apart 14 = .ok (.ireturn, 1) := by decide +kernel
theorem dX11_steps_0 : decode cX11_steps 0 = .ok (.iload_n 0, 1) := by decide +kernel
theorem dX11_steps_1 : decode cX11_steps 1 = .ok (.bipush 6, 2) := by decide +kernel
theorem dX11_steps_3 : decode cX11_steps 3 = .ok (.irem, 1) := by decide +kernel
theorem dX11_steps_4 : decode cX11_steps 4 = .ok (.iload_n 1, 1) := by decide +kernel
theorem dX11_steps_5 : decode cX11_steps 5 = .ok (.bipush 6, 2) := by decide +kernel
theorem dX11_steps_7 : decode cX11_steps 7 = .ok (.irem, 1) := by decide +kernel
theorem dX11_steps_8 : decode cX11_steps 8 = .ok (.invokestatic 149, 3) := by decide +kernel
theorem dX11_steps_11 : decode cX11_steps 11 = .ok (.iload_n 0, 1) := by decide +kernel
theorem dX11_steps_12 : decode cX11_steps 12 = .ok (.bipush 6, 2) := by decide +kernel
theorem dX11_steps_14 : decode cX11_steps 14 = .ok (.idiv, 1) := by decide +kernel
theorem dX11_steps_15 : decode cX11_steps 15 = .ok (.iload_n 1, 1) := by decide +kernel
theorem dX11_steps_16 : decode cX11_steps 16 = .ok (.bipush 6, 2) := by decide +kernel
theorem dX11_steps_18 : decode cX11_steps 18 = .ok (.idiv, 1) := by decide +kernel
theorem dX11_steps_19 : decode cX11_steps 19 = .ok (.invokestatic 149, 3) := by decide +kernel
theorem dX11_steps_22 : decode cX11_steps 22 = .ok (.iadd, 1) := by decide +kernel
theorem dX11_steps_23 : decode cX11_steps 23 = .ok (.ireturn, 1) := by decide +kernel
theorem dX11_worthOf_0 : decode cX11_worthOf 0 = .ok (.bipush 10, 2) := by decide +kernel
theorem dX11_worthOf_2 : decode cX11_worthOf 2 = .ok (.aload_n 0, 1) := by decide +kernel
theorem dX11_worthOf_3 : decode cX11_worthOf 3 = .ok (.iload_n 1, 1) := by decide +kernel
theorem dX11_worthOf_4 : decode cX11_worthOf 4 = .ok (.invokevirtual 133, 3) := by decide +kernel
theorem dX11_worthOf_7 : decode cX11_worthOf 7 = .ok (.imul, 1) := by decide +kernel
theorem dX11_worthOf_8 : decode cX11_worthOf 8 = .ok (.iconst 5, 1) := by decide +kernel
theorem dX11_worthOf_9 : decode cX11_worthOf 9 = .ok (.iload_n 1, 1) := by decide +kernel
theorem dX11_worthOf_10 : decode cX11_worthOf 10 = .ok (.aload_n 0, 1) := by decide +kernel
theorem dX11_worthOf_11 : decode cX11_worthOf 11 = .ok (.getfield 41, 3) := by decide +kernel
theorem dX11_worthOf_14 : decode cX11_worthOf 14 = .ok (.iload_n 2, 1) := by decide +kernel
theorem dX11_worthOf_15 : decode cX11_worthOf 15 = .ok (.iaload, 1) := by decide +kernel
theorem dX11_worthOf_16 : decode cX11_worthOf 16 = .ok (.invokestatic 153, 3) := by decide +kernel
theorem dX11_worthOf_19 : decode cX11_worthOf 19 = .ok (.imul, 1) := by decide +kernel
theorem dX11_worthOf_20 : decode cX11_worthOf 20 = .ok (.isub, 1) := by decide +kernel
theorem dX11_worthOf_21 : decode cX11_worthOf 21 = .ok (.istore_n 3, 1) := by decide +kernel
theorem dX11_worthOf_22 : decode cX11_worthOf 22 = .ok (.iconst 0, 1) := by decide +kernel
theorem dX11_worthOf_23 : decode cX11_worthOf 23 = .ok (.istore 4, 2) := by decide +kernel
theorem dX11_worthOf_25 : decode cX11_worthOf 25 = .ok (.iconst 0, 1) := by decide +kernel
theorem dX11_worthOf_26 : decode cX11_worthOf 26 = .ok (.istore 5, 2) := by decide +kernel
theorem dX11_worthOf_28 : decode cX11_worthOf 28 = .ok (.iload 5, 2) := by decide +kernel
theorem dX11_worthOf_30 : decode cX11_worthOf 30 = .ok (.bipush 24, 2) := by decide +kernel
theorem dX11_worthOf_32 : decode cX11_worthOf 32 = .ok (.if_icmp .ge 41, 3) := by decide +kernel
theorem dX11_worthOf_35 : decode cX11_worthOf 35 = .ok (.iload 4, 2) := by decide +kernel
theorem dX11_worthOf_37 : decode cX11_worthOf 37 = .ok (.ifCond .ne 23, 3) := by decide +kernel
theorem dX11_worthOf_40 : decode cX11_worthOf 40 = .ok (.iload_n 1, 1) := by decide +kernel
theorem dX11_worthOf_41 : decode cX11_worthOf 41 = .ok (.iload 5, 2) := by decide +kernel
theorem dX11_worthOf_43 : decode cX11_worthOf 43 = .ok (.invokestatic 153, 3) := by decide +kernel
theorem dX11_worthOf_46 : decode cX11_worthOf 46 = .ok (.iconst 1, 1) := by decide +kernel
theorem dX11_worthOf_47 : decode cX11_worthOf 47 = .ok (.if_icmp .ne 17, 3) := by decide +kernel
theorem dX11_worthOf_50 : decode cX11_worthOf 50 = .ok (.aload_n 0, 1) := by decide +kernel
theorem dX11_worthOf_51 : decode cX11_worthOf 51 = .ok (.iload_n 2, 1) := by decide +kernel
theorem dX11_worthOf_52 : decode cX11_worthOf 52 = .ok (.iload 5, 2) := by decide +kernel
theorem dX11_worthOf_54 : decode cX11_worthOf 54 = .ok (.invokevirtual 139, 3) := by decide +kernel
theorem dX11_worthOf_57 : decode cX11_worthOf 57 = .ok (.ifCond .eq 7, 3) := by decide +kernel
theorem dX11_worthOf_60 : decode cX11_worthOf 60 = .ok (.iconst 1, 1) := by decide +kernel
theorem dX11_worthOf_61 : decode cX11_worthOf 61 = .ok (.goto 4, 3) := by decide +kernel
theorem dX11_worthOf_64 : decode cX11_worthOf 64 = .ok (.iconst 0, 1) := by decide +kernel
theorem dX11_worthOf_65 : decode cX11_worthOf 65 = .ok (.istore 4, 2) := by decide +kernel
theorem dX11_worthOf_67 : decode cX11_worthOf 67 = .ok (.iinc 5 1, 3) := by decide +kernel
theorem dX11_worthOf_70 : decode cX11_worthOf 70 = .ok (.goto (-42), 3) := by decide +kernel
theorem dX11_worthOf_73 : decode cX11_worthOf 73 = .ok (.iload 4, 2) := by decide +kernel
theorem dX11_worthOf_75 : decode cX11_worthOf 75 = .ok (.ifCond .eq 6, 3) := by decide +kernel
theorem dX11_worthOf_78 : decode cX11_worthOf 78 = .ok (.iinc 3 20, 3) := by decide +kernel
theorem dX11_worthOf_81 : decode cX11_worthOf 81 = .ok (.aload_n 0, 1) := by decide +kernel
theorem dX11_worthOf_82 : decode cX11_worthOf 82 = .ok (.iload_n 2, 1) := by decide +kernel
theorem dX11_worthOf_83 : decode cX11_worthOf 83 = .ok (.invokevirtual 143, 3) := by decide +kernel
theorem dX11_worthOf_86 : decode cX11_worthOf 86 = .ok (.bipush 12, 2) := by decide +kernel
theorem dX11_worthOf_88 : decode cX11_worthOf 88 = .ok (.aload_n 0, 1) := by decide +kernel
theorem dX11_worthOf_89 : decode cX11_worthOf 89 = .ok (.getfield 35, 3) := by decide +kernel
theorem dX11_worthOf_92 : decode cX11_worthOf 92 = .ok (.iload_n 2, 1) := by decide +kernel
theorem dX11_worthOf_93 : decode cX11_worthOf 93 = .ok (.iaload, 1) := by decide +kernel
theorem dX11_worthOf_94 : decode cX11_worthOf 94 = .ok (.imul, 1) := by decide +kernel
theorem dX11_worthOf_95 : decode cX11_worthOf 95 = .ok (.if_icmp .ge 7, 3) := by decide +kernel
theorem dX11_worthOf_98 : decode cX11_worthOf 98 = .ok (.iload_n 3, 1) := by decide +kernel
theorem dX11_worthOf_99 : decode cX11_worthOf 99 = .ok (.iconst 2, 1) := by decide +kernel
theorem dX11_worthOf_100 : decode cX11_worthOf 100 = .ok (.imul, 1) := by decide +kernel
theorem dX11_worthOf_101 : decode cX11_worthOf 101 = .ok (.istore_n 3, 1) := by decide +kernel
theorem dX11_worthOf_102 : decode cX11_worthOf 102 = .ok (.iload_n 3, 1) := by decide +kernel
theorem dX11_worthOf_103 : decode cX11_worthOf 103 = .ok (.ifCond .ge 7, 3) := by decide +kernel
theorem dX11_worthOf_106 : decode cX11_worthOf 106 = .ok (.iconst 0, 1) := by decide +kernel
theorem dX11_worthOf_107 : decode cX11_worthOf 107 = .ok (.goto 4, 3) := by decide +kernel
theorem dX11_worthOf_110 : decode cX11_worthOf 110 = .ok (.iload_n 3, 1) := by decide +kernel
theorem dX11_worthOf_111 : decode cX11_worthOf 111 = .ok (.ireturn, 1) := by decide +kernel
theorem dX11_worth_0 : decode cX11_worth 0 = .ok (.iload_n 1, 1) := by decide +kernel
theorem dX11_worth_1 : decode cX11_worth 1 = .ok (.invokestatic 121, 3) := by decide +kernel
theorem dX11_worth_4 : decode cX11_worth 4 = .ok (.ifCond .eq 20, 3) := by decide +kernel
theorem dX11_worth_7 : decode cX11_worth 7 = .ok (.aload_n 0, 1) := by decide +kernel
theorem dX11_worth_8 : decode cX11_worth 8 = .ok (.iload_n 2, 1) := by decide +kernel
theorem dX11_worth_9 : decode cX11_worth 9 = .ok (.invokevirtual 126, 3) := by decide +kernel
theorem dX11_worth_12 : decode cX11_worth 12 = .ok (.ifCond .eq 12, 3) := by decide +kernel
theorem dX11_worth_15 : decode cX11_worth 15 = .ok (.aload_n 0, 1) := by decide +kernel
theorem dX11_worth_16 : decode cX11_worth 16 = .ok (.iload_n 1, 1) := by decide +kernel
theorem dX11_worth_17 : decode cX11_worth 17 = .ok (.iload_n 2, 1) := by decide +kernel
theorem dX11_worth_18 : decode cX11_worth 18 = .ok (.invokevirtual 156, 3) := by decide +kernel
theorem dX11_worth_21 : decode cX11_worth 21 = .ok (.goto 4, 3) := by decide +kernel
theorem dX11_worth_24 : decode cX11_worth 24 = .ok (.iconst (-1), 1) := by decide +kernel
theorem dX11_worth_25 : decode cX11_worth 25 = .ok (.ireturn, 1) := by decide +kernel
theorem dX11_value_0 : decode cX11_value 0 = .ok (.iconst 0, 1) := by decide +kernel
theorem dX11_value_1 : decode cX11_value 1 = .ok (.istore_n 2, 1) := by decide +kernel
theorem dX11_value_2 : decode cX11_value 2 = .ok (.iload_n 2, 1) := by decide +kernel
theorem dX11_value_3 : decode cX11_value 3 = .ok (.aload_n 0, 1) := by decide +kernel
theorem dX11_value_4 : decode cX11_value 4 = .ok (.getfield 118, 3) := by decide +kernel
theorem dX11_value_7 : decode cX11_value 7 = .ok (.if_icmp .ge 39, 3) := by decide +kernel
theorem dX11_value_10 : decode cX11_value 10 = .ok (.aload_n 0, 1) := by decide +kernel
theorem dX11_value_11 : decode cX11_value 11 = .ok (.getfield 57, 3) := by decide +kernel
theorem dX11_value_14 : decode cX11_value 14 = .ok (.iload_n 2, 1) := by decide +kernel
theorem dX11_value_15 : decode cX11_value 15 = .ok (.aload_n 0, 1) := by decide +kernel
theorem dX11_value_16 : decode cX11_value 16 = .ok (.iload_n 1, 1) := by decide +kernel
theorem dX11_value_17 : decode cX11_value 17 = .ok (.iload_n 2, 1) := by decide +kernel
theorem dX11_value_18 : decode cX11_value 18 = .ok (.invokevirtual 156, 3) := by decide +kernel
theorem dX11_value_21 : decode cX11_value 21 = .ok (.iastore, 1) := by decide +kernel
theorem dX11_value_22 : decode cX11_value 22 = .ok (.aload_n 0, 1) := by decide +kernel
theorem dX11_value_23 : decode cX11_value 23 = .ok (.getfield 60, 3) := by decide +kernel
theorem dX11_value_26 : decode cX11_value 26 = .ok (.iload_n 2, 1) := by decide +kernel
theorem dX11_value_27 : decode cX11_value 27 = .ok (.aload_n 0, 1) := by decide +kernel
theorem dX11_value_28 : decode cX11_value 28 = .ok (.getfield 38, 3) := by decide +kernel
theorem dX11_value_31 : decode cX11_value 31 = .ok (.iload_n 2, 1) := by decide +kernel
theorem dX11_value_32 : decode cX11_value 32 = .ok (.iaload, 1) := by decide +kernel
theorem dX11_value_33 : decode cX11_value 33 = .ok (.aload_n 0, 1) := by decide +kernel
theorem dX11_value_34 : decode cX11_value 34 = .ok (.iload_n 2, 1) := by decide +kernel
theorem dX11_value_35 : decode cX11_value 35 = .ok (.invokevirtual 146, 3) := by decide +kernel
theorem dX11_value_38 : decode cX11_value 38 = .ok (.isub, 1) := by decide +kernel
theorem dX11_value_39 : decode cX11_value 39 = .ok (.iastore, 1) := by decide +kernel
theorem dX11_value_40 : decode cX11_value 40 = .ok (.iinc 2 1, 3) := by decide +kernel
theorem dX11_value_43 : decode cX11_value 43 = .ok (.goto (-41), 3) := by decide +kernel
theorem dX11_value_46 : decode cX11_value 46 = .ok (.return_, 1) := by decide +kernel
theorem dX11_burn_0 : decode cX11_burn 0 = .ok (.bipush (-4), 2) := by decide +kernel
theorem dX11_burn_2 : decode cX11_burn 2 = .ok (.istore_n 3, 1) := by decide +kernel
theorem dX11_burn_3 : decode cX11_burn 3 = .ok (.aload_n 0, 1) := by decide +kernel
theorem dX11_burn_4 : decode cX11_burn 4 = .ok (.iconst 0, 1) := by decide +kernel
theorem dX11_burn_5 : decode cX11_burn 5 = .ok (.putfield 159, 3) := by decide +kernel
theorem dX11_burn_8 : decode cX11_burn 8 = .ok (.iconst 0, 1) := by decide +kernel
theorem dX11_burn_9 : decode cX11_burn 9 = .ok (.istore 4, 2) := by decide +kernel
theorem dX11_burn_11 : decode cX11_burn 11 = .ok (.iload 4, 2) := by decide +kernel
theorem dX11_burn_13 : decode cX11_burn 13 = .ok (.iload_n 1, 1) := by decide +kernel
theorem dX11_burn_14 : decode cX11_burn 14 = .ok (.if_icmp .ge 96, 3) := by decide +kernel
theorem dX11_burn_17 : decode cX11_burn 17 = .ok (.iload_n 2, 1) := by decide +kernel
theorem dX11_burn_18 : decode cX11_burn 18 = .ok (.iload 4, 2) := by decide +kernel
theorem dX11_burn_20 : decode cX11_burn 20 = .ok (.iadd, 1) := by decide +kernel
theorem dX11_burn_21 : decode cX11_burn 21 = .ok (.aload_n 0, 1) := by decide +kernel
theorem dX11_burn_22 : decode cX11_burn 22 = .ok (.getfield 118, 3) := by decide +kernel
theorem dX11_burn_25 : decode cX11_burn 25 = .ok (.irem, 1) := by decide +kernel
theorem dX11_burn_26 : decode cX11_burn 26 = .ok (.istore 5, 2) := by decide +kernel
theorem dX11_burn_28 : decode cX11_burn 28 = .ok (.aload_n 0, 1) := by decide +kernel
theorem dX11_burn_29 : decode cX11_burn 29 = .ok (.getfield 159, 3) := by decide +kernel
theorem dX11_burn_32 : decode cX11_burn 32 = .ok (.aload_n 0, 1) := by decide +kernel
theorem dX11_burn_33 : decode cX11_burn 33 = .ok (.getfield 53, 3) := by decide +kernel
theorem dX11_burn_36 : decode cX11_burn 36 = .ok (.iadd, 1) := by decide +kernel
theorem dX11_burn_37 : decode cX11_burn 37 = .ok (.istore 6, 2) := by decide +kernel
theorem dX11_burn_39 : decode cX11_burn 39 = .ok (.iload 5, 2) := by decide +kernel
theorem dX11_burn_41 : decode cX11_burn 41 = .ok (.iload_n 3, 1) := by decide +kernel
theorem dX11_burn_42 : decode cX11_burn 42 = .ok (.if_icmp .eq 62, 3) := by decide +kernel
theorem dX11_burn_45 : decode cX11_burn 45 = .ok (.iload 6, 2) := by decide +kernel
theorem dX11_burn_47 : decode cX11_burn 47 = .ok (.aload_n 0, 1) := by decide +kernel
theorem dX11_burn_48 : decode cX11_burn 48 = .ok (.getfield 57, 3) := by decide +kernel
theorem dX11_burn_51 : decode cX11_burn 51 = .ok (.iload 5, 2) := by decide +kernel
theorem dX11_burn_53 : decode cX11_burn 53 = .ok (.iaload, 1) := by decide +kernel
theorem dX11_burn_54 : decode cX11_burn 54 = .ok (.if_icmp .gt 50, 3) := by decide +kernel
theorem dX11_burn_57 : decode cX11_burn 57 = .ok (.iload 6, 2) := by decide +kernel
theorem dX11_burn_59 : decode cX11_burn 59 = .ok (.aload_n 0, 1) := by decide +kernel
theorem dX11_burn_60 : decode cX11_burn 60 = .ok (.getfield 60, 3) := by decide +kernel
theorem dX11_burn_63 : decode cX11_burn 63 = .ok (.iload 5, 2) := by decide +kernel
theorem dX11_burn_65 : decode cX11_burn 65 = .ok (.iaload, 1) := by decide +kernel
theorem dX11_burn_66 : decode cX11_burn 66 = .ok (.if_icmp .gt 38, 3) := by decide +kernel
theorem dX11_burn_69 : decode cX11_burn 69 = .ok (.aload_n 0, 1) := by decide +kernel
theorem dX11_burn_70 : decode cX11_burn 70 = .ok (.getfield 44, 3) := by decide +kernel
theorem dX11_burn_73 : decode cX11_burn 73 = .ok (.iload 5, 2) := by decide +kernel
theorem dX11_burn_75 : decode cX11_burn 75 = .ok (.baload, 1) := by decide +kernel
theorem dX11_burn_76 : decode cX11_burn 76 = .ok (.ifCond .eq 19, 3) := by decide +kernel
theorem dX11_burn_79 : decode cX11_burn 79 = .ok (.iload_n 1, 1) := by decide +kernel
theorem dX11_burn_80 : decode cX11_burn 80 = .ok (.iload 4, 2) := by decide +kernel
theorem dX11_burn_82 : decode cX11_burn 82 = .ok (.isub, 1) := by decide +kernel
theorem dX11_burn_83 : decode cX11_burn 83 = .ok (.iconst 3, 1) := by decide +kernel
theorem dX11_burn_84 : decode cX11_burn 84 = .ok (.aload_n 0, 1) := by decide +kernel
theorem dX11_burn_85 : decode cX11_burn 85 = .ok (.getfield 118, 3) := by decide +kernel
theorem dX11_burn_88 : decode cX11_burn 88 = .ok (.imul, 1) := by decide +kernel
theorem dX11_burn_89 : decode cX11_burn 89 = .ok (.if_icmp .le 6, 3) := by decide +kernel
theorem dX11_burn_92 : decode cX11_burn 92 = .ok (.goto 12, 3) := by decide +kernel
theorem dX11_burn_95 : decode cX11_burn 95 = .ok (.iload 5, 2) := by decide +kernel
theorem dX11_burn_97 : decode cX11_burn 97 = .ok (.istore_n 3, 1) := by decide +kernel
theorem dX11_burn_98 : decode cX11_burn 98 = .ok (.aload_n 0, 1) := by decide +kernel
theorem dX11_burn_99 : decode cX11_burn 99 = .ok (.iload 6, 2) := by decide +kernel
theorem dX11_burn_101 : decode cX11_burn 101 = .ok (.putfield 159, 3) := by decide +kernel
theorem dX11_burn_104 : decode cX11_burn 104 = .ok (.iinc 4 1, 3) := by decide +kernel
theorem dX11_burn_107 : decode cX11_burn 107 = .ok (.goto (-96), 3) := by decide +kernel
theorem dX11_burn_110 : decode cX11_burn 110 = .ok (.iload_n 3, 1) := by decide +kernel
theorem dX11_burn_111 : decode cX11_burn 111 = .ok (.ireturn, 1) := by decide +kernel
theorem dX11_capOf_0 : decode cX11_capOf 0 = .ok (.aload_n 0, 1) := by decide +kernel
theorem dX11_capOf_1 : decode cX11_capOf 1 = .ok (.getfield 57, 3) := by decide +kernel
theorem dX11_capOf_4 : decode cX11_capOf 4 = .ok (.iload_n 1, 1) := by decide +kernel
theorem dX11_capOf_5 : decode cX11_capOf 5 = .ok (.iaload, 1) := by decide +kernel
theorem dX11_capOf_6 : decode cX11_capOf 6 = .ok (.aload_n 0, 1) := by decide +kernel
theorem dX11_capOf_7 : decode cX11_capOf 7 = .ok (.getfield 60, 3) := by decide +kernel
theorem dX11_capOf_10 : decode cX11_capOf 10 = .ok (.iload_n 1, 1) := by decide +kernel
theorem dX11_capOf_11 : decode cX11_capOf 11 = .ok (.iaload, 1) := by decide +kernel
theorem dX11_capOf_12 : decode cX11_capOf 12 = .ok (.if_icmp .ge 12, 3) := by decide +kernel
theorem dX11_capOf_15 : decode cX11_capOf 15 = .ok (.aload_n 0, 1) := by decide +kernel
theorem dX11_capOf_16 : decode cX11_capOf 16 = .ok (.getfield 57, 3) := by decide +kernel
theorem dX11_capOf_19 : decode cX11_capOf 19 = .ok (.iload_n 1, 1) := by decide +kernel
theorem dX11_capOf_20 : decode cX11_capOf 20 = .ok (.iaload, 1) := by decide +kernel
theorem dX11_capOf_21 : decode cX11_capOf 21 = .ok (.goto 9, 3) := by decide +kernel
theorem dX11_capOf_24 : decode cX11_capOf 24 = .ok (.aload_n 0, 1) := by decide +kernel
theorem dX11_capOf_25 : decode cX11_capOf 25 = .ok (.getfield 60, 3) := by decide +kernel
theorem dX11_capOf_28 : decode cX11_capOf 28 = .ok (.iload_n 1, 1) := by decide +kernel
theorem dX11_capOf_29 : decode cX11_capOf 29 = .ok (.iaload, 1) := by decide +kernel
theorem dX11_capOf_30 : decode cX11_capOf 30 = .ok (.ireturn, 1) := by decide +kernel
theorem dX11_lotFor_0 : decode cX11_lotFor 0 = .ok (.aload_n 0, 1) := by decide +kernel
theorem dX11_lotFor_1 : decode cX11_lotFor 1 = .ok (.bipush (-4), 2) := by decide +kernel
theorem dX11_lotFor_3 : decode cX11_lotFor 3 = .ok (.putfield 162, 3) := by decide +kernel
theorem dX11_lotFor_6 : decode cX11_lotFor 6 = .ok (.iconst 0, 1) := by decide +kernel
theorem dX11_lotFor_7 : decode cX11_lotFor 7 = .ok (.istore_n 1, 1) := by decide +kernel
theorem dX11_lotFor_8 : decode cX11_lotFor 8 = .ok (.iload_n 1, 1) := by decide +kernel
theorem dX11_lotFor_9 : decode cX11_lotFor 9 = .ok (.aload_n 0, 1) := by decide +kernel
theorem dX11_lotFor_10 : decode cX11_lotFor 10 = .ok (.getfield 118, 3) := by decide +kernel
theorem dX11_lotFor_13 : decode cX11_lotFor 13 = .ok (.if_icmp .ge 51, 3) := by decide +kernel
theorem dX11_lotFor_16 : decode cX11_lotFor 16 = .ok (.aload_n 0, 1) := by decide +kernel
theorem dX11_lotFor_17 : decode cX11_lotFor 17 = .ok (.iload_n 1, 1) := by decide +kernel
theorem dX11_lotFor_18 : decode cX11_lotFor 18 = .ok (.invokevirtual 165, 3) := by decide +kernel
theorem dX11_lotFor_21 : decode cX11_lotFor 21 = .ok (.aload_n 0, 1) := by decide +kernel
theorem dX11_lotFor_22 : decode cX11_lotFor 22 = .ok (.getfield 53, 3) := by decide +kernel
theorem dX11_lotFor_25 : decode cX11_lotFor 25 = .ok (.if_icmp .lt 33, 3) := by decide +kernel
theorem dX11_lotFor_28 : decode cX11_lotFor 28 = .ok (.aload_n 0, 1) := by decide +kernel
theorem dX11_lotFor_29 : decode cX11_lotFor 29 = .ok (.getfield 162, 3) := by decide +kernel
theorem dX11_lotFor_32 : decode cX11_lotFor 32 = .ok (.bipush (-4), 2) := by decide +kernel
theorem dX11_lotFor_34 : decode cX11_lotFor 34 = .ok (.if_icmp .eq 19, 3) := by decide +kernel
theorem dX11_lotFor_37 : decode cX11_lotFor 37 = .ok (.aload_n 0, 1) := by decide +kernel
theorem dX11_lotFor_38 : decode cX11_lotFor 38 = .ok (.iload_n 1, 1) := by decide +kernel
theorem dX11_lotFor_39 : decode cX11_lotFor 39 = .ok (.invokevirtual 165, 3) := by decide +kernel
theorem dX11_lotFor_42 : decode cX11_lotFor 42 = .ok (.aload_n 0, 1) := by decide +kernel
theorem dX11_lotFor_43 : decode cX11_lotFor 43 = .ok (.aload_n 0, 1) := by decide +kernel
theorem dX11_lotFor_44 : decode cX11_lotFor 44 = .ok (.getfield 162, 3) := by decide +kernel
theorem dX11_lotFor_47 : decode cX11_lotFor 47 = .ok (.invokevirtual 165, 3) := by decide +kernel
theorem dX11_lotFor_50 : decode cX11_lotFor 50 = .ok (.if_icmp .le 8, 3) := by decide +kernel
theorem dX11_lotFor_53 : decode cX11_lotFor 53 = .ok (.aload_n 0, 1) := by decide +kernel
theorem dX11_lotFor_54 : decode cX11_lotFor 54 = .ok (.iload_n 1, 1) := by decide +kernel
theorem dX11_lotFor_55 : decode cX11_lotFor 55 = .ok (.putfield 162, 3) := by decide +kernel
theorem dX11_lotFor_58 : decode cX11_lotFor 58 = .ok (.iinc 1 1, 3) := by decide +kernel
theorem dX11_lotFor_61 : decode cX11_lotFor 61 = .ok (.goto (-53), 3) := by decide +kernel
theorem dX11_lotFor_64 : decode cX11_lotFor 64 = .ok (.aload_n 0, 1) := by decide +kernel
theorem dX11_lotFor_65 : decode cX11_lotFor 65 = .ok (.getfield 162, 3) := by decide +kernel
theorem dX11_lotFor_68 : decode cX11_lotFor 68 = .ok (.bipush (-4), 2) := by decide +kernel
theorem dX11_lotFor_70 : decode cX11_lotFor 70 = .ok (.if_icmp .ne 6, 3) := by decide +kernel
theorem dX11_lotFor_73 : decode cX11_lotFor 73 = .ok (.bipush (-4), 2) := by decide +kernel
theorem dX11_lotFor_75 : decode cX11_lotFor 75 = .ok (.ireturn, 1) := by decide +kernel
theorem dX11_lotFor_76 : decode cX11_lotFor 76 = .ok (.iconst 0, 1) := by decide +kernel
theorem dX11_lotFor_77 : decode cX11_lotFor 77 = .ok (.istore_n 1, 1) := by decide +kernel
theorem dX11_lotFor_78 : decode cX11_lotFor 78 = .ok (.iconst 0, 1) := by decide +kernel
theorem dX11_lotFor_79 : decode cX11_lotFor 79 = .ok (.istore_n 2, 1) := by decide +kernel
theorem dX11_lotFor_80 : decode cX11_lotFor 80 = .ok (.iload_n 2, 1) := by decide +kernel
theorem dX11_lotFor_81 : decode cX11_lotFor 81 = .ok (.aload_n 0, 1) := by decide +kernel
theorem dX11_lotFor_82 : decode cX11_lotFor 82 = .ok (.getfield 118, 3) := by decide +kernel
theorem dX11_lotFor_85 : decode cX11_lotFor 85 = .ok (.if_icmp .ge 44, 3) := by decide +kernel
theorem dX11_lotFor_88 : decode cX11_lotFor 88 = .ok (.iload_n 2, 1) := by decide +kernel
theorem dX11_lotFor_89 : decode cX11_lotFor 89 = .ok (.aload_n 0, 1) := by decide +kernel
theorem dX11_lotFor_90 : decode cX11_lotFor 90 = .ok (.getfield 162, 3) := by decide +kernel
theorem dX11_lotFor_93 : decode cX11_lotFor 93 = .ok (.if_icmp .eq 30, 3) := by decide +kernel
theorem dX11_lotFor_96 : decode cX11_lotFor 96 = .ok (.aload_n 0, 1) := by decide +kernel
theorem dX11_lotFor_97 : decode cX11_lotFor 97 = .ok (.iload_n 2, 1) := by decide +kernel
theorem dX11_lotFor_98 : decode cX11_lotFor 98 = .ok (.invokevirtual 165, 3) := by decide +kernel
theorem dX11_lotFor_101 : decode cX11_lotFor 101 = .ok (.aload_n 0, 1) := by decide +kernel
theorem dX11_lotFor_102 : decode cX11_lotFor 102 = .ok (.getfield 53, 3) := by decide +kernel
theorem dX11_lotFor_105 : decode cX11_lotFor 105 = .ok (.if_icmp .lt 18, 3) := by decide +kernel
theorem dX11_lotFor_108 : decode cX11_lotFor 108 = .ok (.aload_n 0, 1) := by decide +kernel
theorem dX11_lotFor_109 : decode cX11_lotFor 109 = .ok (.iload_n 2, 1) := by decide +kernel
theorem dX11_lotFor_110 : decode cX11_lotFor 110 = .ok (.invokevirtual 165, 3) := by decide +kernel
theorem dX11_lotFor_113 : decode cX11_lotFor 113 = .ok (.iload_n 1, 1) := by decide +kernel
theorem dX11_lotFor_114 : decode cX11_lotFor 114 = .ok (.if_icmp .le 9, 3) := by decide +kernel
theorem dX11_lotFor_117 : decode cX11_lotFor 117 = .ok (.aload_n 0, 1) := by decide +kernel
theorem dX11_lotFor_118 : decode cX11_lotFor 118 = .ok (.iload_n 2, 1) := by decide +kernel
theorem dX11_lotFor_119 : decode cX11_lotFor 119 = .ok (.invokevirtual 165, 3) := by decide +kernel
theorem dX11_lotFor_122 : decode cX11_lotFor 122 = .ok (.istore_n 1, 1) := by decide +kernel
theorem dX11_lotFor_123 : decode cX11_lotFor 123 = .ok (.iinc 2 1, 3) := by decide +kernel
theorem dX11_lotFor_126 : decode cX11_lotFor 126 = .ok (.goto (-46), 3) := by decide +kernel
theorem dX11_lotFor_129 : decode cX11_lotFor 129 = .ok (.iload_n 1, 1) := by decide +kernel
theorem dX11_lotFor_130 : decode cX11_lotFor 130 = .ok (.aload_n 0, 1) := by decide +kernel
theorem dX11_lotFor_131 : decode cX11_lotFor 131 = .ok (.getfield 53, 3) := by decide +kernel
theorem dX11_lotFor_134 : decode cX11_lotFor 134 = .ok (.iadd, 1) := by decide +kernel
theorem dX11_lotFor_135 : decode cX11_lotFor 135 = .ok (.istore_n 2, 1) := by decide +kernel
theorem dX11_lotFor_136 : decode cX11_lotFor 136 = .ok (.iload_n 2, 1) := by decide +kernel
theorem dX11_lotFor_137 : decode cX11_lotFor 137 = .ok (.aload_n 0, 1) := by decide +kernel
theorem dX11_lotFor_138 : decode cX11_lotFor 138 = .ok (.aload_n 0, 1) := by decide +kernel
theorem dX11_lotFor_139 : decode cX11_lotFor 139 = .ok (.getfield 162, 3) := by decide +kernel
theorem dX11_lotFor_142 : decode cX11_lotFor 142 = .ok (.invokevirtual 165, 3) := by decide +kernel
theorem dX11_lotFor_145 : decode cX11_lotFor 145 = .ok (.if_icmp .ge 7, 3) := by decide +kernel
theorem dX11_lotFor_148 : decode cX11_lotFor 148 = .ok (.iload_n 2, 1) := by decide +kernel
theorem dX11_lotFor_149 : decode cX11_lotFor 149 = .ok (.goto 11, 3) := by decide +kernel
theorem dX11_lotFor_152 : decode cX11_lotFor 152 = .ok (.aload_n 0, 1) := by decide +kernel
theorem dX11_lotFor_153 : decode cX11_lotFor 153 = .ok (.aload_n 0, 1) := by decide +kernel
theorem dX11_lotFor_154 : decode cX11_lotFor 154 = .ok (.getfield 162, 3) := by decide +kernel
theorem dX11_lotFor_157 : decode cX11_lotFor 157 = .ok (.invokevirtual 165, 3) := by decide +kernel
theorem dX11_lotFor_160 : decode cX11_lotFor 160 = .ok (.ireturn, 1) := by decide +kernel
theorem dX11_candle_0 : decode cX11_candle 0 = .ok (.iload_n 1, 1) := by decide +kernel
theorem dX11_candle_1 : decode cX11_candle 1 = .ok (.invokestatic 121, 3) := by decide +kernel
theorem dX11_candle_4 : decode cX11_candle 4 = .ok (.ifCond .eq 21, 3) := by decide +kernel
theorem dX11_candle_7 : decode cX11_candle 7 = .ok (.iload_n 2, 1) := by decide +kernel
theorem dX11_candle_8 : decode cX11_candle 8 = .ok (.iconst 1, 1) := by decide +kernel
theorem dX11_candle_9 : decode cX11_candle 9 = .ok (.bipush 60, 2) := by decide +kernel
theorem dX11_candle_11 : decode cX11_candle 11 = .ok (.invokestatic 114, 3) := by decide +kernel
theorem dX11_candle_14 : decode cX11_candle 14 = .ok (.ifCond .eq 11, 3) := by decide +kernel
theorem dX11_candle_17 : decode cX11_candle 17 = .ok (.aload_n 0, 1) := by decide +kernel
theorem dX11_candle_18 : decode cX11_candle 18 = .ok (.iload_n 3, 1) := by decide +kernel
theorem dX11_candle_19 : decode cX11_candle 19 = .ok (.invokevirtual 126, 3) := by decide +kernel
theorem dX11_candle_22 : decode cX11_candle 22 = .ok (.ifCond .ne 5, 3) := by decide +kernel
theorem dX11_candle_25 : decode cX11_candle 25 = .ok (.iconst (-1), 1) := by decide +kernel
theorem dX11_candle_26 : decode cX11_candle 26 = .ok (.ireturn, 1) := by decide +kernel
theorem dX11_candle_27 : decode cX11_candle 27 = .ok (.aload_n 0, 1) := by decide +kernel
theorem dX11_candle_28 : decode cX11_candle 28 = .ok (.getfield 16, 3) := by decide +kernel
theorem dX11_candle_31 : decode cX11_candle 31 = .ok (.iload_n 1, 1) := by decide +kernel
theorem dX11_candle_32 : decode cX11_candle 32 = .ok (.baload, 1) := by decide +kernel
theorem dX11_candle_33 : decode cX11_candle 33 = .ok (.ifCond .eq 6, 3) := by decide +kernel
theorem dX11_candle_36 : decode cX11_candle 36 = .ok (.bipush (-3), 2) := by decide +kernel
theorem dX11_candle_38 : decode cX11_candle 38 = .ok (.ireturn, 1) := by decide +kernel
theorem dX11_candle_39 : decode cX11_candle 39 = .ok (.aload_n 0, 1) := by decide +kernel
theorem dX11_candle_40 : decode cX11_candle 40 = .ok (.iload_n 1, 1) := by decide +kernel
theorem dX11_candle_41 : decode cX11_candle 41 = .ok (.invokevirtual 168, 3) := by decide +kernel
theorem dX11_candle_44 : decode cX11_candle 44 = .ok (.aload_n 0, 1) := by decide +kernel
theorem dX11_candle_45 : decode cX11_candle 45 = .ok (.iload_n 2, 1) := by decide +kernel
theorem dX11_candle_46 : decode cX11_candle 46 = .ok (.iload_n 3, 1) := by decide +kernel
theorem dX11_candle_47 : decode cX11_candle 47 = .ok (.invokevirtual 172, 3) := by decide +kernel
theorem dX11_candle_50 : decode cX11_candle 50 = .ok (.istore 4, 2) := by decide +kernel
theorem dX11_candle_52 : decode cX11_candle 52 = .ok (.iload 4, 2) := by decide +kernel
theorem dX11_candle_54 : decode cX11_candle 54 = .ok (.bipush (-4), 2) := by decide +kernel
theorem dX11_candle_56 : decode cX11_candle 56 = .ok (.if_icmp .ne 6, 3) := by decide +kernel
theorem dX11_candle_59 : decode cX11_candle 59 = .ok (.bipush (-4), 2) := by decide +kernel
theorem dX11_candle_61 : decode cX11_candle 61 = .ok (.ireturn, 1) := by decide +kernel
theorem dX11_candle_62 : decode cX11_candle 62 = .ok (.aload_n 0, 1) := by decide +kernel
theorem dX11_candle_63 : decode cX11_candle 63 = .ok (.invokevirtual 175, 3) := by decide +kernel
theorem dX11_candle_66 : decode cX11_candle 66 = .ok (.istore 5, 2) := by decide +kernel
theorem dX11_candle_68 : decode cX11_candle 68 = .ok (.aload_n 0, 1) := by decide +kernel
theorem dX11_candle_69 : decode cX11_candle 69 = .ok (.getfield 16, 3) := by decide +kernel
theorem dX11_candle_72 : decode cX11_candle 72 = .ok (.iload_n 1, 1) := by decide +kernel
theorem dX11_candle_73 : decode cX11_candle 73 = .ok (.iconst 1, 1) := by decide +kernel
theorem dX11_candle_74 : decode cX11_candle 74 = .ok (.bastore, 1) := by decide +kernel
theorem dX11_candle_75 : decode cX11_candle 75 = .ok (.aload_n 0, 1) := by decide +kernel
theorem dX11_candle_76 : decode cX11_candle 76 = .ok (.getfield 20, 3) := by decide +kernel
theorem dX11_candle_79 : decode cX11_candle 79 = .ok (.iload_n 1, 1) := by decide +kernel
theorem dX11_candle_80 : decode cX11_candle 80 = .ok (.iload 4, 2) := by decide +kernel
theorem dX11_candle_82 : decode cX11_candle 82 = .ok (.iastore, 1) := by decide +kernel
theorem dX11_candle_83 : decode cX11_candle 83 = .ok (.aload_n 0, 1) := by decide +kernel
theorem dX11_candle_84 : decode cX11_candle 84 = .ok (.getfield 23, 3) := by decide +kernel
theorem dX11_candle_87 : decode cX11_candle 87 = .ok (.iload_n 1, 1) := by decide +kernel
theorem dX11_candle_88 : decode cX11_candle 88 = .ok (.aload_n 0, 1) := by decide +kernel
theorem dX11_candle_89 : decode cX11_candle 89 = .ok (.getfield 159, 3) := by decide +kernel
theorem dX11_candle_92 : decode cX11_candle 92 = .ok (.iastore, 1) := by decide +kernel
theorem dX11_candle_93 : decode cX11_candle 93 = .ok (.aload_n 0, 1) := by decide +kernel
theorem dX11_candle_94 : decode cX11_candle 94 = .ok (.getfield 26, 3) := by decide +kernel
theorem dX11_candle_97 : decode cX11_candle 97 = .ok (.iload_n 1, 1) := by decide +kernel
theorem dX11_candle_98 : decode cX11_candle 98 = .ok (.iload 5, 2) := by decide +kernel
theorem dX11_candle_100 : decode cX11_candle 100 = .ok (.ifCond .ge 7, 3) := by decide +kernel
theorem dX11_candle_103 : decode cX11_candle 103 = .ok (.iconst 0, 1) := by decide +kernel
theorem dX11_candle_104 : decode cX11_candle 104 = .ok (.goto 5, 3) := by decide +kernel
theorem dX11_candle_107 : decode cX11_candle 107 = .ok (.iload 5, 2) := by decide +kernel
theorem dX11_candle_109 : decode cX11_candle 109 = .ok (.iastore, 1) := by decide +kernel
theorem dX11_candle_110 : decode cX11_candle 110 = .ok (.aload_n 0, 1) := by decide +kernel
theorem dX11_candle_111 : decode cX11_candle 111 = .ok (.getfield 159, 3) := by decide +kernel
theorem dX11_candle_114 : decode cX11_candle 114 = .ok (.ireturn, 1) := by decide +kernel
theorem dX11_wins_0 : decode cX11_wins 0 = .ok (.iload_n 1, 1) := by decide +kernel
theorem dX11_wins_1 : decode cX11_wins 1 = .ok (.invokestatic 121, 3) := by decide +kernel
theorem dX11_wins_4 : decode cX11_wins 4 = .ok (.ifCond .eq 19, 3) := by decide +kernel
theorem dX11_wins_7 : decode cX11_wins 7 = .ok (.aload_n 0, 1) := by decide +kernel
theorem dX11_wins_8 : decode cX11_wins 8 = .ok (.iload_n 2, 1) := by decide +kernel
theorem dX11_wins_9 : decode cX11_wins 9 = .ok (.invokevirtual 126, 3) := by decide +kernel
theorem dX11_wins_12 : decode cX11_wins 12 = .ok (.ifCond .eq 11, 3) := by decide +kernel
theorem dX11_wins_15 : decode cX11_wins 15 = .ok (.aload_n 0, 1) := by decide +kernel
theorem dX11_wins_16 : decode cX11_wins 16 = .ok (.iload_n 3, 1) := by decide +kernel
theorem dX11_wins_17 : decode cX11_wins 17 = .ok (.invokevirtual 126, 3) := by decide +kernel
theorem dX11_wins_20 : decode cX11_wins 20 = .ok (.ifCond .ne 5, 3) := by decide +kernel
theorem dX11_wins_23 : decode cX11_wins 23 = .ok (.iconst (-1), 1) := by decide +kernel
theorem dX11_wins_24 : decode cX11_wins 24 = .ok (.ireturn, 1) := by decide +kernel
theorem dX11_wins_25 : decode cX11_wins 25 = .ok (.aload_n 0, 1) := by decide +kernel
theorem dX11_wins_26 : decode cX11_wins 26 = .ok (.getfield 16, 3) := by decide +kernel
theorem dX11_wins_29 : decode cX11_wins 29 = .ok (.iload_n 1, 1) := by decide +kernel
theorem dX11_wins_30 : decode cX11_wins 30 = .ok (.baload, 1) := by decide +kernel
theorem dX11_wins_31 : decode cX11_wins 31 = .ok (.ifCond .eq 6, 3) := by decide +kernel
theorem dX11_wins_34 : decode cX11_wins 34 = .ok (.bipush (-3), 2) := by decide +kernel
theorem dX11_wins_36 : decode cX11_wins 36 = .ok (.ireturn, 1) := by decide +kernel
theorem dX11_wins_37 : decode cX11_wins 37 = .ok (.aload_n 0, 1) := by decide +kernel
theorem dX11_wins_38 : decode cX11_wins 38 = .ok (.iload_n 1, 1) := by decide +kernel
theorem dX11_wins_39 : decode cX11_wins 39 = .ok (.invokevirtual 168, 3) := by decide +kernel
theorem dX11_wins_42 : decode cX11_wins 42 = .ok (.iconst 0, 1) := by decide +kernel
theorem dX11_wins_43 : decode cX11_wins 43 = .ok (.istore 4, 2) := by decide +kernel
theorem dX11_wins_45 : decode cX11_wins 45 = .ok (.iconst 1, 1) := by decide +kernel
theorem dX11_wins_46 : decode cX11_wins 46 = .ok (.istore 5, 2) := by decide +kernel
theorem dX11_wins_48 : decode cX11_wins 48 = .ok (.iload 5, 2) := by decide +kernel
theorem dX11_wins_50 : decode cX11_wins 50 = .ok (.bipush 60, 2) := by decide +kernel
theorem dX11_wins_52 : decode cX11_wins 52 = .ok (.if_icmp .gt 30, 3) := by decide +kernel
theorem dX11_wins_55 : decode cX11_wins 55 = .ok (.iload 4, 2) := by decide +kernel
theorem dX11_wins_57 : decode cX11_wins 57 = .ok (.aload_n 0, 1) := by decide +kernel
theorem dX11_wins_58 : decode cX11_wins 58 = .ok (.iload 5, 2) := by decide +kernel
theorem dX11_wins_60 : decode cX11_wins 60 = .ok (.iload_n 2, 1) := by decide +kernel
theorem dX11_wins_61 : decode cX11_wins 61 = .ok (.invokevirtual 172, 3) := by decide +kernel
theorem dX11_wins_64 : decode cX11_wins 64 = .ok (.iload_n 3, 1) := by decide +kernel
theorem dX11_wins_65 : decode cX11_wins 65 = .ok (.if_icmp .ne 7, 3) := by decide +kernel
theorem dX11_wins_68 : decode cX11_wins 68 = .ok (.iconst 1, 1) := by decide +kernel
theorem dX11_wins_69 : decode cX11_wins 69 = .ok (.goto 4, 3) := by decide +kernel
theorem dX11_wins_72 : decode cX11_wins 72 = .ok (.iconst 0, 1) := by decide +kernel
theorem dX11_wins_73 : decode cX11_wins 73 = .ok (.iadd, 1) := by decide +kernel
theorem dX11_wins_74 : decode cX11_wins 74 = .ok (.istore 4, 2) := by decide +kernel
theorem dX11_wins_76 : decode cX11_wins 76 = .ok (.iinc 5 1, 3) := by decide +kernel
theorem dX11_wins_79 : decode cX11_wins 79 = .ok (.goto (-31), 3) := by decide +kernel
theorem dX11_wins_82 : decode cX11_wins 82 = .ok (.iload 4, 2) := by decide +kernel
theorem dX11_wins_84 : decode cX11_wins 84 = .ok (.ireturn, 1) := by decide +kernel
theorem dX11_lots_0 : decode cX11_lots 0 = .ok (.iload_n 1, 1) := by decide +kernel
theorem dX11_lots_1 : decode cX11_lots 1 = .ok (.invokestatic 121, 3) := by decide +kernel
theorem dX11_lots_4 : decode cX11_lots 4 = .ok (.ifCond .ne 5, 3) := by decide +kernel
theorem dX11_lots_7 : decode cX11_lots 7 = .ok (.iconst (-1), 1) := by decide +kernel
theorem dX11_lots_8 : decode cX11_lots 8 = .ok (.ireturn, 1) := by decide +kernel
theorem dX11_lots_9 : decode cX11_lots 9 = .ok (.aload_n 0, 1) := by decide +kernel
theorem dX11_lots_10 : decode cX11_lots 10 = .ok (.getfield 16, 3) := by decide +kernel
theorem dX11_lots_13 : decode cX11_lots 13 = .ok (.iload_n 1, 1) := by decide +kernel
theorem dX11_lots_14 : decode cX11_lots 14 = .ok (.baload, 1) := by decide +kernel
theorem dX11_lots_15 : decode cX11_lots 15 = .ok (.ifCond .eq 6, 3) := by decide +kernel
theorem dX11_lots_18 : decode cX11_lots 18 = .ok (.bipush (-3), 2) := by decide +kernel
theorem dX11_lots_20 : decode cX11_lots 20 = .ok (.ireturn, 1) := by decide +kernel
theorem dX11_lots_21 : decode cX11_lots 21 = .ok (.aload_n 0, 1) := by decide +kernel
theorem dX11_lots_22 : decode cX11_lots 22 = .ok (.iload_n 1, 1) := by decide +kernel
theorem dX11_lots_23 : decode cX11_lots 23 = .ok (.invokevirtual 168, 3) := by decide +kernel
theorem dX11_lots_26 : decode cX11_lots 26 = .ok (.aload_n 0, 1) := by decide +kernel
theorem dX11_lots_27 : decode cX11_lots 27 = .ok (.invokevirtual 175, 3) := by decide +kernel
theorem dX11_lots_30 : decode cX11_lots 30 = .ok (.ireturn, 1) := by decide +kernel
theorem dX11_lotter_0 : decode cX11_lotter 0 = .ok (.iload_n 1, 1) := by decide +kernel
theorem dX11_lotter_1 : decode cX11_lotter 1 = .ok (.invokestatic 121, 3) := by decide +kernel
theorem dX11_lotter_4 : decode cX11_lotter 4 = .ok (.ifCond .ne 5, 3) := by decide +kernel
theorem dX11_lotter_7 : decode cX11_lotter 7 = .ok (.iconst (-1), 1) := by decide +kernel
theorem dX11_lotter_8 : decode cX11_lotter 8 = .ok (.ireturn, 1) := by decide +kernel
theorem dX11_lotter_9 : decode cX11_lotter 9 = .ok (.aload_n 0, 1) := by decide +kernel
theorem dX11_lotter_10 : decode cX11_lotter 10 = .ok (.getfield 16, 3) := by decide +kernel
theorem dX11_lotter_13 : decode cX11_lotter 13 = .ok (.iload_n 1, 1) := by decide +kernel
theorem dX11_lotter_14 : decode cX11_lotter 14 = .ok (.baload, 1) := by decide +kernel
theorem dX11_lotter_15 : decode cX11_lotter 15 = .ok (.ifCond .eq 6, 3) := by decide +kernel
theorem dX11_lotter_18 : decode cX11_lotter 18 = .ok (.bipush (-3), 2) := by decide +kernel
theorem dX11_lotter_20 : decode cX11_lotter 20 = .ok (.ireturn, 1) := by decide +kernel
theorem dX11_lotter_21 : decode cX11_lotter 21 = .ok (.aload_n 0, 1) := by decide +kernel
theorem dX11_lotter_22 : decode cX11_lotter 22 = .ok (.iload_n 1, 1) := by decide +kernel
theorem dX11_lotter_23 : decode cX11_lotter 23 = .ok (.invokevirtual 168, 3) := by decide +kernel
theorem dX11_lotter_26 : decode cX11_lotter 26 = .ok (.aload_n 0, 1) := by decide +kernel
theorem dX11_lotter_27 : decode cX11_lotter 27 = .ok (.invokevirtual 175, 3) := by decide +kernel
theorem dX11_lotter_30 : decode cX11_lotter 30 = .ok (.istore_n 2, 1) := by decide +kernel
theorem dX11_lotter_31 : decode cX11_lotter 31 = .ok (.aload_n 0, 1) := by decide +kernel
theorem dX11_lotter_32 : decode cX11_lotter 32 = .ok (.getfield 162, 3) := by decide +kernel
theorem dX11_lotter_35 : decode cX11_lotter 35 = .ok (.ireturn, 1) := by decide +kernel
theorem dX11_ring_0 : decode cX11_ring 0 = .ok (.iconst 0, 1) := by decide +kernel
theorem dX11_ring_1 : decode cX11_ring 1 = .ok (.istore_n 1, 1) := by decide +kernel
theorem dX11_ring_2 : decode cX11_ring 2 = .ok (.iconst 0, 1) := by decide +kernel
theorem dX11_ring_3 : decode cX11_ring 3 = .ok (.istore_n 2, 1) := by decide +kernel
theorem dX11_ring_4 : decode cX11_ring 4 = .ok (.iload_n 2, 1) := by decide +kernel
theorem dX11_ring_5 : decode cX11_ring 5 = .ok (.bipush 24, 2) := by decide +kernel
theorem dX11_ring_7 : decode cX11_ring 7 = .ok (.if_icmp .ge 38, 3) := by decide +kernel
theorem dX11_ring_10 : decode cX11_ring 10 = .ok (.iload_n 1, 1) := by decide +kernel
theorem dX11_ring_11 : decode cX11_ring 11 = .ok (.aload_n 0, 1) := by decide +kernel
theorem dX11_ring_12 : decode cX11_ring 12 = .ok (.getfield 16, 3) := by decide +kernel
theorem dX11_ring_15 : decode cX11_ring 15 = .ok (.iload_n 2, 1) := by decide +kernel
theorem dX11_ring_16 : decode cX11_ring 16 = .ok (.baload, 1) := by decide +kernel
theorem dX11_ring_17 : decode cX11_ring 17 = .ok (.ifCond .eq 19, 3) := by decide +kernel
theorem dX11_ring_20 : decode cX11_ring 20 = .ok (.aload_n 0, 1) := by decide +kernel
theorem dX11_ring_21 : decode cX11_ring 21 = .ok (.getfield 23, 3) := by decide +kernel
theorem dX11_ring_24 : decode cX11_ring 24 = .ok (.iload_n 2, 1) := by decide +kernel
theorem dX11_ring_25 : decode cX11_ring 25 = .ok (.iaload, 1) := by decide +kernel
theorem dX11_ring_26 : decode cX11_ring 26 = .ok (.aload_n 0, 1) := by decide +kernel
theorem dX11_ring_27 : decode cX11_ring 27 = .ok (.getfield 26, 3) := by decide +kernel
theorem dX11_ring_30 : decode cX11_ring 30 = .ok (.iload_n 2, 1) := by decide +kernel
theorem dX11_ring_31 : decode cX11_ring 31 = .ok (.iaload, 1) := by decide +kernel
theorem dX11_ring_32 : decode cX11_ring 32 = .ok (.isub, 1) := by decide +kernel
theorem dX11_ring_33 : decode cX11_ring 33 = .ok (.goto 4, 3) := by decide +kernel
theorem dX11_ring_36 : decode cX11_ring 36 = .ok (.iconst 0, 1) := by decide +kernel
theorem dX11_ring_37 : decode cX11_ring 37 = .ok (.iadd, 1) := by decide +kernel
theorem dX11_ring_38 : decode cX11_ring 38 = .ok (.istore_n 1, 1) := by decide +kernel
theorem dX11_ring_39 : decode cX11_ring 39 = .ok (.iinc 2 1, 3) := by decide +kernel
theorem dX11_ring_42 : decode cX11_ring 42 = .ok (.goto (-38), 3) := by decide +kernel
theorem dX11_ring_45 : decode cX11_ring 45 = .ok (.iload_n 1, 1) := by decide +kernel
theorem dX11_ring_46 : decode cX11_ring 46 = .ok (.ireturn, 1) := by decide +kernel
theorem dX11_standUp_0 : decode cX11_standUp 0 = .ok (.iconst 0, 1) := by decide +kernel
theorem dX11_standUp_1 : decode cX11_standUp 1 = .ok (.istore_n 1, 1) := by decide +kernel
theorem dX11_standUp_2 : decode cX11_standUp 2 = .ok (.iload_n 1, 1) := by decide +kernel
theorem dX11_standUp_3 : decode cX11_standUp 3 = .ok (.bipush 24, 2) := by decide +kernel
theorem dX11_standUp_5 : decode cX11_standUp 5 = .ok (.if_icmp .ge 20, 3) := by decide +kernel
theorem dX11_standUp_8 : decode cX11_standUp 8 = .ok (.aload_n 0, 1) := by decide +kernel
theorem dX11_standUp_9 : decode cX11_standUp 9 = .ok (.getfield 69, 3) := by decide +kernel
theorem dX11_standUp_12 : decode cX11_standUp 12 = .ok (.iload_n 1, 1) := by decide +kernel
theorem dX11_standUp_13 : decode cX11_standUp 13 = .ok (.aload_n 0, 1) := by decide +kernel
theorem dX11_standUp_14 : decode cX11_standUp 14 = .ok (.iload_n 1, 1) := by decide +kernel
theorem dX11_standUp_15 : decode cX11_standUp 15 = .ok (.invokevirtual 136, 3) := by decide +kernel
theorem dX11_standUp_18 : decode cX11_standUp 18 = .ok (.bastore, 1) := by decide +kernel
theorem dX11_standUp_19 : decode cX11_standUp 19 = .ok (.iinc 1 1, 3) := by decide +kernel
theorem dX11_standUp_22 : decode cX11_standUp 22 = .ok (.goto (-20), 3) := by decide +kernel
theorem dX11_standUp_25 : decode cX11_standUp 25 = .ok (.return_, 1) := by decide +kernel
theorem dX11_wayFrom_0 : decode cX11_wayFrom 0 = .ok (.iconst 0, 1) := by decide +kernel
theorem dX11_wayFrom_1 : decode cX11_wayFrom 1 = .ok (.istore_n 2, 1) := by decide +kernel
theorem dX11_wayFrom_2 : decode cX11_wayFrom 2 = .ok (.iload_n 2, 1) := by decide +kernel
theorem dX11_wayFrom_3 : decode cX11_wayFrom 3 = .ok (.bipush 24, 2) := by decide +kernel
theorem dX11_wayFrom_5 : decode cX11_wayFrom 5 = .ok (.if_icmp .ge 26, 3) := by decide +kernel
theorem dX11_wayFrom_8 : decode cX11_wayFrom 8 = .ok (.aload_n 0, 1) := by decide +kernel
theorem dX11_wayFrom_9 : decode cX11_wayFrom 9 = .ok (.getfield 66, 3) := by decide +kernel
theorem dX11_wayFrom_12 : decode cX11_wayFrom 12 = .ok (.iload_n 2, 1) := by decide +kernel
theorem dX11_wayFrom_13 : decode cX11_wayFrom 13 = .ok (.iload_n 2, 1) := by decide +kernel
theorem dX11_wayFrom_14 : decode cX11_wayFrom 14 = .ok (.iload_n 1, 1) := by decide +kernel
theorem dX11_wayFrom_15 : decode cX11_wayFrom 15 = .ok (.if_icmp .ne 7, 3) := by decide +kernel
theorem dX11_wayFrom_18 : decode cX11_wayFrom 18 = .ok (.iconst 0, 1) := by decide +kernel
theorem dX11_wayFrom_19 : decode cX11_wayFrom 19 = .ok (.goto 5, 3) := by decide +kernel
end
section
theorem dX11_wayFrom_22 : decode cX11_wayFrom 22 = .ok (.ldc 179, 2) := by decide +kernel
theorem dX11_wayFrom_24 : decode cX11_wayFrom 24 = .ok (.iastore, 1) := by decide +kernel
theorem dX11_wayFrom_25 : decode cX11_wayFrom 25 = .ok (.iinc 2 1, 3) := by decide +kernel
theorem dX11_wayFrom_28 : decode cX11_wayFrom 28 = .ok (.goto (-26), 3) := by decide +kernel
theorem dX11_wayFrom_31 : decode cX11_wayFrom 31 = .ok (.iconst 1, 1) := by decide +kernel
theorem dX11_wayFrom_32 : decode cX11_wayFrom 32 = .ok (.istore_n 2, 1) := by decide +kernel
theorem dX11_wayFrom_33 : decode cX11_wayFrom 33 = .ok (.iload_n 2, 1) := by decide +kernel
theorem dX11_wayFrom_34 : decode cX11_wayFrom 34 = .ok (.ifCond .eq 113, 3) := by decide +kernel
theorem dX11_wayFrom_37 : decode cX11_wayFrom 37 = .ok (.iconst 0, 1) := by decide +kernel
theorem dX11_wayFrom_38 : decode cX11_wayFrom 38 = .ok (.istore_n 2, 1) := by decide +kernel
theorem dX11_wayFrom_39 : decode cX11_wayFrom 39 = .ok (.iconst 0, 1) := by decide +kernel
theorem dX11_wayFrom_40 : decode cX11_wayFrom 40 = .ok (.istore_n 3, 1) := by decide +kernel
theorem dX11_wayFrom_41 : decode cX11_wayFrom 41 = .ok (.iload_n 3, 1) := by decide +kernel
theorem dX11_wayFrom_42 : decode cX11_wayFrom 42 = .ok (.bipush 24, 2) := by decide +kernel
theorem dX11_wayFrom_44 : decode cX11_wayFrom 44 = .ok (.if_icmp .ge 100, 3) := by decide +kernel
theorem dX11_wayFrom_47 : decode cX11_wayFrom 47 = .ok (.iconst 0, 1) := by decide +kernel
theorem dX11_wayFrom_48 : decode cX11_wayFrom 48 = .ok (.istore 4, 2) := by decide +kernel
theorem dX11_wayFrom_50 : decode cX11_wayFrom 50 = .ok (.iload 4, 2) := by decide +kernel
theorem dX11_wayFrom_52 : decode cX11_wayFrom 52 = .ok (.bipush 24, 2) := by decide +kernel
theorem dX11_wayFrom_54 : decode cX11_wayFrom 54 = .ok (.if_icmp .ge 84, 3) := by decide +kernel
theorem dX11_wayFrom_57 : decode cX11_wayFrom 57 = .ok (.iload_n 3, 1) := by decide +kernel
theorem dX11_wayFrom_58 : decode cX11_wayFrom 58 = .ok (.iload 4, 2) := by decide +kernel
theorem dX11_wayFrom_60 : decode cX11_wayFrom 60 = .ok (.invokestatic 153, 3) := by decide +kernel
theorem dX11_wayFrom_63 : decode cX11_wayFrom 63 = .ok (.iconst 1, 1) := by decide +kernel
theorem dX11_wayFrom_64 : decode cX11_wayFrom 64 = .ok (.if_icmp .eq 6, 3) := by decide +kernel
theorem dX11_wayFrom_67 : decode cX11_wayFrom 67 = .ok (.goto 65, 3) := by decide +kernel
theorem dX11_wayFrom_70 : decode cX11_wayFrom 70 = .ok (.aload_n 0, 1) := by decide +kernel
theorem dX11_wayFrom_71 : decode cX11_wayFrom 71 = .ok (.getfield 66, 3) := by decide +kernel
theorem dX11_wayFrom_74 : decode cX11_wayFrom 74 = .ok (.iload_n 3, 1) := by decide +kernel
theorem dX11_wayFrom_75 : decode cX11_wayFrom 75 = .ok (.iaload, 1) := by decide +kernel
theorem dX11_wayFrom_76 : decode cX11_wayFrom 76 = .ok (.aload_n 0, 1) := by decide +kernel
theorem dX11_wayFrom_77 : decode cX11_wayFrom 77 = .ok (.getfield 69, 3) := by decide +kernel
theorem dX11_wayFrom_80 : decode cX11_wayFrom 80 = .ok (.iload 4, 2) := by decide +kernel
theorem dX11_wayFrom_82 : decode cX11_wayFrom 82 = .ok (.baload, 1) := by decide +kernel
theorem dX11_wayFrom_83 : decode cX11_wayFrom 83 = .ok (.ifCond .eq 16, 3) := by decide +kernel
theorem dX11_wayFrom_86 : decode cX11_wayFrom 86 = .ok (.aload_n 0, 1) := by decide +kernel
theorem dX11_wayFrom_87 : decode cX11_wayFrom 87 = .ok (.getfield 13, 3) := by decide +kernel
theorem dX11_wayFrom_90 : decode cX11_wayFrom 90 = .ok (.iload 4, 2) := by decide +kernel
theorem dX11_wayFrom_92 : decode cX11_wayFrom 92 = .ok (.iaload, 1) := by decide +kernel
theorem dX11_wayFrom_93 : decode cX11_wayFrom 93 = .ok (.bipush 10, 2) := by decide +kernel
theorem dX11_wayFrom_95 : decode cX11_wayFrom 95 = .ok (.idiv, 1) := by decide +kernel
theorem dX11_wayFrom_96 : decode cX11_wayFrom 96 = .ok (.goto 4, 3) := by decide +kernel
theorem dX11_wayFrom_99 : decode cX11_wayFrom 99 = .ok (.iconst 0, 1) := by decide +kernel
theorem dX11_wayFrom_100 : decode cX11_wayFrom 100 = .ok (.iadd, 1) := by decide +kernel
theorem dX11_wayFrom_101 : decode cX11_wayFrom 101 = .ok (.istore 5, 2) := by decide +kernel
theorem dX11_wayFrom_103 : decode cX11_wayFrom 103 = .ok (.iload 4, 2) := by decide +kernel
theorem dX11_wayFrom_105 : decode cX11_wayFrom 105 = .ok (.iload_n 1, 1) := by decide +kernel
theorem dX11_wayFrom_106 : decode cX11_wayFrom 106 = .ok (.if_icmp .eq 26, 3) := by decide +kernel
theorem dX11_wayFrom_109 : decode cX11_wayFrom 109 = .ok (.iload 5, 2) := by decide +kernel
theorem dX11_wayFrom_111 : decode cX11_wayFrom 111 = .ok (.aload_n 0, 1) := by decide +kernel
theorem dX11_wayFrom_112 : decode cX11_wayFrom 112 = .ok (.getfield 66, 3) := by decide +kernel
theorem dX11_wayFrom_115 : decode cX11_wayFrom 115 = .ok (.iload 4, 2) := by decide +kernel
theorem dX11_wayFrom_117 : decode cX11_wayFrom 117 = .ok (.iaload, 1) := by decide +kernel
theorem dX11_wayFrom_118 : decode cX11_wayFrom 118 = .ok (.if_icmp .ge 14, 3) := by decide +kernel
theorem dX11_wayFrom_121 : decode cX11_wayFrom 121 = .ok (.aload_n 0, 1) := by decide +kernel
theorem dX11_wayFrom_122 : decode cX11_wayFrom 122 = .ok (.getfield 66, 3) := by decide +kernel
theorem dX11_wayFrom_125 : decode cX11_wayFrom 125 = .ok (.iload 4, 2) := by decide +kernel
theorem dX11_wayFrom_127 : decode cX11_wayFrom 127 = .ok (.iload 5, 2) := by decide +kernel
theorem dX11_wayFrom_129 : decode cX11_wayFrom 129 = .ok (.iastore, 1) := by decide +kernel
theorem dX11_wayFrom_130 : decode cX11_wayFrom 130 = .ok (.iconst 1, 1) := by decide +kernel
theorem dX11_wayFrom_131 : decode cX11_wayFrom 131 = .ok (.istore_n 2, 1) := by decide +kernel
theorem dX11_wayFrom_132 : decode cX11_wayFrom 132 = .ok (.iinc 4 1, 3) := by decide +kernel
theorem dX11_wayFrom_135 : decode cX11_wayFrom 135 = .ok (.goto (-85), 3) := by decide +kernel
theorem dX11_wayFrom_138 : decode cX11_wayFrom 138 = .ok (.iinc 3 1, 3) := by decide +kernel
theorem dX11_wayFrom_141 : decode cX11_wayFrom 141 = .ok (.goto (-100), 3) := by decide +kernel
theorem dX11_wayFrom_144 : decode cX11_wayFrom 144 = .ok (.goto (-111), 3) := by decide +kernel
theorem dX11_wayFrom_147 : decode cX11_wayFrom 147 = .ok (.aload_n 0, 1) := by decide +kernel
theorem dX11_wayFrom_148 : decode cX11_wayFrom 148 = .ok (.getfield 66, 3) := by decide +kernel
theorem dX11_wayFrom_151 : decode cX11_wayFrom 151 = .ok (.iconst 0, 1) := by decide +kernel
theorem dX11_wayFrom_152 : decode cX11_wayFrom 152 = .ok (.iaload, 1) := by decide +kernel
theorem dX11_wayFrom_153 : decode cX11_wayFrom 153 = .ok (.ireturn, 1) := by decide +kernel
theorem dX11_day_0 : decode cX11_day 0 = .ok (.iload_n 1, 1) := by decide +kernel
theorem dX11_day_1 : decode cX11_day 1 = .ok (.aload_n 0, 1) := by decide +kernel
theorem dX11_day_2 : decode cX11_day 2 = .ok (.getfield 180, 3) := by decide +kernel
theorem dX11_day_5 : decode cX11_day 5 = .ok (.bipush 30, 2) := by decide +kernel
theorem dX11_day_7 : decode cX11_day 7 = .ok (.invokestatic 114, 3) := by decide +kernel
theorem dX11_day_10 : decode cX11_day 10 = .ok (.ifCond .ne 5, 3) := by decide +kernel
theorem dX11_day_13 : decode cX11_day 13 = .ok (.iconst (-1), 1) := by decide +kernel
theorem dX11_day_14 : decode cX11_day 14 = .ok (.ireturn, 1) := by decide +kernel
theorem dX11_day_15 : decode cX11_day 15 = .ok (.aload_n 0, 1) := by decide +kernel
theorem dX11_day_16 : decode cX11_day 16 = .ok (.getfield 180, 3) := by decide +kernel
theorem dX11_day_19 : decode cX11_day 19 = .ok (.istore_n 2, 1) := by decide +kernel
theorem dX11_day_20 : decode cX11_day 20 = .ok (.aload_n 0, 1) := by decide +kernel
theorem dX11_day_21 : decode cX11_day 21 = .ok (.iload_n 1, 1) := by decide +kernel
theorem dX11_day_22 : decode cX11_day 22 = .ok (.putfield 180, 3) := by decide +kernel
theorem dX11_day_25 : decode cX11_day 25 = .ok (.iload_n 2, 1) := by decide +kernel
theorem dX11_day_26 : decode cX11_day 26 = .ok (.ireturn, 1) := by decide +kernel
theorem dX11_rain_0 : decode cX11_rain 0 = .ok (.iload_n 1, 1) := by decide +kernel
theorem dX11_rain_1 : decode cX11_rain 1 = .ok (.iconst 0, 1) := by decide +kernel
theorem dX11_rain_2 : decode cX11_rain 2 = .ok (.bipush 30, 2) := by decide +kernel
theorem dX11_rain_4 : decode cX11_rain 4 = .ok (.invokestatic 114, 3) := by decide +kernel
theorem dX11_rain_7 : decode cX11_rain 7 = .ok (.ifCond .ne 5, 3) := by decide +kernel
theorem dX11_rain_10 : decode cX11_rain 10 = .ok (.iconst (-1), 1) := by decide +kernel
theorem dX11_rain_11 : decode cX11_rain 11 = .ok (.ireturn, 1) := by decide +kernel
theorem dX11_rain_12 : decode cX11_rain 12 = .ok (.aload_n 0, 1) := by decide +kernel
theorem dX11_rain_13 : decode cX11_rain 13 = .ok (.getfield 63, 3) := by decide +kernel
theorem dX11_rain_16 : decode cX11_rain 16 = .ok (.iload_n 1, 1) := by decide +kernel
theorem dX11_rain_17 : decode cX11_rain 17 = .ok (.baload, 1) := by decide +kernel
theorem dX11_rain_18 : decode cX11_rain 18 = .ok (.iload_n 2, 1) := by decide +kernel
theorem dX11_rain_19 : decode cX11_rain 19 = .ok (.if_icmp .eq 7, 3) := by decide +kernel
theorem dX11_rain_22 : decode cX11_rain 22 = .ok (.iconst 1, 1) := by decide +kernel
theorem dX11_rain_23 : decode cX11_rain 23 = .ok (.goto 4, 3) := by decide +kernel
theorem dX11_rain_26 : decode cX11_rain 26 = .ok (.iconst 0, 1) := by decide +kernel
theorem dX11_rain_27 : decode cX11_rain 27 = .ok (.istore_n 3, 1) := by decide +kernel
theorem dX11_rain_28 : decode cX11_rain 28 = .ok (.aload_n 0, 1) := by decide +kernel
theorem dX11_rain_29 : decode cX11_rain 29 = .ok (.getfield 63, 3) := by decide +kernel
theorem dX11_rain_32 : decode cX11_rain 32 = .ok (.iload_n 1, 1) := by decide +kernel
theorem dX11_rain_33 : decode cX11_rain 33 = .ok (.iload_n 2, 1) := by decide +kernel
theorem dX11_rain_34 : decode cX11_rain 34 = .ok (.bastore, 1) := by decide +kernel
theorem dX11_rain_35 : decode cX11_rain 35 = .ok (.iload_n 3, 1) := by decide +kernel
theorem dX11_rain_36 : decode cX11_rain 36 = .ok (.ireturn, 1) := by decide +kernel
theorem dX11_way_0 : decode cX11_way 0 = .ok (.iload_n 1, 1) := by decide +kernel
theorem dX11_way_1 : decode cX11_way 1 = .ok (.invokestatic 121, 3) := by decide +kernel
theorem dX11_way_4 : decode cX11_way 4 = .ok (.ifCond .ne 5, 3) := by decide +kernel
theorem dX11_way_7 : decode cX11_way 7 = .ok (.iconst (-1), 1) := by decide +kernel
theorem dX11_way_8 : decode cX11_way 8 = .ok (.ireturn, 1) := by decide +kernel
theorem dX11_way_9 : decode cX11_way 9 = .ok (.aload_n 0, 1) := by decide +kernel
theorem dX11_way_10 : decode cX11_way 10 = .ok (.invokevirtual 183, 3) := by decide +kernel
theorem dX11_way_13 : decode cX11_way 13 = .ok (.aload_n 0, 1) := by decide +kernel
theorem dX11_way_14 : decode cX11_way 14 = .ok (.iload_n 1, 1) := by decide +kernel
theorem dX11_way_15 : decode cX11_way 15 = .ok (.invokevirtual 186, 3) := by decide +kernel
theorem dX11_way_18 : decode cX11_way 18 = .ok (.ireturn, 1) := by decide +kernel
theorem dX11_cut_0 : decode cX11_cut 0 = .ok (.iload_n 1, 1) := by decide +kernel
theorem dX11_cut_1 : decode cX11_cut 1 = .ok (.invokestatic 121, 3) := by decide +kernel
theorem dX11_cut_4 : decode cX11_cut 4 = .ok (.ifCond .ne 5, 3) := by decide +kernel
theorem dX11_cut_7 : decode cX11_cut 7 = .ok (.iconst (-1), 1) := by decide +kernel
theorem dX11_cut_8 : decode cX11_cut 8 = .ok (.ireturn, 1) := by decide +kernel
theorem dX11_cut_9 : decode cX11_cut 9 = .ok (.aload_n 0, 1) := by decide +kernel
theorem dX11_cut_10 : decode cX11_cut 10 = .ok (.iload_n 1, 1) := by decide +kernel
theorem dX11_cut_11 : decode cX11_cut 11 = .ok (.invokevirtual 136, 3) := by decide +kernel
theorem dX11_cut_14 : decode cX11_cut 14 = .ok (.ifCond .ne 6, 3) := by decide +kernel
theorem dX11_cut_17 : decode cX11_cut 17 = .ok (.bipush (-3), 2) := by decide +kernel
theorem dX11_cut_19 : decode cX11_cut 19 = .ok (.ireturn, 1) := by decide +kernel
theorem dX11_cut_20 : decode cX11_cut 20 = .ok (.aload_n 0, 1) := by decide +kernel
theorem dX11_cut_21 : decode cX11_cut 21 = .ok (.invokevirtual 183, 3) := by decide +kernel
theorem dX11_cut_24 : decode cX11_cut 24 = .ok (.aload_n 0, 1) := by decide +kernel
theorem dX11_cut_25 : decode cX11_cut 25 = .ok (.iload_n 1, 1) := by decide +kernel
theorem dX11_cut_26 : decode cX11_cut 26 = .ok (.invokevirtual 186, 3) := by decide +kernel
theorem dX11_cut_29 : decode cX11_cut 29 = .ok (.istore_n 2, 1) := by decide +kernel
theorem dX11_cut_30 : decode cX11_cut 30 = .ok (.aload_n 0, 1) := by decide +kernel
theorem dX11_cut_31 : decode cX11_cut 31 = .ok (.getfield 50, 3) := by decide +kernel
theorem dX11_cut_34 : decode cX11_cut 34 = .ok (.aload_n 0, 1) := by decide +kernel
theorem dX11_cut_35 : decode cX11_cut 35 = .ok (.getfield 20, 3) := by decide +kernel
theorem dX11_cut_38 : decode cX11_cut 38 = .ok (.iload_n 1, 1) := by decide +kernel
theorem dX11_cut_39 : decode cX11_cut 39 = .ok (.iaload, 1) := by decide +kernel
theorem dX11_cut_40 : decode cX11_cut 40 = .ok (.dup2, 1) := by decide +kernel
theorem dX11_cut_41 : decode cX11_cut 41 = .ok (.iaload, 1) := by decide +kernel
theorem dX11_cut_42 : decode cX11_cut 42 = .ok (.iload_n 2, 1) := by decide +kernel
theorem dX11_cut_43 : decode cX11_cut 43 = .ok (.iadd, 1) := by decide +kernel
theorem dX11_cut_44 : decode cX11_cut 44 = .ok (.iastore, 1) := by decide +kernel
theorem dX11_cut_45 : decode cX11_cut 45 = .ok (.aload_n 0, 1) := by decide +kernel
theorem dX11_cut_46 : decode cX11_cut 46 = .ok (.getfield 29, 3) := by decide +kernel
theorem dX11_cut_49 : decode cX11_cut 49 = .ok (.iload_n 1, 1) := by decide +kernel
theorem dX11_cut_50 : decode cX11_cut 50 = .ok (.iconst 1, 1) := by decide +kernel
theorem dX11_cut_51 : decode cX11_cut 51 = .ok (.bastore, 1) := by decide +kernel
theorem dX11_cut_52 : decode cX11_cut 52 = .ok (.aload_n 0, 1) := by decide +kernel
theorem dX11_cut_53 : decode cX11_cut 53 = .ok (.getfield 32, 3) := by decide +kernel
theorem dX11_cut_56 : decode cX11_cut 56 = .ok (.iload_n 1, 1) := by decide +kernel
theorem dX11_cut_57 : decode cX11_cut 57 = .ok (.aload_n 0, 1) := by decide +kernel
theorem dX11_cut_58 : decode cX11_cut 58 = .ok (.getfield 180, 3) := by decide +kernel
theorem dX11_cut_61 : decode cX11_cut 61 = .ok (.iastore, 1) := by decide +kernel
theorem dX11_cut_62 : decode cX11_cut 62 = .ok (.iload_n 2, 1) := by decide +kernel
theorem dX11_cut_63 : decode cX11_cut 63 = .ok (.ireturn, 1) := by decide +kernel
theorem dX11_workOut_0 : decode cX11_workOut 0 = .ok (.aload_n 0, 1) := by decide +kernel
theorem dX11_workOut_1 : decode cX11_workOut 1 = .ok (.iconst 0, 1) := by decide +kernel
theorem dX11_workOut_2 : decode cX11_workOut 2 = .ok (.putfield 189, 3) := by decide +kernel
theorem dX11_workOut_5 : decode cX11_workOut 5 = .ok (.iconst 0, 1) := by decide +kernel
theorem dX11_workOut_6 : decode cX11_workOut 6 = .ok (.istore_n 1, 1) := by decide +kernel
theorem dX11_workOut_7 : decode cX11_workOut 7 = .ok (.iload_n 1, 1) := by decide +kernel
theorem dX11_workOut_8 : decode cX11_workOut 8 = .ok (.bipush 24, 2) := by decide +kernel
theorem dX11_workOut_10 : decode cX11_workOut 10 = .ok (.if_icmp .ge 51, 3) := by decide +kernel
theorem dX11_workOut_13 : decode cX11_workOut 13 = .ok (.aload_n 0, 1) := by decide +kernel
theorem dX11_workOut_14 : decode cX11_workOut 14 = .ok (.iload_n 1, 1) := by decide +kernel
theorem dX11_workOut_15 : decode cX11_workOut 15 = .ok (.invokevirtual 136, 3) := by decide +kernel
theorem dX11_workOut_18 : decode cX11_workOut 18 = .ok (.ifCond .ne 6, 3) := by decide +kernel
theorem dX11_workOut_21 : decode cX11_workOut 21 = .ok (.goto 34, 3) := by decide +kernel
theorem dX11_workOut_24 : decode cX11_workOut 24 = .ok (.aload_n 0, 1) := by decide +kernel
theorem dX11_workOut_25 : decode cX11_workOut 25 = .ok (.getfield 189, 3) := by decide +kernel
theorem dX11_workOut_28 : decode cX11_workOut 28 = .ok (.bipush 6, 2) := by decide +kernel
theorem dX11_workOut_30 : decode cX11_workOut 30 = .ok (.if_icmp .ne 5, 3) := by decide +kernel
theorem dX11_workOut_33 : decode cX11_workOut 33 = .ok (.iconst 0, 1) := by decide +kernel
theorem dX11_workOut_34 : decode cX11_workOut 34 = .ok (.ireturn, 1) := by decide +kernel
theorem dX11_workOut_35 : decode cX11_workOut 35 = .ok (.aload_n 0, 1) := by decide +kernel
theorem dX11_workOut_36 : decode cX11_workOut 36 = .ok (.getfield 72, 3) := by decide +kernel
theorem dX11_workOut_39 : decode cX11_workOut 39 = .ok (.aload_n 0, 1) := by decide +kernel
theorem dX11_workOut_40 : decode cX11_workOut 40 = .ok (.getfield 189, 3) := by decide +kernel
theorem dX11_workOut_43 : decode cX11_workOut 43 = .ok (.iload_n 1, 1) := by decide +kernel
theorem dX11_workOut_44 : decode cX11_workOut 44 = .ok (.iastore, 1) := by decide +kernel
theorem dX11_workOut_45 : decode cX11_workOut 45 = .ok (.aload_n 0, 1) := by decide +kernel
theorem dX11_workOut_46 : decode cX11_workOut 46 = .ok (.dup, 1) := by decide +kernel
theorem dX11_workOut_47 : decode cX11_workOut 47 = .ok (.getfield 189, 3) := by decide +kernel
theorem dX11_workOut_50 : decode cX11_workOut 50 = .ok (.iconst 1, 1) := by decide +kernel
theorem dX11_workOut_51 : decode cX11_workOut 51 = .ok (.iadd, 1) := by decide +kernel
theorem dX11_workOut_52 : decode cX11_workOut 52 = .ok (.putfield 189, 3) := by decide +kernel
theorem dX11_workOut_55 : decode cX11_workOut 55 = .ok (.iinc 1 1, 3) := by decide +kernel
theorem dX11_workOut_58 : decode cX11_workOut 58 = .ok (.goto (-51), 3) := by decide +kernel
theorem dX11_workOut_61 : decode cX11_workOut 61 = .ok (.aload_n 0, 1) := by decide +kernel
theorem dX11_workOut_62 : decode cX11_workOut 62 = .ok (.getfield 75, 3) := by decide +kernel
theorem dX11_workOut_65 : decode cX11_workOut 65 = .ok (.iconst 0, 1) := by decide +kernel
theorem dX11_workOut_66 : decode cX11_workOut 66 = .ok (.iconst 0, 1) := by decide +kernel
theorem dX11_workOut_67 : decode cX11_workOut 67 = .ok (.iastore, 1) := by decide +kernel
theorem dX11_workOut_68 : decode cX11_workOut 68 = .ok (.iconst 0, 1) := by decide +kernel
theorem dX11_workOut_69 : decode cX11_workOut 69 = .ok (.istore_n 1, 1) := by decide +kernel
theorem dX11_workOut_70 : decode cX11_workOut 70 = .ok (.iload_n 1, 1) := by decide +kernel
theorem dX11_workOut_71 : decode cX11_workOut 71 = .ok (.bipush 24, 2) := by decide +kernel
theorem dX11_workOut_73 : decode cX11_workOut 73 = .ok (.if_icmp .ge 16, 3) := by decide +kernel
theorem dX11_workOut_76 : decode cX11_workOut 76 = .ok (.aload_n 0, 1) := by decide +kernel
theorem dX11_workOut_77 : decode cX11_workOut 77 = .ok (.getfield 69, 3) := by decide +kernel
theorem dX11_workOut_80 : decode cX11_workOut 80 = .ok (.iload_n 1, 1) := by decide +kernel
theorem dX11_workOut_81 : decode cX11_workOut 81 = .ok (.iconst 0, 1) := by decide +kernel
theorem dX11_workOut_82 : decode cX11_workOut 82 = .ok (.bastore, 1) := by decide +kernel
theorem dX11_workOut_83 : decode cX11_workOut 83 = .ok (.iinc 1 1, 3) := by decide +kernel
theorem dX11_workOut_86 : decode cX11_workOut 86 = .ok (.goto (-16), 3) := by decide +kernel
theorem dX11_workOut_89 : decode cX11_workOut 89 = .ok (.iconst 1, 1) := by decide +kernel
theorem dX11_workOut_90 : decode cX11_workOut 90 = .ok (.istore_n 1, 1) := by decide +kernel
theorem dX11_workOut_91 : decode cX11_workOut 91 = .ok (.iload_n 1, 1) := by decide +kernel
theorem dX11_workOut_92 : decode cX11_workOut 92 = .ok (.iconst 1, 1) := by decide +kernel
theorem dX11_workOut_93 : decode cX11_workOut 93 = .ok (.aload_n 0, 1) := by decide +kernel
theorem dX11_workOut_94 : decode cX11_workOut 94 = .ok (.getfield 189, 3) := by decide +kernel
theorem dX11_workOut_97 : decode cX11_workOut 97 = .ok (.ishl, 1) := by decide +kernel
theorem dX11_workOut_98 : decode cX11_workOut 98 = .ok (.if_icmp .ge 157, 3) := by decide +kernel
theorem dX11_workOut_101 : decode cX11_workOut 101 = .ok (.iconst 0, 1) := by decide +kernel
theorem dX11_workOut_102 : decode cX11_workOut 102 = .ok (.istore_n 2, 1) := by decide +kernel
theorem dX11_workOut_103 : decode cX11_workOut 103 = .ok (.iload_n 2, 1) := by decide +kernel
theorem dX11_workOut_104 : decode cX11_workOut 104 = .ok (.aload_n 0, 1) := by decide +kernel
theorem dX11_workOut_105 : decode cX11_workOut 105 = .ok (.getfield 189, 3) := by decide +kernel
theorem dX11_workOut_108 : decode cX11_workOut 108 = .ok (.if_icmp .ge 34, 3) := by decide +kernel
theorem dX11_workOut_111 : decode cX11_workOut 111 = .ok (.aload_n 0, 1) := by decide +kernel
theorem dX11_workOut_112 : decode cX11_workOut 112 = .ok (.getfield 69, 3) := by decide +kernel
theorem dX11_workOut_115 : decode cX11_workOut 115 = .ok (.aload_n 0, 1) := by decide +kernel
theorem dX11_workOut_116 : decode cX11_workOut 116 = .ok (.getfield 72, 3) := by decide +kernel
theorem dX11_workOut_119 : decode cX11_workOut 119 = .ok (.iload_n 2, 1) := by decide +kernel
theorem dX11_workOut_120 : decode cX11_workOut 120 = .ok (.iaload, 1) := by decide +kernel
theorem dX11_workOut_121 : decode cX11_workOut 121 = .ok (.iload_n 1, 1) := by decide +kernel
theorem dX11_workOut_122 : decode cX11_workOut 122 = .ok (.iload_n 2, 1) := by decide +kernel
theorem dX11_workOut_123 : decode cX11_workOut 123 = .ok (.ishr, 1) := by decide +kernel
theorem dX11_workOut_124 : decode cX11_workOut 124 = .ok (.iconst 1, 1) := by decide +kernel
theorem dX11_workOut_125 : decode cX11_workOut 125 = .ok (.iand, 1) := by decide +kernel
theorem dX11_workOut_126 : decode cX11_workOut 126 = .ok (.iconst 1, 1) := by decide +kernel
theorem dX11_workOut_127 : decode cX11_workOut 127 = .ok (.if_icmp .ne 7, 3) := by decide +kernel
theorem dX11_workOut_130 : decode cX11_workOut 130 = .ok (.iconst 1, 1) := by decide +kernel
theorem dX11_workOut_131 : decode cX11_workOut 131 = .ok (.goto 4, 3) := by decide +kernel
theorem dX11_workOut_134 : decode cX11_workOut 134 = .ok (.iconst 0, 1) := by decide +kernel
theorem dX11_workOut_135 : decode cX11_workOut 135 = .ok (.bastore, 1) := by decide +kernel
theorem dX11_workOut_136 : decode cX11_workOut 136 = .ok (.iinc 2 1, 3) := by decide +kernel
theorem dX11_workOut_139 : decode cX11_workOut 139 = .ok (.goto (-36), 3) := by decide +kernel
theorem dX11_workOut_142 : decode cX11_workOut 142 = .ok (.aload_n 0, 1) := by decide +kernel
theorem dX11_workOut_143 : decode cX11_workOut 143 = .ok (.getfield 75, 3) := by decide +kernel
theorem dX11_workOut_146 : decode cX11_workOut 146 = .ok (.iload_n 1, 1) := by decide +kernel
theorem dX11_workOut_147 : decode cX11_workOut 147 = .ok (.ldc 179, 2) := by decide +kernel
theorem dX11_workOut_149 : decode cX11_workOut 149 = .ok (.iastore, 1) := by decide +kernel
theorem dX11_workOut_150 : decode cX11_workOut 150 = .ok (.iconst 0, 1) := by decide +kernel
theorem dX11_workOut_151 : decode cX11_workOut 151 = .ok (.istore_n 2, 1) := by decide +kernel
theorem dX11_workOut_152 : decode cX11_workOut 152 = .ok (.iload_n 2, 1) := by decide +kernel
theorem dX11_workOut_153 : decode cX11_workOut 153 = .ok (.aload_n 0, 1) := by decide +kernel
theorem dX11_workOut_154 : decode cX11_workOut 154 = .ok (.getfield 189, 3) := by decide +kernel
theorem dX11_workOut_157 : decode cX11_workOut 157 = .ok (.if_icmp .ge 92, 3) := by decide +kernel
theorem dX11_workOut_160 : decode cX11_workOut 160 = .ok (.iload_n 1, 1) := by decide +kernel
theorem dX11_workOut_161 : decode cX11_workOut 161 = .ok (.iload_n 2, 1) := by decide +kernel
theorem dX11_workOut_162 : decode cX11_workOut 162 = .ok (.ishr, 1) := by decide +kernel
theorem dX11_workOut_163 : decode cX11_workOut 163 = .ok (.iconst 1, 1) := by decide +kernel
theorem dX11_workOut_164 : decode cX11_workOut 164 = .ok (.iand, 1) := by decide +kernel
theorem dX11_workOut_165 : decode cX11_workOut 165 = .ok (.ifCond .ne 6, 3) := by decide +kernel
theorem dX11_workOut_168 : decode cX11_workOut 168 = .ok (.goto 75, 3) := by decide +kernel
theorem dX11_workOut_171 : decode cX11_workOut 171 = .ok (.aload_n 0, 1) := by decide +kernel
theorem dX11_workOut_172 : decode cX11_workOut 172 = .ok (.getfield 78, 3) := by decide +kernel
theorem dX11_workOut_175 : decode cX11_workOut 175 = .ok (.bipush 6, 2) := by decide +kernel
theorem dX11_workOut_177 : decode cX11_workOut 177 = .ok (.iload_n 1, 1) := by decide +kernel
theorem dX11_workOut_178 : decode cX11_workOut 178 = .ok (.imul, 1) := by decide +kernel
theorem dX11_workOut_179 : decode cX11_workOut 179 = .ok (.iload_n 2, 1) := by decide +kernel
theorem dX11_workOut_180 : decode cX11_workOut 180 = .ok (.iadd, 1) := by decide +kernel
theorem dX11_workOut_181 : decode cX11_workOut 181 = .ok (.aload_n 0, 1) := by decide +kernel
theorem dX11_workOut_182 : decode cX11_workOut 182 = .ok (.aload_n 0, 1) := by decide +kernel
theorem dX11_workOut_183 : decode cX11_workOut 183 = .ok (.getfield 72, 3) := by decide +kernel
theorem dX11_workOut_186 : decode cX11_workOut 186 = .ok (.iload_n 2, 1) := by decide +kernel
theorem dX11_workOut_187 : decode cX11_workOut 187 = .ok (.iaload, 1) := by decide +kernel
theorem dX11_workOut_188 : decode cX11_workOut 188 = .ok (.invokevirtual 186, 3) := by decide +kernel
theorem dX11_workOut_191 : decode cX11_workOut 191 = .ok (.iastore, 1) := by decide +kernel
theorem dX11_workOut_192 : decode cX11_workOut 192 = .ok (.aload_n 0, 1) := by decide +kernel
theorem dX11_workOut_193 : decode cX11_workOut 193 = .ok (.getfield 78, 3) := by decide +kernel
theorem dX11_workOut_196 : decode cX11_workOut 196 = .ok (.bipush 6, 2) := by decide +kernel
theorem dX11_workOut_198 : decode cX11_workOut 198 = .ok (.iload_n 1, 1) := by decide +kernel
theorem dX11_workOut_199 : decode cX11_workOut 199 = .ok (.imul, 1) := by decide +kernel
theorem dX11_workOut_200 : decode cX11_workOut 200 = .ok (.iload_n 2, 1) := by decide +kernel
theorem dX11_workOut_201 : decode cX11_workOut 201 = .ok (.iadd, 1) := by decide +kernel
theorem dX11_workOut_202 : decode cX11_workOut 202 = .ok (.iaload, 1) := by decide +kernel
theorem dX11_workOut_203 : decode cX11_workOut 203 = .ok (.aload_n 0, 1) := by decide +kernel
theorem dX11_workOut_204 : decode cX11_workOut 204 = .ok (.getfield 75, 3) := by decide +kernel
theorem dX11_workOut_207 : decode cX11_workOut 207 = .ok (.iload_n 1, 1) := by decide +kernel
theorem dX11_workOut_208 : decode cX11_workOut 208 = .ok (.iconst 1, 1) := by decide +kernel
theorem dX11_workOut_209 : decode cX11_workOut 209 = .ok (.iload_n 2, 1) := by decide +kernel
theorem dX11_workOut_210 : decode cX11_workOut 210 = .ok (.ishl, 1) := by decide +kernel
theorem dX11_workOut_211 : decode cX11_workOut 211 = .ok (.iconst (-1), 1) := by decide +kernel
theorem dX11_workOut_212 : decode cX11_workOut 212 = .ok (.ixor, 1) := by decide +kernel
theorem dX11_workOut_213 : decode cX11_workOut 213 = .ok (.iand, 1) := by decide +kernel
theorem dX11_workOut_214 : decode cX11_workOut 214 = .ok (.iaload, 1) := by decide +kernel
theorem dX11_workOut_215 : decode cX11_workOut 215 = .ok (.iadd, 1) := by decide +kernel
theorem dX11_workOut_216 : decode cX11_workOut 216 = .ok (.istore_n 3, 1) := by decide +kernel
theorem dX11_workOut_217 : decode cX11_workOut 217 = .ok (.aload_n 0, 1) := by decide +kernel
theorem dX11_workOut_218 : decode cX11_workOut 218 = .ok (.getfield 75, 3) := by decide +kernel
theorem dX11_workOut_221 : decode cX11_workOut 221 = .ok (.iload_n 1, 1) := by decide +kernel
theorem dX11_workOut_222 : decode cX11_workOut 222 = .ok (.iload_n 3, 1) := by decide +kernel
theorem dX11_workOut_223 : decode cX11_workOut 223 = .ok (.aload_n 0, 1) := by decide +kernel
theorem dX11_workOut_224 : decode cX11_workOut 224 = .ok (.getfield 75, 3) := by decide +kernel
theorem dX11_workOut_227 : decode cX11_workOut 227 = .ok (.iload_n 1, 1) := by decide +kernel
theorem dX11_workOut_228 : decode cX11_workOut 228 = .ok (.iaload, 1) := by decide +kernel
theorem dX11_workOut_229 : decode cX11_workOut 229 = .ok (.if_icmp .ge 7, 3) := by decide +kernel
theorem dX11_workOut_232 : decode cX11_workOut 232 = .ok (.iload_n 3, 1) := by decide +kernel
theorem dX11_workOut_233 : decode cX11_workOut 233 = .ok (.goto 9, 3) := by decide +kernel
theorem dX11_workOut_236 : decode cX11_workOut 236 = .ok (.aload_n 0, 1) := by decide +kernel
theorem dX11_workOut_237 : decode cX11_workOut 237 = .ok (.getfield 75, 3) := by decide +kernel
theorem dX11_workOut_240 : decode cX11_workOut 240 = .ok (.iload_n 1, 1) := by decide +kernel
theorem dX11_workOut_241 : decode cX11_workOut 241 = .ok (.iaload, 1) := by decide +kernel
theorem dX11_workOut_242 : decode cX11_workOut 242 = .ok (.iastore, 1) := by decide +kernel
theorem dX11_workOut_243 : decode cX11_workOut 243 = .ok (.iinc 2 1, 3) := by decide +kernel
theorem dX11_workOut_246 : decode cX11_workOut 246 = .ok (.goto (-94), 3) := by decide +kernel
theorem dX11_workOut_249 : decode cX11_workOut 249 = .ok (.iinc 1 1, 3) := by decide +kernel
theorem dX11_workOut_252 : decode cX11_workOut 252 = .ok (.goto (-161), 3) := by decide +kernel
theorem dX11_workOut_255 : decode cX11_workOut 255 = .ok (.iconst 1, 1) := by decide +kernel
theorem dX11_workOut_256 : decode cX11_workOut 256 = .ok (.ireturn, 1) := by decide +kernel
theorem dX11_best_0 : decode cX11_best 0 = .ok (.aload_n 0, 1) := by decide +kernel
theorem dX11_best_1 : decode cX11_best 1 = .ok (.invokevirtual 192, 3) := by decide +kernel
theorem dX11_best_4 : decode cX11_best 4 = .ok (.ifCond .eq 19, 3) := by decide +kernel
theorem dX11_best_7 : decode cX11_best 7 = .ok (.aload_n 0, 1) := by decide +kernel
theorem dX11_best_8 : decode cX11_best 8 = .ok (.getfield 75, 3) := by decide +kernel
theorem dX11_best_11 : decode cX11_best 11 = .ok (.iconst 1, 1) := by decide +kernel
theorem dX11_best_12 : decode cX11_best 12 = .ok (.aload_n 0, 1) := by decide +kernel
theorem dX11_best_13 : decode cX11_best 13 = .ok (.getfield 189, 3) := by decide +kernel
theorem dX11_best_16 : decode cX11_best 16 = .ok (.ishl, 1) := by decide +kernel
theorem dX11_best_17 : decode cX11_best 17 = .ok (.iconst 1, 1) := by decide +kernel
theorem dX11_best_18 : decode cX11_best 18 = .ok (.isub, 1) := by decide +kernel
theorem dX11_best_19 : decode cX11_best 19 = .ok (.iaload, 1) := by decide +kernel
theorem dX11_best_20 : decode cX11_best 20 = .ok (.goto 5, 3) := by decide +kernel
theorem dX11_best_23 : decode cX11_best 23 = .ok (.bipush (-5), 2) := by decide +kernel
theorem dX11_best_25 : decode cX11_best 25 = .ok (.ireturn, 1) := by decide +kernel
theorem dX11_order_0 : decode cX11_order 0 = .ok (.iload_n 1, 1) := by decide +kernel
theorem dX11_order_1 : decode cX11_order 1 = .ok (.ifCond .ge 5, 3) := by decide +kernel
theorem dX11_order_4 : decode cX11_order 4 = .ok (.iconst (-1), 1) := by decide +kernel
theorem dX11_order_5 : decode cX11_order 5 = .ok (.ireturn, 1) := by decide +kernel
theorem dX11_order_6 : decode cX11_order 6 = .ok (.aload_n 0, 1) := by decide +kernel
theorem dX11_order_7 : decode cX11_order 7 = .ok (.invokevirtual 192, 3) := by decide +kernel
theorem dX11_order_10 : decode cX11_order 10 = .ok (.ifCond .ne 6, 3) := by decide +kernel
theorem dX11_order_13 : decode cX11_order 13 = .ok (.bipush (-5), 2) := by decide +kernel
theorem dX11_order_15 : decode cX11_order 15 = .ok (.ireturn, 1) := by decide +kernel
theorem dX11_order_16 : decode cX11_order 16 = .ok (.iload_n 1, 1) := by decide +kernel
theorem dX11_order_17 : decode cX11_order 17 = .ok (.aload_n 0, 1) := by decide +kernel
theorem dX11_order_18 : decode cX11_order 18 = .ok (.getfield 189, 3) := by decide +kernel
theorem dX11_order_21 : decode cX11_order 21 = .ok (.if_icmp .lt 6, 3) := by decide +kernel
theorem dX11_order_24 : decode cX11_order 24 = .ok (.bipush (-3), 2) := by decide +kernel
theorem dX11_order_26 : decode cX11_order 26 = .ok (.ireturn, 1) := by decide +kernel
theorem dX11_order_27 : decode cX11_order 27 = .ok (.iconst 1, 1) := by decide +kernel
theorem dX11_order_28 : decode cX11_order 28 = .ok (.aload_n 0, 1) := by decide +kernel
theorem dX11_order_29 : decode cX11_order 29 = .ok (.getfield 189, 3) := by decide +kernel
theorem dX11_order_32 : decode cX11_order 32 = .ok (.ishl, 1) := by decide +kernel
theorem dX11_order_33 : decode cX11_order 33 = .ok (.iconst 1, 1) := by decide +kernel
theorem dX11_order_34 : decode cX11_order 34 = .ok (.isub, 1) := by decide +kernel
theorem dX11_order_35 : decode cX11_order 35 = .ok (.istore_n 2, 1) := by decide +kernel
theorem dX11_order_36 : decode cX11_order 36 = .ok (.iconst 0, 1) := by decide +kernel
theorem dX11_order_37 : decode cX11_order 37 = .ok (.istore_n 3, 1) := by decide +kernel
theorem dX11_order_38 : decode cX11_order 38 = .ok (.iconst 0, 1) := by decide +kernel
theorem dX11_order_39 : decode cX11_order 39 = .ok (.istore 4, 2) := by decide +kernel
theorem dX11_order_41 : decode cX11_order 41 = .ok (.iload 4, 2) := by decide +kernel
theorem dX11_order_43 : decode cX11_order 43 = .ok (.iload_n 1, 1) := by decide +kernel
theorem dX11_order_44 : decode cX11_order 44 = .ok (.if_icmp .gt 66, 3) := by decide +kernel
theorem dX11_order_47 : decode cX11_order 47 = .ok (.iconst 0, 1) := by decide +kernel
theorem dX11_order_48 : decode cX11_order 48 = .ok (.istore_n 3, 1) := by decide +kernel
theorem dX11_order_49 : decode cX11_order 49 = .ok (.iload_n 2, 1) := by decide +kernel
theorem dX11_order_50 : decode cX11_order 50 = .ok (.iload_n 3, 1) := by decide +kernel
theorem dX11_order_51 : decode cX11_order 51 = .ok (.ishr, 1) := by decide +kernel
theorem dX11_order_52 : decode cX11_order 52 = .ok (.iconst 1, 1) := by decide +kernel
theorem dX11_order_53 : decode cX11_order 53 = .ok (.iand, 1) := by decide +kernel
theorem dX11_order_54 : decode cX11_order 54 = .ok (.ifCond .eq 36, 3) := by decide +kernel
theorem dX11_order_57 : decode cX11_order 57 = .ok (.aload_n 0, 1) := by decide +kernel
theorem dX11_order_58 : decode cX11_order 58 = .ok (.getfield 78, 3) := by decide +kernel
theorem dX11_order_61 : decode cX11_order 61 = .ok (.bipush 6, 2) := by decide +kernel
theorem dX11_order_63 : decode cX11_order 63 = .ok (.iload_n 2, 1) := by decide +kernel
theorem dX11_order_64 : decode cX11_order 64 = .ok (.imul, 1) := by decide +kernel
theorem dX11_order_65 : decode cX11_order 65 = .ok (.iload_n 3, 1) := by decide +kernel
theorem dX11_order_66 : decode cX11_order 66 = .ok (.iadd, 1) := by decide +kernel
theorem dX11_order_67 : decode cX11_order 67 = .ok (.iaload, 1) := by decide +kernel
theorem dX11_order_68 : decode cX11_order 68 = .ok (.aload_n 0, 1) := by decide +kernel
theorem dX11_order_69 : decode cX11_order 69 = .ok (.getfield 75, 3) := by decide +kernel
theorem dX11_order_72 : decode cX11_order 72 = .ok (.iload_n 2, 1) := by decide +kernel
theorem dX11_order_73 : decode cX11_order 73 = .ok (.iconst 1, 1) := by decide +kernel
theorem dX11_order_74 : decode cX11_order 74 = .ok (.iload_n 3, 1) := by decide +kernel
theorem dX11_order_75 : decode cX11_order 75 = .ok (.ishl, 1) := by decide +kernel
theorem dX11_order_76 : decode cX11_order 76 = .ok (.iconst (-1), 1) := by decide +kernel
theorem dX11_order_77 : decode cX11_order 77 = .ok (.ixor, 1) := by decide +kernel
theorem dX11_order_78 : decode cX11_order 78 = .ok (.iand, 1) := by decide +kernel
theorem dX11_order_79 : decode cX11_order 79 = .ok (.iaload, 1) := by decide +kernel
theorem dX11_order_80 : decode cX11_order 80 = .ok (.iadd, 1) := by decide +kernel
theorem dX11_order_81 : decode cX11_order 81 = .ok (.aload_n 0, 1) := by decide +kernel
theorem dX11_order_82 : decode cX11_order 82 = .ok (.getfield 75, 3) := by decide +kernel
theorem dX11_order_85 : decode cX11_order 85 = .ok (.iload_n 2, 1) := by decide +kernel
theorem dX11_order_86 : decode cX11_order 86 = .ok (.iaload, 1) := by decide +kernel
theorem dX11_order_87 : decode cX11_order 87 = .ok (.if_icmp .eq 9, 3) := by decide +kernel
theorem dX11_order_90 : decode cX11_order 90 = .ok (.iinc 3 1, 3) := by decide +kernel
theorem dX11_order_93 : decode cX11_order 93 = .ok (.goto (-44), 3) := by decide +kernel
theorem dX11_order_96 : decode cX11_order 96 = .ok (.iload_n 2, 1) := by decide +kernel
theorem dX11_order_97 : decode cX11_order 97 = .ok (.iconst 1, 1) := by decide +kernel
theorem dX11_order_98 : decode cX11_order 98 = .ok (.iload_n 3, 1) := by decide +kernel
theorem dX11_order_99 : decode cX11_order 99 = .ok (.ishl, 1) := by decide +kernel
theorem dX11_order_100 : decode cX11_order 100 = .ok (.iconst (-1), 1) := by decide +kernel
theorem dX11_order_101 : decode cX11_order 101 = .ok (.ixor, 1) := by decide +kernel
theorem dX11_order_102 : decode cX11_order 102 = .ok (.iand, 1) := by decide +kernel
theorem dX11_order_103 : decode cX11_order 103 = .ok (.istore_n 2, 1) := by decide +kernel
theorem dX11_order_104 : decode cX11_order 104 = .ok (.iinc 4 1, 3) := by decide +kernel
theorem dX11_order_107 : decode cX11_order 107 = .ok (.goto (-66), 3) := by decide +kernel
theorem dX11_order_110 : decode cX11_order 110 = .ok (.aload_n 0, 1) := by decide +kernel
theorem dX11_order_111 : decode cX11_order 111 = .ok (.getfield 72, 3) := by decide +kernel
theorem dX11_order_114 : decode cX11_order 114 = .ok (.iload_n 3, 1) := by decide +kernel
theorem dX11_order_115 : decode cX11_order 115 = .ok (.iaload, 1) := by decide +kernel
theorem dX11_order_116 : decode cX11_order 116 = .ok (.ireturn, 1) := by decide +kernel
theorem dX11_dries_0 : decode cX11_dries 0 = .ok (.aload_n 0, 1) := by decide +kernel
theorem dX11_dries_1 : decode cX11_dries 1 = .ok (.aload_n 0, 1) := by decide +kernel
theorem dX11_dries_2 : decode cX11_dries 2 = .ok (.iload_n 1, 1) := by decide +kernel
theorem dX11_dries_3 : decode cX11_dries 3 = .ok (.invokevirtual 133, 3) := by decide +kernel
theorem dX11_dries_6 : decode cX11_dries 6 = .ok (.putfield 196, 3) := by decide +kernel
theorem dX11_dries_9 : decode cX11_dries 9 = .ok (.iconst 0, 1) := by decide +kernel
theorem dX11_dries_10 : decode cX11_dries 10 = .ok (.istore_n 2, 1) := by decide +kernel
theorem dX11_dries_11 : decode cX11_dries 11 = .ok (.aload_n 0, 1) := by decide +kernel
theorem dX11_dries_12 : decode cX11_dries 12 = .ok (.getfield 32, 3) := by decide +kernel
theorem dX11_dries_15 : decode cX11_dries 15 = .ok (.iload_n 1, 1) := by decide +kernel
theorem dX11_dries_16 : decode cX11_dries 16 = .ok (.iaload, 1) := by decide +kernel
theorem dX11_dries_17 : decode cX11_dries 17 = .ok (.iconst 1, 1) := by decide +kernel
theorem dX11_dries_18 : decode cX11_dries 18 = .ok (.iadd, 1) := by decide +kernel
theorem dX11_dries_19 : decode cX11_dries 19 = .ok (.istore_n 3, 1) := by decide +kernel
theorem dX11_dries_20 : decode cX11_dries 20 = .ok (.iload_n 3, 1) := by decide +kernel
theorem dX11_dries_21 : decode cX11_dries 21 = .ok (.bipush 30, 2) := by decide +kernel
theorem dX11_dries_23 : decode cX11_dries 23 = .ok (.if_icmp .gt 59, 3) := by decide +kernel
theorem dX11_dries_26 : decode cX11_dries 26 = .ok (.aload_n 0, 1) := by decide +kernel
theorem dX11_dries_27 : decode cX11_dries 27 = .ok (.getfield 63, 3) := by decide +kernel
theorem dX11_dries_30 : decode cX11_dries 30 = .ok (.iload_n 3, 1) := by decide +kernel
theorem dX11_dries_31 : decode cX11_dries 31 = .ok (.baload, 1) := by decide +kernel
theorem dX11_dries_32 : decode cX11_dries 32 = .ok (.ifCond .eq 34, 3) := by decide +kernel
theorem dX11_dries_35 : decode cX11_dries 35 = .ok (.iload_n 2, 1) := by decide +kernel
theorem dX11_dries_36 : decode cX11_dries 36 = .ok (.iload_n 2, 1) := by decide +kernel
theorem dX11_dries_37 : decode cX11_dries 37 = .ok (.ifCond .le 7, 3) := by decide +kernel
theorem dX11_dries_40 : decode cX11_dries 40 = .ok (.iconst 1, 1) := by decide +kernel
theorem dX11_dries_41 : decode cX11_dries 41 = .ok (.goto 4, 3) := by decide +kernel
theorem dX11_dries_44 : decode cX11_dries 44 = .ok (.iconst 0, 1) := by decide +kernel
theorem dX11_dries_45 : decode cX11_dries 45 = .ok (.isub, 1) := by decide +kernel
theorem dX11_dries_46 : decode cX11_dries 46 = .ok (.istore_n 2, 1) := by decide +kernel
theorem dX11_dries_47 : decode cX11_dries 47 = .ok (.aload_n 0, 1) := by decide +kernel
theorem dX11_dries_48 : decode cX11_dries 48 = .ok (.dup, 1) := by decide +kernel
theorem dX11_dries_49 : decode cX11_dries 49 = .ok (.getfield 196, 3) := by decide +kernel
theorem dX11_dries_52 : decode cX11_dries 52 = .ok (.aload_n 0, 1) := by decide +kernel
theorem dX11_dries_53 : decode cX11_dries 53 = .ok (.getfield 196, 3) := by decide +kernel
theorem dX11_dries_56 : decode cX11_dries 56 = .ok (.bipush 10, 2) := by decide +kernel
theorem dX11_dries_58 : decode cX11_dries 58 = .ok (.idiv, 1) := by decide +kernel
theorem dX11_dries_59 : decode cX11_dries 59 = .ok (.isub, 1) := by decide +kernel
theorem dX11_dries_60 : decode cX11_dries 60 = .ok (.putfield 196, 3) := by decide +kernel
theorem dX11_dries_63 : decode cX11_dries 63 = .ok (.goto 13, 3) := by decide +kernel
theorem dX11_dries_66 : decode cX11_dries 66 = .ok (.iinc 2 1, 3) := by decide +kernel
theorem dX11_dries_69 : decode cX11_dries 69 = .ok (.iload_n 2, 1) := by decide +kernel
theorem dX11_dries_70 : decode cX11_dries 70 = .ok (.iconst 3, 1) := by decide +kernel
theorem dX11_dries_71 : decode cX11_dries 71 = .ok (.if_icmp .ne 5, 3) := by decide +kernel
theorem dX11_dries_74 : decode cX11_dries 74 = .ok (.iload_n 3, 1) := by decide +kernel
theorem dX11_dries_75 : decode cX11_dries 75 = .ok (.ireturn, 1) := by decide +kernel
theorem dX11_dries_76 : decode cX11_dries 76 = .ok (.iinc 3 1, 3) := by decide +kernel
theorem dX11_dries_79 : decode cX11_dries 79 = .ok (.goto (-59), 3) := by decide +kernel
theorem dX11_dries_82 : decode cX11_dries 82 = .ok (.aload_n 0, 1) := by decide +kernel
theorem dX11_dries_83 : decode cX11_dries 83 = .ok (.iconst 0, 1) := by decide +kernel
theorem dX11_dries_84 : decode cX11_dries 84 = .ok (.putfield 196, 3) := by decide +kernel
theorem dX11_dries_87 : decode cX11_dries 87 = .ok (.bipush (-4), 2) := by decide +kernel
theorem dX11_dries_89 : decode cX11_dries 89 = .ok (.ireturn, 1) := by decide +kernel
theorem dX11_dry_0 : decode cX11_dry 0 = .ok (.iload_n 1, 1) := by decide +kernel
theorem dX11_dry_1 : decode cX11_dry 1 = .ok (.invokestatic 121, 3) := by decide +kernel
theorem dX11_dry_4 : decode cX11_dry 4 = .ok (.ifCond .ne 7, 3) := by decide +kernel
theorem dX11_dry_7 : decode cX11_dry 7 = .ok (.iconst (-1), 1) := by decide +kernel
theorem dX11_dry_8 : decode cX11_dry 8 = .ok (.goto 22, 3) := by decide +kernel
theorem dX11_dry_11 : decode cX11_dry 11 = .ok (.aload_n 0, 1) := by decide +kernel
theorem dX11_dry_12 : decode cX11_dry 12 = .ok (.getfield 29, 3) := by decide +kernel
theorem dX11_dry_15 : decode cX11_dry 15 = .ok (.iload_n 1, 1) := by decide +kernel
theorem dX11_dry_16 : decode cX11_dry 16 = .ok (.baload, 1) := by decide +kernel
theorem dX11_dry_17 : decode cX11_dry 17 = .ok (.ifCond .ne 8, 3) := by decide +kernel
theorem dX11_dry_20 : decode cX11_dry 20 = .ok (.bipush (-3), 2) := by decide +kernel
theorem dX11_dry_22 : decode cX11_dry 22 = .ok (.goto 8, 3) := by decide +kernel
theorem dX11_dry_25 : decode cX11_dry 25 = .ok (.aload_n 0, 1) := by decide +kernel
theorem dX11_dry_26 : decode cX11_dry 26 = .ok (.iload_n 1, 1) := by decide +kernel
theorem dX11_dry_27 : decode cX11_dry 27 = .ok (.invokevirtual 199, 3) := by decide +kernel
theorem dX11_dry_30 : decode cX11_dry 30 = .ok (.ireturn, 1) := by decide +kernel
theorem dX11_inBarn_0 : decode cX11_inBarn 0 = .ok (.aload_n 0, 1) := by decide +kernel
theorem dX11_inBarn_1 : decode cX11_inBarn 1 = .ok (.iload_n 1, 1) := by decide +kernel
theorem dX11_inBarn_2 : decode cX11_inBarn 2 = .ok (.invokevirtual 199, 3) := by decide +kernel
theorem dX11_inBarn_5 : decode cX11_inBarn 5 = .ok (.istore_n 2, 1) := by decide +kernel
theorem dX11_inBarn_6 : decode cX11_inBarn 6 = .ok (.aload_n 0, 1) := by decide +kernel
theorem dX11_inBarn_7 : decode cX11_inBarn 7 = .ok (.getfield 196, 3) := by decide +kernel
theorem dX11_inBarn_10 : decode cX11_inBarn 10 = .ok (.ireturn, 1) := by decide +kernel
theorem dX11_barn_0 : decode cX11_barn 0 = .ok (.iload_n 1, 1) := by decide +kernel
theorem dX11_barn_1 : decode cX11_barn 1 = .ok (.invokestatic 121, 3) := by decide +kernel
theorem dX11_barn_4 : decode cX11_barn 4 = .ok (.ifCond .ne 7, 3) := by decide +kernel
theorem dX11_barn_7 : decode cX11_barn 7 = .ok (.iconst (-1), 1) := by decide +kernel
theorem dX11_barn_8 : decode cX11_barn 8 = .ok (.goto 22, 3) := by decide +kernel
theorem dX11_barn_11 : decode cX11_barn 11 = .ok (.aload_n 0, 1) := by decide +kernel
theorem dX11_barn_12 : decode cX11_barn 12 = .ok (.getfield 29, 3) := by decide +kernel
theorem dX11_barn_15 : decode cX11_barn 15 = .ok (.iload_n 1, 1) := by decide +kernel
theorem dX11_barn_16 : decode cX11_barn 16 = .ok (.baload, 1) := by decide +kernel
theorem dX11_barn_17 : decode cX11_barn 17 = .ok (.ifCond .ne 8, 3) := by decide +kernel
theorem dX11_barn_20 : decode cX11_barn 20 = .ok (.bipush (-3), 2) := by decide +kernel
theorem dX11_barn_22 : decode cX11_barn 22 = .ok (.goto 8, 3) := by decide +kernel
theorem dX11_barn_25 : decode cX11_barn 25 = .ok (.aload_n 0, 1) := by decide +kernel
theorem dX11_barn_26 : decode cX11_barn 26 = .ok (.iload_n 1, 1) := by decide +kernel
theorem dX11_barn_27 : decode cX11_barn 27 = .ok (.invokevirtual 202, 3) := by decide +kernel
theorem dX11_barn_30 : decode cX11_barn 30 = .ok (.ireturn, 1) := by decide +kernel
theorem dX11_tithe_0 : decode cX11_tithe 0 = .ok (.aload_n 0, 1) := by decide +kernel
theorem dX11_tithe_1 : decode cX11_tithe 1 = .ok (.iload_n 1, 1) := by decide +kernel
theorem dX11_tithe_2 : decode cX11_tithe 2 = .ok (.invokevirtual 126, 3) := by decide +kernel
theorem dX11_tithe_5 : decode cX11_tithe 5 = .ok (.ifCond .ne 5, 3) := by decide +kernel
theorem dX11_tithe_8 : decode cX11_tithe 8 = .ok (.iconst (-1), 1) := by decide +kernel
theorem dX11_tithe_9 : decode cX11_tithe 9 = .ok (.ireturn, 1) := by decide +kernel
theorem dX11_tithe_10 : decode cX11_tithe 10 = .ok (.iconst 0, 1) := by decide +kernel
theorem dX11_tithe_11 : decode cX11_tithe 11 = .ok (.istore_n 2, 1) := by decide +kernel
theorem dX11_tithe_12 : decode cX11_tithe 12 = .ok (.iconst 0, 1) := by decide +kernel
theorem dX11_tithe_13 : decode cX11_tithe 13 = .ok (.istore_n 3, 1) := by decide +kernel
theorem dX11_tithe_14 : decode cX11_tithe 14 = .ok (.iload_n 3, 1) := by decide +kernel
theorem dX11_tithe_15 : decode cX11_tithe 15 = .ok (.bipush 24, 2) := by decide +kernel
theorem dX11_tithe_17 : decode cX11_tithe 17 = .ok (.if_icmp .ge 39, 3) := by decide +kernel
theorem dX11_tithe_20 : decode cX11_tithe 20 = .ok (.iload_n 2, 1) := by decide +kernel
theorem dX11_tithe_21 : decode cX11_tithe 21 = .ok (.aload_n 0, 1) := by decide +kernel
theorem dX11_tithe_22 : decode cX11_tithe 22 = .ok (.iload_n 1, 1) := by decide +kernel
theorem dX11_tithe_23 : decode cX11_tithe 23 = .ok (.iload_n 3, 1) := by decide +kernel
theorem dX11_tithe_24 : decode cX11_tithe 24 = .ok (.invokevirtual 139, 3) := by decide +kernel
theorem dX11_tithe_27 : decode cX11_tithe 27 = .ok (.ifCond .eq 20, 3) := by decide +kernel
theorem dX11_tithe_30 : decode cX11_tithe 30 = .ok (.aload_n 0, 1) := by decide +kernel
theorem dX11_tithe_31 : decode cX11_tithe 31 = .ok (.getfield 29, 3) := by decide +kernel
theorem dX11_tithe_34 : decode cX11_tithe 34 = .ok (.iload_n 3, 1) := by decide +kernel
theorem dX11_tithe_35 : decode cX11_tithe 35 = .ok (.baload, 1) := by decide +kernel
theorem dX11_tithe_36 : decode cX11_tithe 36 = .ok (.ifCond .eq 11, 3) := by decide +kernel
theorem dX11_tithe_39 : decode cX11_tithe 39 = .ok (.aload_n 0, 1) := by decide +kernel
theorem dX11_tithe_40 : decode cX11_tithe 40 = .ok (.iload_n 3, 1) := by decide +kernel
theorem dX11_tithe_41 : decode cX11_tithe 41 = .ok (.invokevirtual 202, 3) := by decide +kernel
theorem dX11_tithe_44 : decode cX11_tithe 44 = .ok (.goto 4, 3) := by decide +kernel
theorem dX11_tithe_47 : decode cX11_tithe 47 = .ok (.iconst 0, 1) := by decide +kernel
theorem dX11_tithe_48 : decode cX11_tithe 48 = .ok (.iadd, 1) := by decide +kernel
theorem dX11_tithe_49 : decode cX11_tithe 49 = .ok (.istore_n 2, 1) := by decide +kernel
theorem dX11_tithe_50 : decode cX11_tithe 50 = .ok (.iinc 3 1, 3) := by decide +kernel
theorem dX11_tithe_53 : decode cX11_tithe 53 = .ok (.goto (-39), 3) := by decide +kernel
theorem dX11_tithe_56 : decode cX11_tithe 56 = .ok (.iload_n 2, 1) := by decide +kernel
theorem dX11_tithe_57 : decode cX11_tithe 57 = .ok (.bipush 10, 2) := by decide +kernel
theorem dX11_tithe_59 : decode cX11_tithe 59 = .ok (.idiv, 1) := by decide +kernel
theorem dX11_tithe_60 : decode cX11_tithe 60 = .ok (.ireturn, 1) := by decide +kernel
theorem dX11_settle_0 : decode cX11_settle 0 = .ok (.iconst 0, 1) := by decide +kernel
theorem dX11_settle_1 : decode cX11_settle 1 = .ok (.istore_n 1, 1) := by decide +kernel
theorem dX11_settle_2 : decode cX11_settle 2 = .ok (.iload_n 1, 1) := by decide +kernel
theorem dX11_settle_3 : decode cX11_settle 3 = .ok (.aload_n 0, 1) := by decide +kernel
theorem dX11_settle_4 : decode cX11_settle 4 = .ok (.getfield 118, 3) := by decide +kernel
theorem dX11_settle_7 : decode cX11_settle 7 = .ok (.if_icmp .ge 92, 3) := by decide +kernel
theorem dX11_settle_10 : decode cX11_settle 10 = .ok (.aload_n 0, 1) := by decide +kernel
theorem dX11_settle_11 : decode cX11_settle 11 = .ok (.getfield 81, 3) := by decide +kernel
theorem dX11_settle_14 : decode cX11_settle 14 = .ok (.iload_n 1, 1) := by decide +kernel
theorem dX11_settle_15 : decode cX11_settle 15 = .ok (.aload_n 0, 1) := by decide +kernel
theorem dX11_settle_16 : decode cX11_settle 16 = .ok (.iload_n 1, 1) := by decide +kernel
theorem dX11_settle_17 : decode cX11_settle 17 = .ok (.invokevirtual 146, 3) := by decide +kernel
theorem dX11_settle_20 : decode cX11_settle 20 = .ok (.bipush 10, 2) := by decide +kernel
theorem dX11_settle_22 : decode cX11_settle 22 = .ok (.aload_n 0, 1) := by decide +kernel
theorem dX11_settle_23 : decode cX11_settle 23 = .ok (.getfield 50, 3) := by decide +kernel
theorem dX11_settle_26 : decode cX11_settle 26 = .ok (.iload_n 1, 1) := by decide +kernel
theorem dX11_settle_27 : decode cX11_settle 27 = .ok (.iaload, 1) := by decide +kernel
theorem dX11_settle_28 : decode cX11_settle 28 = .ok (.imul, 1) := by decide +kernel
theorem dX11_settle_29 : decode cX11_settle 29 = .ok (.iadd, 1) := by decide +kernel
theorem dX11_settle_30 : decode cX11_settle 30 = .ok (.iastore, 1) := by decide +kernel
theorem dX11_settle_31 : decode cX11_settle 31 = .ok (.aload_n 0, 1) := by decide +kernel
theorem dX11_settle_32 : decode cX11_settle 32 = .ok (.getfield 84, 3) := by decide +kernel
theorem dX11_settle_35 : decode cX11_settle 35 = .ok (.iload_n 1, 1) := by decide +kernel
theorem dX11_settle_36 : decode cX11_settle 36 = .ok (.aload_n 0, 1) := by decide +kernel
theorem dX11_settle_37 : decode cX11_settle 37 = .ok (.getfield 81, 3) := by decide +kernel
theorem dX11_settle_40 : decode cX11_settle 40 = .ok (.iload_n 1, 1) := by decide +kernel
theorem dX11_settle_41 : decode cX11_settle 41 = .ok (.iaload, 1) := by decide +kernel
theorem dX11_settle_42 : decode cX11_settle 42 = .ok (.aload_n 0, 1) := by decide +kernel
theorem dX11_settle_43 : decode cX11_settle 43 = .ok (.getfield 38, 3) := by decide +kernel
theorem dX11_settle_46 : decode cX11_settle 46 = .ok (.iload_n 1, 1) := by decide +kernel
theorem dX11_settle_47 : decode cX11_settle 47 = .ok (.iaload, 1) := by decide +kernel
theorem dX11_settle_48 : decode cX11_settle 48 = .ok (.if_icmp .ge 12, 3) := by decide +kernel
theorem dX11_settle_51 : decode cX11_settle 51 = .ok (.aload_n 0, 1) := by decide +kernel
theorem dX11_settle_52 : decode cX11_settle 52 = .ok (.getfield 81, 3) := by decide +kernel
theorem dX11_settle_55 : decode cX11_settle 55 = .ok (.iload_n 1, 1) := by decide +kernel
theorem dX11_settle_56 : decode cX11_settle 56 = .ok (.iaload, 1) := by decide +kernel
theorem dX11_settle_57 : decode cX11_settle 57 = .ok (.goto 9, 3) := by decide +kernel
theorem dX11_settle_60 : decode cX11_settle 60 = .ok (.aload_n 0, 1) := by decide +kernel
theorem dX11_settle_61 : decode cX11_settle 61 = .ok (.getfield 38, 3) := by decide +kernel
theorem dX11_settle_64 : decode cX11_settle 64 = .ok (.iload_n 1, 1) := by decide +kernel
theorem dX11_settle_65 : decode cX11_settle 65 = .ok (.iaload, 1) := by decide +kernel
theorem dX11_settle_66 : decode cX11_settle 66 = .ok (.iastore, 1) := by decide +kernel
theorem dX11_settle_67 : decode cX11_settle 67 = .ok (.aload_n 0, 1) := by decide +kernel
theorem dX11_settle_68 : decode cX11_settle 68 = .ok (.getfield 90, 3) := by decide +kernel
theorem dX11_settle_71 : decode cX11_settle 71 = .ok (.iload_n 1, 1) := by decide +kernel
theorem dX11_settle_72 : decode cX11_settle 72 = .ok (.aload_n 0, 1) := by decide +kernel
theorem dX11_settle_73 : decode cX11_settle 73 = .ok (.getfield 38, 3) := by decide +kernel
theorem dX11_settle_76 : decode cX11_settle 76 = .ok (.iload_n 1, 1) := by decide +kernel
theorem dX11_settle_77 : decode cX11_settle 77 = .ok (.iaload, 1) := by decide +kernel
theorem dX11_settle_78 : decode cX11_settle 78 = .ok (.aload_n 0, 1) := by decide +kernel
theorem dX11_settle_79 : decode cX11_settle 79 = .ok (.getfield 84, 3) := by decide +kernel
theorem dX11_settle_82 : decode cX11_settle 82 = .ok (.iload_n 1, 1) := by decide +kernel
theorem dX11_settle_83 : decode cX11_settle 83 = .ok (.iaload, 1) := by decide +kernel
theorem dX11_settle_84 : decode cX11_settle 84 = .ok (.isub, 1) := by decide +kernel
theorem dX11_settle_85 : decode cX11_settle 85 = .ok (.iastore, 1) := by decide +kernel
theorem dX11_settle_86 : decode cX11_settle 86 = .ok (.aload_n 0, 1) := by decide +kernel
theorem dX11_settle_87 : decode cX11_settle 87 = .ok (.getfield 87, 3) := by decide +kernel
theorem dX11_settle_90 : decode cX11_settle 90 = .ok (.iload_n 1, 1) := by decide +kernel
theorem dX11_settle_91 : decode cX11_settle 91 = .ok (.iconst 0, 1) := by decide +kernel
theorem dX11_settle_92 : decode cX11_settle 92 = .ok (.iastore, 1) := by decide +kernel
theorem dX11_settle_93 : decode cX11_settle 93 = .ok (.iinc 1 1, 3) := by decide +kernel
theorem dX11_settle_96 : decode cX11_settle 96 = .ok (.goto (-94), 3) := by decide +kernel
theorem dX11_settle_99 : decode cX11_settle 99 = .ok (.iconst 0, 1) := by decide +kernel
theorem dX11_settle_100 : decode cX11_settle 100 = .ok (.istore_n 1, 1) := by decide +kernel
theorem dX11_settle_101 : decode cX11_settle 101 = .ok (.iload_n 1, 1) := by decide +kernel
theorem dX11_settle_102 : decode cX11_settle 102 = .ok (.aload_n 0, 1) := by decide +kernel
theorem dX11_settle_103 : decode cX11_settle 103 = .ok (.getfield 118, 3) := by decide +kernel
theorem dX11_settle_106 : decode cX11_settle 106 = .ok (.if_icmp .ge 78, 3) := by decide +kernel
theorem dX11_settle_109 : decode cX11_settle 109 = .ok (.aload_n 0, 1) := by decide +kernel
theorem dX11_settle_110 : decode cX11_settle 110 = .ok (.getfield 47, 3) := by decide +kernel
theorem dX11_settle_113 : decode cX11_settle 113 = .ok (.iload_n 1, 1) := by decide +kernel
theorem dX11_settle_114 : decode cX11_settle 114 = .ok (.iaload, 1) := by decide +kernel
theorem dX11_settle_115 : decode cX11_settle 115 = .ok (.istore_n 2, 1) := by decide +kernel
theorem dX11_settle_116 : decode cX11_settle 116 = .ok (.iload_n 2, 1) := by decide +kernel
theorem dX11_settle_117 : decode cX11_settle 117 = .ok (.ifCond .ge 6, 3) := by decide +kernel
theorem dX11_settle_120 : decode cX11_settle 120 = .ok (.goto 58, 3) := by decide +kernel
theorem dX11_settle_123 : decode cX11_settle 123 = .ok (.aload_n 0, 1) := by decide +kernel
theorem dX11_settle_124 : decode cX11_settle 124 = .ok (.getfield 81, 3) := by decide +kernel
theorem dX11_settle_127 : decode cX11_settle 127 = .ok (.iload_n 1, 1) := by decide +kernel
theorem dX11_settle_128 : decode cX11_settle 128 = .ok (.iaload, 1) := by decide +kernel
theorem dX11_settle_129 : decode cX11_settle 129 = .ok (.aload_n 0, 1) := by decide +kernel
theorem dX11_settle_130 : decode cX11_settle 130 = .ok (.getfield 84, 3) := by decide +kernel
theorem dX11_settle_133 : decode cX11_settle 133 = .ok (.iload_n 1, 1) := by decide +kernel
theorem dX11_settle_134 : decode cX11_settle 134 = .ok (.iaload, 1) := by decide +kernel
theorem dX11_settle_135 : decode cX11_settle 135 = .ok (.isub, 1) := by decide +kernel
theorem dX11_settle_136 : decode cX11_settle 136 = .ok (.istore_n 3, 1) := by decide +kernel
theorem dX11_settle_137 : decode cX11_settle 137 = .ok (.aload_n 0, 1) := by decide +kernel
theorem dX11_settle_138 : decode cX11_settle 138 = .ok (.getfield 87, 3) := by decide +kernel
theorem dX11_settle_141 : decode cX11_settle 141 = .ok (.iload_n 1, 1) := by decide +kernel
theorem dX11_settle_142 : decode cX11_settle 142 = .ok (.iload_n 3, 1) := by decide +kernel
theorem dX11_settle_143 : decode cX11_settle 143 = .ok (.aload_n 0, 1) := by decide +kernel
theorem dX11_settle_144 : decode cX11_settle 144 = .ok (.getfield 90, 3) := by decide +kernel
theorem dX11_settle_147 : decode cX11_settle 147 = .ok (.iload_n 2, 1) := by decide +kernel
theorem dX11_settle_148 : decode cX11_settle 148 = .ok (.iaload, 1) := by decide +kernel
theorem dX11_settle_149 : decode cX11_settle 149 = .ok (.if_icmp .ge 7, 3) := by decide +kernel
theorem dX11_settle_152 : decode cX11_settle 152 = .ok (.iload_n 3, 1) := by decide +kernel
theorem dX11_settle_153 : decode cX11_settle 153 = .ok (.goto 9, 3) := by decide +kernel
theorem dX11_settle_156 : decode cX11_settle 156 = .ok (.aload_n 0, 1) := by decide +kernel
theorem dX11_settle_157 : decode cX11_settle 157 = .ok (.getfield 90, 3) := by decide +kernel
theorem dX11_settle_160 : decode cX11_settle 160 = .ok (.iload_n 2, 1) := by decide +kernel
theorem dX11_settle_161 : decode cX11_settle 161 = .ok (.iaload, 1) := by decide +kernel
theorem dX11_settle_162 : decode cX11_settle 162 = .ok (.iastore, 1) := by decide +kernel
theorem dX11_settle_163 : decode cX11_settle 163 = .ok (.aload_n 0, 1) := by decide +kernel
theorem dX11_settle_164 : decode cX11_settle 164 = .ok (.getfield 90, 3) := by decide +kernel
theorem dX11_settle_167 : decode cX11_settle 167 = .ok (.iload_n 2, 1) := by decide +kernel
theorem dX11_settle_168 : decode cX11_settle 168 = .ok (.dup2, 1) := by decide +kernel
theorem dX11_settle_169 : decode cX11_settle 169 = .ok (.iaload, 1) := by decide +kernel
theorem dX11_settle_170 : decode cX11_settle 170 = .ok (.aload_n 0, 1) := by decide +kernel
theorem dX11_settle_171 : decode cX11_settle 171 = .ok (.getfield 87, 3) := by decide +kernel
theorem dX11_settle_174 : decode cX11_settle 174 = .ok (.iload_n 1, 1) := by decide +kernel
theorem dX11_settle_175 : decode cX11_settle 175 = .ok (.iaload, 1) := by decide +kernel
theorem dX11_settle_176 : decode cX11_settle 176 = .ok (.isub, 1) := by decide +kernel
theorem dX11_settle_177 : decode cX11_settle 177 = .ok (.iastore, 1) := by decide +kernel
theorem dX11_settle_178 : decode cX11_settle 178 = .ok (.iinc 1 1, 3) := by decide +kernel
theorem dX11_settle_181 : decode cX11_settle 181 = .ok (.goto (-80), 3) := by decide +kernel
theorem dX11_settle_184 : decode cX11_settle 184 = .ok (.return_, 1) := by decide +kernel
theorem dX11_pays_0 : decode cX11_pays 0 = .ok (.aload_n 0, 1) := by decide +kernel
theorem dX11_pays_1 : decode cX11_pays 1 = .ok (.iload_n 1, 1) := by decide +kernel
theorem dX11_pays_2 : decode cX11_pays 2 = .ok (.invokevirtual 126, 3) := by decide +kernel
theorem dX11_pays_5 : decode cX11_pays 5 = .ok (.ifCond .eq 12, 3) := by decide +kernel
theorem dX11_pays_8 : decode cX11_pays 8 = .ok (.iload_n 2, 1) := by decide +kernel
theorem dX11_pays_9 : decode cX11_pays 9 = .ok (.iconst 0, 1) := by decide +kernel
theorem dX11_pays_10 : decode cX11_pays 10 = .ok (.iconst 3, 1) := by decide +kernel
theorem dX11_pays_11 : decode cX11_pays 11 = .ok (.invokestatic 114, 3) := by decide +kernel
theorem dX11_pays_14 : decode cX11_pays 14 = .ok (.ifCond .ne 5, 3) := by decide +kernel
theorem dX11_pays_17 : decode cX11_pays 17 = .ok (.iconst (-1), 1) := by decide +kernel
theorem dX11_pays_18 : decode cX11_pays 18 = .ok (.ireturn, 1) := by decide +kernel
theorem dX11_pays_19 : decode cX11_pays 19 = .ok (.aload_n 0, 1) := by decide +kernel
theorem dX11_pays_20 : decode cX11_pays 20 = .ok (.invokevirtual 205, 3) := by decide +kernel
theorem dX11_pays_23 : decode cX11_pays 23 = .ok (.iload_n 2, 1) := by decide +kernel
theorem dX11_pays_24 : decode cX11_pays 24 = .ok (.ifCond .ne 12, 3) := by decide +kernel
theorem dX11_pays_27 : decode cX11_pays 27 = .ok (.aload_n 0, 1) := by decide +kernel
theorem dX11_pays_28 : decode cX11_pays 28 = .ok (.getfield 81, 3) := by decide +kernel
theorem dX11_pays_31 : decode cX11_pays 31 = .ok (.iload_n 1, 1) := by decide +kernel
theorem dX11_pays_32 : decode cX11_pays 32 = .ok (.iaload, 1) := by decide +kernel
theorem dX11_pays_33 : decode cX11_pays 33 = .ok (.goto 51, 3) := by decide +kernel
theorem dX11_pays_36 : decode cX11_pays 36 = .ok (.iload_n 2, 1) := by decide +kernel
theorem dX11_pays_37 : decode cX11_pays 37 = .ok (.iconst 1, 1) := by decide +kernel
theorem dX11_pays_38 : decode cX11_pays 38 = .ok (.if_icmp .ne 12, 3) := by decide +kernel
theorem dX11_pays_41 : decode cX11_pays 41 = .ok (.aload_n 0, 1) := by decide +kernel
theorem dX11_pays_42 : decode cX11_pays 42 = .ok (.getfield 84, 3) := by decide +kernel
theorem dX11_pays_45 : decode cX11_pays 45 = .ok (.iload_n 1, 1) := by decide +kernel
theorem dX11_pays_46 : decode cX11_pays 46 = .ok (.iaload, 1) := by decide +kernel
theorem dX11_pays_47 : decode cX11_pays 47 = .ok (.goto 37, 3) := by decide +kernel
theorem dX11_pays_50 : decode cX11_pays 50 = .ok (.iload_n 2, 1) := by decide +kernel
theorem dX11_pays_51 : decode cX11_pays 51 = .ok (.iconst 2, 1) := by decide +kernel
theorem dX11_pays_52 : decode cX11_pays 52 = .ok (.if_icmp .ne 12, 3) := by decide +kernel
theorem dX11_pays_55 : decode cX11_pays 55 = .ok (.aload_n 0, 1) := by decide +kernel
theorem dX11_pays_56 : decode cX11_pays 56 = .ok (.getfield 87, 3) := by decide +kernel
theorem dX11_pays_59 : decode cX11_pays 59 = .ok (.iload_n 1, 1) := by decide +kernel
theorem dX11_pays_60 : decode cX11_pays 60 = .ok (.iaload, 1) := by decide +kernel
theorem dX11_pays_61 : decode cX11_pays 61 = .ok (.goto 23, 3) := by decide +kernel
theorem dX11_pays_64 : decode cX11_pays 64 = .ok (.aload_n 0, 1) := by decide +kernel
theorem dX11_pays_65 : decode cX11_pays 65 = .ok (.getfield 81, 3) := by decide +kernel
theorem dX11_pays_68 : decode cX11_pays 68 = .ok (.iload_n 1, 1) := by decide +kernel
theorem dX11_pays_69 : decode cX11_pays 69 = .ok (.iaload, 1) := by decide +kernel
theorem dX11_pays_70 : decode cX11_pays 70 = .ok (.aload_n 0, 1) := by decide +kernel
theorem dX11_pays_71 : decode cX11_pays 71 = .ok (.getfield 84, 3) := by decide +kernel
theorem dX11_pays_74 : decode cX11_pays 74 = .ok (.iload_n 1, 1) := by decide +kernel
theorem dX11_pays_75 : decode cX11_pays 75 = .ok (.iaload, 1) := by decide +kernel
theorem dX11_pays_76 : decode cX11_pays 76 = .ok (.isub, 1) := by decide +kernel
theorem dX11_pays_77 : decode cX11_pays 77 = .ok (.aload_n 0, 1) := by decide +kernel
theorem dX11_pays_78 : decode cX11_pays 78 = .ok (.getfield 87, 3) := by decide +kernel
theorem dX11_pays_81 : decode cX11_pays 81 = .ok (.iload_n 1, 1) := by decide +kernel
theorem dX11_pays_82 : decode cX11_pays 82 = .ok (.iaload, 1) := by decide +kernel
theorem dX11_pays_83 : decode cX11_pays 83 = .ok (.isub, 1) := by decide +kernel
theorem dX11_pays_84 : decode cX11_pays 84 = .ok (.ireturn, 1) := by decide +kernel
theorem dX11_count_0 : decode cX11_count 0 = .ok (.iconst 0, 1) := by decide +kernel
theorem dX11_count_1 : decode cX11_count 1 = .ok (.istore_n 2, 1) := by decide +kernel
theorem dX11_count_2 : decode cX11_count 2 = .ok (.iload_n 1, 1) := by decide +kernel
theorem dX11_count_3 : decode cX11_count 3 = .ok (.tableswitch 178 0 6 #[41, 46, 79, 111, 116, 121, 145], 41) := by decide +kernel
theorem dX11_count_44 : decode cX11_count 44 = .ok (.aload_n 0, 1) := by decide +kernel
theorem dX11_count_45 : decode cX11_count 45 = .ok (.getfield 118, 3) := by decide +kernel
theorem dX11_count_48 : decode cX11_count 48 = .ok (.ireturn, 1) := by decide +kernel
theorem dX11_count_49 : decode cX11_count 49 = .ok (.iconst 0, 1) := by decide +kernel
theorem dX11_count_50 : decode cX11_count 50 = .ok (.istore_n 3, 1) := by decide +kernel
theorem dX11_count_51 : decode cX11_count 51 = .ok (.iload_n 3, 1) := by decide +kernel
theorem dX11_count_52 : decode cX11_count 52 = .ok (.bipush 24, 2) := by decide +kernel
theorem dX11_count_54 : decode cX11_count 54 = .ok (.if_icmp .ge 26, 3) := by decide +kernel
theorem dX11_count_57 : decode cX11_count 57 = .ok (.iload_n 2, 1) := by decide +kernel
theorem dX11_count_58 : decode cX11_count 58 = .ok (.aload_n 0, 1) := by decide +kernel
theorem dX11_count_59 : decode cX11_count 59 = .ok (.getfield 16, 3) := by decide +kernel
theorem dX11_count_62 : decode cX11_count 62 = .ok (.iload_n 3, 1) := by decide +kernel
theorem dX11_count_63 : decode cX11_count 63 = .ok (.baload, 1) := by decide +kernel
theorem dX11_count_64 : decode cX11_count 64 = .ok (.ifCond .eq 7, 3) := by decide +kernel
theorem dX11_count_67 : decode cX11_count 67 = .ok (.iconst 1, 1) := by decide +kernel
theorem dX11_count_68 : decode cX11_count 68 = .ok (.goto 4, 3) := by decide +kernel
theorem dX11_count_71 : decode cX11_count 71 = .ok (.iconst 0, 1) := by decide +kernel
theorem dX11_count_72 : decode cX11_count 72 = .ok (.iadd, 1) := by decide +kernel
theorem dX11_count_73 : decode cX11_count 73 = .ok (.istore_n 2, 1) := by decide +kernel
theorem dX11_count_74 : decode cX11_count 74 = .ok (.iinc 3 1, 3) := by decide +kernel
theorem dX11_count_77 : decode cX11_count 77 = .ok (.goto (-26), 3) := by decide +kernel
theorem dX11_count_80 : decode cX11_count 80 = .ok (.iload_n 2, 1) := by decide +kernel
theorem dX11_count_81 : decode cX11_count 81 = .ok (.ireturn, 1) := by decide +kernel
theorem dX11_count_82 : decode cX11_count 82 = .ok (.iconst 0, 1) := by decide +kernel
theorem dX11_count_83 : decode cX11_count 83 = .ok (.istore_n 3, 1) := by decide +kernel
theorem dX11_count_84 : decode cX11_count 84 = .ok (.iload_n 3, 1) := by decide +kernel
theorem dX11_count_85 : decode cX11_count 85 = .ok (.bipush 24, 2) := by decide +kernel
theorem dX11_count_87 : decode cX11_count 87 = .ok (.if_icmp .ge 25, 3) := by decide +kernel
theorem dX11_count_90 : decode cX11_count 90 = .ok (.iload_n 2, 1) := by decide +kernel
theorem dX11_count_91 : decode cX11_count 91 = .ok (.aload_n 0, 1) := by decide +kernel
theorem dX11_count_92 : decode cX11_count 92 = .ok (.iload_n 3, 1) := by decide +kernel
theorem dX11_count_93 : decode cX11_count 93 = .ok (.invokevirtual 136, 3) := by decide +kernel
theorem dX11_count_96 : decode cX11_count 96 = .ok (.ifCond .eq 7, 3) := by decide +kernel
theorem dX11_count_99 : decode cX11_count 99 = .ok (.iconst 1, 1) := by decide +kernel
theorem dX11_count_100 : decode cX11_count 100 = .ok (.goto 4, 3) := by decide +kernel
theorem dX11_count_103 : decode cX11_count 103 = .ok (.iconst 0, 1) := by decide +kernel
theorem dX11_count_104 : decode cX11_count 104 = .ok (.iadd, 1) := by decide +kernel
theorem dX11_count_105 : decode cX11_count 105 = .ok (.istore_n 2, 1) := by decide +kernel
theorem dX11_count_106 : decode cX11_count 106 = .ok (.iinc 3 1, 3) := by decide +kernel
theorem dX11_count_109 : decode cX11_count 109 = .ok (.goto (-25), 3) := by decide +kernel
theorem dX11_count_112 : decode cX11_count 112 = .ok (.iload_n 2, 1) := by decide +kernel
theorem dX11_count_113 : decode cX11_count 113 = .ok (.ireturn, 1) := by decide +kernel
theorem dX11_count_114 : decode cX11_count 114 = .ok (.aload_n 0, 1) := by decide +kernel
theorem dX11_count_115 : decode cX11_count 115 = .ok (.getfield 180, 3) := by decide +kernel
theorem dX11_count_118 : decode cX11_count 118 = .ok (.ireturn, 1) := by decide +kernel
theorem dX11_count_119 : decode cX11_count 119 = .ok (.aload_n 0, 1) := by decide +kernel
theorem dX11_count_120 : decode cX11_count 120 = .ok (.getfield 53, 3) := by decide +kernel
theorem dX11_count_123 : decode cX11_count 123 = .ok (.ireturn, 1) := by decide +kernel
theorem dX11_count_124 : decode cX11_count 124 = .ok (.iconst 0, 1) := by decide +kernel
theorem dX11_count_125 : decode cX11_count 125 = .ok (.istore_n 3, 1) := by decide +kernel
theorem dX11_count_126 : decode cX11_count 126 = .ok (.iload_n 3, 1) := by decide +kernel
theorem dX11_count_127 : decode cX11_count 127 = .ok (.bipush 24, 2) := by decide +kernel
theorem dX11_count_129 : decode cX11_count 129 = .ok (.if_icmp .ge 17, 3) := by decide +kernel
theorem dX11_count_132 : decode cX11_count 132 = .ok (.iload_n 2, 1) := by decide +kernel
theorem dX11_count_133 : decode cX11_count 133 = .ok (.aload_n 0, 1) := by decide +kernel
theorem dX11_count_134 : decode cX11_count 134 = .ok (.iload_n 3, 1) := by decide +kernel
theorem dX11_count_135 : decode cX11_count 135 = .ok (.invokevirtual 133, 3) := by decide +kernel
theorem dX11_count_138 : decode cX11_count 138 = .ok (.iadd, 1) := by decide +kernel
theorem dX11_count_139 : decode cX11_count 139 = .ok (.istore_n 2, 1) := by decide +kernel
theorem dX11_count_140 : decode cX11_count 140 = .ok (.iinc 3 1, 3) := by decide +kernel
theorem dX11_count_143 : decode cX11_count 143 = .ok (.goto (-17), 3) := by decide +kernel
theorem dX11_count_146 : decode cX11_count 146 = .ok (.iload_n 2, 1) := by decide +kernel
theorem dX11_count_147 : decode cX11_count 147 = .ok (.ireturn, 1) := by decide +kernel
theorem dX11_count_148 : decode cX11_count 148 = .ok (.iconst 0, 1) := by decide +kernel
theorem dX11_count_149 : decode cX11_count 149 = .ok (.istore_n 3, 1) := by decide +kernel
theorem dX11_count_150 : decode cX11_count 150 = .ok (.iload_n 3, 1) := by decide +kernel
theorem dX11_count_151 : decode cX11_count 151 = .ok (.bipush 30, 2) := by decide +kernel
theorem dX11_count_153 : decode cX11_count 153 = .ok (.if_icmp .gt 26, 3) := by decide +kernel
theorem dX11_count_156 : decode cX11_count 156 = .ok (.iload_n 2, 1) := by decide +kernel
theorem dX11_count_157 : decode cX11_count 157 = .ok (.aload_n 0, 1) := by decide +kernel
theorem dX11_count_158 : decode cX11_count 158 = .ok (.getfield 63, 3) := by decide +kernel
theorem dX11_count_161 : decode cX11_count 161 = .ok (.iload_n 3, 1) := by decide +kernel
theorem dX11_count_162 : decode cX11_count 162 = .ok (.baload, 1) := by decide +kernel
theorem dX11_count_163 : decode cX11_count 163 = .ok (.ifCond .eq 7, 3) := by decide +kernel
theorem dX11_count_166 : decode cX11_count 166 = .ok (.iconst 1, 1) := by decide +kernel
theorem dX11_count_167 : decode cX11_count 167 = .ok (.goto 4, 3) := by decide +kernel
theorem dX11_count_170 : decode cX11_count 170 = .ok (.iconst 0, 1) := by decide +kernel
theorem dX11_count_171 : decode cX11_count 171 = .ok (.iadd, 1) := by decide +kernel
theorem dX11_count_172 : decode cX11_count 172 = .ok (.istore_n 2, 1) := by decide +kernel
theorem dX11_count_173 : decode cX11_count 173 = .ok (.iinc 3 1, 3) := by decide +kernel
theorem dX11_count_176 : decode cX11_count 176 = .ok (.goto (-26), 3) := by decide +kernel
theorem dX11_count_179 : decode cX11_count 179 = .ok (.iload_n 2, 1) := by decide +kernel
theorem dX11_count_180 : decode cX11_count 180 = .ok (.ireturn, 1) := by decide +kernel
theorem dX11_count_181 : decode cX11_count 181 = .ok (.iconst (-1), 1) := by decide +kernel
theorem dX11_count_182 : decode cX11_count 182 = .ok (.ireturn, 1) := by decide +kernel
theorem dX11_isShelf_0 : decode cX11_isShelf 0 = .ok (.iload_n 0, 1) := by decide +kernel
theorem dX11_isShelf_1 : decode cX11_isShelf 1 = .ok (.iconst 0, 1) := by decide +kernel
theorem dX11_isShelf_2 : decode cX11_isShelf 2 = .ok (.bipush 7, 2) := by decide +kernel
theorem dX11_isShelf_4 : decode cX11_isShelf 4 = .ok (.invokestatic 114, 3) := by decide +kernel
theorem dX11_isShelf_7 : decode cX11_isShelf 7 = .ok (.ireturn, 1) := by decide +kernel
theorem dX11_keep_0 : decode cX11_keep 0 = .ok (.iload_n 1, 1) := by decide +kernel
theorem dX11_keep_1 : decode cX11_keep 1 = .ok (.invokestatic 208, 3) := by decide +kernel
theorem dX11_keep_4 : decode cX11_keep 4 = .ok (.ifCond .eq 42, 3) := by decide +kernel
theorem dX11_keep_7 : decode cX11_keep 7 = .ok (.iload_n 2, 1) := by decide +kernel
theorem dX11_keep_8 : decode cX11_keep 8 = .ok (.iconst 0, 1) := by decide +kernel
theorem dX11_keep_9 : decode cX11_keep 9 = .ok (.iconst 4, 1) := by decide +kernel
theorem dX11_keep_10 : decode cX11_keep 10 = .ok (.invokestatic 114, 3) := by decide +kernel
theorem dX11_keep_13 : decode cX11_keep 13 = .ok (.ifCond .eq 33, 3) := by decide +kernel
theorem dX11_keep_16 : decode cX11_keep 16 = .ok (.iload_n 2, 1) := by decide +kernel
theorem dX11_keep_17 : decode cX11_keep 17 = .ok (.iconst 2, 1) := by decide +kernel
theorem dX11_keep_18 : decode cX11_keep 18 = .ok (.if_icmp .eq 28, 3) := by decide +kernel
theorem dX11_keep_21 : decode cX11_keep 21 = .ok (.iload_n 2, 1) := by decide +kernel
theorem dX11_keep_22 : decode cX11_keep 22 = .ok (.iconst 1, 1) := by decide +kernel
theorem dX11_keep_23 : decode cX11_keep 23 = .ok (.if_icmp .ne 10, 3) := by decide +kernel
theorem dX11_keep_26 : decode cX11_keep 26 = .ok (.iload_n 3, 1) := by decide +kernel
theorem dX11_keep_27 : decode cX11_keep 27 = .ok (.invokestatic 121, 3) := by decide +kernel
theorem dX11_keep_30 : decode cX11_keep 30 = .ok (.ifCond .eq 16, 3) := by decide +kernel
theorem dX11_keep_33 : decode cX11_keep 33 = .ok (.iload_n 2, 1) := by decide +kernel
theorem dX11_keep_34 : decode cX11_keep 34 = .ok (.iconst 3, 1) := by decide +kernel
theorem dX11_keep_35 : decode cX11_keep 35 = .ok (.if_icmp .ne 13, 3) := by decide +kernel
theorem dX11_keep_38 : decode cX11_keep 38 = .ok (.aload_n 0, 1) := by decide +kernel
theorem dX11_keep_39 : decode cX11_keep 39 = .ok (.iload_n 3, 1) := by decide +kernel
theorem dX11_keep_40 : decode cX11_keep 40 = .ok (.invokevirtual 126, 3) := by decide +kernel
theorem dX11_keep_43 : decode cX11_keep 43 = .ok (.ifCond .ne 5, 3) := by decide +kernel
theorem dX11_keep_46 : decode cX11_keep 46 = .ok (.iconst (-1), 1) := by decide +kernel
theorem dX11_keep_47 : decode cX11_keep 47 = .ok (.ireturn, 1) := by decide +kernel
theorem dX11_keep_48 : decode cX11_keep 48 = .ok (.aload_n 0, 1) := by decide +kernel
theorem dX11_keep_49 : decode cX11_keep 49 = .ok (.getfield 93, 3) := by decide +kernel
theorem dX11_keep_52 : decode cX11_keep 52 = .ok (.iload_n 1, 1) := by decide +kernel
theorem dX11_keep_53 : decode cX11_keep 53 = .ok (.iload_n 2, 1) := by decide +kernel
theorem dX11_keep_54 : decode cX11_keep 54 = .ok (.iastore, 1) := by decide +kernel
theorem dX11_keep_55 : decode cX11_keep 55 = .ok (.iload_n 2, 1) := by decide +kernel
theorem dX11_keep_56 : decode cX11_keep 56 = .ok (.iconst 1, 1) := by decide +kernel
theorem dX11_keep_57 : decode cX11_keep 57 = .ok (.if_icmp .ne 34, 3) := by decide +kernel
theorem dX11_keep_60 : decode cX11_keep 60 = .ok (.aload_n 0, 1) := by decide +kernel
theorem dX11_keep_61 : decode cX11_keep 61 = .ok (.getfield 96, 3) := by decide +kernel
theorem dX11_keep_64 : decode cX11_keep 64 = .ok (.iload_n 1, 1) := by decide +kernel
theorem dX11_keep_65 : decode cX11_keep 65 = .ok (.iload_n 3, 1) := by decide +kernel
theorem dX11_keep_66 : decode cX11_keep 66 = .ok (.iastore, 1) := by decide +kernel
theorem dX11_keep_67 : decode cX11_keep 67 = .ok (.aload_n 0, 1) := by decide +kernel
theorem dX11_keep_68 : decode cX11_keep 68 = .ok (.getfield 99, 3) := by decide +kernel
theorem dX11_keep_71 : decode cX11_keep 71 = .ok (.iload_n 1, 1) := by decide +kernel
theorem dX11_keep_72 : decode cX11_keep 72 = .ok (.aload_n 0, 1) := by decide +kernel
theorem dX11_keep_73 : decode cX11_keep 73 = .ok (.getfield 7, 3) := by decide +kernel
theorem dX11_keep_76 : decode cX11_keep 76 = .ok (.iload_n 3, 1) := by decide +kernel
theorem dX11_keep_77 : decode cX11_keep 77 = .ok (.iaload, 1) := by decide +kernel
theorem dX11_keep_78 : decode cX11_keep 78 = .ok (.iastore, 1) := by decide +kernel
theorem dX11_keep_79 : decode cX11_keep 79 = .ok (.aload_n 0, 1) := by decide +kernel
theorem dX11_keep_80 : decode cX11_keep 80 = .ok (.getfield 102, 3) := by decide +kernel
theorem dX11_keep_83 : decode cX11_keep 83 = .ok (.iload_n 1, 1) := by decide +kernel
theorem dX11_keep_84 : decode cX11_keep 84 = .ok (.aload_n 0, 1) := by decide +kernel
theorem dX11_keep_85 : decode cX11_keep 85 = .ok (.getfield 13, 3) := by decide +kernel
theorem dX11_keep_88 : decode cX11_keep 88 = .ok (.iload_n 3, 1) := by decide +kernel
theorem dX11_keep_89 : decode cX11_keep 89 = .ok (.iaload, 1) := by decide +kernel
theorem dX11_keep_90 : decode cX11_keep 90 = .ok (.iastore, 1) := by decide +kernel
theorem dX11_keep_91 : decode cX11_keep 91 = .ok (.iload_n 2, 1) := by decide +kernel
theorem dX11_keep_92 : decode cX11_keep 92 = .ok (.iconst 3, 1) := by decide +kernel
theorem dX11_keep_93 : decode cX11_keep 93 = .ok (.if_icmp .ge 5, 3) := by decide +kernel
theorem dX11_keep_96 : decode cX11_keep 96 = .ok (.iconst 0, 1) := by decide +kernel
theorem dX11_keep_97 : decode cX11_keep 97 = .ok (.ireturn, 1) := by decide +kernel
theorem dX11_keep_98 : decode cX11_keep 98 = .ok (.aload_n 0, 1) := by decide +kernel
theorem dX11_keep_99 : decode cX11_keep 99 = .ok (.getfield 105, 3) := by decide +kernel
theorem dX11_keep_102 : decode cX11_keep 102 = .ok (.iload_n 1, 1) := by decide +kernel
theorem dX11_keep_103 : decode cX11_keep 103 = .ok (.bipush 24, 2) := by decide +kernel
theorem dX11_keep_105 : decode cX11_keep 105 = .ok (.iastore, 1) := by decide +kernel
theorem dX11_keep_106 : decode cX11_keep 106 = .ok (.iconst 0, 1) := by decide +kernel
theorem dX11_keep_107 : decode cX11_keep 107 = .ok (.istore 4, 2) := by decide +kernel
theorem dX11_keep_109 : decode cX11_keep 109 = .ok (.iload 4, 2) := by decide +kernel
theorem dX11_keep_111 : decode cX11_keep 111 = .ok (.bipush 24, 2) := by decide +kernel
theorem dX11_keep_113 : decode cX11_keep 113 = .ok (.if_icmp .ge 57, 3) := by decide +kernel
theorem dX11_keep_116 : decode cX11_keep 116 = .ok (.aload_n 0, 1) := by decide +kernel
theorem dX11_keep_117 : decode cX11_keep 117 = .ok (.getfield 108, 3) := by decide +kernel
theorem dX11_keep_120 : decode cX11_keep 120 = .ok (.bipush 60, 2) := by decide +kernel
theorem dX11_keep_122 : decode cX11_keep 122 = .ok (.iload_n 1, 1) := by decide +kernel
theorem dX11_keep_123 : decode cX11_keep 123 = .ok (.imul, 1) := by decide +kernel
theorem dX11_keep_124 : decode cX11_keep 124 = .ok (.iload 4, 2) := by decide +kernel
theorem dX11_keep_126 : decode cX11_keep 126 = .ok (.iadd, 1) := by decide +kernel
theorem dX11_keep_127 : decode cX11_keep 127 = .ok (.iload_n 2, 1) := by decide +kernel
theorem dX11_keep_128 : decode cX11_keep 128 = .ok (.iconst 3, 1) := by decide +kernel
theorem dX11_keep_129 : decode cX11_keep 129 = .ok (.if_icmp .ne 13, 3) := by decide +kernel
theorem dX11_keep_132 : decode cX11_keep 132 = .ok (.aload_n 0, 1) := by decide +kernel
theorem dX11_keep_133 : decode cX11_keep 133 = .ok (.iload 4, 2) := by decide +kernel
theorem dX11_keep_135 : decode cX11_keep 135 = .ok (.iload_n 3, 1) := by decide +kernel
theorem dX11_keep_136 : decode cX11_keep 136 = .ok (.invokevirtual 156, 3) := by decide +kernel
theorem dX11_keep_139 : decode cX11_keep 139 = .ok (.goto 24, 3) := by decide +kernel
theorem dX11_keep_142 : decode cX11_keep 142 = .ok (.aload_n 0, 1) := by decide +kernel
theorem dX11_keep_143 : decode cX11_keep 143 = .ok (.getfield 16, 3) := by decide +kernel
theorem dX11_keep_146 : decode cX11_keep 146 = .ok (.iload 4, 2) := by decide +kernel
theorem dX11_keep_148 : decode cX11_keep 148 = .ok (.baload, 1) := by decide +kernel
theorem dX11_keep_149 : decode cX11_keep 149 = .ok (.ifCond .eq 13, 3) := by decide +kernel
theorem dX11_keep_152 : decode cX11_keep 152 = .ok (.aload_n 0, 1) := by decide +kernel
theorem dX11_keep_153 : decode cX11_keep 153 = .ok (.getfield 20, 3) := by decide +kernel
theorem dX11_keep_156 : decode cX11_keep 156 = .ok (.iload 4, 2) := by decide +kernel
theorem dX11_keep_158 : decode cX11_keep 158 = .ok (.iaload, 1) := by decide +kernel
theorem dX11_keep_159 : decode cX11_keep 159 = .ok (.goto 4, 3) := by decide +kernel
theorem dX11_keep_162 : decode cX11_keep 162 = .ok (.iconst (-1), 1) := by decide +kernel
theorem dX11_keep_163 : decode cX11_keep 163 = .ok (.iastore, 1) := by decide +kernel
theorem dX11_keep_164 : decode cX11_keep 164 = .ok (.iinc 4 1, 3) := by decide +kernel
theorem dX11_keep_167 : decode cX11_keep 167 = .ok (.goto (-58), 3) := by decide +kernel
theorem dX11_keep_170 : decode cX11_keep 170 = .ok (.iconst 0, 1) := by decide +kernel
theorem dX11_keep_171 : decode cX11_keep 171 = .ok (.ireturn, 1) := by decide +kernel
theorem dX11_make_0 : decode cX11_make 0 = .ok (.iload_n 1, 1) := by decide +kernel
theorem dX11_make_1 : decode cX11_make 1 = .ok (.invokestatic 208, 3) := by decide +kernel
theorem dX11_make_4 : decode cX11_make 4 = .ok (.ifCond .eq 18, 3) := by decide +kernel
theorem dX11_make_7 : decode cX11_make 7 = .ok (.iload_n 2, 1) := by decide +kernel
theorem dX11_make_8 : decode cX11_make 8 = .ok (.iconst 3, 1) := by decide +kernel
theorem dX11_make_9 : decode cX11_make 9 = .ok (.iconst 4, 1) := by decide +kernel
theorem dX11_make_10 : decode cX11_make 10 = .ok (.invokestatic 114, 3) := by decide +kernel
theorem dX11_make_13 : decode cX11_make 13 = .ok (.ifCond .eq 9, 3) := by decide +kernel
theorem dX11_make_16 : decode cX11_make 16 = .ok (.iload_n 3, 1) := by decide +kernel
theorem dX11_make_17 : decode cX11_make 17 = .ok (.bipush 60, 2) := by decide +kernel
theorem dX11_make_19 : decode cX11_make 19 = .ok (.if_icmp .le 5, 3) := by decide +kernel
theorem dX11_make_22 : decode cX11_make 22 = .ok (.iconst (-1), 1) := by decide +kernel
theorem dX11_make_23 : decode cX11_make 23 = .ok (.ireturn, 1) := by decide +kernel
theorem dX11_make_24 : decode cX11_make 24 = .ok (.iload_n 3, 1) := by decide +kernel
theorem dX11_make_25 : decode cX11_make 25 = .ok (.ifCond .ge 6, 3) := by decide +kernel
theorem dX11_make_28 : decode cX11_make 28 = .ok (.bipush (-14), 2) := by decide +kernel
theorem dX11_make_30 : decode cX11_make 30 = .ok (.ireturn, 1) := by decide +kernel
theorem dX11_make_31 : decode cX11_make 31 = .ok (.aload_n 0, 1) := by decide +kernel
theorem dX11_make_32 : decode cX11_make 32 = .ok (.getfield 93, 3) := by decide +kernel
theorem dX11_make_35 : decode cX11_make 35 = .ok (.iload_n 1, 1) := by decide +kernel
theorem dX11_make_36 : decode cX11_make 36 = .ok (.iload_n 2, 1) := by decide +kernel
theorem dX11_make_37 : decode cX11_make 37 = .ok (.iastore, 1) := by decide +kernel
theorem dX11_make_38 : decode cX11_make 38 = .ok (.aload_n 0, 1) := by decide +kernel
theorem dX11_make_39 : decode cX11_make 39 = .ok (.getfield 105, 3) := by decide +kernel
theorem dX11_make_42 : decode cX11_make 42 = .ok (.iload_n 1, 1) := by decide +kernel
theorem dX11_make_43 : decode cX11_make 43 = .ok (.iload_n 3, 1) := by decide +kernel
theorem dX11_make_44 : decode cX11_make 44 = .ok (.iastore, 1) := by decide +kernel
theorem dX11_make_45 : decode cX11_make 45 = .ok (.iconst 0, 1) := by decide +kernel
theorem dX11_make_46 : decode cX11_make 46 = .ok (.istore 4, 2) := by decide +kernel
theorem dX11_make_48 : decode cX11_make 48 = .ok (.iload 4, 2) := by decide +kernel
theorem dX11_make_50 : decode cX11_make 50 = .ok (.iload_n 3, 1) := by decide +kernel
theorem dX11_make_51 : decode cX11_make 51 = .ok (.if_icmp .ge 22, 3) := by decide +kernel
theorem dX11_make_54 : decode cX11_make 54 = .ok (.aload_n 0, 1) := by decide +kernel
theorem dX11_make_55 : decode cX11_make 55 = .ok (.getfield 108, 3) := by decide +kernel
theorem dX11_make_58 : decode cX11_make 58 = .ok (.bipush 60, 2) := by decide +kernel
theorem dX11_make_60 : decode cX11_make 60 = .ok (.iload_n 1, 1) := by decide +kernel
theorem dX11_make_61 : decode cX11_make 61 = .ok (.imul, 1) := by decide +kernel
theorem dX11_make_62 : decode cX11_make 62 = .ok (.iload 4, 2) := by decide +kernel
theorem dX11_make_64 : decode cX11_make 64 = .ok (.iadd, 1) := by decide +kernel
theorem dX11_make_65 : decode cX11_make 65 = .ok (.iconst 0, 1) := by decide +kernel
theorem dX11_make_66 : decode cX11_make 66 = .ok (.iastore, 1) := by decide +kernel
theorem dX11_make_67 : decode cX11_make 67 = .ok (.iinc 4 1, 3) := by decide +kernel
theorem dX11_make_70 : decode cX11_make 70 = .ok (.goto (-22), 3) := by decide +kernel
theorem dX11_make_73 : decode cX11_make 73 = .ok (.iconst 0, 1) := by decide +kernel
theorem dX11_make_74 : decode cX11_make 74 = .ok (.ireturn, 1) := by decide +kernel
theorem dX11_element_0 : decode cX11_element 0 = .ok (.aload_n 0, 1) := by decide +kernel
theorem dX11_element_1 : decode cX11_element 1 = .ok (.iload_n 1, 1) := by decide +kernel
theorem dX11_element_2 : decode cX11_element 2 = .ok (.invokestatic 208, 3) := by decide +kernel
theorem dX11_element_5 : decode cX11_element 5 = .ok (.ifCond .ne 7, 3) := by decide +kernel
theorem dX11_element_8 : decode cX11_element 8 = .ok (.iconst 1, 1) := by decide +kernel
theorem dX11_element_9 : decode cX11_element 9 = .ok (.goto 34, 3) := by decide +kernel
theorem dX11_element_12 : decode cX11_element 12 = .ok (.aload_n 0, 1) := by decide +kernel
theorem dX11_element_13 : decode cX11_element 13 = .ok (.getfield 93, 3) := by decide +kernel
theorem dX11_element_16 : decode cX11_element 16 = .ok (.iload_n 1, 1) := by decide +kernel
theorem dX11_element_17 : decode cX11_element 17 = .ok (.iaload, 1) := by decide +kernel
theorem dX11_element_18 : decode cX11_element 18 = .ok (.iconst 3, 1) := by decide +kernel
theorem dX11_element_19 : decode cX11_element 19 = .ok (.if_icmp .lt 19, 3) := by decide +kernel
theorem dX11_element_22 : decode cX11_element 22 = .ok (.iload_n 2, 1) := by decide +kernel
theorem dX11_element_23 : decode cX11_element 23 = .ok (.iconst 0, 1) := by decide +kernel
theorem dX11_element_24 : decode cX11_element 24 = .ok (.aload_n 0, 1) := by decide +kernel
theorem dX11_element_25 : decode cX11_element 25 = .ok (.getfield 105, 3) := by decide +kernel
theorem dX11_element_28 : decode cX11_element 28 = .ok (.iload_n 1, 1) := by decide +kernel
theorem dX11_element_29 : decode cX11_element 29 = .ok (.iaload, 1) := by decide +kernel
theorem dX11_element_30 : decode cX11_element 30 = .ok (.iconst 1, 1) := by decide +kernel
theorem dX11_element_31 : decode cX11_element 31 = .ok (.isub, 1) := by decide +kernel
theorem dX11_element_32 : decode cX11_element 32 = .ok (.invokestatic 114, 3) := by decide +kernel
theorem dX11_element_35 : decode cX11_element 35 = .ok (.ifCond .ne 7, 3) := by decide +kernel
theorem dX11_element_38 : decode cX11_element 38 = .ok (.iconst 2, 1) := by decide +kernel
theorem dX11_element_39 : decode cX11_element 39 = .ok (.goto 4, 3) := by decide +kernel
theorem dX11_element_42 : decode cX11_element 42 = .ok (.iconst 0, 1) := by decide +kernel
theorem dX11_element_43 : decode cX11_element 43 = .ok (.putfield 111, 3) := by decide +kernel
theorem dX11_element_46 : decode cX11_element 46 = .ok (.aload_n 0, 1) := by decide +kernel
theorem dX11_element_47 : decode cX11_element 47 = .ok (.getfield 111, 3) := by decide +kernel
theorem dX11_element_50 : decode cX11_element 50 = .ok (.ifCond .le 7, 3) := by decide +kernel
theorem dX11_element_53 : decode cX11_element 53 = .ok (.lconst 0, 1) := by decide +kernel
theorem dX11_element_54 : decode cX11_element 54 = .ok (.goto 15, 3) := by decide +kernel
theorem dX11_element_57 : decode cX11_element 57 = .ok (.aload_n 0, 1) := by decide +kernel
theorem dX11_element_58 : decode cX11_element 58 = .ok (.getfield 108, 3) := by decide +kernel
theorem dX11_element_61 : decode cX11_element 61 = .ok (.bipush 60, 2) := by decide +kernel
theorem dX11_element_63 : decode cX11_element 63 = .ok (.iload_n 1, 1) := by decide +kernel
theorem dX11_element_64 : decode cX11_element 64 = .ok (.imul, 1) := by decide +kernel
theorem dX11_element_65 : decode cX11_element 65 = .ok (.iload_n 2, 1) := by decide +kernel
theorem dX11_element_66 : decode cX11_element 66 = .ok (.iadd, 1) := by decide +kernel
theorem dX11_element_67 : decode cX11_element 67 = .ok (.iaload, 1) := by decide +kernel
theorem dX11_element_68 : decode cX11_element 68 = .ok (.i2l, 1) := by decide +kernel
theorem dX11_element_69 : decode cX11_element 69 = .ok (.lreturn, 1) := by decide +kernel
theorem dX11_copy_0 : decode cX11_copy 0 = .ok (.iload_n 1, 1) := by decide +kernel
theorem dX11_copy_1 : decode cX11_copy 1 = .ok (.invokestatic 208, 3) := by decide +kernel
theorem dX11_copy_4 : decode cX11_copy 4 = .ok (.ifCond .eq 10, 3) := by decide +kernel
theorem dX11_copy_7 : decode cX11_copy 7 = .ok (.iload_n 3, 1) := by decide +kernel
theorem dX11_copy_8 : decode cX11_copy 8 = .ok (.invokestatic 208, 3) := by decide +kernel
theorem dX11_copy_11 : decode cX11_copy 11 = .ok (.ifCond .ne 5, 3) := by decide +kernel
theorem dX11_copy_14 : decode cX11_copy 14 = .ok (.iconst (-1), 1) := by decide +kernel
theorem dX11_copy_15 : decode cX11_copy 15 = .ok (.ireturn, 1) := by decide +kernel
theorem dX11_copy_16 : decode cX11_copy 16 = .ok (.aload_n 0, 1) := by decide +kernel
theorem dX11_copy_17 : decode cX11_copy 17 = .ok (.getfield 93, 3) := by decide +kernel
theorem dX11_copy_20 : decode cX11_copy 20 = .ok (.iload_n 1, 1) := by decide +kernel
theorem dX11_copy_21 : decode cX11_copy 21 = .ok (.iaload, 1) := by decide +kernel
theorem dX11_copy_22 : decode cX11_copy 22 = .ok (.ifCond .eq 12, 3) := by decide +kernel
theorem dX11_copy_25 : decode cX11_copy 25 = .ok (.aload_n 0, 1) := by decide +kernel
theorem dX11_copy_26 : decode cX11_copy 26 = .ok (.getfield 93, 3) := by decide +kernel
theorem dX11_copy_29 : decode cX11_copy 29 = .ok (.iload_n 3, 1) := by decide +kernel
theorem dX11_copy_30 : decode cX11_copy 30 = .ok (.iaload, 1) := by decide +kernel
theorem dX11_copy_31 : decode cX11_copy 31 = .ok (.ifCond .ne 6, 3) := by decide +kernel
theorem dX11_copy_34 : decode cX11_copy 34 = .ok (.bipush (-11), 2) := by decide +kernel
theorem dX11_copy_36 : decode cX11_copy 36 = .ok (.ireturn, 1) := by decide +kernel
theorem dX11_copy_37 : decode cX11_copy 37 = .ok (.aload_n 0, 1) := by decide +kernel
theorem dX11_copy_38 : decode cX11_copy 38 = .ok (.getfield 93, 3) := by decide +kernel
theorem dX11_copy_41 : decode cX11_copy 41 = .ok (.iload_n 1, 1) := by decide +kernel
theorem dX11_copy_42 : decode cX11_copy 42 = .ok (.iaload, 1) := by decide +kernel
theorem dX11_copy_43 : decode cX11_copy 43 = .ok (.iconst 3, 1) := by decide +kernel
theorem dX11_copy_44 : decode cX11_copy 44 = .ok (.if_icmp .lt 18, 3) := by decide +kernel
theorem dX11_copy_47 : decode cX11_copy 47 = .ok (.aload_n 0, 1) := by decide +kernel
theorem dX11_copy_48 : decode cX11_copy 48 = .ok (.getfield 93, 3) := by decide +kernel
theorem dX11_copy_51 : decode cX11_copy 51 = .ok (.iload_n 1, 1) := by decide +kernel
theorem dX11_copy_52 : decode cX11_copy 52 = .ok (.iaload, 1) := by decide +kernel
theorem dX11_copy_53 : decode cX11_copy 53 = .ok (.aload_n 0, 1) := by decide +kernel
theorem dX11_copy_54 : decode cX11_copy 54 = .ok (.getfield 93, 3) := by decide +kernel
theorem dX11_copy_57 : decode cX11_copy 57 = .ok (.iload_n 3, 1) := by decide +kernel
theorem dX11_copy_58 : decode cX11_copy 58 = .ok (.iaload, 1) := by decide +kernel
theorem dX11_copy_59 : decode cX11_copy 59 = .ok (.if_icmp .eq 6, 3) := by decide +kernel
theorem dX11_copy_62 : decode cX11_copy 62 = .ok (.bipush (-12), 2) := by decide +kernel
theorem dX11_copy_64 : decode cX11_copy 64 = .ok (.ireturn, 1) := by decide +kernel
theorem dX11_copy_65 : decode cX11_copy 65 = .ok (.iload 5, 2) := by decide +kernel
theorem dX11_copy_67 : decode cX11_copy 67 = .ok (.ifCond .lt 39, 3) := by decide +kernel
theorem dX11_copy_70 : decode cX11_copy 70 = .ok (.iload_n 2, 1) := by decide +kernel
theorem dX11_copy_71 : decode cX11_copy 71 = .ok (.ifCond .lt 35, 3) := by decide +kernel
theorem dX11_copy_74 : decode cX11_copy 74 = .ok (.iload 4, 2) := by decide +kernel
theorem dX11_copy_76 : decode cX11_copy 76 = .ok (.ifCond .lt 30, 3) := by decide +kernel
theorem dX11_copy_79 : decode cX11_copy 79 = .ok (.iload_n 2, 1) := by decide +kernel
theorem dX11_copy_80 : decode cX11_copy 80 = .ok (.aload_n 0, 1) := by decide +kernel
theorem dX11_copy_81 : decode cX11_copy 81 = .ok (.getfield 105, 3) := by decide +kernel
theorem dX11_copy_84 : decode cX11_copy 84 = .ok (.iload_n 1, 1) := by decide +kernel
theorem dX11_copy_85 : decode cX11_copy 85 = .ok (.iaload, 1) := by decide +kernel
theorem dX11_copy_86 : decode cX11_copy 86 = .ok (.iload 5, 2) := by decide +kernel
theorem dX11_copy_88 : decode cX11_copy 88 = .ok (.isub, 1) := by decide +kernel
theorem dX11_copy_89 : decode cX11_copy 89 = .ok (.if_icmp .gt 17, 3) := by decide +kernel
theorem dX11_copy_92 : decode cX11_copy 92 = .ok (.iload 4, 2) := by decide +kernel
theorem dX11_copy_94 : decode cX11_copy 94 = .ok (.aload_n 0, 1) := by decide +kernel
theorem dX11_copy_95 : decode cX11_copy 95 = .ok (.getfield 105, 3) := by decide +kernel
theorem dX11_copy_98 : decode cX11_copy 98 = .ok (.iload_n 3, 1) := by decide +kernel
theorem dX11_copy_99 : decode cX11_copy 99 = .ok (.iaload, 1) := by decide +kernel
theorem dX11_copy_100 : decode cX11_copy 100 = .ok (.iload 5, 2) := by decide +kernel
theorem dX11_copy_102 : decode cX11_copy 102 = .ok (.isub, 1) := by decide +kernel
theorem dX11_copy_103 : decode cX11_copy 103 = .ok (.if_icmp .le 6, 3) := by decide +kernel
theorem dX11_copy_106 : decode cX11_copy 106 = .ok (.bipush (-13), 2) := by decide +kernel
theorem dX11_copy_108 : decode cX11_copy 108 = .ok (.ireturn, 1) := by decide +kernel
theorem dX11_copy_109 : decode cX11_copy 109 = .ok (.iconst 0, 1) := by decide +kernel
theorem dX11_copy_110 : decode cX11_copy 110 = .ok (.istore 6, 2) := by decide +kernel
theorem dX11_copy_112 : decode cX11_copy 112 = .ok (.iload 6, 2) := by decide +kernel
theorem dX11_copy_114 : decode cX11_copy 114 = .ok (.iload 5, 2) := by decide +kernel
theorem dX11_copy_116 : decode cX11_copy 116 = .ok (.if_icmp .ge 49, 3) := by decide +kernel
theorem dX11_copy_119 : decode cX11_copy 119 = .ok (.iload_n 1, 1) := by decide +kernel
theorem dX11_copy_120 : decode cX11_copy 120 = .ok (.iload_n 3, 1) := by decide +kernel
theorem dX11_copy_121 : decode cX11_copy 121 = .ok (.if_icmp .ne 9, 3) := by decide +kernel
theorem dX11_copy_124 : decode cX11_copy 124 = .ok (.iload_n 2, 1) := by decide +kernel
theorem dX11_copy_125 : decode cX11_copy 125 = .ok (.iload 4, 2) := by decide +kernel
theorem dX11_copy_127 : decode cX11_copy 127 = .ok (.if_icmp .lt 38, 3) := by decide +kernel
theorem dX11_copy_130 : decode cX11_copy 130 = .ok (.aload_n 0, 1) := by decide +kernel
theorem dX11_copy_131 : decode cX11_copy 131 = .ok (.getfield 108, 3) := by decide +kernel
theorem dX11_copy_134 : decode cX11_copy 134 = .ok (.bipush 60, 2) := by decide +kernel
theorem dX11_copy_136 : decode cX11_copy 136 = .ok (.iload_n 3, 1) := by decide +kernel
theorem dX11_copy_137 : decode cX11_copy 137 = .ok (.imul, 1) := by decide +kernel
theorem dX11_copy_138 : decode cX11_copy 138 = .ok (.iload 4, 2) := by decide +kernel
theorem dX11_copy_140 : decode cX11_copy 140 = .ok (.iadd, 1) := by decide +kernel
theorem dX11_copy_141 : decode cX11_copy 141 = .ok (.iload 6, 2) := by decide +kernel
theorem dX11_copy_143 : decode cX11_copy 143 = .ok (.iadd, 1) := by decide +kernel
theorem dX11_copy_144 : decode cX11_copy 144 = .ok (.aload_n 0, 1) := by decide +kernel
theorem dX11_copy_145 : decode cX11_copy 145 = .ok (.getfield 108, 3) := by decide +kernel
theorem dX11_copy_148 : decode cX11_copy 148 = .ok (.bipush 60, 2) := by decide +kernel
theorem dX11_copy_150 : decode cX11_copy 150 = .ok (.iload_n 1, 1) := by decide +kernel
theorem dX11_copy_151 : decode cX11_copy 151 = .ok (.imul, 1) := by decide +kernel
theorem dX11_copy_152 : decode cX11_copy 152 = .ok (.iload_n 2, 1) := by decide +kernel
theorem dX11_copy_153 : decode cX11_copy 153 = .ok (.iadd, 1) := by decide +kernel
theorem dX11_copy_154 : decode cX11_copy 154 = .ok (.iload 6, 2) := by decide +kernel
theorem dX11_copy_156 : decode cX11_copy 156 = .ok (.iadd, 1) := by decide +kernel
theorem dX11_copy_157 : decode cX11_copy 157 = .ok (.iaload, 1) := by decide +kernel
theorem dX11_copy_158 : decode cX11_copy 158 = .ok (.iastore, 1) := by decide +kernel
theorem dX11_copy_159 : decode cX11_copy 159 = .ok (.iinc 6 1, 3) := by decide +kernel
theorem dX11_copy_162 : decode cX11_copy 162 = .ok (.goto (-50), 3) := by decide +kernel
theorem dX11_copy_165 : decode cX11_copy 165 = .ok (.iload 5, 2) := by decide +kernel
theorem dX11_copy_167 : decode cX11_copy 167 = .ok (.iconst 1, 1) := by decide +kernel
theorem dX11_copy_168 : decode cX11_copy 168 = .ok (.isub, 1) := by decide +kernel
theorem dX11_copy_169 : decode cX11_copy 169 = .ok (.istore 6, 2) := by decide +kernel
theorem dX11_copy_171 : decode cX11_copy 171 = .ok (.iload 6, 2) := by decide +kernel
theorem dX11_copy_173 : decode cX11_copy 173 = .ok (.ifCond .lt 49, 3) := by decide +kernel
theorem dX11_copy_176 : decode cX11_copy 176 = .ok (.iload_n 1, 1) := by decide +kernel
theorem dX11_copy_177 : decode cX11_copy 177 = .ok (.iload_n 3, 1) := by decide +kernel
theorem dX11_copy_178 : decode cX11_copy 178 = .ok (.if_icmp .ne 44, 3) := by decide +kernel
theorem dX11_copy_181 : decode cX11_copy 181 = .ok (.iload_n 2, 1) := by decide +kernel
theorem dX11_copy_182 : decode cX11_copy 182 = .ok (.iload 4, 2) := by decide +kernel
theorem dX11_copy_184 : decode cX11_copy 184 = .ok (.if_icmp .ge 38, 3) := by decide +kernel
theorem dX11_copy_187 : decode cX11_copy 187 = .ok (.aload_n 0, 1) := by decide +kernel
theorem dX11_copy_188 : decode cX11_copy 188 = .ok (.getfield 108, 3) := by decide +kernel
theorem dX11_copy_191 : decode cX11_copy 191 = .ok (.bipush 60, 2) := by decide +kernel
theorem dX11_copy_193 : decode cX11_copy 193 = .ok (.iload_n 3, 1) := by decide +kernel
end
section
theorem dX11_copy_194 : decode cX11_copy 194 = .ok (.imul, 1) := by decide +kernel
theorem dX11_copy_195 : decode cX11_copy 195 = .ok (.iload 4, 2) := by decide +kernel
theorem dX11_copy_197 : decode cX11_copy 197 = .ok (.iadd, 1) := by decide +kernel
theorem dX11_copy_198 : decode cX11_copy 198 = .ok (.iload 6, 2) := by decide +kernel
theorem dX11_copy_200 : decode cX11_copy 200 = .ok (.iadd, 1) := by decide +kernel
theorem dX11_copy_201 : decode cX11_copy 201 = .ok (.aload_n 0, 1) := by decide +kernel
theorem dX11_copy_202 : decode cX11_copy 202 = .ok (.getfield 108, 3) := by decide +kernel
theorem dX11_copy_205 : decode cX11_copy 205 = .ok (.bipush 60, 2) := by decide +kernel
theorem dX11_copy_207 : decode cX11_copy 207 = .ok (.iload_n 1, 1) := by decide +kernel
theorem dX11_copy_208 : decode cX11_copy 208 = .ok (.imul, 1) := by decide +kernel
theorem dX11_copy_209 : decode cX11_copy 209 = .ok (.iload_n 2, 1) := by decide +kernel
theorem dX11_copy_210 : decode cX11_copy 210 = .ok (.iadd, 1) := by decide +kernel
theorem dX11_copy_211 : decode cX11_copy 211 = .ok (.iload 6, 2) := by decide +kernel
theorem dX11_copy_213 : decode cX11_copy 213 = .ok (.iadd, 1) := by decide +kernel
theorem dX11_copy_214 : decode cX11_copy 214 = .ok (.iaload, 1) := by decide +kernel
theorem dX11_copy_215 : decode cX11_copy 215 = .ok (.iastore, 1) := by decide +kernel
theorem dX11_copy_216 : decode cX11_copy 216 = .ok (.iinc 6 (-1), 3) := by decide +kernel
theorem dX11_copy_219 : decode cX11_copy 219 = .ok (.goto (-48), 3) := by decide +kernel
theorem dX11_copy_222 : decode cX11_copy 222 = .ok (.iload 5, 2) := by decide +kernel
theorem dX11_copy_224 : decode cX11_copy 224 = .ok (.ireturn, 1) := by decide +kernel
theorem dX11_noPlot_0 : decode cX11_noPlot 0 = .ok (.iload_n 1, 1) := by decide +kernel
theorem dX11_noPlot_1 : decode cX11_noPlot 1 = .ok (.invokestatic 208, 3) := by decide +kernel
theorem dX11_noPlot_4 : decode cX11_noPlot 4 = .ok (.ifCond .ne 7, 3) := by decide +kernel
theorem dX11_noPlot_7 : decode cX11_noPlot 7 = .ok (.iconst (-1), 1) := by decide +kernel
theorem dX11_noPlot_8 : decode cX11_noPlot 8 = .ok (.goto 33, 3) := by decide +kernel
theorem dX11_noPlot_11 : decode cX11_noPlot 11 = .ok (.aload_n 0, 1) := by decide +kernel
theorem dX11_noPlot_12 : decode cX11_noPlot 12 = .ok (.getfield 93, 3) := by decide +kernel
theorem dX11_noPlot_15 : decode cX11_noPlot 15 = .ok (.iload_n 1, 1) := by decide +kernel
theorem dX11_noPlot_16 : decode cX11_noPlot 16 = .ok (.iaload, 1) := by decide +kernel
theorem dX11_noPlot_17 : decode cX11_noPlot 17 = .ok (.ifCond .ne 8, 3) := by decide +kernel
theorem dX11_noPlot_20 : decode cX11_noPlot 20 = .ok (.bipush (-11), 2) := by decide +kernel
theorem dX11_noPlot_22 : decode cX11_noPlot 22 = .ok (.goto 19, 3) := by decide +kernel
theorem dX11_noPlot_25 : decode cX11_noPlot 25 = .ok (.aload_n 0, 1) := by decide +kernel
theorem dX11_noPlot_26 : decode cX11_noPlot 26 = .ok (.getfield 93, 3) := by decide +kernel
theorem dX11_noPlot_29 : decode cX11_noPlot 29 = .ok (.iload_n 1, 1) := by decide +kernel
theorem dX11_noPlot_30 : decode cX11_noPlot 30 = .ok (.iaload, 1) := by decide +kernel
theorem dX11_noPlot_31 : decode cX11_noPlot 31 = .ok (.iconst 1, 1) := by decide +kernel
theorem dX11_noPlot_32 : decode cX11_noPlot 32 = .ok (.if_icmp .eq 8, 3) := by decide +kernel
theorem dX11_noPlot_35 : decode cX11_noPlot 35 = .ok (.bipush (-12), 2) := by decide +kernel
theorem dX11_noPlot_37 : decode cX11_noPlot 37 = .ok (.goto 4, 3) := by decide +kernel
theorem dX11_noPlot_40 : decode cX11_noPlot 40 = .ok (.iconst 0, 1) := by decide +kernel
theorem dX11_noPlot_41 : decode cX11_noPlot 41 = .ok (.ireturn, 1) := by decide +kernel
theorem dX11_weight_0 : decode cX11_weight 0 = .ok (.aload_n 0, 1) := by decide +kernel
theorem dX11_weight_1 : decode cX11_weight 1 = .ok (.iload_n 1, 1) := by decide +kernel
theorem dX11_weight_2 : decode cX11_weight 2 = .ok (.invokevirtual 211, 3) := by decide +kernel
theorem dX11_weight_5 : decode cX11_weight 5 = .ok (.istore_n 2, 1) := by decide +kernel
theorem dX11_weight_6 : decode cX11_weight 6 = .ok (.iload_n 2, 1) := by decide +kernel
theorem dX11_weight_7 : decode cX11_weight 7 = .ok (.ifCond .ge 5, 3) := by decide +kernel
theorem dX11_weight_10 : decode cX11_weight 10 = .ok (.iload_n 2, 1) := by decide +kernel
theorem dX11_weight_11 : decode cX11_weight 11 = .ok (.ireturn, 1) := by decide +kernel
theorem dX11_weight_12 : decode cX11_weight 12 = .ok (.bipush 10, 2) := by decide +kernel
theorem dX11_weight_14 : decode cX11_weight 14 = .ok (.aload_n 0, 1) := by decide +kernel
theorem dX11_weight_15 : decode cX11_weight 15 = .ok (.getfield 102, 3) := by decide +kernel
theorem dX11_weight_18 : decode cX11_weight 18 = .ok (.iload_n 1, 1) := by decide +kernel
theorem dX11_weight_19 : decode cX11_weight 19 = .ok (.iaload, 1) := by decide +kernel
theorem dX11_weight_20 : decode cX11_weight 20 = .ok (.iadd, 1) := by decide +kernel
theorem dX11_weight_21 : decode cX11_weight 21 = .ok (.istore_n 3, 1) := by decide +kernel
theorem dX11_weight_22 : decode cX11_weight 22 = .ok (.aload_n 0, 1) := by decide +kernel
theorem dX11_weight_23 : decode cX11_weight 23 = .ok (.getfield 99, 3) := by decide +kernel
theorem dX11_weight_26 : decode cX11_weight 26 = .ok (.iload_n 1, 1) := by decide +kernel
theorem dX11_weight_27 : decode cX11_weight 27 = .ok (.iaload, 1) := by decide +kernel
theorem dX11_weight_28 : decode cX11_weight 28 = .ok (.tableswitch 49 1 3 #[28, 35, 44], 28) := by decide +kernel
theorem dX11_weight_56 : decode cX11_weight 56 = .ok (.iload_n 3, 1) := by decide +kernel
theorem dX11_weight_57 : decode cX11_weight 57 = .ok (.iconst 1, 1) := by decide +kernel
theorem dX11_weight_58 : decode cX11_weight 58 = .ok (.invokestatic 129, 3) := by decide +kernel
theorem dX11_weight_61 : decode cX11_weight 61 = .ok (.iadd, 1) := by decide +kernel
theorem dX11_weight_62 : decode cX11_weight 62 = .ok (.ireturn, 1) := by decide +kernel
theorem dX11_weight_63 : decode cX11_weight 63 = .ok (.iconst 2, 1) := by decide +kernel
theorem dX11_weight_64 : decode cX11_weight 64 = .ok (.iload_n 3, 1) := by decide +kernel
theorem dX11_weight_65 : decode cX11_weight 65 = .ok (.iconst 2, 1) := by decide +kernel
theorem dX11_weight_66 : decode cX11_weight 66 = .ok (.invokestatic 129, 3) := by decide +kernel
theorem dX11_weight_69 : decode cX11_weight 69 = .ok (.iadd, 1) := by decide +kernel
theorem dX11_weight_70 : decode cX11_weight 70 = .ok (.imul, 1) := by decide +kernel
theorem dX11_weight_71 : decode cX11_weight 71 = .ok (.ireturn, 1) := by decide +kernel
theorem dX11_weight_72 : decode cX11_weight 72 = .ok (.iload_n 3, 1) := by decide +kernel
theorem dX11_weight_73 : decode cX11_weight 73 = .ok (.bipush 100, 2) := by decide +kernel
theorem dX11_weight_75 : decode cX11_weight 75 = .ok (.iadd, 1) := by decide +kernel
theorem dX11_weight_76 : decode cX11_weight 76 = .ok (.ireturn, 1) := by decide +kernel
theorem dX11_weight_77 : decode cX11_weight 77 = .ok (.iload_n 3, 1) := by decide +kernel
theorem dX11_weight_78 : decode cX11_weight 78 = .ok (.ireturn, 1) := by decide +kernel
theorem dX11_toss_0 : decode cX11_toss 0 = .ok (.aload_n 0, 1) := by decide +kernel
theorem dX11_toss_1 : decode cX11_toss 1 = .ok (.iload_n 1, 1) := by decide +kernel
theorem dX11_toss_2 : decode cX11_toss 2 = .ok (.invokevirtual 211, 3) := by decide +kernel
theorem dX11_toss_5 : decode cX11_toss 5 = .ok (.istore_n 2, 1) := by decide +kernel
theorem dX11_toss_6 : decode cX11_toss 6 = .ok (.iload_n 2, 1) := by decide +kernel
theorem dX11_toss_7 : decode cX11_toss 7 = .ok (.ifCond .ge 7, 3) := by decide +kernel
theorem dX11_toss_10 : decode cX11_toss 10 = .ok (.iload_n 2, 1) := by decide +kernel
theorem dX11_toss_11 : decode cX11_toss 11 = .ok (.goto 23, 3) := by decide +kernel
theorem dX11_toss_14 : decode cX11_toss 14 = .ok (.aload_n 0, 1) := by decide +kernel
theorem dX11_toss_15 : decode cX11_toss 15 = .ok (.getfield 99, 3) := by decide +kernel
theorem dX11_toss_18 : decode cX11_toss 18 = .ok (.iload_n 1, 1) := by decide +kernel
theorem dX11_toss_19 : decode cX11_toss 19 = .ok (.iaload, 1) := by decide +kernel
theorem dX11_toss_20 : decode cX11_toss 20 = .ok (.ifCond .ne 8, 3) := by decide +kernel
theorem dX11_toss_23 : decode cX11_toss 23 = .ok (.bipush (-15), 2) := by decide +kernel
theorem dX11_toss_25 : decode cX11_toss 25 = .ok (.goto 9, 3) := by decide +kernel
theorem dX11_toss_28 : decode cX11_toss 28 = .ok (.aload_n 0, 1) := by decide +kernel
theorem dX11_toss_29 : decode cX11_toss 29 = .ok (.getfield 96, 3) := by decide +kernel
theorem dX11_toss_32 : decode cX11_toss 32 = .ok (.iload_n 1, 1) := by decide +kernel
theorem dX11_toss_33 : decode cX11_toss 33 = .ok (.iaload, 1) := by decide +kernel
theorem dX11_toss_34 : decode cX11_toss 34 = .ok (.ireturn, 1) := by decide +kernel
theorem dJ9_abs_0f7a4_0 : decode cJ9_abs_0f7a4 0 = .ok (.iload_n 0, 1) := by decide +kernel
theorem dJ9_abs_0f7a4_1 : decode cJ9_abs_0f7a4 1 = .ok (.ifCond .ge 8, 3) := by decide +kernel
theorem dJ9_abs_0f7a4_4 : decode cJ9_abs_0f7a4 4 = .ok (.iload_n 0, 1) := by decide +kernel
theorem dJ9_abs_0f7a4_5 : decode cJ9_abs_0f7a4 5 = .ok (.ineg, 1) := by decide +kernel
theorem dJ9_abs_0f7a4_6 : decode cJ9_abs_0f7a4 6 = .ok (.goto 4, 3) := by decide +kernel
theorem dJ9_abs_0f7a4_9 : decode cJ9_abs_0f7a4 9 = .ok (.iload_n 0, 1) := by decide +kernel
theorem dJ9_abs_0f7a4_10 : decode cJ9_abs_0f7a4 10 = .ok (.ireturn, 1) := by decide +kernel
theorem dJ9_max_7cf53_0 : decode cJ9_max_7cf53 0 = .ok (.iload_n 0, 1) := by decide +kernel
theorem dJ9_max_7cf53_1 : decode cJ9_max_7cf53 1 = .ok (.iload_n 1, 1) := by decide +kernel
theorem dJ9_max_7cf53_2 : decode cJ9_max_7cf53 2 = .ok (.if_icmp .lt 7, 3) := by decide +kernel
theorem dJ9_max_7cf53_5 : decode cJ9_max_7cf53 5 = .ok (.iload_n 0, 1) := by decide +kernel
theorem dJ9_max_7cf53_6 : decode cJ9_max_7cf53 6 = .ok (.goto 4, 3) := by decide +kernel
theorem dJ9_max_7cf53_9 : decode cJ9_max_7cf53 9 = .ok (.iload_n 1, 1) := by decide +kernel
theorem dJ9_max_7cf53_10 : decode cJ9_max_7cf53 10 = .ok (.ireturn, 1) := by decide +kernel
theorem dJ9_min_7cf53_0 : decode cJ9_min_7cf53 0 = .ok (.iload_n 0, 1) := by decide +kernel
theorem dJ9_min_7cf53_1 : decode cJ9_min_7cf53 1 = .ok (.iload_n 1, 1) := by decide +kernel
theorem dJ9_min_7cf53_2 : decode cJ9_min_7cf53 2 = .ok (.if_icmp .gt 7, 3) := by decide +kernel
theorem dJ9_min_7cf53_5 : decode cJ9_min_7cf53 5 = .ok (.iload_n 0, 1) := by decide +kernel
theorem dJ9_min_7cf53_6 : decode cJ9_min_7cf53 6 = .ok (.goto 4, 3) := by decide +kernel
theorem dJ9_min_7cf53_9 : decode cJ9_min_7cf53 9 = .ok (.iload_n 1, 1) := by decide +kernel
theorem dJ9_min_7cf53_10 : decode cJ9_min_7cf53 10 = .ok (.ireturn, 1) := by decide +kernel
theorem dJ7_fill_53178_0 : decode cJ7_fill_53178 0 = .ok (.iconst 0, 1) := by decide +kernel
theorem dJ7_fill_53178_1 : decode cJ7_fill_53178 1 = .ok (.istore_n 2, 1) := by decide +kernel
theorem dJ7_fill_53178_2 : decode cJ7_fill_53178 2 = .ok (.aload_n 0, 1) := by decide +kernel
theorem dJ7_fill_53178_3 : decode cJ7_fill_53178 3 = .ok (.arraylength, 1) := by decide +kernel
theorem dJ7_fill_53178_4 : decode cJ7_fill_53178 4 = .ok (.istore_n 3, 1) := by decide +kernel
theorem dJ7_fill_53178_5 : decode cJ7_fill_53178 5 = .ok (.iload_n 2, 1) := by decide +kernel
theorem dJ7_fill_53178_6 : decode cJ7_fill_53178 6 = .ok (.iload_n 3, 1) := by decide +kernel
theorem dJ7_fill_53178_7 : decode cJ7_fill_53178 7 = .ok (.if_icmp .ge 13, 3) := by decide +kernel
theorem dJ7_fill_53178_10 : decode cJ7_fill_53178 10 = .ok (.aload_n 0, 1) := by decide +kernel
theorem dJ7_fill_53178_11 : decode cJ7_fill_53178 11 = .ok (.iload_n 2, 1) := by decide +kernel
theorem dJ7_fill_53178_12 : decode cJ7_fill_53178 12 = .ok (.iload_n 1, 1) := by decide +kernel
theorem dJ7_fill_53178_13 : decode cJ7_fill_53178 13 = .ok (.iastore, 1) := by decide +kernel
theorem dJ7_fill_53178_14 : decode cJ7_fill_53178 14 = .ok (.iinc 2 1, 3) := by decide +kernel
theorem dJ7_fill_53178_17 : decode cJ7_fill_53178 17 = .ok (.goto (-12), 3) := by decide +kernel
theorem dJ7_fill_53178_20 : decode cJ7_fill_53178 20 = .ok (.return_, 1) := by decide +kernel
theorem dJ7_fill_031fb_0 : decode cJ7_fill_031fb 0 = .ok (.iconst 0, 1) := by decide +kernel
theorem dJ7_fill_031fb_1 : decode cJ7_fill_031fb 1 = .ok (.istore_n 2, 1) := by decide +kernel
theorem dJ7_fill_031fb_2 : decode cJ7_fill_031fb 2 = .ok (.aload_n 0, 1) := by decide +kernel
theorem dJ7_fill_031fb_3 : decode cJ7_fill_031fb 3 = .ok (.arraylength, 1) := by decide +kernel
theorem dJ7_fill_031fb_4 : decode cJ7_fill_031fb 4 = .ok (.istore_n 3, 1) := by decide +kernel
theorem dJ7_fill_031fb_5 : decode cJ7_fill_031fb 5 = .ok (.iload_n 2, 1) := by decide +kernel
theorem dJ7_fill_031fb_6 : decode cJ7_fill_031fb 6 = .ok (.iload_n 3, 1) := by decide +kernel
theorem dJ7_fill_031fb_7 : decode cJ7_fill_031fb 7 = .ok (.if_icmp .ge 13, 3) := by decide +kernel
theorem dJ7_fill_031fb_10 : decode cJ7_fill_031fb 10 = .ok (.aload_n 0, 1) := by decide +kernel
theorem dJ7_fill_031fb_11 : decode cJ7_fill_031fb 11 = .ok (.iload_n 2, 1) := by decide +kernel
theorem dJ7_fill_031fb_12 : decode cJ7_fill_031fb 12 = .ok (.iload_n 1, 1) := by decide +kernel
theorem dJ7_fill_031fb_13 : decode cJ7_fill_031fb 13 = .ok (.bastore, 1) := by decide +kernel
theorem dJ7_fill_031fb_14 : decode cJ7_fill_031fb 14 = .ok (.iinc 2 1, 3) := by decide +kernel
theorem dJ7_fill_031fb_17 : decode cJ7_fill_031fb 17 = .ok (.goto (-12), 3) := by decide +kernel
theorem dJ7_fill_031fb_20 : decode cJ7_fill_031fb 20 = .ok (.return_, 1) := by decide +kernel
theorem dL_element_0 : decode cL_element 0 = .ok (.aload_n 3, 1) := by decide +kernel
theorem dL_element_1 : decode cL_element 1 = .ok (.iconst 0, 1) := by decide +kernel
theorem dL_element_2 : decode cL_element 2 = .ok (.aload_n 0, 1) := by decide +kernel
theorem dL_element_3 : decode cL_element 3 = .ok (.iload_n 1, 1) := by decide +kernel
theorem dL_element_4 : decode cL_element 4 = .ok (.iload_n 2, 1) := by decide +kernel
theorem dL_element_5 : decode cL_element 5 = .ok (.invokevirtual 7, 3) := by decide +kernel
theorem dL_element_8 : decode cL_element 8 = .ok (.lastore, 1) := by decide +kernel
theorem dL_element_9 : decode cL_element 9 = .ok (.goto 11, 3) := by decide +kernel
theorem dL_element_12 : decode cL_element 12 = .ok (.astore 4, 2) := by decide +kernel
theorem dL_element_14 : decode cL_element 14 = .ok (.iconst 1, 1) := by decide +kernel
theorem dL_element_15 : decode cL_element 15 = .ok (.ireturn, 1) := by decide +kernel
theorem dL_element_16 : decode cL_element 16 = .ok (.astore 4, 2) := by decide +kernel
theorem dL_element_18 : decode cL_element 18 = .ok (.iconst 2, 1) := by decide +kernel
theorem dL_element_19 : decode cL_element 19 = .ok (.ireturn, 1) := by decide +kernel
theorem dL_element_20 : decode cL_element 20 = .ok (.iconst 0, 1) := by decide +kernel
theorem dL_element_21 : decode cL_element 21 = .ok (.ireturn, 1) := by decide +kernel
theorem dL_law_0 : decode cL_law 0 = .ok (.new 8, 3) := by decide +kernel
theorem dL_law_3 : decode cL_law 3 = .ok (.dup, 1) := by decide +kernel
theorem dL_law_4 : decode cL_law 4 = .ok (.invokespecial 17, 3) := by decide +kernel
theorem dL_law_7 : decode cL_law 7 = .ok (.astore_n 1, 1) := by decide +kernel
theorem dL_law_8 : decode cL_law 8 = .ok (.new 18, 3) := by decide +kernel
theorem dL_law_11 : decode cL_law 11 = .ok (.dup, 1) := by decide +kernel
theorem dL_law_12 : decode cL_law 12 = .ok (.invokespecial 20, 3) := by decide +kernel
theorem dL_law_15 : decode cL_law 15 = .ok (.astore_n 2, 1) := by decide +kernel
theorem dL_law_16 : decode cL_law 16 = .ok (.iconst 1, 1) := by decide +kernel
theorem dL_law_17 : decode cL_law 17 = .ok (.newarray .long, 2) := by decide +kernel
theorem dL_law_19 : decode cL_law 19 = .ok (.astore_n 3, 1) := by decide +kernel
theorem dL_law_20 : decode cL_law 20 = .ok (.iconst 0, 1) := by decide +kernel
theorem dL_law_21 : decode cL_law 21 = .ok (.istore 4, 2) := by decide +kernel
theorem dL_law_23 : decode cL_law 23 = .ok (.iload 4, 2) := by decide +kernel
theorem dL_law_25 : decode cL_law 25 = .ok (.aload_n 0, 1) := by decide +kernel
theorem dL_law_26 : decode cL_law 26 = .ok (.arraylength, 1) := by decide +kernel
theorem dL_law_27 : decode cL_law 27 = .ok (.bipush 6, 2) := by decide +kernel
theorem dL_law_29 : decode cL_law 29 = .ok (.isub, 1) := by decide +kernel
theorem dL_law_30 : decode cL_law 30 = .ok (.if_icmp .gt 1269, 3) := by decide +kernel
theorem dL_law_33 : decode cL_law 33 = .ok (.aload_n 0, 1) := by decide +kernel
theorem dL_law_34 : decode cL_law 34 = .ok (.iload 4, 2) := by decide +kernel
theorem dL_law_36 : decode cL_law 36 = .ok (.iaload, 1) := by decide +kernel
theorem dL_law_37 : decode cL_law 37 = .ok (.bipush 31, 2) := by decide +kernel
theorem dL_law_39 : decode cL_law 39 = .ok (.iand, 1) := by decide +kernel
theorem dL_law_40 : decode cL_law 40 = .ok (.tableswitch 1253 0 30 #[140, 189, 238, 275, 328, 365, 390, 427, 464, 501, 550, 599, 624, 649, 662, 687, 740, 765, 790, 803, 828, 853, 878, 903, 940, 965, 1014, 1063, 1130, 1203, 1228], 140) := by decide +kernel
theorem dL_law_180 : decode cL_law 180 = .ok (.aload_n 1, 1) := by decide +kernel
theorem dL_law_181 : decode cL_law 181 = .ok (.aload_n 0, 1) := by decide +kernel
theorem dL_law_182 : decode cL_law 182 = .ok (.iload 4, 2) := by decide +kernel
theorem dL_law_184 : decode cL_law 184 = .ok (.iconst 1, 1) := by decide +kernel
theorem dL_law_185 : decode cL_law 185 = .ok (.iadd, 1) := by decide +kernel
theorem dL_law_186 : decode cL_law 186 = .ok (.iaload, 1) := by decide +kernel
theorem dL_law_187 : decode cL_law 187 = .ok (.aload_n 0, 1) := by decide +kernel
theorem dL_law_188 : decode cL_law 188 = .ok (.iload 4, 2) := by decide +kernel
theorem dL_law_190 : decode cL_law 190 = .ok (.iconst 2, 1) := by decide +kernel
theorem dL_law_191 : decode cL_law 191 = .ok (.iadd, 1) := by decide +kernel
theorem dL_law_192 : decode cL_law 192 = .ok (.iaload, 1) := by decide +kernel
theorem dL_law_193 : decode cL_law 193 = .ok (.aload_n 0, 1) := by decide +kernel
theorem dL_law_194 : decode cL_law 194 = .ok (.iload 4, 2) := by decide +kernel
theorem dL_law_196 : decode cL_law 196 = .ok (.iconst 3, 1) := by decide +kernel
theorem dL_law_197 : decode cL_law 197 = .ok (.iadd, 1) := by decide +kernel
theorem dL_law_198 : decode cL_law 198 = .ok (.iaload, 1) := by decide +kernel
theorem dL_law_199 : decode cL_law 199 = .ok (.invokevirtual 21, 3) := by decide +kernel
theorem dL_law_202 : decode cL_law 202 = .ok (.aload_n 2, 1) := by decide +kernel
theorem dL_law_203 : decode cL_law 203 = .ok (.aload_n 0, 1) := by decide +kernel
theorem dL_law_204 : decode cL_law 204 = .ok (.iload 4, 2) := by decide +kernel
theorem dL_law_206 : decode cL_law 206 = .ok (.iconst 1, 1) := by decide +kernel
theorem dL_law_207 : decode cL_law 207 = .ok (.iadd, 1) := by decide +kernel
theorem dL_law_208 : decode cL_law 208 = .ok (.iaload, 1) := by decide +kernel
theorem dL_law_209 : decode cL_law 209 = .ok (.aload_n 0, 1) := by decide +kernel
theorem dL_law_210 : decode cL_law 210 = .ok (.iload 4, 2) := by decide +kernel
theorem dL_law_212 : decode cL_law 212 = .ok (.iconst 2, 1) := by decide +kernel
theorem dL_law_213 : decode cL_law 213 = .ok (.iadd, 1) := by decide +kernel
theorem dL_law_214 : decode cL_law 214 = .ok (.iaload, 1) := by decide +kernel
theorem dL_law_215 : decode cL_law 215 = .ok (.aload_n 0, 1) := by decide +kernel
theorem dL_law_216 : decode cL_law 216 = .ok (.iload 4, 2) := by decide +kernel
theorem dL_law_218 : decode cL_law 218 = .ok (.iconst 3, 1) := by decide +kernel
theorem dL_law_219 : decode cL_law 219 = .ok (.iadd, 1) := by decide +kernel
theorem dL_law_220 : decode cL_law 220 = .ok (.iaload, 1) := by decide +kernel
theorem dL_law_221 : decode cL_law 221 = .ok (.invokevirtual 25, 3) := by decide +kernel
theorem dL_law_224 : decode cL_law 224 = .ok (.if_icmp .eq 1069, 3) := by decide +kernel
theorem dL_law_227 : decode cL_law 227 = .ok (.iconst 0, 1) := by decide +kernel
theorem dL_law_228 : decode cL_law 228 = .ok (.ireturn, 1) := by decide +kernel
theorem dL_law_229 : decode cL_law 229 = .ok (.aload_n 1, 1) := by decide +kernel
theorem dL_law_230 : decode cL_law 230 = .ok (.aload_n 0, 1) := by decide +kernel
theorem dL_law_231 : decode cL_law 231 = .ok (.iload 4, 2) := by decide +kernel
theorem dL_law_233 : decode cL_law 233 = .ok (.iconst 1, 1) := by decide +kernel
theorem dL_law_234 : decode cL_law 234 = .ok (.iadd, 1) := by decide +kernel
theorem dL_law_235 : decode cL_law 235 = .ok (.iaload, 1) := by decide +kernel
theorem dL_law_236 : decode cL_law 236 = .ok (.aload_n 0, 1) := by decide +kernel
theorem dL_law_237 : decode cL_law 237 = .ok (.iload 4, 2) := by decide +kernel
theorem dL_law_239 : decode cL_law 239 = .ok (.iconst 2, 1) := by decide +kernel
theorem dL_law_240 : decode cL_law 240 = .ok (.iadd, 1) := by decide +kernel
theorem dL_law_241 : decode cL_law 241 = .ok (.iaload, 1) := by decide +kernel
theorem dL_law_242 : decode cL_law 242 = .ok (.aload_n 0, 1) := by decide +kernel
theorem dL_law_243 : decode cL_law 243 = .ok (.iload 4, 2) := by decide +kernel
theorem dL_law_245 : decode cL_law 245 = .ok (.iconst 3, 1) := by decide +kernel
theorem dL_law_246 : decode cL_law 246 = .ok (.iadd, 1) := by decide +kernel
theorem dL_law_247 : decode cL_law 247 = .ok (.iaload, 1) := by decide +kernel
theorem dL_law_248 : decode cL_law 248 = .ok (.invokevirtual 26, 3) := by decide +kernel
theorem dL_law_251 : decode cL_law 251 = .ok (.aload_n 2, 1) := by decide +kernel
theorem dL_law_252 : decode cL_law 252 = .ok (.aload_n 0, 1) := by decide +kernel
theorem dL_law_253 : decode cL_law 253 = .ok (.iload 4, 2) := by decide +kernel
theorem dL_law_255 : decode cL_law 255 = .ok (.iconst 1, 1) := by decide +kernel
theorem dL_law_256 : decode cL_law 256 = .ok (.iadd, 1) := by decide +kernel
theorem dL_law_257 : decode cL_law 257 = .ok (.iaload, 1) := by decide +kernel
theorem dL_law_258 : decode cL_law 258 = .ok (.aload_n 0, 1) := by decide +kernel
theorem dL_law_259 : decode cL_law 259 = .ok (.iload 4, 2) := by decide +kernel
theorem dL_law_261 : decode cL_law 261 = .ok (.iconst 2, 1) := by decide +kernel
theorem dL_law_262 : decode cL_law 262 = .ok (.iadd, 1) := by decide +kernel
theorem dL_law_263 : decode cL_law 263 = .ok (.iaload, 1) := by decide +kernel
theorem dL_law_264 : decode cL_law 264 = .ok (.aload_n 0, 1) := by decide +kernel
theorem dL_law_265 : decode cL_law 265 = .ok (.iload 4, 2) := by decide +kernel
theorem dL_law_267 : decode cL_law 267 = .ok (.iconst 3, 1) := by decide +kernel
theorem dL_law_268 : decode cL_law 268 = .ok (.iadd, 1) := by decide +kernel
theorem dL_law_269 : decode cL_law 269 = .ok (.iaload, 1) := by decide +kernel
theorem dL_law_270 : decode cL_law 270 = .ok (.invokevirtual 29, 3) := by decide +kernel
theorem dL_law_273 : decode cL_law 273 = .ok (.if_icmp .eq 1020, 3) := by decide +kernel
theorem dL_law_276 : decode cL_law 276 = .ok (.iconst 0, 1) := by decide +kernel
theorem dL_law_277 : decode cL_law 277 = .ok (.ireturn, 1) := by decide +kernel
theorem dL_law_278 : decode cL_law 278 = .ok (.aload_n 1, 1) := by decide +kernel
theorem dL_law_279 : decode cL_law 279 = .ok (.aload_n 0, 1) := by decide +kernel
theorem dL_law_280 : decode cL_law 280 = .ok (.iload 4, 2) := by decide +kernel
theorem dL_law_282 : decode cL_law 282 = .ok (.iconst 1, 1) := by decide +kernel
theorem dL_law_283 : decode cL_law 283 = .ok (.iadd, 1) := by decide +kernel
theorem dL_law_284 : decode cL_law 284 = .ok (.iaload, 1) := by decide +kernel
theorem dL_law_285 : decode cL_law 285 = .ok (.aload_n 0, 1) := by decide +kernel
theorem dL_law_286 : decode cL_law 286 = .ok (.iload 4, 2) := by decide +kernel
theorem dL_law_288 : decode cL_law 288 = .ok (.iconst 2, 1) := by decide +kernel
theorem dL_law_289 : decode cL_law 289 = .ok (.iadd, 1) := by decide +kernel
theorem dL_law_290 : decode cL_law 290 = .ok (.iaload, 1) := by decide +kernel
theorem dL_law_291 : decode cL_law 291 = .ok (.invokevirtual 30, 3) := by decide +kernel
theorem dL_law_294 : decode cL_law 294 = .ok (.aload_n 2, 1) := by decide +kernel
theorem dL_law_295 : decode cL_law 295 = .ok (.aload_n 0, 1) := by decide +kernel
theorem dL_law_296 : decode cL_law 296 = .ok (.iload 4, 2) := by decide +kernel
theorem dL_law_298 : decode cL_law 298 = .ok (.iconst 1, 1) := by decide +kernel
theorem dL_law_299 : decode cL_law 299 = .ok (.iadd, 1) := by decide +kernel
theorem dL_law_300 : decode cL_law 300 = .ok (.iaload, 1) := by decide +kernel
theorem dL_law_301 : decode cL_law 301 = .ok (.aload_n 0, 1) := by decide +kernel
theorem dL_law_302 : decode cL_law 302 = .ok (.iload 4, 2) := by decide +kernel
theorem dL_law_304 : decode cL_law 304 = .ok (.iconst 2, 1) := by decide +kernel
theorem dL_law_305 : decode cL_law 305 = .ok (.iadd, 1) := by decide +kernel
theorem dL_law_306 : decode cL_law 306 = .ok (.iaload, 1) := by decide +kernel
theorem dL_law_307 : decode cL_law 307 = .ok (.invokevirtual 34, 3) := by decide +kernel
theorem dL_law_310 : decode cL_law 310 = .ok (.if_icmp .eq 983, 3) := by decide +kernel
theorem dL_law_313 : decode cL_law 313 = .ok (.iconst 0, 1) := by decide +kernel
theorem dL_law_314 : decode cL_law 314 = .ok (.ireturn, 1) := by decide +kernel
theorem dL_law_315 : decode cL_law 315 = .ok (.aload_n 1, 1) := by decide +kernel
theorem dL_law_316 : decode cL_law 316 = .ok (.aload_n 0, 1) := by decide +kernel
theorem dL_law_317 : decode cL_law 317 = .ok (.iload 4, 2) := by decide +kernel
theorem dL_law_319 : decode cL_law 319 = .ok (.iconst 1, 1) := by decide +kernel
theorem dL_law_320 : decode cL_law 320 = .ok (.iadd, 1) := by decide +kernel
theorem dL_law_321 : decode cL_law 321 = .ok (.iaload, 1) := by decide +kernel
theorem dL_law_322 : decode cL_law 322 = .ok (.aload_n 0, 1) := by decide +kernel
theorem dL_law_323 : decode cL_law 323 = .ok (.iload 4, 2) := by decide +kernel
theorem dL_law_325 : decode cL_law 325 = .ok (.iconst 2, 1) := by decide +kernel
theorem dL_law_326 : decode cL_law 326 = .ok (.iadd, 1) := by decide +kernel
theorem dL_law_327 : decode cL_law 327 = .ok (.iaload, 1) := by decide +kernel
theorem dL_law_328 : decode cL_law 328 = .ok (.ifCond .eq 7, 3) := by decide +kernel
theorem dL_law_331 : decode cL_law 331 = .ok (.iconst 1, 1) := by decide +kernel
theorem dL_law_332 : decode cL_law 332 = .ok (.goto 4, 3) := by decide +kernel
theorem dL_law_335 : decode cL_law 335 = .ok (.iconst 0, 1) := by decide +kernel
theorem dL_law_336 : decode cL_law 336 = .ok (.invokevirtual 35, 3) := by decide +kernel
theorem dL_law_339 : decode cL_law 339 = .ok (.aload_n 2, 1) := by decide +kernel
theorem dL_law_340 : decode cL_law 340 = .ok (.aload_n 0, 1) := by decide +kernel
theorem dL_law_341 : decode cL_law 341 = .ok (.iload 4, 2) := by decide +kernel
theorem dL_law_343 : decode cL_law 343 = .ok (.iconst 1, 1) := by decide +kernel
theorem dL_law_344 : decode cL_law 344 = .ok (.iadd, 1) := by decide +kernel
theorem dL_law_345 : decode cL_law 345 = .ok (.iaload, 1) := by decide +kernel
theorem dL_law_346 : decode cL_law 346 = .ok (.aload_n 0, 1) := by decide +kernel
theorem dL_law_347 : decode cL_law 347 = .ok (.iload 4, 2) := by decide +kernel
theorem dL_law_349 : decode cL_law 349 = .ok (.iconst 2, 1) := by decide +kernel
theorem dL_law_350 : decode cL_law 350 = .ok (.iadd, 1) := by decide +kernel
theorem dL_law_351 : decode cL_law 351 = .ok (.iaload, 1) := by decide +kernel
theorem dL_law_352 : decode cL_law 352 = .ok (.ifCond .eq 7, 3) := by decide +kernel
theorem dL_law_355 : decode cL_law 355 = .ok (.iconst 1, 1) := by decide +kernel
theorem dL_law_356 : decode cL_law 356 = .ok (.goto 4, 3) := by decide +kernel
theorem dL_law_359 : decode cL_law 359 = .ok (.iconst 0, 1) := by decide +kernel
theorem dL_law_360 : decode cL_law 360 = .ok (.invokevirtual 39, 3) := by decide +kernel
theorem dL_law_363 : decode cL_law 363 = .ok (.if_icmp .eq 930, 3) := by decide +kernel
theorem dL_law_366 : decode cL_law 366 = .ok (.iconst 0, 1) := by decide +kernel
theorem dL_law_367 : decode cL_law 367 = .ok (.ireturn, 1) := by decide +kernel
theorem dL_law_368 : decode cL_law 368 = .ok (.aload_n 1, 1) := by decide +kernel
theorem dL_law_369 : decode cL_law 369 = .ok (.aload_n 0, 1) := by decide +kernel
theorem dL_law_370 : decode cL_law 370 = .ok (.iload 4, 2) := by decide +kernel
theorem dL_law_372 : decode cL_law 372 = .ok (.iconst 1, 1) := by decide +kernel
theorem dL_law_373 : decode cL_law 373 = .ok (.iadd, 1) := by decide +kernel
theorem dL_law_374 : decode cL_law 374 = .ok (.iaload, 1) := by decide +kernel
theorem dL_law_375 : decode cL_law 375 = .ok (.aload_n 0, 1) := by decide +kernel
theorem dL_law_376 : decode cL_law 376 = .ok (.iload 4, 2) := by decide +kernel
theorem dL_law_378 : decode cL_law 378 = .ok (.iconst 2, 1) := by decide +kernel
theorem dL_law_379 : decode cL_law 379 = .ok (.iadd, 1) := by decide +kernel
theorem dL_law_380 : decode cL_law 380 = .ok (.iaload, 1) := by decide +kernel
theorem dL_law_381 : decode cL_law 381 = .ok (.invokevirtual 40, 3) := by decide +kernel
theorem dL_law_384 : decode cL_law 384 = .ok (.aload_n 2, 1) := by decide +kernel
theorem dL_law_385 : decode cL_law 385 = .ok (.aload_n 0, 1) := by decide +kernel
theorem dL_law_386 : decode cL_law 386 = .ok (.iload 4, 2) := by decide +kernel
theorem dL_law_388 : decode cL_law 388 = .ok (.iconst 1, 1) := by decide +kernel
theorem dL_law_389 : decode cL_law 389 = .ok (.iadd, 1) := by decide +kernel
theorem dL_law_390 : decode cL_law 390 = .ok (.iaload, 1) := by decide +kernel
theorem dL_law_391 : decode cL_law 391 = .ok (.aload_n 0, 1) := by decide +kernel
theorem dL_law_392 : decode cL_law 392 = .ok (.iload 4, 2) := by decide +kernel
theorem dL_law_394 : decode cL_law 394 = .ok (.iconst 2, 1) := by decide +kernel
theorem dL_law_395 : decode cL_law 395 = .ok (.iadd, 1) := by decide +kernel
theorem dL_law_396 : decode cL_law 396 = .ok (.iaload, 1) := by decide +kernel
theorem dL_law_397 : decode cL_law 397 = .ok (.invokevirtual 43, 3) := by decide +kernel
theorem dL_law_400 : decode cL_law 400 = .ok (.if_icmp .eq 893, 3) := by decide +kernel
theorem dL_law_403 : decode cL_law 403 = .ok (.iconst 0, 1) := by decide +kernel
theorem dL_law_404 : decode cL_law 404 = .ok (.ireturn, 1) := by decide +kernel
theorem dL_law_405 : decode cL_law 405 = .ok (.aload_n 1, 1) := by decide +kernel
theorem dL_law_406 : decode cL_law 406 = .ok (.aload_n 0, 1) := by decide +kernel
theorem dL_law_407 : decode cL_law 407 = .ok (.iload 4, 2) := by decide +kernel
theorem dL_law_409 : decode cL_law 409 = .ok (.iconst 1, 1) := by decide +kernel
theorem dL_law_410 : decode cL_law 410 = .ok (.iadd, 1) := by decide +kernel
theorem dL_law_411 : decode cL_law 411 = .ok (.iaload, 1) := by decide +kernel
theorem dL_law_412 : decode cL_law 412 = .ok (.invokevirtual 44, 3) := by decide +kernel
theorem dL_law_415 : decode cL_law 415 = .ok (.aload_n 2, 1) := by decide +kernel
theorem dL_law_416 : decode cL_law 416 = .ok (.aload_n 0, 1) := by decide +kernel
theorem dL_law_417 : decode cL_law 417 = .ok (.iload 4, 2) := by decide +kernel
theorem dL_law_419 : decode cL_law 419 = .ok (.iconst 1, 1) := by decide +kernel
theorem dL_law_420 : decode cL_law 420 = .ok (.iadd, 1) := by decide +kernel
theorem dL_law_421 : decode cL_law 421 = .ok (.iaload, 1) := by decide +kernel
theorem dL_law_422 : decode cL_law 422 = .ok (.invokevirtual 48, 3) := by decide +kernel
theorem dL_law_425 : decode cL_law 425 = .ok (.if_icmp .eq 868, 3) := by decide +kernel
theorem dL_law_428 : decode cL_law 428 = .ok (.iconst 0, 1) := by decide +kernel
theorem dL_law_429 : decode cL_law 429 = .ok (.ireturn, 1) := by decide +kernel
theorem dL_law_430 : decode cL_law 430 = .ok (.aload_n 1, 1) := by decide +kernel
theorem dL_law_431 : decode cL_law 431 = .ok (.aload_n 0, 1) := by decide +kernel
theorem dL_law_432 : decode cL_law 432 = .ok (.iload 4, 2) := by decide +kernel
theorem dL_law_434 : decode cL_law 434 = .ok (.iconst 1, 1) := by decide +kernel
theorem dL_law_435 : decode cL_law 435 = .ok (.iadd, 1) := by decide +kernel
theorem dL_law_436 : decode cL_law 436 = .ok (.iaload, 1) := by decide +kernel
theorem dL_law_437 : decode cL_law 437 = .ok (.aload_n 0, 1) := by decide +kernel
theorem dL_law_438 : decode cL_law 438 = .ok (.iload 4, 2) := by decide +kernel
theorem dL_law_440 : decode cL_law 440 = .ok (.iconst 2, 1) := by decide +kernel
theorem dL_law_441 : decode cL_law 441 = .ok (.iadd, 1) := by decide +kernel
theorem dL_law_442 : decode cL_law 442 = .ok (.iaload, 1) := by decide +kernel
theorem dL_law_443 : decode cL_law 443 = .ok (.invokevirtual 49, 3) := by decide +kernel
theorem dL_law_446 : decode cL_law 446 = .ok (.aload_n 2, 1) := by decide +kernel
theorem dL_law_447 : decode cL_law 447 = .ok (.aload_n 0, 1) := by decide +kernel
theorem dL_law_448 : decode cL_law 448 = .ok (.iload 4, 2) := by decide +kernel
theorem dL_law_450 : decode cL_law 450 = .ok (.iconst 1, 1) := by decide +kernel
theorem dL_law_451 : decode cL_law 451 = .ok (.iadd, 1) := by decide +kernel
theorem dL_law_452 : decode cL_law 452 = .ok (.iaload, 1) := by decide +kernel
theorem dL_law_453 : decode cL_law 453 = .ok (.aload_n 0, 1) := by decide +kernel
theorem dL_law_454 : decode cL_law 454 = .ok (.iload 4, 2) := by decide +kernel
theorem dL_law_456 : decode cL_law 456 = .ok (.iconst 2, 1) := by decide +kernel
theorem dL_law_457 : decode cL_law 457 = .ok (.iadd, 1) := by decide +kernel
theorem dL_law_458 : decode cL_law 458 = .ok (.iaload, 1) := by decide +kernel
theorem dL_law_459 : decode cL_law 459 = .ok (.invokevirtual 52, 3) := by decide +kernel
theorem dL_law_462 : decode cL_law 462 = .ok (.if_icmp .eq 831, 3) := by decide +kernel
theorem dL_law_465 : decode cL_law 465 = .ok (.iconst 0, 1) := by decide +kernel
theorem dL_law_466 : decode cL_law 466 = .ok (.ireturn, 1) := by decide +kernel
theorem dL_law_467 : decode cL_law 467 = .ok (.aload_n 1, 1) := by decide +kernel
theorem dL_law_468 : decode cL_law 468 = .ok (.aload_n 0, 1) := by decide +kernel
theorem dL_law_469 : decode cL_law 469 = .ok (.iload 4, 2) := by decide +kernel
theorem dL_law_471 : decode cL_law 471 = .ok (.iconst 1, 1) := by decide +kernel
theorem dL_law_472 : decode cL_law 472 = .ok (.iadd, 1) := by decide +kernel
theorem dL_law_473 : decode cL_law 473 = .ok (.iaload, 1) := by decide +kernel
theorem dL_law_474 : decode cL_law 474 = .ok (.aload_n 0, 1) := by decide +kernel
theorem dL_law_475 : decode cL_law 475 = .ok (.iload 4, 2) := by decide +kernel
theorem dL_law_477 : decode cL_law 477 = .ok (.iconst 2, 1) := by decide +kernel
theorem dL_law_478 : decode cL_law 478 = .ok (.iadd, 1) := by decide +kernel
theorem dL_law_479 : decode cL_law 479 = .ok (.iaload, 1) := by decide +kernel
theorem dL_law_480 : decode cL_law 480 = .ok (.invokevirtual 53, 3) := by decide +kernel
theorem dL_law_483 : decode cL_law 483 = .ok (.aload_n 2, 1) := by decide +kernel
theorem dL_law_484 : decode cL_law 484 = .ok (.aload_n 0, 1) := by decide +kernel
theorem dL_law_485 : decode cL_law 485 = .ok (.iload 4, 2) := by decide +kernel
theorem dL_law_487 : decode cL_law 487 = .ok (.iconst 1, 1) := by decide +kernel
theorem dL_law_488 : decode cL_law 488 = .ok (.iadd, 1) := by decide +kernel
theorem dL_law_489 : decode cL_law 489 = .ok (.iaload, 1) := by decide +kernel
theorem dL_law_490 : decode cL_law 490 = .ok (.aload_n 0, 1) := by decide +kernel
theorem dL_law_491 : decode cL_law 491 = .ok (.iload 4, 2) := by decide +kernel
theorem dL_law_493 : decode cL_law 493 = .ok (.iconst 2, 1) := by decide +kernel
theorem dL_law_494 : decode cL_law 494 = .ok (.iadd, 1) := by decide +kernel
theorem dL_law_495 : decode cL_law 495 = .ok (.iaload, 1) := by decide +kernel
theorem dL_law_496 : decode cL_law 496 = .ok (.invokevirtual 56, 3) := by decide +kernel
theorem dL_law_499 : decode cL_law 499 = .ok (.if_icmp .eq 794, 3) := by decide +kernel
theorem dL_law_502 : decode cL_law 502 = .ok (.iconst 0, 1) := by decide +kernel
theorem dL_law_503 : decode cL_law 503 = .ok (.ireturn, 1) := by decide +kernel
theorem dL_law_504 : decode cL_law 504 = .ok (.aload_n 1, 1) := by decide +kernel
theorem dL_law_505 : decode cL_law 505 = .ok (.aload_n 0, 1) := by decide +kernel
theorem dL_law_506 : decode cL_law 506 = .ok (.iload 4, 2) := by decide +kernel
theorem dL_law_508 : decode cL_law 508 = .ok (.iconst 1, 1) := by decide +kernel
theorem dL_law_509 : decode cL_law 509 = .ok (.iadd, 1) := by decide +kernel
theorem dL_law_510 : decode cL_law 510 = .ok (.iaload, 1) := by decide +kernel
theorem dL_law_511 : decode cL_law 511 = .ok (.aload_n 0, 1) := by decide +kernel
theorem dL_law_512 : decode cL_law 512 = .ok (.iload 4, 2) := by decide +kernel
theorem dL_law_514 : decode cL_law 514 = .ok (.iconst 2, 1) := by decide +kernel
theorem dL_law_515 : decode cL_law 515 = .ok (.iadd, 1) := by decide +kernel
theorem dL_law_516 : decode cL_law 516 = .ok (.iaload, 1) := by decide +kernel
theorem dL_law_517 : decode cL_law 517 = .ok (.invokevirtual 57, 3) := by decide +kernel
theorem dL_law_520 : decode cL_law 520 = .ok (.aload_n 2, 1) := by decide +kernel
theorem dL_law_521 : decode cL_law 521 = .ok (.aload_n 0, 1) := by decide +kernel
theorem dL_law_522 : decode cL_law 522 = .ok (.iload 4, 2) := by decide +kernel
theorem dL_law_524 : decode cL_law 524 = .ok (.iconst 1, 1) := by decide +kernel
theorem dL_law_525 : decode cL_law 525 = .ok (.iadd, 1) := by decide +kernel
theorem dL_law_526 : decode cL_law 526 = .ok (.iaload, 1) := by decide +kernel
theorem dL_law_527 : decode cL_law 527 = .ok (.aload_n 0, 1) := by decide +kernel
theorem dL_law_528 : decode cL_law 528 = .ok (.iload 4, 2) := by decide +kernel
theorem dL_law_530 : decode cL_law 530 = .ok (.iconst 2, 1) := by decide +kernel
theorem dL_law_531 : decode cL_law 531 = .ok (.iadd, 1) := by decide +kernel
theorem dL_law_532 : decode cL_law 532 = .ok (.iaload, 1) := by decide +kernel
theorem dL_law_533 : decode cL_law 533 = .ok (.invokevirtual 60, 3) := by decide +kernel
theorem dL_law_536 : decode cL_law 536 = .ok (.if_icmp .eq 757, 3) := by decide +kernel
theorem dL_law_539 : decode cL_law 539 = .ok (.iconst 0, 1) := by decide +kernel
theorem dL_law_540 : decode cL_law 540 = .ok (.ireturn, 1) := by decide +kernel
theorem dL_law_541 : decode cL_law 541 = .ok (.aload_n 1, 1) := by decide +kernel
theorem dL_law_542 : decode cL_law 542 = .ok (.aload_n 0, 1) := by decide +kernel
theorem dL_law_543 : decode cL_law 543 = .ok (.iload 4, 2) := by decide +kernel
theorem dL_law_545 : decode cL_law 545 = .ok (.iconst 1, 1) := by decide +kernel
theorem dL_law_546 : decode cL_law 546 = .ok (.iadd, 1) := by decide +kernel
theorem dL_law_547 : decode cL_law 547 = .ok (.iaload, 1) := by decide +kernel
theorem dL_law_548 : decode cL_law 548 = .ok (.aload_n 0, 1) := by decide +kernel
theorem dL_law_549 : decode cL_law 549 = .ok (.iload 4, 2) := by decide +kernel
theorem dL_law_551 : decode cL_law 551 = .ok (.iconst 2, 1) := by decide +kernel
theorem dL_law_552 : decode cL_law 552 = .ok (.iadd, 1) := by decide +kernel
theorem dL_law_553 : decode cL_law 553 = .ok (.iaload, 1) := by decide +kernel
theorem dL_law_554 : decode cL_law 554 = .ok (.aload_n 0, 1) := by decide +kernel
theorem dL_law_555 : decode cL_law 555 = .ok (.iload 4, 2) := by decide +kernel
theorem dL_law_557 : decode cL_law 557 = .ok (.iconst 3, 1) := by decide +kernel
theorem dL_law_558 : decode cL_law 558 = .ok (.iadd, 1) := by decide +kernel
theorem dL_law_559 : decode cL_law 559 = .ok (.iaload, 1) := by decide +kernel
theorem dL_law_560 : decode cL_law 560 = .ok (.invokevirtual 61, 3) := by decide +kernel
theorem dL_law_563 : decode cL_law 563 = .ok (.aload_n 2, 1) := by decide +kernel
theorem dL_law_564 : decode cL_law 564 = .ok (.aload_n 0, 1) := by decide +kernel
theorem dL_law_565 : decode cL_law 565 = .ok (.iload 4, 2) := by decide +kernel
theorem dL_law_567 : decode cL_law 567 = .ok (.iconst 1, 1) := by decide +kernel
theorem dL_law_568 : decode cL_law 568 = .ok (.iadd, 1) := by decide +kernel
theorem dL_law_569 : decode cL_law 569 = .ok (.iaload, 1) := by decide +kernel
theorem dL_law_570 : decode cL_law 570 = .ok (.aload_n 0, 1) := by decide +kernel
theorem dL_law_571 : decode cL_law 571 = .ok (.iload 4, 2) := by decide +kernel
theorem dL_law_573 : decode cL_law 573 = .ok (.iconst 2, 1) := by decide +kernel
theorem dL_law_574 : decode cL_law 574 = .ok (.iadd, 1) := by decide +kernel
theorem dL_law_575 : decode cL_law 575 = .ok (.iaload, 1) := by decide +kernel
theorem dL_law_576 : decode cL_law 576 = .ok (.aload_n 0, 1) := by decide +kernel
theorem dL_law_577 : decode cL_law 577 = .ok (.iload 4, 2) := by decide +kernel
theorem dL_law_579 : decode cL_law 579 = .ok (.iconst 3, 1) := by decide +kernel
theorem dL_law_580 : decode cL_law 580 = .ok (.iadd, 1) := by decide +kernel
theorem dL_law_581 : decode cL_law 581 = .ok (.iaload, 1) := by decide +kernel
theorem dL_law_582 : decode cL_law 582 = .ok (.invokevirtual 64, 3) := by decide +kernel
theorem dL_law_585 : decode cL_law 585 = .ok (.if_icmp .eq 708, 3) := by decide +kernel
theorem dL_law_588 : decode cL_law 588 = .ok (.iconst 0, 1) := by decide +kernel
theorem dL_law_589 : decode cL_law 589 = .ok (.ireturn, 1) := by decide +kernel
theorem dL_law_590 : decode cL_law 590 = .ok (.aload_n 1, 1) := by decide +kernel
theorem dL_law_591 : decode cL_law 591 = .ok (.aload_n 0, 1) := by decide +kernel
theorem dL_law_592 : decode cL_law 592 = .ok (.iload 4, 2) := by decide +kernel
theorem dL_law_594 : decode cL_law 594 = .ok (.iconst 1, 1) := by decide +kernel
theorem dL_law_595 : decode cL_law 595 = .ok (.iadd, 1) := by decide +kernel
theorem dL_law_596 : decode cL_law 596 = .ok (.iaload, 1) := by decide +kernel
theorem dL_law_597 : decode cL_law 597 = .ok (.aload_n 0, 1) := by decide +kernel
theorem dL_law_598 : decode cL_law 598 = .ok (.iload 4, 2) := by decide +kernel
theorem dL_law_600 : decode cL_law 600 = .ok (.iconst 2, 1) := by decide +kernel
theorem dL_law_601 : decode cL_law 601 = .ok (.iadd, 1) := by decide +kernel
theorem dL_law_602 : decode cL_law 602 = .ok (.iaload, 1) := by decide +kernel
theorem dL_law_603 : decode cL_law 603 = .ok (.aload_n 0, 1) := by decide +kernel
theorem dL_law_604 : decode cL_law 604 = .ok (.iload 4, 2) := by decide +kernel
theorem dL_law_606 : decode cL_law 606 = .ok (.iconst 3, 1) := by decide +kernel
theorem dL_law_607 : decode cL_law 607 = .ok (.iadd, 1) := by decide +kernel
theorem dL_law_608 : decode cL_law 608 = .ok (.iaload, 1) := by decide +kernel
theorem dL_law_609 : decode cL_law 609 = .ok (.invokevirtual 65, 3) := by decide +kernel
theorem dL_law_612 : decode cL_law 612 = .ok (.aload_n 2, 1) := by decide +kernel
theorem dL_law_613 : decode cL_law 613 = .ok (.aload_n 0, 1) := by decide +kernel
theorem dL_law_614 : decode cL_law 614 = .ok (.iload 4, 2) := by decide +kernel
theorem dL_law_616 : decode cL_law 616 = .ok (.iconst 1, 1) := by decide +kernel
theorem dL_law_617 : decode cL_law 617 = .ok (.iadd, 1) := by decide +kernel
theorem dL_law_618 : decode cL_law 618 = .ok (.iaload, 1) := by decide +kernel
theorem dL_law_619 : decode cL_law 619 = .ok (.aload_n 0, 1) := by decide +kernel
theorem dL_law_620 : decode cL_law 620 = .ok (.iload 4, 2) := by decide +kernel
theorem dL_law_622 : decode cL_law 622 = .ok (.iconst 2, 1) := by decide +kernel
theorem dL_law_623 : decode cL_law 623 = .ok (.iadd, 1) := by decide +kernel
theorem dL_law_624 : decode cL_law 624 = .ok (.iaload, 1) := by decide +kernel
theorem dL_law_625 : decode cL_law 625 = .ok (.aload_n 0, 1) := by decide +kernel
theorem dL_law_626 : decode cL_law 626 = .ok (.iload 4, 2) := by decide +kernel
theorem dL_law_628 : decode cL_law 628 = .ok (.iconst 3, 1) := by decide +kernel
theorem dL_law_629 : decode cL_law 629 = .ok (.iadd, 1) := by decide +kernel
theorem dL_law_630 : decode cL_law 630 = .ok (.iaload, 1) := by decide +kernel
theorem dL_law_631 : decode cL_law 631 = .ok (.invokevirtual 68, 3) := by decide +kernel
theorem dL_law_634 : decode cL_law 634 = .ok (.if_icmp .eq 659, 3) := by decide +kernel
theorem dL_law_637 : decode cL_law 637 = .ok (.iconst 0, 1) := by decide +kernel
theorem dL_law_638 : decode cL_law 638 = .ok (.ireturn, 1) := by decide +kernel
theorem dL_law_639 : decode cL_law 639 = .ok (.aload_n 1, 1) := by decide +kernel
theorem dL_law_640 : decode cL_law 640 = .ok (.aload_n 0, 1) := by decide +kernel
theorem dL_law_641 : decode cL_law 641 = .ok (.iload 4, 2) := by decide +kernel
theorem dL_law_643 : decode cL_law 643 = .ok (.iconst 1, 1) := by decide +kernel
theorem dL_law_644 : decode cL_law 644 = .ok (.iadd, 1) := by decide +kernel
theorem dL_law_645 : decode cL_law 645 = .ok (.iaload, 1) := by decide +kernel
theorem dL_law_646 : decode cL_law 646 = .ok (.invokevirtual 69, 3) := by decide +kernel
theorem dL_law_649 : decode cL_law 649 = .ok (.aload_n 2, 1) := by decide +kernel
theorem dL_law_650 : decode cL_law 650 = .ok (.aload_n 0, 1) := by decide +kernel
theorem dL_law_651 : decode cL_law 651 = .ok (.iload 4, 2) := by decide +kernel
theorem dL_law_653 : decode cL_law 653 = .ok (.iconst 1, 1) := by decide +kernel
theorem dL_law_654 : decode cL_law 654 = .ok (.iadd, 1) := by decide +kernel
theorem dL_law_655 : decode cL_law 655 = .ok (.iaload, 1) := by decide +kernel
theorem dL_law_656 : decode cL_law 656 = .ok (.invokevirtual 72, 3) := by decide +kernel
theorem dL_law_659 : decode cL_law 659 = .ok (.if_icmp .eq 634, 3) := by decide +kernel
theorem dL_law_662 : decode cL_law 662 = .ok (.iconst 0, 1) := by decide +kernel
theorem dL_law_663 : decode cL_law 663 = .ok (.ireturn, 1) := by decide +kernel
theorem dL_law_664 : decode cL_law 664 = .ok (.aload_n 1, 1) := by decide +kernel
theorem dL_law_665 : decode cL_law 665 = .ok (.aload_n 0, 1) := by decide +kernel
theorem dL_law_666 : decode cL_law 666 = .ok (.iload 4, 2) := by decide +kernel
theorem dL_law_668 : decode cL_law 668 = .ok (.iconst 1, 1) := by decide +kernel
theorem dL_law_669 : decode cL_law 669 = .ok (.iadd, 1) := by decide +kernel
theorem dL_law_670 : decode cL_law 670 = .ok (.iaload, 1) := by decide +kernel
theorem dL_law_671 : decode cL_law 671 = .ok (.invokevirtual 73, 3) := by decide +kernel
theorem dL_law_674 : decode cL_law 674 = .ok (.aload_n 2, 1) := by decide +kernel
theorem dL_law_675 : decode cL_law 675 = .ok (.aload_n 0, 1) := by decide +kernel
theorem dL_law_676 : decode cL_law 676 = .ok (.iload 4, 2) := by decide +kernel
theorem dL_law_678 : decode cL_law 678 = .ok (.iconst 1, 1) := by decide +kernel
theorem dL_law_679 : decode cL_law 679 = .ok (.iadd, 1) := by decide +kernel
theorem dL_law_680 : decode cL_law 680 = .ok (.iaload, 1) := by decide +kernel
theorem dL_law_681 : decode cL_law 681 = .ok (.invokevirtual 76, 3) := by decide +kernel
theorem dL_law_684 : decode cL_law 684 = .ok (.if_icmp .eq 609, 3) := by decide +kernel
theorem dL_law_687 : decode cL_law 687 = .ok (.iconst 0, 1) := by decide +kernel
theorem dL_law_688 : decode cL_law 688 = .ok (.ireturn, 1) := by decide +kernel
theorem dL_law_689 : decode cL_law 689 = .ok (.aload_n 1, 1) := by decide +kernel
theorem dL_law_690 : decode cL_law 690 = .ok (.invokevirtual 77, 3) := by decide +kernel
theorem dL_law_693 : decode cL_law 693 = .ok (.aload_n 2, 1) := by decide +kernel
theorem dL_law_694 : decode cL_law 694 = .ok (.invokevirtual 81, 3) := by decide +kernel
theorem dL_law_697 : decode cL_law 697 = .ok (.if_icmp .eq 596, 3) := by decide +kernel
theorem dL_law_700 : decode cL_law 700 = .ok (.iconst 0, 1) := by decide +kernel
theorem dL_law_701 : decode cL_law 701 = .ok (.ireturn, 1) := by decide +kernel
theorem dL_law_702 : decode cL_law 702 = .ok (.aload_n 1, 1) := by decide +kernel
theorem dL_law_703 : decode cL_law 703 = .ok (.aload_n 0, 1) := by decide +kernel
theorem dL_law_704 : decode cL_law 704 = .ok (.iload 4, 2) := by decide +kernel
theorem dL_law_706 : decode cL_law 706 = .ok (.iconst 1, 1) := by decide +kernel
theorem dL_law_707 : decode cL_law 707 = .ok (.iadd, 1) := by decide +kernel
theorem dL_law_708 : decode cL_law 708 = .ok (.iaload, 1) := by decide +kernel
theorem dL_law_709 : decode cL_law 709 = .ok (.invokevirtual 82, 3) := by decide +kernel
theorem dL_law_712 : decode cL_law 712 = .ok (.aload_n 2, 1) := by decide +kernel
theorem dL_law_713 : decode cL_law 713 = .ok (.aload_n 0, 1) := by decide +kernel
theorem dL_law_714 : decode cL_law 714 = .ok (.iload 4, 2) := by decide +kernel
theorem dL_law_716 : decode cL_law 716 = .ok (.iconst 1, 1) := by decide +kernel
theorem dL_law_717 : decode cL_law 717 = .ok (.iadd, 1) := by decide +kernel
theorem dL_law_718 : decode cL_law 718 = .ok (.iaload, 1) := by decide +kernel
theorem dL_law_719 : decode cL_law 719 = .ok (.invokevirtual 85, 3) := by decide +kernel
theorem dL_law_722 : decode cL_law 722 = .ok (.if_icmp .eq 571, 3) := by decide +kernel
theorem dL_law_725 : decode cL_law 725 = .ok (.iconst 0, 1) := by decide +kernel
theorem dL_law_726 : decode cL_law 726 = .ok (.ireturn, 1) := by decide +kernel
theorem dL_law_727 : decode cL_law 727 = .ok (.aload_n 1, 1) := by decide +kernel
theorem dL_law_728 : decode cL_law 728 = .ok (.aload_n 0, 1) := by decide +kernel
theorem dL_law_729 : decode cL_law 729 = .ok (.iload 4, 2) := by decide +kernel
theorem dL_law_731 : decode cL_law 731 = .ok (.iconst 1, 1) := by decide +kernel
theorem dL_law_732 : decode cL_law 732 = .ok (.iadd, 1) := by decide +kernel
theorem dL_law_733 : decode cL_law 733 = .ok (.iaload, 1) := by decide +kernel
theorem dL_law_734 : decode cL_law 734 = .ok (.aload_n 0, 1) := by decide +kernel
theorem dL_law_735 : decode cL_law 735 = .ok (.iload 4, 2) := by decide +kernel
theorem dL_law_737 : decode cL_law 737 = .ok (.iconst 2, 1) := by decide +kernel
theorem dL_law_738 : decode cL_law 738 = .ok (.iadd, 1) := by decide +kernel
theorem dL_law_739 : decode cL_law 739 = .ok (.iaload, 1) := by decide +kernel
theorem dL_law_740 : decode cL_law 740 = .ok (.ifCond .eq 7, 3) := by decide +kernel
theorem dL_law_743 : decode cL_law 743 = .ok (.iconst 1, 1) := by decide +kernel
theorem dL_law_744 : decode cL_law 744 = .ok (.goto 4, 3) := by decide +kernel
theorem dL_law_747 : decode cL_law 747 = .ok (.iconst 0, 1) := by decide +kernel
theorem dL_law_748 : decode cL_law 748 = .ok (.invokevirtual 86, 3) := by decide +kernel
theorem dL_law_751 : decode cL_law 751 = .ok (.aload_n 2, 1) := by decide +kernel
theorem dL_law_752 : decode cL_law 752 = .ok (.aload_n 0, 1) := by decide +kernel
theorem dL_law_753 : decode cL_law 753 = .ok (.iload 4, 2) := by decide +kernel
theorem dL_law_755 : decode cL_law 755 = .ok (.iconst 1, 1) := by decide +kernel
theorem dL_law_756 : decode cL_law 756 = .ok (.iadd, 1) := by decide +kernel
theorem dL_law_757 : decode cL_law 757 = .ok (.iaload, 1) := by decide +kernel
theorem dL_law_758 : decode cL_law 758 = .ok (.aload_n 0, 1) := by decide +kernel
theorem dL_law_759 : decode cL_law 759 = .ok (.iload 4, 2) := by decide +kernel
theorem dL_law_761 : decode cL_law 761 = .ok (.iconst 2, 1) := by decide +kernel
theorem dL_law_762 : decode cL_law 762 = .ok (.iadd, 1) := by decide +kernel
theorem dL_law_763 : decode cL_law 763 = .ok (.iaload, 1) := by decide +kernel
theorem dL_law_764 : decode cL_law 764 = .ok (.ifCond .eq 7, 3) := by decide +kernel
theorem dL_law_767 : decode cL_law 767 = .ok (.iconst 1, 1) := by decide +kernel
theorem dL_law_768 : decode cL_law 768 = .ok (.goto 4, 3) := by decide +kernel
theorem dL_law_771 : decode cL_law 771 = .ok (.iconst 0, 1) := by decide +kernel
theorem dL_law_772 : decode cL_law 772 = .ok (.invokevirtual 89, 3) := by decide +kernel
theorem dL_law_775 : decode cL_law 775 = .ok (.if_icmp .eq 518, 3) := by decide +kernel
theorem dL_law_778 : decode cL_law 778 = .ok (.iconst 0, 1) := by decide +kernel
theorem dL_law_779 : decode cL_law 779 = .ok (.ireturn, 1) := by decide +kernel
theorem dL_law_780 : decode cL_law 780 = .ok (.aload_n 1, 1) := by decide +kernel
theorem dL_law_781 : decode cL_law 781 = .ok (.aload_n 0, 1) := by decide +kernel
theorem dL_law_782 : decode cL_law 782 = .ok (.iload 4, 2) := by decide +kernel
theorem dL_law_784 : decode cL_law 784 = .ok (.iconst 1, 1) := by decide +kernel
theorem dL_law_785 : decode cL_law 785 = .ok (.iadd, 1) := by decide +kernel
theorem dL_law_786 : decode cL_law 786 = .ok (.iaload, 1) := by decide +kernel
theorem dL_law_787 : decode cL_law 787 = .ok (.invokevirtual 90, 3) := by decide +kernel
theorem dL_law_790 : decode cL_law 790 = .ok (.aload_n 2, 1) := by decide +kernel
theorem dL_law_791 : decode cL_law 791 = .ok (.aload_n 0, 1) := by decide +kernel
theorem dL_law_792 : decode cL_law 792 = .ok (.iload 4, 2) := by decide +kernel
theorem dL_law_794 : decode cL_law 794 = .ok (.iconst 1, 1) := by decide +kernel
theorem dL_law_795 : decode cL_law 795 = .ok (.iadd, 1) := by decide +kernel
theorem dL_law_796 : decode cL_law 796 = .ok (.iaload, 1) := by decide +kernel
theorem dL_law_797 : decode cL_law 797 = .ok (.invokevirtual 93, 3) := by decide +kernel
theorem dL_law_800 : decode cL_law 800 = .ok (.if_icmp .eq 493, 3) := by decide +kernel
theorem dL_law_803 : decode cL_law 803 = .ok (.iconst 0, 1) := by decide +kernel
theorem dL_law_804 : decode cL_law 804 = .ok (.ireturn, 1) := by decide +kernel
theorem dL_law_805 : decode cL_law 805 = .ok (.aload_n 1, 1) := by decide +kernel
theorem dL_law_806 : decode cL_law 806 = .ok (.aload_n 0, 1) := by decide +kernel
theorem dL_law_807 : decode cL_law 807 = .ok (.iload 4, 2) := by decide +kernel
theorem dL_law_809 : decode cL_law 809 = .ok (.iconst 1, 1) := by decide +kernel
theorem dL_law_810 : decode cL_law 810 = .ok (.iadd, 1) := by decide +kernel
theorem dL_law_811 : decode cL_law 811 = .ok (.iaload, 1) := by decide +kernel
theorem dL_law_812 : decode cL_law 812 = .ok (.invokevirtual 94, 3) := by decide +kernel
theorem dL_law_815 : decode cL_law 815 = .ok (.aload_n 2, 1) := by decide +kernel
theorem dL_law_816 : decode cL_law 816 = .ok (.aload_n 0, 1) := by decide +kernel
theorem dL_law_817 : decode cL_law 817 = .ok (.iload 4, 2) := by decide +kernel
theorem dL_law_819 : decode cL_law 819 = .ok (.iconst 1, 1) := by decide +kernel
theorem dL_law_820 : decode cL_law 820 = .ok (.iadd, 1) := by decide +kernel
theorem dL_law_821 : decode cL_law 821 = .ok (.iaload, 1) := by decide +kernel
theorem dL_law_822 : decode cL_law 822 = .ok (.invokevirtual 97, 3) := by decide +kernel
theorem dL_law_825 : decode cL_law 825 = .ok (.if_icmp .eq 468, 3) := by decide +kernel
theorem dL_law_828 : decode cL_law 828 = .ok (.iconst 0, 1) := by decide +kernel
theorem dL_law_829 : decode cL_law 829 = .ok (.ireturn, 1) := by decide +kernel
theorem dL_law_830 : decode cL_law 830 = .ok (.aload_n 1, 1) := by decide +kernel
theorem dL_law_831 : decode cL_law 831 = .ok (.invokevirtual 98, 3) := by decide +kernel
theorem dL_law_834 : decode cL_law 834 = .ok (.aload_n 2, 1) := by decide +kernel
theorem dL_law_835 : decode cL_law 835 = .ok (.invokevirtual 101, 3) := by decide +kernel
theorem dL_law_838 : decode cL_law 838 = .ok (.if_icmp .eq 455, 3) := by decide +kernel
theorem dL_law_841 : decode cL_law 841 = .ok (.iconst 0, 1) := by decide +kernel
theorem dL_law_842 : decode cL_law 842 = .ok (.ireturn, 1) := by decide +kernel
theorem dL_law_843 : decode cL_law 843 = .ok (.aload_n 1, 1) := by decide +kernel
theorem dL_law_844 : decode cL_law 844 = .ok (.aload_n 0, 1) := by decide +kernel
theorem dL_law_845 : decode cL_law 845 = .ok (.iload 4, 2) := by decide +kernel
theorem dL_law_847 : decode cL_law 847 = .ok (.iconst 1, 1) := by decide +kernel
theorem dL_law_848 : decode cL_law 848 = .ok (.iadd, 1) := by decide +kernel
theorem dL_law_849 : decode cL_law 849 = .ok (.iaload, 1) := by decide +kernel
theorem dL_law_850 : decode cL_law 850 = .ok (.invokevirtual 102, 3) := by decide +kernel
theorem dL_law_853 : decode cL_law 853 = .ok (.aload_n 2, 1) := by decide +kernel
theorem dL_law_854 : decode cL_law 854 = .ok (.aload_n 0, 1) := by decide +kernel
theorem dL_law_855 : decode cL_law 855 = .ok (.iload 4, 2) := by decide +kernel
theorem dL_law_857 : decode cL_law 857 = .ok (.iconst 1, 1) := by decide +kernel
theorem dL_law_858 : decode cL_law 858 = .ok (.iadd, 1) := by decide +kernel
theorem dL_law_859 : decode cL_law 859 = .ok (.iaload, 1) := by decide +kernel
theorem dL_law_860 : decode cL_law 860 = .ok (.invokevirtual 105, 3) := by decide +kernel
theorem dL_law_863 : decode cL_law 863 = .ok (.if_icmp .eq 430, 3) := by decide +kernel
theorem dL_law_866 : decode cL_law 866 = .ok (.iconst 0, 1) := by decide +kernel
theorem dL_law_867 : decode cL_law 867 = .ok (.ireturn, 1) := by decide +kernel
theorem dL_law_868 : decode cL_law 868 = .ok (.aload_n 1, 1) := by decide +kernel
theorem dL_law_869 : decode cL_law 869 = .ok (.aload_n 0, 1) := by decide +kernel
theorem dL_law_870 : decode cL_law 870 = .ok (.iload 4, 2) := by decide +kernel
theorem dL_law_872 : decode cL_law 872 = .ok (.iconst 1, 1) := by decide +kernel
theorem dL_law_873 : decode cL_law 873 = .ok (.iadd, 1) := by decide +kernel
theorem dL_law_874 : decode cL_law 874 = .ok (.iaload, 1) := by decide +kernel
theorem dL_law_875 : decode cL_law 875 = .ok (.invokevirtual 106, 3) := by decide +kernel
theorem dL_law_878 : decode cL_law 878 = .ok (.aload_n 2, 1) := by decide +kernel
theorem dL_law_879 : decode cL_law 879 = .ok (.aload_n 0, 1) := by decide +kernel
theorem dL_law_880 : decode cL_law 880 = .ok (.iload 4, 2) := by decide +kernel
theorem dL_law_882 : decode cL_law 882 = .ok (.iconst 1, 1) := by decide +kernel
theorem dL_law_883 : decode cL_law 883 = .ok (.iadd, 1) := by decide +kernel
theorem dL_law_884 : decode cL_law 884 = .ok (.iaload, 1) := by decide +kernel
theorem dL_law_885 : decode cL_law 885 = .ok (.invokevirtual 109, 3) := by decide +kernel
theorem dL_law_888 : decode cL_law 888 = .ok (.if_icmp .eq 405, 3) := by decide +kernel
theorem dL_law_891 : decode cL_law 891 = .ok (.iconst 0, 1) := by decide +kernel
theorem dL_law_892 : decode cL_law 892 = .ok (.ireturn, 1) := by decide +kernel
theorem dL_law_893 : decode cL_law 893 = .ok (.aload_n 1, 1) := by decide +kernel
theorem dL_law_894 : decode cL_law 894 = .ok (.aload_n 0, 1) := by decide +kernel
theorem dL_law_895 : decode cL_law 895 = .ok (.iload 4, 2) := by decide +kernel
theorem dL_law_897 : decode cL_law 897 = .ok (.iconst 1, 1) := by decide +kernel
theorem dL_law_898 : decode cL_law 898 = .ok (.iadd, 1) := by decide +kernel
theorem dL_law_899 : decode cL_law 899 = .ok (.iaload, 1) := by decide +kernel
theorem dL_law_900 : decode cL_law 900 = .ok (.invokevirtual 110, 3) := by decide +kernel
theorem dL_law_903 : decode cL_law 903 = .ok (.aload_n 2, 1) := by decide +kernel
theorem dL_law_904 : decode cL_law 904 = .ok (.aload_n 0, 1) := by decide +kernel
theorem dL_law_905 : decode cL_law 905 = .ok (.iload 4, 2) := by decide +kernel
theorem dL_law_907 : decode cL_law 907 = .ok (.iconst 1, 1) := by decide +kernel
theorem dL_law_908 : decode cL_law 908 = .ok (.iadd, 1) := by decide +kernel
theorem dL_law_909 : decode cL_law 909 = .ok (.iaload, 1) := by decide +kernel
theorem dL_law_910 : decode cL_law 910 = .ok (.invokevirtual 113, 3) := by decide +kernel
theorem dL_law_913 : decode cL_law 913 = .ok (.if_icmp .eq 380, 3) := by decide +kernel
theorem dL_law_916 : decode cL_law 916 = .ok (.iconst 0, 1) := by decide +kernel
theorem dL_law_917 : decode cL_law 917 = .ok (.ireturn, 1) := by decide +kernel
theorem dL_law_918 : decode cL_law 918 = .ok (.aload_n 1, 1) := by decide +kernel
theorem dL_law_919 : decode cL_law 919 = .ok (.aload_n 0, 1) := by decide +kernel
theorem dL_law_920 : decode cL_law 920 = .ok (.iload 4, 2) := by decide +kernel
theorem dL_law_922 : decode cL_law 922 = .ok (.iconst 1, 1) := by decide +kernel
theorem dL_law_923 : decode cL_law 923 = .ok (.iadd, 1) := by decide +kernel
theorem dL_law_924 : decode cL_law 924 = .ok (.iaload, 1) := by decide +kernel
theorem dL_law_925 : decode cL_law 925 = .ok (.invokevirtual 114, 3) := by decide +kernel
theorem dL_law_928 : decode cL_law 928 = .ok (.aload_n 2, 1) := by decide +kernel
theorem dL_law_929 : decode cL_law 929 = .ok (.aload_n 0, 1) := by decide +kernel
theorem dL_law_930 : decode cL_law 930 = .ok (.iload 4, 2) := by decide +kernel
theorem dL_law_932 : decode cL_law 932 = .ok (.iconst 1, 1) := by decide +kernel
theorem dL_law_933 : decode cL_law 933 = .ok (.iadd, 1) := by decide +kernel
theorem dL_law_934 : decode cL_law 934 = .ok (.iaload, 1) := by decide +kernel
theorem dL_law_935 : decode cL_law 935 = .ok (.invokevirtual 117, 3) := by decide +kernel
theorem dL_law_938 : decode cL_law 938 = .ok (.if_icmp .eq 355, 3) := by decide +kernel
theorem dL_law_941 : decode cL_law 941 = .ok (.iconst 0, 1) := by decide +kernel
theorem dL_law_942 : decode cL_law 942 = .ok (.ireturn, 1) := by decide +kernel
theorem dL_law_943 : decode cL_law 943 = .ok (.aload_n 1, 1) := by decide +kernel
theorem dL_law_944 : decode cL_law 944 = .ok (.aload_n 0, 1) := by decide +kernel
theorem dL_law_945 : decode cL_law 945 = .ok (.iload 4, 2) := by decide +kernel
theorem dL_law_947 : decode cL_law 947 = .ok (.iconst 1, 1) := by decide +kernel
theorem dL_law_948 : decode cL_law 948 = .ok (.iadd, 1) := by decide +kernel
theorem dL_law_949 : decode cL_law 949 = .ok (.iaload, 1) := by decide +kernel
theorem dL_law_950 : decode cL_law 950 = .ok (.aload_n 0, 1) := by decide +kernel
theorem dL_law_951 : decode cL_law 951 = .ok (.iload 4, 2) := by decide +kernel
theorem dL_law_953 : decode cL_law 953 = .ok (.iconst 2, 1) := by decide +kernel
theorem dL_law_954 : decode cL_law 954 = .ok (.iadd, 1) := by decide +kernel
theorem dL_law_955 : decode cL_law 955 = .ok (.iaload, 1) := by decide +kernel
theorem dL_law_956 : decode cL_law 956 = .ok (.invokevirtual 118, 3) := by decide +kernel
theorem dL_law_959 : decode cL_law 959 = .ok (.aload_n 2, 1) := by decide +kernel
theorem dL_law_960 : decode cL_law 960 = .ok (.aload_n 0, 1) := by decide +kernel
theorem dL_law_961 : decode cL_law 961 = .ok (.iload 4, 2) := by decide +kernel
theorem dL_law_963 : decode cL_law 963 = .ok (.iconst 1, 1) := by decide +kernel
theorem dL_law_964 : decode cL_law 964 = .ok (.iadd, 1) := by decide +kernel
theorem dL_law_965 : decode cL_law 965 = .ok (.iaload, 1) := by decide +kernel
theorem dL_law_966 : decode cL_law 966 = .ok (.aload_n 0, 1) := by decide +kernel
theorem dL_law_967 : decode cL_law 967 = .ok (.iload 4, 2) := by decide +kernel
theorem dL_law_969 : decode cL_law 969 = .ok (.iconst 2, 1) := by decide +kernel
theorem dL_law_970 : decode cL_law 970 = .ok (.iadd, 1) := by decide +kernel
theorem dL_law_971 : decode cL_law 971 = .ok (.iaload, 1) := by decide +kernel
theorem dL_law_972 : decode cL_law 972 = .ok (.invokevirtual 121, 3) := by decide +kernel
theorem dL_law_975 : decode cL_law 975 = .ok (.if_icmp .eq 318, 3) := by decide +kernel
theorem dL_law_978 : decode cL_law 978 = .ok (.iconst 0, 1) := by decide +kernel
theorem dL_law_979 : decode cL_law 979 = .ok (.ireturn, 1) := by decide +kernel
theorem dL_law_980 : decode cL_law 980 = .ok (.aload_n 1, 1) := by decide +kernel
theorem dL_law_981 : decode cL_law 981 = .ok (.aload_n 0, 1) := by decide +kernel
theorem dL_law_982 : decode cL_law 982 = .ok (.iload 4, 2) := by decide +kernel
theorem dL_law_984 : decode cL_law 984 = .ok (.iconst 1, 1) := by decide +kernel
theorem dL_law_985 : decode cL_law 985 = .ok (.iadd, 1) := by decide +kernel
theorem dL_law_986 : decode cL_law 986 = .ok (.iaload, 1) := by decide +kernel
theorem dL_law_987 : decode cL_law 987 = .ok (.invokevirtual 122, 3) := by decide +kernel
theorem dL_law_990 : decode cL_law 990 = .ok (.aload_n 2, 1) := by decide +kernel
theorem dL_law_991 : decode cL_law 991 = .ok (.aload_n 0, 1) := by decide +kernel
theorem dL_law_992 : decode cL_law 992 = .ok (.iload 4, 2) := by decide +kernel
theorem dL_law_994 : decode cL_law 994 = .ok (.iconst 1, 1) := by decide +kernel
theorem dL_law_995 : decode cL_law 995 = .ok (.iadd, 1) := by decide +kernel
theorem dL_law_996 : decode cL_law 996 = .ok (.iaload, 1) := by decide +kernel
theorem dL_law_997 : decode cL_law 997 = .ok (.invokevirtual 125, 3) := by decide +kernel
theorem dL_law_1000 : decode cL_law 1000 = .ok (.if_icmp .eq 293, 3) := by decide +kernel
theorem dL_law_1003 : decode cL_law 1003 = .ok (.iconst 0, 1) := by decide +kernel
theorem dL_law_1004 : decode cL_law 1004 = .ok (.ireturn, 1) := by decide +kernel
theorem dL_law_1005 : decode cL_law 1005 = .ok (.aload_n 1, 1) := by decide +kernel
theorem dL_law_1006 : decode cL_law 1006 = .ok (.aload_n 0, 1) := by decide +kernel
theorem dL_law_1007 : decode cL_law 1007 = .ok (.iload 4, 2) := by decide +kernel
theorem dL_law_1009 : decode cL_law 1009 = .ok (.iconst 1, 1) := by decide +kernel
theorem dL_law_1010 : decode cL_law 1010 = .ok (.iadd, 1) := by decide +kernel
theorem dL_law_1011 : decode cL_law 1011 = .ok (.iaload, 1) := by decide +kernel
theorem dL_law_1012 : decode cL_law 1012 = .ok (.aload_n 0, 1) := by decide +kernel
theorem dL_law_1013 : decode cL_law 1013 = .ok (.iload 4, 2) := by decide +kernel
theorem dL_law_1015 : decode cL_law 1015 = .ok (.iconst 2, 1) := by decide +kernel
theorem dL_law_1016 : decode cL_law 1016 = .ok (.iadd, 1) := by decide +kernel
theorem dL_law_1017 : decode cL_law 1017 = .ok (.iaload, 1) := by decide +kernel
theorem dL_law_1018 : decode cL_law 1018 = .ok (.aload_n 0, 1) := by decide +kernel
theorem dL_law_1019 : decode cL_law 1019 = .ok (.iload 4, 2) := by decide +kernel
theorem dL_law_1021 : decode cL_law 1021 = .ok (.iconst 3, 1) := by decide +kernel
theorem dL_law_1022 : decode cL_law 1022 = .ok (.iadd, 1) := by decide +kernel
theorem dL_law_1023 : decode cL_law 1023 = .ok (.iaload, 1) := by decide +kernel
theorem dL_law_1024 : decode cL_law 1024 = .ok (.invokevirtual 126, 3) := by decide +kernel
theorem dL_law_1027 : decode cL_law 1027 = .ok (.aload_n 2, 1) := by decide +kernel
theorem dL_law_1028 : decode cL_law 1028 = .ok (.aload_n 0, 1) := by decide +kernel
theorem dL_law_1029 : decode cL_law 1029 = .ok (.iload 4, 2) := by decide +kernel
theorem dL_law_1031 : decode cL_law 1031 = .ok (.iconst 1, 1) := by decide +kernel
theorem dL_law_1032 : decode cL_law 1032 = .ok (.iadd, 1) := by decide +kernel
theorem dL_law_1033 : decode cL_law 1033 = .ok (.iaload, 1) := by decide +kernel
theorem dL_law_1034 : decode cL_law 1034 = .ok (.aload_n 0, 1) := by decide +kernel
theorem dL_law_1035 : decode cL_law 1035 = .ok (.iload 4, 2) := by decide +kernel
theorem dL_law_1037 : decode cL_law 1037 = .ok (.iconst 2, 1) := by decide +kernel
theorem dL_law_1038 : decode cL_law 1038 = .ok (.iadd, 1) := by decide +kernel
theorem dL_law_1039 : decode cL_law 1039 = .ok (.iaload, 1) := by decide +kernel
theorem dL_law_1040 : decode cL_law 1040 = .ok (.aload_n 0, 1) := by decide +kernel
theorem dL_law_1041 : decode cL_law 1041 = .ok (.iload 4, 2) := by decide +kernel
theorem dL_law_1043 : decode cL_law 1043 = .ok (.iconst 3, 1) := by decide +kernel
theorem dL_law_1044 : decode cL_law 1044 = .ok (.iadd, 1) := by decide +kernel
theorem dL_law_1045 : decode cL_law 1045 = .ok (.iaload, 1) := by decide +kernel
theorem dL_law_1046 : decode cL_law 1046 = .ok (.invokevirtual 129, 3) := by decide +kernel
theorem dL_law_1049 : decode cL_law 1049 = .ok (.if_icmp .eq 244, 3) := by decide +kernel
theorem dL_law_1052 : decode cL_law 1052 = .ok (.iconst 0, 1) := by decide +kernel
theorem dL_law_1053 : decode cL_law 1053 = .ok (.ireturn, 1) := by decide +kernel
theorem dL_law_1054 : decode cL_law 1054 = .ok (.aload_n 1, 1) := by decide +kernel
theorem dL_law_1055 : decode cL_law 1055 = .ok (.aload_n 0, 1) := by decide +kernel
theorem dL_law_1056 : decode cL_law 1056 = .ok (.iload 4, 2) := by decide +kernel
theorem dL_law_1058 : decode cL_law 1058 = .ok (.iconst 1, 1) := by decide +kernel
theorem dL_law_1059 : decode cL_law 1059 = .ok (.iadd, 1) := by decide +kernel
theorem dL_law_1060 : decode cL_law 1060 = .ok (.iaload, 1) := by decide +kernel
theorem dL_law_1061 : decode cL_law 1061 = .ok (.aload_n 0, 1) := by decide +kernel
theorem dL_law_1062 : decode cL_law 1062 = .ok (.iload 4, 2) := by decide +kernel
theorem dL_law_1064 : decode cL_law 1064 = .ok (.iconst 2, 1) := by decide +kernel
theorem dL_law_1065 : decode cL_law 1065 = .ok (.iadd, 1) := by decide +kernel
theorem dL_law_1066 : decode cL_law 1066 = .ok (.iaload, 1) := by decide +kernel
theorem dL_law_1067 : decode cL_law 1067 = .ok (.aload_n 0, 1) := by decide +kernel
theorem dL_law_1068 : decode cL_law 1068 = .ok (.iload 4, 2) := by decide +kernel
theorem dL_law_1070 : decode cL_law 1070 = .ok (.iconst 3, 1) := by decide +kernel
theorem dL_law_1071 : decode cL_law 1071 = .ok (.iadd, 1) := by decide +kernel
theorem dL_law_1072 : decode cL_law 1072 = .ok (.iaload, 1) := by decide +kernel
theorem dL_law_1073 : decode cL_law 1073 = .ok (.invokevirtual 130, 3) := by decide +kernel
theorem dL_law_1076 : decode cL_law 1076 = .ok (.aload_n 2, 1) := by decide +kernel
theorem dL_law_1077 : decode cL_law 1077 = .ok (.aload_n 0, 1) := by decide +kernel
theorem dL_law_1078 : decode cL_law 1078 = .ok (.iload 4, 2) := by decide +kernel
theorem dL_law_1080 : decode cL_law 1080 = .ok (.iconst 1, 1) := by decide +kernel
theorem dL_law_1081 : decode cL_law 1081 = .ok (.iadd, 1) := by decide +kernel
theorem dL_law_1082 : decode cL_law 1082 = .ok (.iaload, 1) := by decide +kernel
theorem dL_law_1083 : decode cL_law 1083 = .ok (.aload_n 0, 1) := by decide +kernel
theorem dL_law_1084 : decode cL_law 1084 = .ok (.iload 4, 2) := by decide +kernel
theorem dL_law_1086 : decode cL_law 1086 = .ok (.iconst 2, 1) := by decide +kernel
theorem dL_law_1087 : decode cL_law 1087 = .ok (.iadd, 1) := by decide +kernel
theorem dL_law_1088 : decode cL_law 1088 = .ok (.iaload, 1) := by decide +kernel
theorem dL_law_1089 : decode cL_law 1089 = .ok (.aload_n 0, 1) := by decide +kernel
theorem dL_law_1090 : decode cL_law 1090 = .ok (.iload 4, 2) := by decide +kernel
theorem dL_law_1092 : decode cL_law 1092 = .ok (.iconst 3, 1) := by decide +kernel
theorem dL_law_1093 : decode cL_law 1093 = .ok (.iadd, 1) := by decide +kernel
theorem dL_law_1094 : decode cL_law 1094 = .ok (.iaload, 1) := by decide +kernel
theorem dL_law_1095 : decode cL_law 1095 = .ok (.invokevirtual 133, 3) := by decide +kernel
theorem dL_law_1098 : decode cL_law 1098 = .ok (.if_icmp .eq 195, 3) := by decide +kernel
theorem dL_law_1101 : decode cL_law 1101 = .ok (.iconst 0, 1) := by decide +kernel
theorem dL_law_1102 : decode cL_law 1102 = .ok (.ireturn, 1) := by decide +kernel
theorem dL_law_1103 : decode cL_law 1103 = .ok (.aload_n 1, 1) := by decide +kernel
theorem dL_law_1104 : decode cL_law 1104 = .ok (.aload_n 0, 1) := by decide +kernel
theorem dL_law_1105 : decode cL_law 1105 = .ok (.iload 4, 2) := by decide +kernel
theorem dL_law_1107 : decode cL_law 1107 = .ok (.iconst 1, 1) := by decide +kernel
theorem dL_law_1108 : decode cL_law 1108 = .ok (.iadd, 1) := by decide +kernel
theorem dL_law_1109 : decode cL_law 1109 = .ok (.iaload, 1) := by decide +kernel
theorem dL_law_1110 : decode cL_law 1110 = .ok (.aload_n 0, 1) := by decide +kernel
theorem dL_law_1111 : decode cL_law 1111 = .ok (.iload 4, 2) := by decide +kernel
theorem dL_law_1113 : decode cL_law 1113 = .ok (.iconst 2, 1) := by decide +kernel
theorem dL_law_1114 : decode cL_law 1114 = .ok (.iadd, 1) := by decide +kernel
theorem dL_law_1115 : decode cL_law 1115 = .ok (.iaload, 1) := by decide +kernel
theorem dL_law_1116 : decode cL_law 1116 = .ok (.aload_n 3, 1) := by decide +kernel
theorem dL_law_1117 : decode cL_law 1117 = .ok (.invokestatic 134, 3) := by decide +kernel
theorem dL_law_1120 : decode cL_law 1120 = .ok (.istore 5, 2) := by decide +kernel
theorem dL_law_1122 : decode cL_law 1122 = .ok (.aload_n 2, 1) := by decide +kernel
theorem dL_law_1123 : decode cL_law 1123 = .ok (.aload_n 0, 1) := by decide +kernel
theorem dL_law_1124 : decode cL_law 1124 = .ok (.iload 4, 2) := by decide +kernel
theorem dL_law_1126 : decode cL_law 1126 = .ok (.iconst 1, 1) := by decide +kernel
theorem dL_law_1127 : decode cL_law 1127 = .ok (.iadd, 1) := by decide +kernel
theorem dL_law_1128 : decode cL_law 1128 = .ok (.iaload, 1) := by decide +kernel
theorem dL_law_1129 : decode cL_law 1129 = .ok (.aload_n 0, 1) := by decide +kernel
theorem dL_law_1130 : decode cL_law 1130 = .ok (.iload 4, 2) := by decide +kernel
theorem dL_law_1132 : decode cL_law 1132 = .ok (.iconst 2, 1) := by decide +kernel
theorem dL_law_1133 : decode cL_law 1133 = .ok (.iadd, 1) := by decide +kernel
theorem dL_law_1134 : decode cL_law 1134 = .ok (.iaload, 1) := by decide +kernel
theorem dL_law_1135 : decode cL_law 1135 = .ok (.invokevirtual 139, 3) := by decide +kernel
theorem dL_law_1138 : decode cL_law 1138 = .ok (.lstore 6, 2) := by decide +kernel
theorem dL_law_1140 : decode cL_law 1140 = .ok (.aload_n 2, 1) := by decide +kernel
theorem dL_law_1141 : decode cL_law 1141 = .ok (.invokevirtual 140, 3) := by decide +kernel
theorem dL_law_1144 : decode cL_law 1144 = .ok (.iload 5, 2) := by decide +kernel
theorem dL_law_1146 : decode cL_law 1146 = .ok (.if_icmp .eq 5, 3) := by decide +kernel
theorem dL_law_1149 : decode cL_law 1149 = .ok (.iconst 0, 1) := by decide +kernel
theorem dL_law_1150 : decode cL_law 1150 = .ok (.ireturn, 1) := by decide +kernel
theorem dL_law_1151 : decode cL_law 1151 = .ok (.iload 5, 2) := by decide +kernel
theorem dL_law_1153 : decode cL_law 1153 = .ok (.ifCond .ne 14, 3) := by decide +kernel
theorem dL_law_1156 : decode cL_law 1156 = .ok (.aload_n 3, 1) := by decide +kernel
theorem dL_law_1157 : decode cL_law 1157 = .ok (.iconst 0, 1) := by decide +kernel
theorem dL_law_1158 : decode cL_law 1158 = .ok (.laload, 1) := by decide +kernel
theorem dL_law_1159 : decode cL_law 1159 = .ok (.lload 6, 2) := by decide +kernel
theorem dL_law_1161 : decode cL_law 1161 = .ok (.lcmp, 1) := by decide +kernel
theorem dL_law_1162 : decode cL_law 1162 = .ok (.ifCond .eq 5, 3) := by decide +kernel
theorem dL_law_1165 : decode cL_law 1165 = .ok (.iconst 0, 1) := by decide +kernel
theorem dL_law_1166 : decode cL_law 1166 = .ok (.ireturn, 1) := by decide +kernel
theorem dL_law_1167 : decode cL_law 1167 = .ok (.goto 126, 3) := by decide +kernel
theorem dL_law_1170 : decode cL_law 1170 = .ok (.aload_n 1, 1) := by decide +kernel
theorem dL_law_1171 : decode cL_law 1171 = .ok (.aload_n 0, 1) := by decide +kernel
theorem dL_law_1172 : decode cL_law 1172 = .ok (.iload 4, 2) := by decide +kernel
theorem dL_law_1174 : decode cL_law 1174 = .ok (.iconst 1, 1) := by decide +kernel
theorem dL_law_1175 : decode cL_law 1175 = .ok (.iadd, 1) := by decide +kernel
theorem dL_law_1176 : decode cL_law 1176 = .ok (.iaload, 1) := by decide +kernel
theorem dL_law_1177 : decode cL_law 1177 = .ok (.aload_n 0, 1) := by decide +kernel
theorem dL_law_1178 : decode cL_law 1178 = .ok (.iload 4, 2) := by decide +kernel
theorem dL_law_1180 : decode cL_law 1180 = .ok (.iconst 2, 1) := by decide +kernel
theorem dL_law_1181 : decode cL_law 1181 = .ok (.iadd, 1) := by decide +kernel
theorem dL_law_1182 : decode cL_law 1182 = .ok (.iaload, 1) := by decide +kernel
theorem dL_law_1183 : decode cL_law 1183 = .ok (.aload_n 0, 1) := by decide +kernel
theorem dL_law_1184 : decode cL_law 1184 = .ok (.iload 4, 2) := by decide +kernel
theorem dL_law_1186 : decode cL_law 1186 = .ok (.iconst 3, 1) := by decide +kernel
theorem dL_law_1187 : decode cL_law 1187 = .ok (.iadd, 1) := by decide +kernel
theorem dL_law_1188 : decode cL_law 1188 = .ok (.iaload, 1) := by decide +kernel
theorem dL_law_1189 : decode cL_law 1189 = .ok (.aload_n 0, 1) := by decide +kernel
theorem dL_law_1190 : decode cL_law 1190 = .ok (.iload 4, 2) := by decide +kernel
theorem dL_law_1192 : decode cL_law 1192 = .ok (.iconst 4, 1) := by decide +kernel
theorem dL_law_1193 : decode cL_law 1193 = .ok (.iadd, 1) := by decide +kernel
theorem dL_law_1194 : decode cL_law 1194 = .ok (.iaload, 1) := by decide +kernel
theorem dL_law_1195 : decode cL_law 1195 = .ok (.aload_n 0, 1) := by decide +kernel
theorem dL_law_1196 : decode cL_law 1196 = .ok (.iload 4, 2) := by decide +kernel
theorem dL_law_1198 : decode cL_law 1198 = .ok (.iconst 5, 1) := by decide +kernel
theorem dL_law_1199 : decode cL_law 1199 = .ok (.iadd, 1) := by decide +kernel
theorem dL_law_1200 : decode cL_law 1200 = .ok (.iaload, 1) := by decide +kernel
theorem dL_law_1201 : decode cL_law 1201 = .ok (.invokevirtual 143, 3) := by decide +kernel
theorem dL_law_1204 : decode cL_law 1204 = .ok (.aload_n 2, 1) := by decide +kernel
theorem dL_law_1205 : decode cL_law 1205 = .ok (.aload_n 0, 1) := by decide +kernel
theorem dL_law_1206 : decode cL_law 1206 = .ok (.iload 4, 2) := by decide +kernel
theorem dL_law_1208 : decode cL_law 1208 = .ok (.iconst 1, 1) := by decide +kernel
theorem dL_law_1209 : decode cL_law 1209 = .ok (.iadd, 1) := by decide +kernel
theorem dL_law_1210 : decode cL_law 1210 = .ok (.iaload, 1) := by decide +kernel
theorem dL_law_1211 : decode cL_law 1211 = .ok (.aload_n 0, 1) := by decide +kernel
theorem dL_law_1212 : decode cL_law 1212 = .ok (.iload 4, 2) := by decide +kernel
theorem dL_law_1214 : decode cL_law 1214 = .ok (.iconst 2, 1) := by decide +kernel
theorem dL_law_1215 : decode cL_law 1215 = .ok (.iadd, 1) := by decide +kernel
theorem dL_law_1216 : decode cL_law 1216 = .ok (.iaload, 1) := by decide +kernel
theorem dL_law_1217 : decode cL_law 1217 = .ok (.aload_n 0, 1) := by decide +kernel
theorem dL_law_1218 : decode cL_law 1218 = .ok (.iload 4, 2) := by decide +kernel
theorem dL_law_1220 : decode cL_law 1220 = .ok (.iconst 3, 1) := by decide +kernel
theorem dL_law_1221 : decode cL_law 1221 = .ok (.iadd, 1) := by decide +kernel
theorem dL_law_1222 : decode cL_law 1222 = .ok (.iaload, 1) := by decide +kernel
theorem dL_law_1223 : decode cL_law 1223 = .ok (.aload_n 0, 1) := by decide +kernel
theorem dL_law_1224 : decode cL_law 1224 = .ok (.iload 4, 2) := by decide +kernel
theorem dL_law_1226 : decode cL_law 1226 = .ok (.iconst 4, 1) := by decide +kernel
theorem dL_law_1227 : decode cL_law 1227 = .ok (.iadd, 1) := by decide +kernel
theorem dL_law_1228 : decode cL_law 1228 = .ok (.iaload, 1) := by decide +kernel
theorem dL_law_1229 : decode cL_law 1229 = .ok (.aload_n 0, 1) := by decide +kernel
theorem dL_law_1230 : decode cL_law 1230 = .ok (.iload 4, 2) := by decide +kernel
theorem dL_law_1232 : decode cL_law 1232 = .ok (.iconst 5, 1) := by decide +kernel
theorem dL_law_1233 : decode cL_law 1233 = .ok (.iadd, 1) := by decide +kernel
theorem dL_law_1234 : decode cL_law 1234 = .ok (.iaload, 1) := by decide +kernel
theorem dL_law_1235 : decode cL_law 1235 = .ok (.invokevirtual 147, 3) := by decide +kernel
theorem dL_law_1238 : decode cL_law 1238 = .ok (.if_icmp .eq 55, 3) := by decide +kernel
theorem dL_law_1241 : decode cL_law 1241 = .ok (.iconst 0, 1) := by decide +kernel
theorem dL_law_1242 : decode cL_law 1242 = .ok (.ireturn, 1) := by decide +kernel
theorem dL_law_1243 : decode cL_law 1243 = .ok (.aload_n 1, 1) := by decide +kernel
theorem dL_law_1244 : decode cL_law 1244 = .ok (.aload_n 0, 1) := by decide +kernel
theorem dL_law_1245 : decode cL_law 1245 = .ok (.iload 4, 2) := by decide +kernel
theorem dL_law_1247 : decode cL_law 1247 = .ok (.iconst 1, 1) := by decide +kernel
theorem dL_law_1248 : decode cL_law 1248 = .ok (.iadd, 1) := by decide +kernel
theorem dL_law_1249 : decode cL_law 1249 = .ok (.iaload, 1) := by decide +kernel
theorem dL_law_1250 : decode cL_law 1250 = .ok (.invokevirtual 148, 3) := by decide +kernel
theorem dL_law_1253 : decode cL_law 1253 = .ok (.aload_n 2, 1) := by decide +kernel
theorem dL_law_1254 : decode cL_law 1254 = .ok (.aload_n 0, 1) := by decide +kernel
theorem dL_law_1255 : decode cL_law 1255 = .ok (.iload 4, 2) := by decide +kernel
theorem dL_law_1257 : decode cL_law 1257 = .ok (.iconst 1, 1) := by decide +kernel
theorem dL_law_1258 : decode cL_law 1258 = .ok (.iadd, 1) := by decide +kernel
theorem dL_law_1259 : decode cL_law 1259 = .ok (.iaload, 1) := by decide +kernel
theorem dL_law_1260 : decode cL_law 1260 = .ok (.invokevirtual 151, 3) := by decide +kernel
theorem dL_law_1263 : decode cL_law 1263 = .ok (.if_icmp .eq 30, 3) := by decide +kernel
theorem dL_law_1266 : decode cL_law 1266 = .ok (.iconst 0, 1) := by decide +kernel
theorem dL_law_1267 : decode cL_law 1267 = .ok (.ireturn, 1) := by decide +kernel
theorem dL_law_1268 : decode cL_law 1268 = .ok (.aload_n 1, 1) := by decide +kernel
theorem dL_law_1269 : decode cL_law 1269 = .ok (.aload_n 0, 1) := by decide +kernel
theorem dL_law_1270 : decode cL_law 1270 = .ok (.iload 4, 2) := by decide +kernel
theorem dL_law_1272 : decode cL_law 1272 = .ok (.iconst 1, 1) := by decide +kernel
theorem dL_law_1273 : decode cL_law 1273 = .ok (.iadd, 1) := by decide +kernel
theorem dL_law_1274 : decode cL_law 1274 = .ok (.iaload, 1) := by decide +kernel
theorem dL_law_1275 : decode cL_law 1275 = .ok (.invokevirtual 152, 3) := by decide +kernel
theorem dL_law_1278 : decode cL_law 1278 = .ok (.aload_n 2, 1) := by decide +kernel
theorem dL_law_1279 : decode cL_law 1279 = .ok (.aload_n 0, 1) := by decide +kernel
theorem dL_law_1280 : decode cL_law 1280 = .ok (.iload 4, 2) := by decide +kernel
theorem dL_law_1282 : decode cL_law 1282 = .ok (.iconst 1, 1) := by decide +kernel
theorem dL_law_1283 : decode cL_law 1283 = .ok (.iadd, 1) := by decide +kernel
theorem dL_law_1284 : decode cL_law 1284 = .ok (.iaload, 1) := by decide +kernel
theorem dL_law_1285 : decode cL_law 1285 = .ok (.invokevirtual 155, 3) := by decide +kernel
theorem dL_law_1288 : decode cL_law 1288 = .ok (.if_icmp .eq 5, 3) := by decide +kernel
theorem dL_law_1291 : decode cL_law 1291 = .ok (.iconst 0, 1) := by decide +kernel
theorem dL_law_1292 : decode cL_law 1292 = .ok (.ireturn, 1) := by decide +kernel
theorem dL_law_1293 : decode cL_law 1293 = .ok (.iinc 4 6, 3) := by decide +kernel
theorem dL_law_1296 : decode cL_law 1296 = .ok (.goto (-1273), 3) := by decide +kernel
theorem dL_law_1299 : decode cL_law 1299 = .ok (.iconst 1, 1) := by decide +kernel
theorem dL_law_1300 : decode cL_law 1300 = .ok (.ireturn, 1) := by decide +kernel
end
section
/-! the flat memory: cell (sort, number), place; the world that it describes -/
abbrev zMem : Type := Nat → Nat → Nat → Int32
def um (σ : zMem) (q i j : Nat) (v : Int32) : zMem := fun q' i' j' => if q' = q ∧ i' = i ∧ j' = j then v else σ q' i' j'
theorem um_row (σ : zMem) (q i j : Nat) (v : Int32) : um σ q i j v q i = upd (σ q i) j v := by
  funext k
  simp [um, upd]
theorem um_off (σ : zMem) (q i j : Nat) (v : Int32) {q' i' : Nat} (h : ¬ (q' = q ∧ i' = i)) : um σ q i j v q' i' = σ q' i' := by
  funext k
  simp only [um]
  rw [if_neg]
  exact fun z => h ⟨z.1, z.2.1⟩
abbrev zE : Type := va_G × (Nat → ClassId) × (Nat → Nat → Nat)
def zgc (i : Nat) : Nat := match i with
  | 0 => 1
  | 1 => 9
  | 2 => 2
  | _ => 3
def zct (E : zE) (q i : Nat) (r : Nat → Int32) : va_E := match q with
  | 0 => .inr (10, [.ref (E.2.2 1 0), .ref (E.2.2 3 0), .ref (E.2.2 5 0), .ref (E.2.2 7 0), .ref (E.2.2 11 0), .ref (E.2.2 12 0), .ref (E.2.2 15 0), .ref (E.2.2 18 0), .int (r 8), .int (r 9), .int (r 10), .int (r 11)])
  | 1 => .inl (E.2.1 3, 4, .inr (.inr (.inr (.inr (fun j => some (E.2.2 2 j))))))
  | 2 => .inr (zgc i, [])
  | 3 => .inl (E.2.1 4, 24, .inr (.inr (.inr (.inr (fun j => some (E.2.2 4 j))))))
  | 4 => .inr (5, [.int (r 0), .ref (E.2.2 2 (r 1).toNatClampNeg), .int (r 2), .int (r 3), .int (r 4), .int (r 5)])
  | 5 => .inl (E.2.1 5, 10, .inr (.inr (.inr (.inr (fun j => some (E.2.2 6 j))))))
  | 6 => .inr (0, [.int (r 0), .int (r 1), .int (r 2), .int (r 3), .int (r 4), .int (r 5), .int (r 6)])
  | 7 => .inl (E.2.1 6, 8, .inr (.inr (.inr (.inr (fun j => some (E.2.2 8 j))))))
  | 8 => .inr (7, [.int (r 0), .int (r 1), .ref (E.2.2 2 (r 2).toNatClampNeg), .int (r 3), .ref (E.2.2 9 i), .ref (E.2.2 10 i), .int (r 6)])
  | 9 => .inl (E.2.1 0, 60, .inl r)
  | 10 => .inl (E.2.1 2, 60, .inl r)
  | 11 => .inl (E.2.1 1, 31, .inl r)
  | 12 => .inr (6, [.ref (E.2.2 13 0), .ref (E.2.2 14 0), .int (r 2), .int (r 3), .int (r 4), .int (r 5)])
  | 13 => .inl (E.2.1 0, 10, .inl r)
  | 14 => .inl (E.2.1 1, 10, .inl r)
  | 15 => .inr (8, [.ref (E.2.2 16 0), .ref (E.2.2 17 0)])
  | 16 => .inl (E.2.1 0, 24, .inl r)
  | 17 => .inl (E.2.1 0, 24, .inl r)
  | 18 => .inr (4, [.ref (E.2.2 19 0), .ref (E.2.2 20 0), .ref (E.2.2 21 0)])
  | 19 => .inl (E.2.1 0, 10, .inl r)
  | 20 => .inl (E.2.1 0, 10, .inl r)
  | 21 => .inl (E.2.1 0, 10, .inl r)
  | 22 => .inr (11, [.int (r 0), .ref (E.2.2 23 0), .ref (E.2.2 24 0), .ref (E.2.2 25 0), .ref (E.2.2 26 0), .ref (E.2.2 27 0), .ref (E.2.2 28 0), .ref (E.2.2 29 0), .ref (E.2.2 30 0), .int (r 9), .ref (E.2.2 31 0), .ref (E.2.2 32 0), .ref (E.2.2 33 0), .ref (E.2.2 34 0), .ref (E.2.2 35 0), .ref (E.2.2 36 0), .int (r 16), .ref (E.2.2 37 0), .ref (E.2.2 38 0), .int (r 19), .int (r 20), .int (r 21), .ref (E.2.2 39 0), .ref (E.2.2 40 0), .ref (E.2.2 41 0), .int (r 25), .ref (E.2.2 42 0), .ref (E.2.2 43 0), .ref (E.2.2 44 0), .int (r 29), .ref (E.2.2 45 0), .ref (E.2.2 46 0), .ref (E.2.2 47 0), .ref (E.2.2 48 0), .ref (E.2.2 49 0), .ref (E.2.2 50 0), .ref (E.2.2 51 0), .ref (E.2.2 52 0), .ref (E.2.2 53 0), .ref (E.2.2 54 0)])
  | 23 => .inl (E.2.1 0, 24, .inl r)
  | 24 => .inl (E.2.1 0, 24, .inl r)
  | 25 => .inl (E.2.1 1, 24, .inl r)
  | 26 => .inl (E.2.1 0, 24, .inl r)
  | 27 => .inl (E.2.1 0, 24, .inl r)
  | 28 => .inl (E.2.1 0, 24, .inl r)
  | 29 => .inl (E.2.1 1, 24, .inl r)
  | 30 => .inl (E.2.1 0, 24, .inl r)
  | 31 => .inl (E.2.1 0, 10, .inl r)
  | 32 => .inl (E.2.1 0, 10, .inl r)
  | 33 => .inl (E.2.1 0, 10, .inl r)
  | 34 => .inl (E.2.1 1, 10, .inl r)
  | 35 => .inl (E.2.1 0, 10, .inl r)
  | 36 => .inl (E.2.1 0, 10, .inl r)
  | 37 => .inl (E.2.1 0, 10, .inl r)
  | 38 => .inl (E.2.1 0, 10, .inl r)
  | 39 => .inl (E.2.1 1, 31, .inl r)
  | 40 => .inl (E.2.1 0, 24, .inl r)
  | 41 => .inl (E.2.1 1, 24, .inl r)
  | 42 => .inl (E.2.1 0, 6, .inl r)
  | 43 => .inl (E.2.1 0, 64, .inl r)
  | 44 => .inl (E.2.1 0, 384, .inl r)
  | 45 => .inl (E.2.1 0, 10, .inl r)
  | 46 => .inl (E.2.1 0, 10, .inl r)
  | 47 => .inl (E.2.1 0, 10, .inl r)
  | 48 => .inl (E.2.1 0, 10, .inl r)
  | 49 => .inl (E.2.1 0, 8, .inl r)
  | 50 => .inl (E.2.1 0, 8, .inl r)
  | 51 => .inl (E.2.1 0, 8, .inl r)
  | 52 => .inl (E.2.1 0, 8, .inl r)
  | 53 => .inl (E.2.1 0, 8, .inl r)
  | 54 => .inl (E.2.1 0, 480, .inl r)
  | _ => .inl (E.2.1 7, 1, .inr (.inl (fun j => (r j).toInt64)))
def zcnt (q : Nat) : Nat := match q with
  | 2 => 4
  | 4 => 24
  | 6 => 10
  | 8 => 8
  | 9 => 8
  | 10 => 8
  | _ => 1
def zL : List (Nat × Nat) := (List.range 56).flatMap (fun q => (List.range (zcnt q)).map (fun i => (q, i)))
theorem zL_nd : zL.Nodup := by decide +kernel
theorem zL_mem {q i : Nat} (hq : q < 56) (hi : i < zcnt q) : (q, i) ∈ zL := List.mem_flatMap.mpr ⟨q, List.mem_range.mpr hq, List.mem_map.mpr ⟨i, List.mem_range.mpr hi, rfl⟩⟩
def zws (E : zE) (σ : zMem) : va_W := zL.map (fun q => (E.2.2 q.1 q.2, zct E q.1 q.2 (σ q.1 q.2)))
theorem zws_get (E : zE) (σ : zMem) {q i : Nat} (h : (q, i) ∈ zL) : ∃ k : Nat, zL[k]? = some (q, i) ∧ (zws E σ)[k]? = some (E.2.2 q i, zct E q i (σ q i)) := by
  obtain ⟨k, hk⟩ := List.getElem?_of_mem h
  exact ⟨k, hk, by rw [zws, List.getElem?_map, hk]; rfl⟩
theorem zws_setL {α : Type} (f : Nat × Nat → α → Nat × va_E) (L : List (Nat × Nat)) (hnd : L.Nodup) (σ σ' : Nat → Nat → α) {q i k : Nat} (hk : L[k]? = some (q, i)) (hr : ∀ a b : Nat, ¬ (a = q ∧ b = i) → σ' a b = σ a b) : (L.map (fun z => f z (σ z.1 z.2))).set k (f (q, i) (σ' q i)) = L.map (fun z => f z (σ' z.1 z.2)) := by
  have hl : k < L.length := (List.getElem?_eq_some_iff.mp hk).1
  apply List.ext_getElem?
  intro j
  by_cases hj : k = j
  · subst hj
    rw [List.getElem?_set_self (by rw [List.length_map]; exact hl), List.getElem?_map, hk]
    rfl
  · rw [List.getElem?_set_ne hj, List.getElem?_map, List.getElem?_map]
    cases h : L[j]? with
    | none => rfl
    | some a =>
      have hne : ¬ (a.1 = q ∧ a.2 = i) := by
        intro z
        apply hj
        refine (List.getElem?_inj hl hnd).mp ?_
        rw [hk, h]
        obtain ⟨a1, a2⟩ := a
        obtain ⟨z1, z2⟩ := z
        dsimp only at z1 z2
        rw [z1, z2]
      show some (f a (σ a.1 a.2)) = some (f a (σ' a.1 a.2))
      rw [hr a.1 a.2 hne]
theorem zws_set (E : zE) (σ σ' : zMem) {q i k : Nat} (hk : zL[k]? = some (q, i)) (hr : ∀ a b : Nat, ¬ (a = q ∧ b = i) → σ' a b = σ a b) : (zws E σ).set k (E.2.2 q i, zct E q i (σ' q i)) = zws E σ' := zws_setL (fun z r => (E.2.2 z.1 z.2, zct E z.1 z.2 r)) zL zL_nd σ σ' hk hr
def zP (E : zE) (σ : zMem) (H : Heap) : Prop := va_P E.1 vwCl (zws E σ) H
def zInj (E : zE) : Prop := ∀ q q' : Nat × Nat, q ∈ zL → q' ∈ zL → E.2.2 q.1 q.2 = E.2.2 q'.1 q'.2 → q = q'
def zA (E : zE) (sz : Nat) : Nat → Prop := fun q => (∃ c : Nat × Nat, c ∈ zL ∧ E.2.2 c.1 c.2 = q) ∨ sz ≤ q
theorem zD {E : zE} (h : zInj E) (σ : zMem) (sz : Nat) : va_D (zA E sz) (zws E σ) := by
  have key : ∀ (k : Nat) (p : Nat × va_E), (zws E σ)[k]? = some p → ∃ a, zL[k]? = some a ∧ p.1 = E.2.2 a.1 a.2 := by
    intro k p hk
    rw [zws, List.getElem?_map] at hk
    cases h : zL[k]? with
    | none => rw [h] at hk; cases hk
    | some a => rw [h] at hk; cases hk; exact ⟨a, rfl, rfl⟩
  refine ⟨fun i j p q hi hj hpq => ?_, fun k q hk => ?_⟩
  · obtain ⟨a, h1, h2⟩ := key i p hi
    obtain ⟨b, h3, h4⟩ := key j q hj
    have hab := h a b (List.mem_of_getElem? h1) (List.mem_of_getElem? h3) (h2.symm.trans (hpq.trans h4))
    subst hab
    exact (List.getElem?_inj (List.getElem?_eq_some_iff.mp h1).1 zL_nd).mp (h1.trans h3.symm)
  · obtain ⟨a, h1, h2⟩ := key k q hk
    exact Or.inl ⟨a, List.mem_of_getElem? h1, h2.symm⟩
theorem zA_up {E : zE} {a b q : Nat} (h : zA E b q) (hab : a ≤ b) : zA E a q := h.elim Or.inl (fun z => Or.inr (Nat.le_trans hab z))
def zTy (cy : Nat → ClassId) : List (ClassId × FieldType) := [(cy 0, .int), (cy 1, .boolean), (cy 2, .byte), (cy 3, .object "CandleMeadow$Dry"), (cy 4, .object "CandleMeadow$Plot"), (cy 5, .object "CandleMeadow$Buyer"), (cy 6, .object "CandleMeadow$Shelf"), (cy 7, .long)]
def zK (E : zE) (U : State) : Prop := va_K E.1 vwCl (zTy E.2.1) U
abbrev zTB : List Cond := wsL_law0
theorem zgood0 : zTB.all goodWord = true := by decide +kernel
theorem zgood : ∀ w ∈ zTB, goodWord w = true := List.all_eq_true.mp zgood0
theorem zGood {y : MethodName} {cc : ByteArray} {n : Nat} {rt : Option FieldType} (hc : Cond.code y cc n rt ∈ zTB) : GoodIn zTB (Cond.code y cc n rt :: zTB) := by
  intro w h
  rcases List.mem_cons.mp h with h | h
  · subst h
    exact ⟨hc, good_of_word (zgood _ hc)⟩
  · exact ⟨h, good_of_word (zgood _ h)⟩
def zX (p : Program) (s : State) (m : MethodId) (args : Array Value) (meth : Method) (c : Code) (cc : ByteArray) (nL : Nat) (own : String) (rt : Option FieldType) (E : zE) : Prop :=
  CallFix p m c cc nL s args zTB own ∧ zK E s ∧ zInj E ∧ meth.sig.returnType = rt ∧ meth.locks = false
def zG (p : Program) (l : Launch) (e : Env) (R : Room) (s : State) (m : MethodId) (args : Array Value) (below : List Frame) (meth : Method) (c : Code) (nL : Nat) (E : zE) (kc ks : Nat) (Q : State → Prop) (σ : zMem) (pc : Nat) (lv : List (Nat × Value)) (st : List Value) : Prop :=
  ∀ (ls : Array Slot) (H : Heap) (locs : List Loc), lv_has ls nL lv → zP E σ H → va_S (zA E s.heap.size) s.heap H locs → W p l e R s m args below meth c H locs kc ks Q (F0 m pc ls st)
def zPost (E : zE) (σ : zMem) (t : State) : Prop := zP E σ t.heap ∧ zK E t
abbrev zRm (fr lo : Nat) : Room := { frames := fr, cells := 0, slots := 0, locals := lo }
def zPre (E : zE) (σ : zMem) (sz : Nat) (U : State) : Prop := U.heap.size = sz ∧ zP E σ U.heap ∧ zK E U ∧ zInj E
def zMi (l : Launch) (y : MethodName) (cc : ByteArray) (nL : Nat) (ty : FieldType) (fr lo : Nat) (E : zE) (av : List Value) (σ : zMem) (Q9 : Int32 → zMem → Prop) : Prop :=
  ∀ sz : Nat, Met l y (Cond.code y cc nL (some ty) :: zTB) (zRm fr lo) (va_Pc av (zPre E σ sz)) (va_Qi Q9 (zPost E) (zA E sz)) 0 0 (zA E sz)
def zMl (l : Launch) (y : MethodName) (cc : ByteArray) (nL : Nat) (fr lo : Nat) (E : zE) (av : List Value) (σ : zMem) (Q9 : Int64 → zMem → Prop) : Prop :=
  ∀ sz : Nat, Met l y (Cond.code y cc nL (some .long) :: zTB) (zRm fr lo) (va_Pc av (zPre E σ sz)) (va_Ql Q9 (zPost E) (zA E sz)) 0 0 (zA E sz)
def zMv (l : Launch) (y : MethodName) (cc : ByteArray) (nL : Nat) (fr lo : Nat) (E : zE) (av : List Value) (σ : zMem) (Q9 : zMem → Prop) : Prop :=
  ∀ sz : Nat, Met l y (Cond.code y cc nL none :: zTB) (zRm fr lo) (va_Pc av (zPre E σ sz)) (va_Qv Q9 (zPost E) (zA E sz)) 0 0 (zA E sz)
theorem zin {x : Int32} {n : Nat} (h : vp_in x n) : x.toNatClampNeg < n := Nat.not_le.mp (fun z => h (Or.inr z))
theorem zPre_blind {E : zE} {σ : zMem} {sz : Nat} {av : List Value} : FrameBlind (va_Pc av (zPre E σ sz)) := by
  intro a U g mk q
  obtain ⟨q0, q1, qP, qK, qI⟩ := q
  exact ⟨q0, q1, qP, va_K.moved (u := U) (U := U.calling g mk a) (Vm.Alike.refl U.vm) qK, qI⟩
section ZR
variable {p : Program} {l : Launch} {e : Env} {R : Room} {s : State} {m : MethodId} {args : Array Value} {below : List Frame} {meth : Method} {c : Code} {nL kc ks : Nat} {E : zE} {Q : State → Prop} {σ : zMem} {pc pc' : Nat} {lv lv' : List (Nat × Value)} {st : List Value} {cc : ByteArray} {own : String} {rt : Option FieldType}
theorem z_iconst (C : zX p s m args meth c cc nL own rt E) {n : Int} {v : Int32} (hd : decode cc pc = .ok (.iconst n, 1)) (hv : Int32.ofInt n = v) (hn : pc + 1 = pc') (k9 : zG p l e R s m args below meth c nL E kc ks Q σ pc' lv (.int v :: st)) : zG p l e R s m args below meth c nL E kc ks Q σ pc lv st := by
  intro ls H locs h1 h2 h3
  subst hn
  exact lv_iconst C.1.1 C.1.2.1 hd hv (k9 ls H locs h1 h2 h3)
theorem z_bipush (C : zX p s m args meth c cc nL own rt E) {n : Int} {v : Int32} (hd : decode cc pc = .ok (.bipush n, 2)) (hv : (Int8.ofInt n).toInt32 = v) (hn : pc + 2 = pc') (k9 : zG p l e R s m args below meth c nL E kc ks Q σ pc' lv (.int v :: st)) : zG p l e R s m args below meth c nL E kc ks Q σ pc lv st := by
  intro ls H locs h1 h2 h3
  subst hn
  exact lv_bipush C.1.1 C.1.2.1 hd hv (k9 ls H locs h1 h2 h3)
theorem z_sipush (C : zX p s m args meth c cc nL own rt E) {n : Int} {v : Int32} (hd : decode cc pc = .ok (.sipush n, 3)) (hv : (Int16.ofInt n).toInt32 = v) (hn : pc + 3 = pc') (k9 : zG p l e R s m args below meth c nL E kc ks Q σ pc' lv (.int v :: st)) : zG p l e R s m args below meth c nL E kc ks Q σ pc lv st := by
  intro ls H locs h1 h2 h3
  subst hn
  exact lv_sipush C.1.1 C.1.2.1 hd hv (k9 ls H locs h1 h2 h3)
theorem z_ldc (C : zX p s m args meth c cc nL own rt E) {index : Nat} {v : Int32} (hw : Cond.constant own index v ∈ zTB) (hd : decode cc pc = .ok (.ldc index, 2)) (hn : pc + 2 = pc') (k9 : zG p l e R s m args below meth c nL E kc ks Q σ pc' lv (.int v :: st)) : zG p l e R s m args below meth c nL E kc ks Q σ pc lv st := by
  intro ls H locs h1 h2 h3
  subst hn
  exact lv_ldc C.1.1 C.1.2.1 C.1.2.2.2.1 (C.1.2.2.2.2 _ hw) hd (k9 ls H locs h1 h2 h3)
theorem z_ldcw (C : zX p s m args meth c cc nL own rt E) {index : Nat} {v : Int32} (hw : Cond.constant own index v ∈ zTB) (hd : decode cc pc = .ok (.ldc_w index, 3)) (hn : pc + 3 = pc') (k9 : zG p l e R s m args below meth c nL E kc ks Q σ pc' lv (.int v :: st)) : zG p l e R s m args below meth c nL E kc ks Q σ pc lv st := by
  intro ls H locs h1 h2 h3
  subst hn
  exact lv_ldcw C.1.1 C.1.2.1 C.1.2.2.2.1 (C.1.2.2.2.2 _ hw) hd (k9 ls H locs h1 h2 h3)
theorem z_iload (C : zX p s m args meth c cc nL own rt E) {i : Nat} {x : Int32} (hd : decode cc pc = .ok (.iload i, 2)) (j : Nat) (hl : lv[j]? = some (i, .int x)) (hn : pc + 2 = pc') (k9 : zG p l e R s m args below meth c nL E kc ks Q σ pc' lv (.int x :: st)) : zG p l e R s m args below meth c nL E kc ks Q σ pc lv st := by
  intro ls H locs h1 h2 h3
  subst hn
  exact lv_iload C.1.1 C.1.2.1 hd (lv_at h1 j hl) (k9 ls H locs h1 h2 h3)
theorem z_iload_n (C : zX p s m args meth c cc nL own rt E) {i : Fin 4} {i' : Nat} {x : Int32} (hd : decode cc pc = .ok (.iload_n i, 1)) (hi : (i : Nat) = i') (j : Nat) (hl : lv[j]? = some (i', .int x)) (hn : pc + 1 = pc') (k9 : zG p l e R s m args below meth c nL E kc ks Q σ pc' lv (.int x :: st)) : zG p l e R s m args below meth c nL E kc ks Q σ pc lv st := by
  intro ls H locs h1 h2 h3
  subst hn
  exact lv_iload_n C.1.1 C.1.2.1 hd hi (lv_at h1 j hl) (k9 ls H locs h1 h2 h3)
theorem z_aload (C : zX p s m args meth c cc nL own rt E) {i : Nat} {x : Nat} (hd : decode cc pc = .ok (.aload i, 2)) (j : Nat) (hl : lv[j]? = some (i, .ref x)) (hn : pc + 2 = pc') (k9 : zG p l e R s m args below meth c nL E kc ks Q σ pc' lv (.ref x :: st)) : zG p l e R s m args below meth c nL E kc ks Q σ pc lv st := by
  intro ls H locs h1 h2 h3
  subst hn
  exact lv_aload C.1.1 C.1.2.1 hd (lv_at h1 j hl) (k9 ls H locs h1 h2 h3)
theorem z_aload_n (C : zX p s m args meth c cc nL own rt E) {i : Fin 4} {i' : Nat} {x : Nat} (hd : decode cc pc = .ok (.aload_n i, 1)) (hi : (i : Nat) = i') (j : Nat) (hl : lv[j]? = some (i', .ref x)) (hn : pc + 1 = pc') (k9 : zG p l e R s m args below meth c nL E kc ks Q σ pc' lv (.ref x :: st)) : zG p l e R s m args below meth c nL E kc ks Q σ pc lv st := by
  intro ls H locs h1 h2 h3
  subst hn
  exact lv_aload_n C.1.1 C.1.2.1 hd hi (lv_at h1 j hl) (k9 ls H locs h1 h2 h3)
theorem z_lload (C : zX p s m args meth c cc nL own rt E) {i : Nat} {x : Int64} (hd : decode cc pc = .ok (.lload i, 2)) (j : Nat) (hl : lv[j]? = some (i, .long x)) (hn : pc + 2 = pc') (k9 : zG p l e R s m args below meth c nL E kc ks Q σ pc' lv (.long x :: st)) : zG p l e R s m args below meth c nL E kc ks Q σ pc lv st := by
  intro ls H locs h1 h2 h3
  subst hn
  exact lv_lload C.1.1 C.1.2.1 hd (lv_at h1 j hl) (k9 ls H locs h1 h2 h3)
theorem z_lload_n (C : zX p s m args meth c cc nL own rt E) {i : Fin 4} {i' : Nat} {x : Int64} (hd : decode cc pc = .ok (.lload_n i, 1)) (hi : (i : Nat) = i') (j : Nat) (hl : lv[j]? = some (i', .long x)) (hn : pc + 1 = pc') (k9 : zG p l e R s m args below meth c nL E kc ks Q σ pc' lv (.long x :: st)) : zG p l e R s m args below meth c nL E kc ks Q σ pc lv st := by
  intro ls H locs h1 h2 h3
  subst hn
  exact lv_lload_n C.1.1 C.1.2.1 hd hi (lv_at h1 j hl) (k9 ls H locs h1 h2 h3)
theorem z_istore (C : zX p s m args meth c cc nL own rt E) {i : Nat} {x : Int32} (hd : decode cc pc = .ok (.istore i, 2)) (hi : i < nL) (hl : (i, Value.int x) :: lv.filter (fun q => !(q.1 == i) && !(q.1 + 1 == i && q.2.category == 2)) = lv') (hn : pc + 2 = pc') (k9 : zG p l e R s m args below meth c nL E kc ks Q σ pc' lv' st) : zG p l e R s m args below meth c nL E kc ks Q σ pc lv (.int x :: st) := by
  intro ls H locs h1 h2 h3
  subst hn
  exact lv_istore C.1.1 C.1.2.1 hd h1 hi hl (fun ls h1 => k9 ls H locs h1 h2 h3)
theorem z_istore_n (C : zX p s m args meth c cc nL own rt E) {i : Fin 4} {i' : Nat} {x : Int32} (hd : decode cc pc = .ok (.istore_n i, 1)) (hii : (i : Nat) = i') (hi : i' < nL) (hl : (i', Value.int x) :: lv.filter (fun q => !(q.1 == i') && !(q.1 + 1 == i' && q.2.category == 2)) = lv') (hn : pc + 1 = pc') (k9 : zG p l e R s m args below meth c nL E kc ks Q σ pc' lv' st) : zG p l e R s m args below meth c nL E kc ks Q σ pc lv (.int x :: st) := by
  intro ls H locs h1 h2 h3
  subst hn
  exact lv_istore_n C.1.1 C.1.2.1 hd hii h1 hi hl (fun ls h1 => k9 ls H locs h1 h2 h3)
theorem z_astore (C : zX p s m args meth c cc nL own rt E) {i : Nat} {x : Nat} (hd : decode cc pc = .ok (.astore i, 2)) (hi : i < nL) (hl : (i, Value.ref x) :: lv.filter (fun q => !(q.1 == i) && !(q.1 + 1 == i && q.2.category == 2)) = lv') (hn : pc + 2 = pc') (k9 : zG p l e R s m args below meth c nL E kc ks Q σ pc' lv' st) : zG p l e R s m args below meth c nL E kc ks Q σ pc lv (.ref x :: st) := by
  intro ls H locs h1 h2 h3
  subst hn
  exact lv_astore C.1.1 C.1.2.1 hd h1 hi hl (fun ls h1 => k9 ls H locs h1 h2 h3)
theorem z_astore_n (C : zX p s m args meth c cc nL own rt E) {i : Fin 4} {i' : Nat} {x : Nat} (hd : decode cc pc = .ok (.astore_n i, 1)) (hii : (i : Nat) = i') (hi : i' < nL) (hl : (i', Value.ref x) :: lv.filter (fun q => !(q.1 == i') && !(q.1 + 1 == i' && q.2.category == 2)) = lv') (hn : pc + 1 = pc') (k9 : zG p l e R s m args below meth c nL E kc ks Q σ pc' lv' st) : zG p l e R s m args below meth c nL E kc ks Q σ pc lv (.ref x :: st) := by
  intro ls H locs h1 h2 h3
  subst hn
  exact lv_astore_n C.1.1 C.1.2.1 hd hii h1 hi hl (fun ls h1 => k9 ls H locs h1 h2 h3)
theorem z_lstore (C : zX p s m args meth c cc nL own rt E) {i : Nat} {x : Int64} (hd : decode cc pc = .ok (.lstore i, 2)) (hi : i + 1 < nL) (hl : (i, Value.long x) :: lv.filter (fun q => !(q.1 == i) && (!(q.1 == i + 1) && !(q.1 + 1 == i && q.2.category == 2))) = lv') (hn : pc + 2 = pc') (k9 : zG p l e R s m args below meth c nL E kc ks Q σ pc' lv' st) : zG p l e R s m args below meth c nL E kc ks Q σ pc lv (.long x :: st) := by
  intro ls H locs h1 h2 h3
  subst hn
  exact lv_lstore C.1.1 C.1.2.1 hd h1 hi hl (fun ls h1 => k9 ls H locs h1 h2 h3)
theorem z_iinc (C : zX p s m args meth c cc nL own rt E) {i j : Nat} {n : Int} {x v : Int32} (hd : decode cc pc = .ok (.iinc i n, 3)) (hj : lv[j]? = some (i, .int x)) (hv : x + Int32.ofInt n = v) (hi : i < nL) (hl : (i, Value.int v) :: lv.filter (fun q => !(q.1 == i) && !(q.1 + 1 == i && q.2.category == 2)) = lv') (hn : pc + 3 = pc') (k9 : zG p l e R s m args below meth c nL E kc ks Q σ pc' lv' st) : zG p l e R s m args below meth c nL E kc ks Q σ pc lv st := by
  intro ls H locs h1 h2 h3
  subst hn
  exact lv_iinc C.1.1 C.1.2.1 hd h1 hj hv hi hl (fun ls h1 => k9 ls H locs h1 h2 h3)
theorem z_iadd (C : zX p s m args meth c cc nL own rt E) {x y : Int32} (hd : decode cc pc = .ok (.iadd, 1))  (hn : pc + 1 = pc') (k9 : zG p l e R s m args below meth c nL E kc ks Q σ pc' lv (.int (x + y) :: st)) : zG p l e R s m args below meth c nL E kc ks Q σ pc lv (.int y :: .int x :: st) := by
  intro ls H locs h1 h2 h3
  subst hn
  exact lv_iadd C.1.1 C.1.2.1 hd (k9 ls H locs h1 h2 h3)
theorem z_isub (C : zX p s m args meth c cc nL own rt E) {x y : Int32} (hd : decode cc pc = .ok (.isub, 1))  (hn : pc + 1 = pc') (k9 : zG p l e R s m args below meth c nL E kc ks Q σ pc' lv (.int (x - y) :: st)) : zG p l e R s m args below meth c nL E kc ks Q σ pc lv (.int y :: .int x :: st) := by
  intro ls H locs h1 h2 h3
  subst hn
  exact lv_isub C.1.1 C.1.2.1 hd (k9 ls H locs h1 h2 h3)
theorem z_imul (C : zX p s m args meth c cc nL own rt E) {x y : Int32} (hd : decode cc pc = .ok (.imul, 1))  (hn : pc + 1 = pc') (k9 : zG p l e R s m args below meth c nL E kc ks Q σ pc' lv (.int (x * y) :: st)) : zG p l e R s m args below meth c nL E kc ks Q σ pc lv (.int y :: .int x :: st) := by
  intro ls H locs h1 h2 h3
  subst hn
  exact lv_imul C.1.1 C.1.2.1 hd (k9 ls H locs h1 h2 h3)
theorem z_iand (C : zX p s m args meth c cc nL own rt E) {x y : Int32} (hd : decode cc pc = .ok (.iand, 1))  (hn : pc + 1 = pc') (k9 : zG p l e R s m args below meth c nL E kc ks Q σ pc' lv (.int (x &&& y) :: st)) : zG p l e R s m args below meth c nL E kc ks Q σ pc lv (.int y :: .int x :: st) := by
  intro ls H locs h1 h2 h3
  subst hn
  exact lv_iand C.1.1 C.1.2.1 hd (k9 ls H locs h1 h2 h3)
theorem z_ior (C : zX p s m args meth c cc nL own rt E) {x y : Int32} (hd : decode cc pc = .ok (.ior, 1))  (hn : pc + 1 = pc') (k9 : zG p l e R s m args below meth c nL E kc ks Q σ pc' lv (.int (x ||| y) :: st)) : zG p l e R s m args below meth c nL E kc ks Q σ pc lv (.int y :: .int x :: st) := by
  intro ls H locs h1 h2 h3
  subst hn
  exact lv_ior C.1.1 C.1.2.1 hd (k9 ls H locs h1 h2 h3)
theorem z_ixor (C : zX p s m args meth c cc nL own rt E) {x y : Int32} (hd : decode cc pc = .ok (.ixor, 1))  (hn : pc + 1 = pc') (k9 : zG p l e R s m args below meth c nL E kc ks Q σ pc' lv (.int (x ^^^ y) :: st)) : zG p l e R s m args below meth c nL E kc ks Q σ pc lv (.int y :: .int x :: st) := by
  intro ls H locs h1 h2 h3
  subst hn
  exact lv_ixor C.1.1 C.1.2.1 hd (k9 ls H locs h1 h2 h3)
theorem z_idiv (C : zX p s m args meth c cc nL own rt E) {x y : Int32} (hd : decode cc pc = .ok (.idiv, 1)) (hne : ¬ y = 0) (hn : pc + 1 = pc') (k9 : zG p l e R s m args below meth c nL E kc ks Q σ pc' lv (.int (x / y) :: st)) : zG p l e R s m args below meth c nL E kc ks Q σ pc lv (.int y :: .int x :: st) := by
  intro ls H locs h1 h2 h3
  subst hn
  exact lv_idiv C.1.1 C.1.2.1 hd hne (k9 ls H locs h1 h2 h3)
theorem z_irem (C : zX p s m args meth c cc nL own rt E) {x y : Int32} (hd : decode cc pc = .ok (.irem, 1)) (hne : ¬ y = 0) (hn : pc + 1 = pc') (k9 : zG p l e R s m args below meth c nL E kc ks Q σ pc' lv (.int (x - x / y * y) :: st)) : zG p l e R s m args below meth c nL E kc ks Q σ pc lv (.int y :: .int x :: st) := by
  intro ls H locs h1 h2 h3
  subst hn
  exact lv_irem C.1.1 C.1.2.1 hd hne (k9 ls H locs h1 h2 h3)
theorem z_ishl (C : zX p s m args meth c cc nL own rt E) {x y : Int32} (hd : decode cc pc = .ok (.ishl, 1))  (hn : pc + 1 = pc') (k9 : zG p l e R s m args below meth c nL E kc ks Q σ pc' lv (.int (x <<< (y &&& 31)) :: st)) : zG p l e R s m args below meth c nL E kc ks Q σ pc lv (.int y :: .int x :: st) := by
  intro ls H locs h1 h2 h3
  subst hn
  exact lv_ishl C.1.1 C.1.2.1 hd (k9 ls H locs h1 h2 h3)
theorem z_ishr (C : zX p s m args meth c cc nL own rt E) {x y : Int32} (hd : decode cc pc = .ok (.ishr, 1))  (hn : pc + 1 = pc') (k9 : zG p l e R s m args below meth c nL E kc ks Q σ pc' lv (.int (x >>> (y &&& 31)) :: st)) : zG p l e R s m args below meth c nL E kc ks Q σ pc lv (.int y :: .int x :: st) := by
  intro ls H locs h1 h2 h3
  subst hn
  exact lv_ishr C.1.1 C.1.2.1 hd (k9 ls H locs h1 h2 h3)
theorem z_i2l (C : zX p s m args meth c cc nL own rt E) {x : Int32} (hd : decode cc pc = .ok (.i2l, 1)) (hn : pc + 1 = pc') (k9 : zG p l e R s m args below meth c nL E kc ks Q σ pc' lv (.long x.toInt64 :: st)) : zG p l e R s m args below meth c nL E kc ks Q σ pc lv (.int x :: st) := by
  intro ls H locs h1 h2 h3
  subst hn
  exact lv_i2l C.1.1 C.1.2.1 hd rfl (k9 ls H locs h1 h2 h3)
theorem z_i2b (C : zX p s m args meth c cc nL own rt E) {x : Int32} (hd : decode cc pc = .ok (.i2b, 1)) (hn : pc + 1 = pc') (k9 : zG p l e R s m args below meth c nL E kc ks Q σ pc' lv (.int x.toInt8.toInt32 :: st)) : zG p l e R s m args below meth c nL E kc ks Q σ pc lv (.int x :: st) := by
  intro ls H locs h1 h2 h3
  subst hn
  exact lv_i2b C.1.1 C.1.2.1 hd rfl (k9 ls H locs h1 h2 h3)
theorem z_lconst (C : zX p s m args meth c cc nL own rt E) {n : Fin 2} {v : Int64} (hd : decode cc pc = .ok (.lconst n, 1)) (hv : Int64.ofNat (n : Nat) = v) (hn : pc + 1 = pc') (k9 : zG p l e R s m args below meth c nL E kc ks Q σ pc' lv (.long v :: st)) : zG p l e R s m args below meth c nL E kc ks Q σ pc lv st := by
  intro ls H locs h1 h2 h3
  subst hn
  exact lv_lconst C.1.1 C.1.2.1 hd hv (k9 ls H locs h1 h2 h3)
theorem z_dup (C : zX p s m args meth c cc nL own rt E) {va : Value} (hd : decode cc pc = .ok (.dup, 1)) (hc : va.category = 1) (hn : pc + 1 = pc') (k9 : zG p l e R s m args below meth c nL E kc ks Q σ pc' lv (va :: va :: st)) : zG p l e R s m args below meth c nL E kc ks Q σ pc lv (va :: st) := by
  intro ls H locs h1 h2 h3
  subst hn
  exact lv_dup C.1.1 C.1.2.1 hd hc (k9 ls H locs h1 h2 h3)
theorem z_pop (C : zX p s m args meth c cc nL own rt E) {va : Value} (hd : decode cc pc = .ok (.pop, 1)) (hc : va.category = 1) (hn : pc + 1 = pc') (k9 : zG p l e R s m args below meth c nL E kc ks Q σ pc' lv st) : zG p l e R s m args below meth c nL E kc ks Q σ pc lv (va :: st) := by
  intro ls H locs h1 h2 h3
  subst hn
  exact lv_pop C.1.1 C.1.2.1 hd hc (k9 ls H locs h1 h2 h3)
theorem z_dup2 (C : zX p s m args meth c cc nL own rt E) {va vb : Value} (hd : decode cc pc = .ok (.dup2, 1)) (hc : va.category = 1) (hc2 : vb.category = 1) (hn : pc + 1 = pc') (k9 : zG p l e R s m args below meth c nL E kc ks Q σ pc' lv (va :: vb :: va :: vb :: st)) : zG p l e R s m args below meth c nL E kc ks Q σ pc lv (va :: vb :: st) := by
  intro ls H locs h1 h2 h3
  subst hn
  exact lv_dup2_11 C.1.1 C.1.2.1 hd hc hc2 (k9 ls H locs h1 h2 h3)
theorem z_if_eq (C : zX p s m args meth c cc nL own rt E) {x : Int32} {off : Int} {tgt : Nat} (hd : decode cc pc = .ok (.ifCond .eq off, 3)) (ht : (pc : Int) + off = (tgt : Int)) (hn : pc + 3 = pc') (kt : x = 0 → zG p l e R s m args below meth c nL E kc ks Q σ tgt lv st) (kf : ¬ x = 0 → zG p l e R s m args below meth c nL E kc ks Q σ pc' lv st) : zG p l e R s m args below meth c nL E kc ks Q σ pc lv (.int x :: st) := by
  intro ls H locs h1 h2 h3
  subst hn
  exact lv_if_eq C.1.1 C.1.2.1 hd ht (fun h => kt h ls H locs h1 h2 h3) (fun h => kf h ls H locs h1 h2 h3)
theorem z_if_ne (C : zX p s m args meth c cc nL own rt E) {x : Int32} {off : Int} {tgt : Nat} (hd : decode cc pc = .ok (.ifCond .ne off, 3)) (ht : (pc : Int) + off = (tgt : Int)) (hn : pc + 3 = pc') (kt : ¬ x = 0 → zG p l e R s m args below meth c nL E kc ks Q σ tgt lv st) (kf : x = 0 → zG p l e R s m args below meth c nL E kc ks Q σ pc' lv st) : zG p l e R s m args below meth c nL E kc ks Q σ pc lv (.int x :: st) := by
  intro ls H locs h1 h2 h3
  subst hn
  exact lv_if_ne C.1.1 C.1.2.1 hd ht (fun h => kt h ls H locs h1 h2 h3) (fun h => kf h ls H locs h1 h2 h3)
theorem z_if_lt (C : zX p s m args meth c cc nL own rt E) {x : Int32} {off : Int} {tgt : Nat} (hd : decode cc pc = .ok (.ifCond .lt off, 3)) (ht : (pc : Int) + off = (tgt : Int)) (hn : pc + 3 = pc') (kt : x < 0 → zG p l e R s m args below meth c nL E kc ks Q σ tgt lv st) (kf : ¬ x < 0 → zG p l e R s m args below meth c nL E kc ks Q σ pc' lv st) : zG p l e R s m args below meth c nL E kc ks Q σ pc lv (.int x :: st) := by
  intro ls H locs h1 h2 h3
  subst hn
  exact lv_if_lt C.1.1 C.1.2.1 hd ht (fun h => kt h ls H locs h1 h2 h3) (fun h => kf h ls H locs h1 h2 h3)
theorem z_if_ge (C : zX p s m args meth c cc nL own rt E) {x : Int32} {off : Int} {tgt : Nat} (hd : decode cc pc = .ok (.ifCond .ge off, 3)) (ht : (pc : Int) + off = (tgt : Int)) (hn : pc + 3 = pc') (kt : 0 ≤ x → zG p l e R s m args below meth c nL E kc ks Q σ tgt lv st) (kf : ¬ 0 ≤ x → zG p l e R s m args below meth c nL E kc ks Q σ pc' lv st) : zG p l e R s m args below meth c nL E kc ks Q σ pc lv (.int x :: st) := by
  intro ls H locs h1 h2 h3
  subst hn
  exact lv_if_ge C.1.1 C.1.2.1 hd ht (fun h => kt h ls H locs h1 h2 h3) (fun h => kf h ls H locs h1 h2 h3)
theorem z_if_gt (C : zX p s m args meth c cc nL own rt E) {x : Int32} {off : Int} {tgt : Nat} (hd : decode cc pc = .ok (.ifCond .gt off, 3)) (ht : (pc : Int) + off = (tgt : Int)) (hn : pc + 3 = pc') (kt : 0 < x → zG p l e R s m args below meth c nL E kc ks Q σ tgt lv st) (kf : ¬ 0 < x → zG p l e R s m args below meth c nL E kc ks Q σ pc' lv st) : zG p l e R s m args below meth c nL E kc ks Q σ pc lv (.int x :: st) := by
  intro ls H locs h1 h2 h3
  subst hn
  exact lv_if_gt C.1.1 C.1.2.1 hd ht (fun h => kt h ls H locs h1 h2 h3) (fun h => kf h ls H locs h1 h2 h3)
theorem z_if_le (C : zX p s m args meth c cc nL own rt E) {x : Int32} {off : Int} {tgt : Nat} (hd : decode cc pc = .ok (.ifCond .le off, 3)) (ht : (pc : Int) + off = (tgt : Int)) (hn : pc + 3 = pc') (kt : x ≤ 0 → zG p l e R s m args below meth c nL E kc ks Q σ tgt lv st) (kf : ¬ x ≤ 0 → zG p l e R s m args below meth c nL E kc ks Q σ pc' lv st) : zG p l e R s m args below meth c nL E kc ks Q σ pc lv (.int x :: st) := by
  intro ls H locs h1 h2 h3
  subst hn
  exact lv_if_le C.1.1 C.1.2.1 hd ht (fun h => kt h ls H locs h1 h2 h3) (fun h => kf h ls H locs h1 h2 h3)
theorem z_icmp_eq (C : zX p s m args meth c cc nL own rt E) {x y : Int32} {off : Int} {tgt : Nat} (hd : decode cc pc = .ok (.if_icmp .eq off, 3)) (ht : (pc : Int) + off = (tgt : Int)) (hn : pc + 3 = pc') (kt : x = y → zG p l e R s m args below meth c nL E kc ks Q σ tgt lv st) (kf : ¬ x = y → zG p l e R s m args below meth c nL E kc ks Q σ pc' lv st) : zG p l e R s m args below meth c nL E kc ks Q σ pc lv (.int y :: .int x :: st) := by
  intro ls H locs h1 h2 h3
  subst hn
  exact lv_icmp_eq C.1.1 C.1.2.1 hd ht (fun h => kt h ls H locs h1 h2 h3) (fun h => kf h ls H locs h1 h2 h3)
theorem z_icmp_ne (C : zX p s m args meth c cc nL own rt E) {x y : Int32} {off : Int} {tgt : Nat} (hd : decode cc pc = .ok (.if_icmp .ne off, 3)) (ht : (pc : Int) + off = (tgt : Int)) (hn : pc + 3 = pc') (kt : ¬ x = y → zG p l e R s m args below meth c nL E kc ks Q σ tgt lv st) (kf : x = y → zG p l e R s m args below meth c nL E kc ks Q σ pc' lv st) : zG p l e R s m args below meth c nL E kc ks Q σ pc lv (.int y :: .int x :: st) := by
  intro ls H locs h1 h2 h3
  subst hn
  exact lv_icmp_ne C.1.1 C.1.2.1 hd ht (fun h => kt h ls H locs h1 h2 h3) (fun h => kf h ls H locs h1 h2 h3)
theorem z_icmp_lt (C : zX p s m args meth c cc nL own rt E) {x y : Int32} {off : Int} {tgt : Nat} (hd : decode cc pc = .ok (.if_icmp .lt off, 3)) (ht : (pc : Int) + off = (tgt : Int)) (hn : pc + 3 = pc') (kt : x < y → zG p l e R s m args below meth c nL E kc ks Q σ tgt lv st) (kf : ¬ x < y → zG p l e R s m args below meth c nL E kc ks Q σ pc' lv st) : zG p l e R s m args below meth c nL E kc ks Q σ pc lv (.int y :: .int x :: st) := by
  intro ls H locs h1 h2 h3
  subst hn
  exact lv_icmp_lt C.1.1 C.1.2.1 hd ht (fun h => kt h ls H locs h1 h2 h3) (fun h => kf h ls H locs h1 h2 h3)
theorem z_icmp_ge (C : zX p s m args meth c cc nL own rt E) {x y : Int32} {off : Int} {tgt : Nat} (hd : decode cc pc = .ok (.if_icmp .ge off, 3)) (ht : (pc : Int) + off = (tgt : Int)) (hn : pc + 3 = pc') (kt : y ≤ x → zG p l e R s m args below meth c nL E kc ks Q σ tgt lv st) (kf : ¬ y ≤ x → zG p l e R s m args below meth c nL E kc ks Q σ pc' lv st) : zG p l e R s m args below meth c nL E kc ks Q σ pc lv (.int y :: .int x :: st) := by
  intro ls H locs h1 h2 h3
  subst hn
  exact lv_icmp_ge C.1.1 C.1.2.1 hd ht (fun h => kt h ls H locs h1 h2 h3) (fun h => kf h ls H locs h1 h2 h3)
theorem z_icmp_gt (C : zX p s m args meth c cc nL own rt E) {x y : Int32} {off : Int} {tgt : Nat} (hd : decode cc pc = .ok (.if_icmp .gt off, 3)) (ht : (pc : Int) + off = (tgt : Int)) (hn : pc + 3 = pc') (kt : y < x → zG p l e R s m args below meth c nL E kc ks Q σ tgt lv st) (kf : ¬ y < x → zG p l e R s m args below meth c nL E kc ks Q σ pc' lv st) : zG p l e R s m args below meth c nL E kc ks Q σ pc lv (.int y :: .int x :: st) := by
  intro ls H locs h1 h2 h3
  subst hn
  exact lv_icmp_gt C.1.1 C.1.2.1 hd ht (fun h => kt h ls H locs h1 h2 h3) (fun h => kf h ls H locs h1 h2 h3)
theorem z_icmp_le (C : zX p s m args meth c cc nL own rt E) {x y : Int32} {off : Int} {tgt : Nat} (hd : decode cc pc = .ok (.if_icmp .le off, 3)) (ht : (pc : Int) + off = (tgt : Int)) (hn : pc + 3 = pc') (kt : x ≤ y → zG p l e R s m args below meth c nL E kc ks Q σ tgt lv st) (kf : ¬ x ≤ y → zG p l e R s m args below meth c nL E kc ks Q σ pc' lv st) : zG p l e R s m args below meth c nL E kc ks Q σ pc lv (.int y :: .int x :: st) := by
  intro ls H locs h1 h2 h3
  subst hn
  exact lv_icmp_le C.1.1 C.1.2.1 hd ht (fun h => kt h ls H locs h1 h2 h3) (fun h => kf h ls H locs h1 h2 h3)
theorem z_goto (C : zX p s m args meth c cc nL own rt E) {off : Int} {tgt : Nat} (hd : decode cc pc = .ok (.goto off, 3)) (ht : (pc : Int) + off = (tgt : Int)) (k9 : zG p l e R s m args below meth c nL E kc ks Q σ tgt lv st) : zG p l e R s m args below meth c nL E kc ks Q σ pc lv st := by
  intro ls H locs h1 h2 h3
  exact lv_goto C.1.1 C.1.2.1 hd ht (k9 ls H locs h1 h2 h3)
theorem z_tabIn (C : zX p s m args meth c cc nL own rt E) {dflt lo hi : Int} {offs : Array Int} {len : Nat} {x : Int32} {off : Int} {tgt : Nat} (hd : decode cc pc = .ok (.tableswitch dflt lo hi offs, len)) (v : Int32) (hx : x = v) (h5 : ¬ v.toInt < lo) (h6 : ¬ hi < v.toInt) (ho : offs[(v.toInt - lo).toNat]? = some off) (ht : (pc : Int) + off = (tgt : Int)) (k9 : zG p l e R s m args below meth c nL E kc ks Q σ tgt lv st) : zG p l e R s m args below meth c nL E kc ks Q σ pc lv (.int x :: st) := by
  subst hx
  intro ls H locs h1 h2 h3
  exact lv_tableIn C.1.1 C.1.2.1 hd h5 h6 ho ht (k9 ls H locs h1 h2 h3)
theorem z_tabOut (C : zX p s m args meth c cc nL own rt E) {dflt lo hi : Int} {offs : Array Int} {len : Nat} {x : Int32} {tgt : Nat} (hd : decode cc pc = .ok (.tableswitch dflt lo hi offs, len)) (h5 : x.toInt < lo ∨ hi < x.toInt) (ht : (pc : Int) + dflt = (tgt : Int)) (k9 : zG p l e R s m args below meth c nL E kc ks Q σ tgt lv st) : zG p l e R s m args below meth c nL E kc ks Q σ pc lv (.int x :: st) := by
  intro ls H locs h1 h2 h3
  exact lv_tableOut C.1.1 C.1.2.1 hd h5 ht (k9 ls H locs h1 h2 h3)
theorem z_sub (ks9 : List Nat) (hl : lv_pick lv ks9 = lv') (k9 : zG p l e R s m args below meth c nL E kc ks Q σ pc lv' st) : zG p l e R s m args below meth c nL E kc ks Q σ pc lv st := fun ls H locs h1 h2 h3 => k9 ls H locs (lv_sub h1 ks9 hl) h2 h3
theorem z_get (C : zX p s m args meth c cc nL own rt E) {q i ci N index : Nat} {CC : String} {T : u_T} {fs : (Nat → Int32) → List Value} (hc : (q, i) ∈ zL) (hct : ∀ r, zct E q i r = .inr (ci, fs r)) (hcl : vwCl[ci]? = some (CC, T, N)) (hin : ∀ w ∈ u_ws CC T N, w ∈ zTB) (f : Nat) (hf : f < N) (hlink : Cond.fieldLink own index (T f).1 (T f).2.1 (T f).2.2.1 ∈ zTB) {v : Value} (hv : (fs (σ q i))[f]? = some v) (hd : decode cc pc = .ok (.getfield index, 3)) (hn : pc + 3 = pc') (k9 : zG p l e R s m args below meth c nL E kc ks Q σ pc' lv (v :: st)) : zG p l e R s m args below meth c nL E kc ks Q σ pc lv (.ref (E.2.2 q i) :: st) := by
  intro ls H locs h1 h2 h3
  subst hn
  obtain ⟨k, -, hk⟩ := zws_get E σ hc
  rw [hct] at hk
  exact va_get C.1.1 C.1.2.1 C.1.2.2.2.2 hin C.1.2.2.2.1 C.2.1 h2 k hk hcl f hf (C.1.2.2.2.2 _ hlink) (fun _ h9 => h9) hv hd (k9 ls H locs h1 h2 h3)
theorem z_put (C : zX p s m args meth c cc nL own rt E) {q i ci N index : Nat} {CC : String} {T : u_T} {fs : (Nat → Int32) → List Value} (hc : (q, i) ∈ zL) (hct : ∀ r, zct E q i r = .inr (ci, fs r)) (hcl : vwCl[ci]? = some (CC, T, N)) (hin : ∀ w ∈ u_ws CC T N, w ∈ zTB) (ty0 : Nat → FieldType) (hty : ∀ k, k < N → parseFieldDescriptor (T k).2.2.1 = some (ty0 k)) (hnm : ∀ a, a < N → ∀ b, b < N → a ≠ b → (T a).2.1 ≠ (T b).2.1) (f : Nat) (hf : f < N) (hlink : Cond.fieldLink own index (T f).1 (T f).2.1 (T f).2.2.1 ∈ zTB) (hfin : (T f).2.2.2 = false) {v : Value} {x : Int32} (hnar : narrow (ty0 f) v = v) (hfit : fits (ty0 f) v = true) (hlen : f < (fs (σ q i)).length) (hset : (fs (σ q i)).set f v = fs (upd (σ q i) f x)) (hd : decode cc pc = .ok (.putfield index, 3)) (hn : pc + 3 = pc') (k9 : zG p l e R s m args below meth c nL E kc ks Q (um σ q i f x) pc' lv st) : zG p l e R s m args below meth c nL E kc ks Q σ pc lv (v :: .ref (E.2.2 q i) :: st) := by
  intro ls H locs h1 h2 h3
  subst hn
  obtain ⟨k, hk0, hk⟩ := zws_get E σ hc
  rw [hct] at hk
  refine va_put C.1.1 C.1.2.1 C.1.2.2.2.2 hin ty0 hty hnm C.1.2.2.2.1 C.2.1 h2 (zD C.2.2.1 σ _) h3 k hk hcl f hf (C.1.2.2.2.2 _ hlink) (fun _ h9 => h9) hfin (hty f hf) hnar hfit hlen hd (fun H1 locs1 hP hD hS => ?_)
  refine k9 ls H1 locs1 h1 ?_ hS
  have e1 := zws_set E σ (um σ q i f x) hk0 (fun a b h => um_off σ q i f x h)
  rw [um_row, hct, ← hset] at e1
  show va_P E.1 vwCl (zws E (um σ q i f x)) H1
  rw [← e1]
  exact hP
theorem z_iald (C : zX p s m args meth c cc nL own rt E) {q i n : Nat} {x : Int32} (hc : (q, i) ∈ zL) (hct : ∀ r, zct E q i r = .inl (E.2.1 0, n, .inl r)) (hin : vp_in x n) (hd : decode cc pc = .ok (.iaload, 1)) (hn : pc + 1 = pc') (k9 : zG p l e R s m args below meth c nL E kc ks Q σ pc' lv (.int (σ q i x.toNatClampNeg) :: st)) : zG p l e R s m args below meth c nL E kc ks Q σ pc lv (.int x :: .ref (E.2.2 q i) :: st) := by
  intro ls H locs h1 h2 h3
  subst hn
  obtain ⟨k, -, hk⟩ := zws_get E σ hc
  rw [hct] at hk
  exact va_iald C.1.1 C.1.2.1 C.2.1 h2 k 0 hk rfl hin hd (k9 ls H locs h1 h2 h3)
theorem z_zald (C : zX p s m args meth c cc nL own rt E) {q i n : Nat} {x : Int32} (hc : (q, i) ∈ zL) (hct : ∀ r, zct E q i r = .inl (E.2.1 1, n, .inl r)) (hin : vp_in x n) (hd : decode cc pc = .ok (.baload, 1)) (hn : pc + 1 = pc') (k9 : zG p l e R s m args below meth c nL E kc ks Q σ pc' lv (.int (σ q i x.toNatClampNeg) :: st)) : zG p l e R s m args below meth c nL E kc ks Q σ pc lv (.int x :: .ref (E.2.2 q i) :: st) := by
  intro ls H locs h1 h2 h3
  subst hn
  obtain ⟨k, -, hk⟩ := zws_get E σ hc
  rw [hct] at hk
  exact va_zald C.1.1 C.1.2.1 C.2.1 h2 k 1 hk rfl hin hd (k9 ls H locs h1 h2 h3)
theorem z_bald (C : zX p s m args meth c cc nL own rt E) {q i n : Nat} {x : Int32} (hc : (q, i) ∈ zL) (hct : ∀ r, zct E q i r = .inl (E.2.1 2, n, .inl r)) (hin : vp_in x n) (hd : decode cc pc = .ok (.baload, 1)) (hn : pc + 1 = pc') (k9 : zG p l e R s m args below meth c nL E kc ks Q σ pc' lv (.int (σ q i x.toNatClampNeg) :: st)) : zG p l e R s m args below meth c nL E kc ks Q σ pc lv (.int x :: .ref (E.2.2 q i) :: st) := by
  intro ls H locs h1 h2 h3
  subst hn
  obtain ⟨k, -, hk⟩ := zws_get E σ hc
  rw [hct] at hk
  exact va_bald C.1.1 C.1.2.1 C.2.1 h2 k 2 hk rfl hin hd (k9 ls H locs h1 h2 h3)
theorem z_iast (C : zX p s m args meth c cc nL own rt E) {q i n : Nat} {x y : Int32} (hc : (q, i) ∈ zL) (hct : ∀ r, zct E q i r = .inl (E.2.1 0, n, .inl r)) (hin : vp_in x n) (hd : decode cc pc = .ok (.iastore, 1)) (hn : pc + 1 = pc') (k9 : zG p l e R s m args below meth c nL E kc ks Q (um σ q i x.toNatClampNeg y) pc' lv st) : zG p l e R s m args below meth c nL E kc ks Q σ pc lv (.int y :: .int x :: .ref (E.2.2 q i) :: st) := by
  intro ls H locs h1 h2 h3
  subst hn
  obtain ⟨k, hk0, hk⟩ := zws_get E σ hc
  rw [hct] at hk
  refine va_iast C.1.1 C.1.2.1 C.2.1 h2 (zD C.2.2.1 σ _) h3 k 0 hk rfl hin hd (fun H1 locs1 hP hD hS => ?_)
  refine k9 ls H1 locs1 h1 ?_ hS
  have e1 := zws_set E σ (um σ q i x.toNatClampNeg y) hk0 (fun a b h => um_off σ q i _ _ h)
  rw [um_row, hct] at e1
  show va_P E.1 vwCl (zws E (um σ q i x.toNatClampNeg y)) H1
  rw [← e1]
  exact hP
theorem z_zast (C : zX p s m args meth c cc nL own rt E) {q i n : Nat} {x y : Int32} (hc : (q, i) ∈ zL) (hct : ∀ r, zct E q i r = .inl (E.2.1 1, n, .inl r)) (hin : vp_in x n) (hd : decode cc pc = .ok (.bastore, 1)) (hn : pc + 1 = pc') (k9 : zG p l e R s m args below meth c nL E kc ks Q (um σ q i x.toNatClampNeg (vp_nar .boolean y)) pc' lv st) : zG p l e R s m args below meth c nL E kc ks Q σ pc lv (.int y :: .int x :: .ref (E.2.2 q i) :: st) := by
  intro ls H locs h1 h2 h3
  subst hn
  obtain ⟨k, hk0, hk⟩ := zws_get E σ hc
  rw [hct] at hk
  refine va_zast C.1.1 C.1.2.1 C.2.1 h2 (zD C.2.2.1 σ _) h3 k 1 hk rfl hin hd (fun H1 locs1 hP hD hS => ?_)
  refine k9 ls H1 locs1 h1 ?_ hS
  have e1 := zws_set E σ (um σ q i x.toNatClampNeg (vp_nar .boolean y)) hk0 (fun a b h => um_off σ q i _ _ h)
  rw [um_row, hct] at e1
  show va_P E.1 vwCl (zws E (um σ q i x.toNatClampNeg (vp_nar .boolean y))) H1
  rw [← e1]
  exact hP
theorem z_bast (C : zX p s m args meth c cc nL own rt E) {q i n : Nat} {x y : Int32} (hc : (q, i) ∈ zL) (hct : ∀ r, zct E q i r = .inl (E.2.1 2, n, .inl r)) (hin : vp_in x n) (hd : decode cc pc = .ok (.bastore, 1)) (hn : pc + 1 = pc') (k9 : zG p l e R s m args below meth c nL E kc ks Q (um σ q i x.toNatClampNeg (vp_nar .byte y)) pc' lv st) : zG p l e R s m args below meth c nL E kc ks Q σ pc lv (.int y :: .int x :: .ref (E.2.2 q i) :: st) := by
  intro ls H locs h1 h2 h3
  subst hn
  obtain ⟨k, hk0, hk⟩ := zws_get E σ hc
  rw [hct] at hk
  refine va_bast C.1.1 C.1.2.1 C.2.1 h2 (zD C.2.2.1 σ _) h3 k 2 hk rfl hin hd (fun H1 locs1 hP hD hS => ?_)
  refine k9 ls H1 locs1 h1 ?_ hS
  have e1 := zws_set E σ (um σ q i x.toNatClampNeg (vp_nar .byte y)) hk0 (fun a b h => um_off σ q i _ _ h)
  rw [um_row, hct] at e1
  show va_P E.1 vwCl (zws E (um σ q i x.toNatClampNeg (vp_nar .byte y))) H1
  rw [← e1]
  exact hP
theorem z_aald (C : zX p s m args meth c cc nL own rt E) {q i n t0 q2 : Nat} {CC : String} {x : Int32} (hc : (q, i) ∈ zL) (hct : ∀ r, zct E q i r = .inl (E.2.1 t0, n, .inr (.inr (.inr (.inr (fun j => some (E.2.2 q2 j))))))) (ht : (zTy E.2.1)[t0]? = some (E.2.1 t0, .object CC)) (hin : vp_in x n) (hd : decode cc pc = .ok (.aaload, 1)) (hn : pc + 1 = pc') (k9 : zG p l e R s m args below meth c nL E kc ks Q σ pc' lv (.ref (E.2.2 q2 x.toNatClampNeg) :: st)) : zG p l e R s m args below meth c nL E kc ks Q σ pc lv (.int x :: .ref (E.2.2 q i) :: st) := by
  intro ls H locs h1 h2 h3
  subst hn
  obtain ⟨k, -, hk⟩ := zws_get E σ hc
  rw [hct] at hk
  exact va_aldq C.1.1 C.1.2.1 C.2.1 h2 k t0 hk ht hin hd (k9 ls H locs h1 h2 h3)
theorem z_alen (C : zX p s m args meth c cc nL own rt E) {q i n t0 : Nat} {x9 : (Nat → Int32) ⊕ (Nat → Int64) ⊕ (Nat → UInt32) ⊕ (Nat → UInt64) ⊕ (Nat → Option Nat)} {ty : FieldType} {v : Int32} (hc : (q, i) ∈ zL) (hct : zct E q i (σ q i) = .inl (E.2.1 t0, n, x9)) (ht : (zTy E.2.1)[t0]? = some (E.2.1 t0, ty)) (hv : Int32.ofNat n = v) (hd : decode cc pc = .ok (.arraylength, 1)) (hn : pc + 1 = pc') (k9 : zG p l e R s m args below meth c nL E kc ks Q σ pc' lv (.int v :: st)) : zG p l e R s m args below meth c nL E kc ks Q σ pc lv (.ref (E.2.2 q i) :: st) := by
  intro ls H locs h1 h2 h3
  subst hn
  obtain ⟨k, -, hk⟩ := zws_get E σ hc
  rw [hct] at hk
  exact va_alen C.1.1 C.1.2.1 C.2.1 h2 k t0 hk ht hv hd (k9 ls H locs h1 h2 h3)
theorem z_mmax (C : zX p s m args meth c cc nL own rt E) {index : Nat} {x y : Int32} (hw : Cond.methodLink own index Lib.Math.max.name ∈ zTB ∧ Cond.static Lib.Math.max.name ∈ zTB ∧ Cond.initialized "java/lang/Math" ∈ zTB ∧ Cond.code Lib.Math.max.name Lib.Math.max.code 2 (some .int) ∈ zTB) (hf : 1 ≤ R.frames) (hl : (st.map fun v => v.category).sum + 13 ≤ R.locals) (hkc : kc ≤ R.cells) (hks : ks ≤ R.slots) (hd : decode cc pc = .ok (.invokestatic index, 3)) (hn : pc + 3 = pc') (k9 : zG p l e R s m args below meth c nL E kc ks Q σ pc' lv (.int (if x < y then y else x) :: st)) : zG p l e R s m args below meth c nL E kc ks Q σ pc lv (.int y :: .int x :: st) := by
  intro ls H locs h1 h2 h3
  subst hn
  exact va_mmax C.1.1 C.1.2.1 (C.1.2.2.1.trans h1.1.symm) C.1.2.2.2.1 (C.1.2.2.2.2 _ hw.1) (C.1.2.2.2.2 _ hw.2.1) (C.1.2.2.2.2 _ hw.2.2.1) (C.1.2.2.2.2 _ hw.2.2.2) hf hl hkc hks hd (k9 ls H locs h1 h2 h3)
theorem z_mmin (C : zX p s m args meth c cc nL own rt E) {index : Nat} {x y : Int32} (hw : Cond.methodLink own index Lib.Math.min.name ∈ zTB ∧ Cond.static Lib.Math.min.name ∈ zTB ∧ Cond.initialized "java/lang/Math" ∈ zTB ∧ Cond.code Lib.Math.min.name Lib.Math.min.code 2 (some .int) ∈ zTB) (hf : 1 ≤ R.frames) (hl : (st.map fun v => v.category).sum + 13 ≤ R.locals) (hkc : kc ≤ R.cells) (hks : ks ≤ R.slots) (hd : decode cc pc = .ok (.invokestatic index, 3)) (hn : pc + 3 = pc') (k9 : zG p l e R s m args below meth c nL E kc ks Q σ pc' lv (.int (if y < x then y else x) :: st)) : zG p l e R s m args below meth c nL E kc ks Q σ pc lv (.int y :: .int x :: st) := by
  intro ls H locs h1 h2 h3
  subst hn
  exact va_mmin C.1.1 C.1.2.1 (C.1.2.2.1.trans h1.1.symm) C.1.2.2.2.1 (C.1.2.2.2.2 _ hw.1) (C.1.2.2.2.2 _ hw.2.1) (C.1.2.2.2.2 _ hw.2.2.1) (C.1.2.2.2.2 _ hw.2.2.2) hf hl hkc hks hd (k9 ls H locs h1 h2 h3)
theorem z_mabs (C : zX p s m args meth c cc nL own rt E) {index : Nat} {x : Int32} (hw : Cond.methodLink own index Lib.Math.abs.name ∈ zTB ∧ Cond.static Lib.Math.abs.name ∈ zTB ∧ Cond.initialized "java/lang/Math" ∈ zTB ∧ Cond.code Lib.Math.abs.name Lib.Math.abs.code 1 (some .int) ∈ zTB) (hf : 1 ≤ R.frames) (hl : (st.map fun v => v.category).sum + 13 ≤ R.locals) (hkc : kc ≤ R.cells) (hks : ks ≤ R.slots) (hd : decode cc pc = .ok (.invokestatic index, 3)) (hn : pc + 3 = pc') (k9 : zG p l e R s m args below meth c nL E kc ks Q σ pc' lv (.int (if 0 ≤ x then x else 0 - x) :: st)) : zG p l e R s m args below meth c nL E kc ks Q σ pc lv (.int x :: st) := by
  intro ls H locs h1 h2 h3
  subst hn
  exact va_mabs C.1.1 C.1.2.1 (C.1.2.2.1.trans h1.1.symm) C.1.2.2.2.1 (C.1.2.2.2.2 _ hw.1) (C.1.2.2.2.2 _ hw.2.1) (C.1.2.2.2.2 _ hw.2.2.1) (C.1.2.2.2.2 _ hw.2.2.2) hf hl hkc hks hd (k9 ls H locs h1 h2 h3)
theorem z_iret {Q9 : Int32 → zMem → Prop} {v : Int32} (C : zX p s m args meth c cc nL own (some .int) E) (hd : decode cc pc = .ok (.ireturn, 1)) (hq : Q9 v σ) : zG p l e R s m args below meth c nL E 0 0  (MQ below (va_Qi Q9 (zPost E) (zA E s.heap.size)) args s 0 0 (zA E s.heap.size)) σ pc lv [.int v] := by
  intro ls H locs h1 h2 h3
  have hlocks := C.2.2.2.2
  exact W.iret C.1.1 C.1.2.1 C.2.2.2.1 (fun t ht hW => ⟨⟨v, σ, rfl, hq, by rw [zPost, ht]; exact ⟨h2, va_K.moved hW.alike C.2.1⟩⟩, h3.F ht⟩) h3.2.2 hd
theorem z_zret {Q9 : Int32 → zMem → Prop} {v : Int32} {ty : FieldType} (C : zX p s m args meth c cc nL own (some ty) E) (hnar : narrow ty (.int v) = .int v) (hd : decode cc pc = .ok (.ireturn, 1)) (hq : Q9 v σ) : zG p l e R s m args below meth c nL E 0 0  (MQ below (va_Qi Q9 (zPost E) (zA E s.heap.size)) args s 0 0 (zA E s.heap.size)) σ pc lv [.int v] := by
  intro ls H locs h1 h2 h3
  have hlocks := C.2.2.2.2
  exact W.zret C.1.1 C.1.2.1 C.2.2.2.1 hnar (fun t ht hW => ⟨⟨v, σ, rfl, hq, by rw [zPost, ht]; exact ⟨h2, va_K.moved hW.alike C.2.1⟩⟩, h3.F ht⟩) h3.2.2 hd
theorem z_lret {Q9 : Int64 → zMem → Prop} {v : Int64} (C : zX p s m args meth c cc nL own (some .long) E) (hd : decode cc pc = .ok (.lreturn, 1)) (hq : Q9 v σ) : zG p l e R s m args below meth c nL E 0 0  (MQ below (va_Ql Q9 (zPost E) (zA E s.heap.size)) args s 0 0 (zA E s.heap.size)) σ pc lv [.long v] := by
  intro ls H locs h1 h2 h3
  have hlocks := C.2.2.2.2
  exact W.lret C.1.1 C.1.2.1 C.2.2.2.1 (fun t ht hW => ⟨⟨v, σ, rfl, hq, by rw [zPost, ht]; exact ⟨h2, va_K.moved hW.alike C.2.1⟩⟩, h3.F ht⟩) h3.2.2 hd
theorem z_vret {Q9 : zMem → Prop} (C : zX p s m args meth c cc nL own none E) (hd : decode cc pc = .ok (.return_, 1)) (hq : Q9 σ) : zG p l e R s m args below meth c nL E 0 0  (MQ below (va_Qv Q9 (zPost E) (zA E s.heap.size)) args s 0 0 (zA E s.heap.size)) σ pc lv [] := by
  intro ls H locs h1 h2 h3
  have hlocks := C.2.2.2.2
  exact W.vret C.1.1 C.1.2.1 C.2.2.2.1 (fun t ht hW => ⟨⟨σ, rfl, hq, by rw [zPost, ht]; exact ⟨h2, va_K.moved hW.alike C.2.1⟩⟩, h3.F ht⟩) h3.2.2 hd
theorem zMi_of {y : MethodName} {cc : ByteArray} {nL fr lo : Nat} {ty : FieldType} {E : zE} {av : List Value} {σ : zMem} {Q9 : Int32 → zMem → Prop} (hy : plainName y.cls = true) (hlen : (lg_sl av).length ≤ nL) (body : ∀ (p : Program) (e : Env) (s : State) (m : MethodId) (args : Array Value) (below : List Frame) (meth : Method) (c : Code), zX p s m args meth c cc nL y.cls (some ty) E → zG p l e (zRm fr lo) s m args below meth c nL E 0 0 (MQ below (va_Qi Q9 (zPost E) (zA E s.heap.size)) args s 0 0 (zA E s.heap.size)) σ 0 (lv_args 0 av) []) : zMi l y cc nL ty fr lo E av σ Q9 := by
  intro sz
  refine Met.ofW (cc := cc) (maxL := nL) (ret := (some ty)) hy rfl ?_
  intro p e s m args below meth c s₁ B hml hv
  obtain ⟨rfl, hsz, hP, hK, hI⟩ := hv
  subst hsz
  have hts := atoms_spec (ws := Cond.code y cc nL (some ty) :: zTB) B.pre
  have C : zX p s m av.toArray meth c cc nL y.cls (some ty) E := ⟨⟨B.exec, B.bytes, hml, findClass_of_methodNamed B.named, fun w hw => hts w (List.mem_cons_of_mem _ hw)⟩, hK, hI, B.returns, B.notSynchronized⟩
  have hl := lv_entry av (n := nL) hlen
  rw [lg_entry_eq]
  exact body p e s m _ below meth c C _ _ _ hl hP va_S.rf
theorem zMl_of {y : MethodName} {cc : ByteArray} {nL fr lo : Nat} {E : zE} {av : List Value} {σ : zMem} {Q9 : Int64 → zMem → Prop} (hy : plainName y.cls = true) (hlen : (lg_sl av).length ≤ nL) (body : ∀ (p : Program) (e : Env) (s : State) (m : MethodId) (args : Array Value) (below : List Frame) (meth : Method) (c : Code), zX p s m args meth c cc nL y.cls (some .long) E → zG p l e (zRm fr lo) s m args below meth c nL E 0 0 (MQ below (va_Ql Q9 (zPost E) (zA E s.heap.size)) args s 0 0 (zA E s.heap.size)) σ 0 (lv_args 0 av) []) : zMl l y cc nL fr lo E av σ Q9 := by
  intro sz
  refine Met.ofW (cc := cc) (maxL := nL) (ret := (some .long)) hy rfl ?_
  intro p e s m args below meth c s₁ B hml hv
  obtain ⟨rfl, hsz, hP, hK, hI⟩ := hv
  subst hsz
  have hts := atoms_spec (ws := Cond.code y cc nL (some .long) :: zTB) B.pre
  have C : zX p s m av.toArray meth c cc nL y.cls (some .long) E := ⟨⟨B.exec, B.bytes, hml, findClass_of_methodNamed B.named, fun w hw => hts w (List.mem_cons_of_mem _ hw)⟩, hK, hI, B.returns, B.notSynchronized⟩
  have hl := lv_entry av (n := nL) hlen
  rw [lg_entry_eq]
  exact body p e s m _ below meth c C _ _ _ hl hP va_S.rf
theorem zMv_of {y : MethodName} {cc : ByteArray} {nL fr lo : Nat} {E : zE} {av : List Value} {σ : zMem} {Q9 : zMem → Prop} (hy : plainName y.cls = true) (hlen : (lg_sl av).length ≤ nL) (body : ∀ (p : Program) (e : Env) (s : State) (m : MethodId) (args : Array Value) (below : List Frame) (meth : Method) (c : Code), zX p s m args meth c cc nL y.cls none E → zG p l e (zRm fr lo) s m args below meth c nL E 0 0 (MQ below (va_Qv Q9 (zPost E) (zA E s.heap.size)) args s 0 0 (zA E s.heap.size)) σ 0 (lv_args 0 av) []) : zMv l y cc nL fr lo E av σ Q9 := by
  intro sz
  refine Met.ofW (cc := cc) (maxL := nL) (ret := none) hy rfl ?_
  intro p e s m args below meth c s₁ B hml hv
  obtain ⟨rfl, hsz, hP, hK, hI⟩ := hv
  subst hsz
  have hts := atoms_spec (ws := Cond.code y cc nL none :: zTB) B.pre
  have C : zX p s m av.toArray meth c cc nL y.cls none E := ⟨⟨B.exec, B.bytes, hml, findClass_of_methodNamed B.named, fun w hw => hts w (List.mem_cons_of_mem _ hw)⟩, hK, hI, B.returns, B.notSynchronized⟩
  have hl := lv_entry av (n := nL) hlen
  rw [lg_entry_eq]
  exact body p e s m _ below meth c C _ _ _ hl hP va_S.rf
/-- the words of a call -/
def zWs (own : String) (index : Nat) (y : MethodName) (cc : ByteArray) (nL : Nat) (rt : Option FieldType) (N : Nat) : Prop := Cond.code y cc nL rt ∈ zTB ∧ Cond.methodLink own index y ∈ zTB ∧ Cond.initialized y.cls ∈ zTB ∧ (y.cls ≠ "java/lang/invoke/MethodHandle" ∧ y.cls ≠ "java/lang/invoke/VarHandle" ∧ (parseMethodDescriptor y.desc).map (fun d => d.parameters.length) = some N)
theorem zCB {y : MethodName} {cc' : ByteArray} {nL' fr lo index N : Nat} {rt' : Option FieldType} (C : zX p s m args meth c cc nL own rt E) (hw : zWs own index y cc' nL' rt' N) (hR : fr + 1 ≤ R.frames ∧ 8 + (nL' + 11) + lo ≤ R.locals) : CallB R s args own index y cc' nL' rt' (Cond.code y cc' nL' rt' :: zTB) (zRm fr lo) 0 0 N :=
  callB_of N C.1.2.2.2.2 (zGood hw.1) rfl rfl rfl (C.1.2.2.2.2 _ hw.2.2.1) (C.1.2.2.2.2 _ hw.2.1) hw.2.2.2 hR
theorem zPS {H : Heap} {locs : List Loc} {As : List Value} (C : zX p s m args meth c cc nL own rt E) (h2 : zP E σ H) : PreS s H (va_Pc As (zPre E σ H.size)) As :=
  ⟨zPre_blind, fun U hU hW => ⟨rfl, by rw [hU], by rw [hU]; exact h2, va_K.moved hW.alike C.2.1, C.2.2.1⟩⟩
theorem zPV {H : Heap} {As : List Value} {q i ci : Nat} {fs : List Value} {w9 : vw_C} (C : zX p s m args meth c cc nL own rt E) (h2 : zP E σ H) (hc : (q, i) ∈ zL) (hct : zct E q i (σ q i) = .inr (ci, fs)) (hcl : vwCl[ci]? = some w9) : PreV s H w9.1 (E.2.2 q i) (va_Pc (.ref (E.2.2 q i) :: As) (zPre E σ H.size)) As := by
  obtain ⟨k, -, hk⟩ := zws_get E σ hc
  rw [hct] at hk
  exact ⟨zPre_blind, va_recv C.2.1 h2 hcl hk, fun U hU hW => ⟨rfl, by rw [hU], by rw [hU]; exact h2, va_K.moved hW.alike C.2.1, C.2.2.1⟩⟩
theorem zfree {H : Heap} {locs : List Loc} (h3 : va_S (zA E s.heap.size) s.heap H locs) : ∀ q, zA E H.size q → zA E s.heap.size q := fun q h => zA_up h h3.1
theorem z_callSi (C : zX p s m args meth c cc nL own rt E) {y : MethodName} {cc' : ByteArray} {nL' fr lo index N : Nat} {ty : FieldType} {As st0 : List Value} {Q9 : Int32 → zMem → Prop} (hM : zMi l y cc' nL' ty fr lo E As σ Q9) (hw : zWs own index y cc' nL' (some ty) N) (hws : Cond.static y ∈ zTB) (hR : fr + 1 ≤ R.frames ∧ 8 + (nL' + 11) + lo ≤ R.locals) (hkc : kc ≤ R.cells ∧ ks ≤ R.slots) (hN : As.length = N) (hst : st0 = As.reverse ++ st) (hW : (st.map fun v => v.category).sum ≤ 8) (hd : decode cc pc = .ok (.invokestatic index, 3)) (hn : pc + 3 = pc') (k9 : ∀ (r : Int32) (u : zMem), Q9 r u → zG p l e R s m args below meth c nL E kc ks Q u pc' lv (.int r :: st)) : zG p l e R s m args below meth c nL E kc ks Q σ pc lv st0 := by
  intro ls H locs h1 h2 h3
  subst hn
  subst hst
  refine va_calli (va_runS (As := As) (rest := st) C.1 (hM H.size) ⟨zCB C hw hR, C.1.2.2.2.2 _ hws⟩ (zPS (locs := locs) C h2) rfl hN h1.1 rfl (lv_room hW) hd hkc) h3 (fun q _ h => zfree h3 q h) (zfree h3) (fun r u t H1 locs1 ht hvm hq hB hz hk1 hS => ?_)
  exact k9 r u hq ls H1 locs1 h1 (by rw [← ht]; exact hB.1) hS
theorem z_callVi (C : zX p s m args meth c cc nL own rt E) {y : MethodName} {cc' : ByteArray} {nL' fr lo index N q i ci : Nat} {ty : FieldType} {As st0 : List Value} {Q9 : Int32 → zMem → Prop} {fs : List Value} {w9 : vw_C} (hM : zMi l y cc' nL' ty fr lo E (.ref (E.2.2 q i) :: As) σ Q9) (hw : zWs own index y cc' nL' (some ty) N) (hwi : Cond.instanceMethod y ∈ zTB) (hws : Cond.selects w9.1 y y ∈ zTB) (hc : (q, i) ∈ zL) (hct : zct E q i (σ q i) = .inr (ci, fs)) (hcl : vwCl[ci]? = some w9) (hR : fr + 1 ≤ R.frames ∧ 8 + (nL' + 11) + lo ≤ R.locals) (hkc : kc ≤ R.cells ∧ ks ≤ R.slots) (hN : As.length = N) (hst : st0 = As.reverse ++ .ref (E.2.2 q i) :: st) (hW : (st.map fun v => v.category).sum ≤ 8) (hd : decode cc pc = .ok (.invokevirtual index, 3)) (hn : pc + 3 = pc') (k9 : ∀ (r : Int32) (u : zMem), Q9 r u → zG p l e R s m args below meth c nL E kc ks Q u pc' lv (.int r :: st)) : zG p l e R s m args below meth c nL E kc ks Q σ pc lv st0 := by
  intro ls H locs h1 h2 h3
  subst hn
  subst hst
  refine va_calli (va_runV (C := w9.1) (b := E.2.2 q i) (As := As) (rest := st) C.1 (hM H.size) ⟨zCB C hw hR, C.1.2.2.2.2 _ hwi, C.1.2.2.2.2 _ hws⟩ (zPV C h2 hc hct hcl) rfl hN h1.1 rfl (lv_room hW) hd hkc) h3 (fun q _ h => zfree h3 q h) (zfree h3) (fun r u t H1 locs1 ht hvm hq hB hz hk1 hS => ?_)
  exact k9 r u hq ls H1 locs1 h1 (by rw [← ht]; exact hB.1) hS
theorem z_callSl (C : zX p s m args meth c cc nL own rt E) {y : MethodName} {cc' : ByteArray} {nL' fr lo index N : Nat} {As st0 : List Value} {Q9 : Int64 → zMem → Prop} (hM : zMl l y cc' nL' fr lo E As σ Q9) (hw : zWs own index y cc' nL' (some .long) N) (hws : Cond.static y ∈ zTB) (hR : fr + 1 ≤ R.frames ∧ 8 + (nL' + 11) + lo ≤ R.locals) (hkc : kc ≤ R.cells ∧ ks ≤ R.slots) (hN : As.length = N) (hst : st0 = As.reverse ++ st) (hW : (st.map fun v => v.category).sum ≤ 8) (hd : decode cc pc = .ok (.invokestatic index, 3)) (hn : pc + 3 = pc') (k9 : ∀ (r : Int64) (u : zMem), Q9 r u → zG p l e R s m args below meth c nL E kc ks Q u pc' lv (.long r :: st)) : zG p l e R s m args below meth c nL E kc ks Q σ pc lv st0 := by
  intro ls H locs h1 h2 h3
  subst hn
  subst hst
  refine va_calll (va_runS (As := As) (rest := st) C.1 (hM H.size) ⟨zCB C hw hR, C.1.2.2.2.2 _ hws⟩ (zPS (locs := locs) C h2) rfl hN h1.1 rfl (lv_room hW) hd hkc) h3 (fun q _ h => zfree h3 q h) (zfree h3) (fun r u t H1 locs1 ht hvm hq hB hz hk1 hS => ?_)
  exact k9 r u hq ls H1 locs1 h1 (by rw [← ht]; exact hB.1) hS
theorem z_callVl (C : zX p s m args meth c cc nL own rt E) {y : MethodName} {cc' : ByteArray} {nL' fr lo index N q i ci : Nat} {As st0 : List Value} {Q9 : Int64 → zMem → Prop} {fs : List Value} {w9 : vw_C} (hM : zMl l y cc' nL' fr lo E (.ref (E.2.2 q i) :: As) σ Q9) (hw : zWs own index y cc' nL' (some .long) N) (hwi : Cond.instanceMethod y ∈ zTB) (hws : Cond.selects w9.1 y y ∈ zTB) (hc : (q, i) ∈ zL) (hct : zct E q i (σ q i) = .inr (ci, fs)) (hcl : vwCl[ci]? = some w9) (hR : fr + 1 ≤ R.frames ∧ 8 + (nL' + 11) + lo ≤ R.locals) (hkc : kc ≤ R.cells ∧ ks ≤ R.slots) (hN : As.length = N) (hst : st0 = As.reverse ++ .ref (E.2.2 q i) :: st) (hW : (st.map fun v => v.category).sum ≤ 8) (hd : decode cc pc = .ok (.invokevirtual index, 3)) (hn : pc + 3 = pc') (k9 : ∀ (r : Int64) (u : zMem), Q9 r u → zG p l e R s m args below meth c nL E kc ks Q u pc' lv (.long r :: st)) : zG p l e R s m args below meth c nL E kc ks Q σ pc lv st0 := by
  intro ls H locs h1 h2 h3
  subst hn
  subst hst
  refine va_calll (va_runV (C := w9.1) (b := E.2.2 q i) (As := As) (rest := st) C.1 (hM H.size) ⟨zCB C hw hR, C.1.2.2.2.2 _ hwi, C.1.2.2.2.2 _ hws⟩ (zPV C h2 hc hct hcl) rfl hN h1.1 rfl (lv_room hW) hd hkc) h3 (fun q _ h => zfree h3 q h) (zfree h3) (fun r u t H1 locs1 ht hvm hq hB hz hk1 hS => ?_)
  exact k9 r u hq ls H1 locs1 h1 (by rw [← ht]; exact hB.1) hS
theorem z_callSv (C : zX p s m args meth c cc nL own rt E) {y : MethodName} {cc' : ByteArray} {nL' fr lo index N : Nat} {As st0 : List Value} {Q9 : zMem → Prop} (hM : zMv l y cc' nL' fr lo E As σ Q9) (hw : zWs own index y cc' nL' none N) (hws : Cond.static y ∈ zTB) (hR : fr + 1 ≤ R.frames ∧ 8 + (nL' + 11) + lo ≤ R.locals) (hkc : kc ≤ R.cells ∧ ks ≤ R.slots) (hN : As.length = N) (hst : st0 = As.reverse ++ st) (hW : (st.map fun v => v.category).sum ≤ 8) (hd : decode cc pc = .ok (.invokestatic index, 3)) (hn : pc + 3 = pc') (k9 : ∀ (u : zMem), Q9 u → zG p l e R s m args below meth c nL E kc ks Q u pc' lv st) : zG p l e R s m args below meth c nL E kc ks Q σ pc lv st0 := by
  intro ls H locs h1 h2 h3
  subst hn
  subst hst
  refine va_callv (va_runS (As := As) (rest := st) C.1 (hM H.size) ⟨zCB C hw hR, C.1.2.2.2.2 _ hws⟩ (zPS (locs := locs) C h2) rfl hN h1.1 rfl (lv_room hW) hd hkc) h3 (fun q _ h => zfree h3 q h) (zfree h3) (fun u t H1 locs1 ht hvm hq hB hz hk1 hS => ?_)
  exact k9 u hq ls H1 locs1 h1 (by rw [← ht]; exact hB.1) hS
theorem z_callVv (C : zX p s m args meth c cc nL own rt E) {y : MethodName} {cc' : ByteArray} {nL' fr lo index N q i ci : Nat} {As st0 : List Value} {Q9 : zMem → Prop} {fs : List Value} {w9 : vw_C} (hM : zMv l y cc' nL' fr lo E (.ref (E.2.2 q i) :: As) σ Q9) (hw : zWs own index y cc' nL' none N) (hwi : Cond.instanceMethod y ∈ zTB) (hws : Cond.selects w9.1 y y ∈ zTB) (hc : (q, i) ∈ zL) (hct : zct E q i (σ q i) = .inr (ci, fs)) (hcl : vwCl[ci]? = some w9) (hR : fr + 1 ≤ R.frames ∧ 8 + (nL' + 11) + lo ≤ R.locals) (hkc : kc ≤ R.cells ∧ ks ≤ R.slots) (hN : As.length = N) (hst : st0 = As.reverse ++ .ref (E.2.2 q i) :: st) (hW : (st.map fun v => v.category).sum ≤ 8) (hd : decode cc pc = .ok (.invokevirtual index, 3)) (hn : pc + 3 = pc') (k9 : ∀ (u : zMem), Q9 u → zG p l e R s m args below meth c nL E kc ks Q u pc' lv st) : zG p l e R s m args below meth c nL E kc ks Q σ pc lv st0 := by
  intro ls H locs h1 h2 h3
  subst hn
  subst hst
  refine va_callv (va_runV (C := w9.1) (b := E.2.2 q i) (As := As) (rest := st) C.1 (hM H.size) ⟨zCB C hw hR, C.1.2.2.2.2 _ hwi, C.1.2.2.2.2 _ hws⟩ (zPV C h2 hc hct hcl) rfl hN h1.1 rfl (lv_room hW) hd hkc) h3 (fun q _ h => zfree h3 q h) (zfree h3) (fun u t H1 locs1 ht hvm hq hB hz hk1 hS => ?_)
  exact k9 u hq ls H1 locs1 h1 (by rw [← ht]; exact hB.1) hS
end ZR
end
section
theorem zr1 : ∀ w ∈ wsL_law0_r1, w ∈ zTB := fun w h => List.mem_append_left _ (List.mem_append_left _ (List.mem_append_left _ (List.mem_append_left _ (List.mem_append_left _ (List.mem_append_left _ (List.mem_append_left _ (List.mem_append_left _ (List.mem_append_left _ (List.mem_append_left _ (List.mem_append_left _ (List.mem_append_left _ (List.mem_append_left _ (List.mem_append_left _ h)))))))))))))
theorem zr2 : ∀ w ∈ wsL_law0_r2, w ∈ zTB := fun w h => List.mem_append_left _ (List.mem_append_left _ (List.mem_append_left _ (List.mem_append_left _ (List.mem_append_left _ (List.mem_append_left _ (List.mem_append_left _ (List.mem_append_left _ (List.mem_append_left _ (List.mem_append_left _ (List.mem_append_left _ (List.mem_append_left _ (List.mem_append_left _ (List.mem_append_right _ (List.mem_append_left _ h))))))))))))))
theorem zr3 : ∀ w ∈ wsL_law0_r3, w ∈ zTB := fun w h => List.mem_append_left _ (List.mem_append_left _ (List.mem_append_left _ (List.mem_append_left _ (List.mem_append_left _ (List.mem_append_left _ (List.mem_append_left _ (List.mem_append_left _ (List.mem_append_left _ (List.mem_append_left _ (List.mem_append_left _ (List.mem_append_left _ (List.mem_append_left _ (List.mem_append_right _ (List.mem_append_right _ (List.mem_append_left _ h)))))))))))))))
theorem zr4 : ∀ w ∈ wsL_law0_r4, w ∈ zTB := fun w h => List.mem_append_left _ (List.mem_append_left _ (List.mem_append_left _ (List.mem_append_left _ (List.mem_append_left _ (List.mem_append_left _ (List.mem_append_left _ (List.mem_append_left _ (List.mem_append_left _ (List.mem_append_left _ (List.mem_append_left _ (List.mem_append_left _ (List.mem_append_left _ (List.mem_append_right _ (List.mem_append_right _ (List.mem_append_right _ (List.mem_append_left _ h))))))))))))))))
theorem zr5 : ∀ w ∈ wsL_law0_r5, w ∈ zTB := fun w h => List.mem_append_left _ (List.mem_append_left _ (List.mem_append_left _ (List.mem_append_left _ (List.mem_append_left _ (List.mem_append_left _ (List.mem_append_left _ (List.mem_append_left _ (List.mem_append_left _ (List.mem_append_left _ (List.mem_append_left _ (List.mem_append_left _ (List.mem_append_left _ (List.mem_append_right _ (List.mem_append_right _ (List.mem_append_right _ (List.mem_append_right _ (List.mem_append_left _ h)))))))))))))))))
theorem zr6 : ∀ w ∈ wsL_law0_r6, w ∈ zTB := fun w h => List.mem_append_left _ (List.mem_append_left _ (List.mem_append_left _ (List.mem_append_left _ (List.mem_append_left _ (List.mem_append_left _ (List.mem_append_left _ (List.mem_append_left _ (List.mem_append_left _ (List.mem_append_left _ (List.mem_append_left _ (List.mem_append_left _ (List.mem_append_left _ (List.mem_append_right _ (List.mem_append_right _ (List.mem_append_right _ (List.mem_append_right _ (List.mem_append_right _ (List.mem_append_left _ h))))))))))))))))))
theorem zr7 : ∀ w ∈ wsL_law0_r7, w ∈ zTB := fun w h => List.mem_append_left _ (List.mem_append_left _ (List.mem_append_left _ (List.mem_append_left _ (List.mem_append_left _ (List.mem_append_left _ (List.mem_append_left _ (List.mem_append_left _ (List.mem_append_left _ (List.mem_append_left _ (List.mem_append_left _ (List.mem_append_left _ (List.mem_append_left _ (List.mem_append_right _ (List.mem_append_right _ (List.mem_append_right _ (List.mem_append_right _ (List.mem_append_right _ (List.mem_append_right _ (List.mem_append_left _ h)))))))))))))))))))
theorem zr8 : ∀ w ∈ wsL_law0_r8, w ∈ zTB := fun w h => List.mem_append_left _ (List.mem_append_left _ (List.mem_append_left _ (List.mem_append_left _ (List.mem_append_left _ (List.mem_append_left _ (List.mem_append_left _ (List.mem_append_left _ (List.mem_append_left _ (List.mem_append_left _ (List.mem_append_left _ (List.mem_append_left _ (List.mem_append_left _ (List.mem_append_right _ (List.mem_append_right _ (List.mem_append_right _ (List.mem_append_right _ (List.mem_append_right _ (List.mem_append_right _ (List.mem_append_right _ (List.mem_append_left _ h))))))))))))))))))))
theorem zr9 : ∀ w ∈ wsL_law0_r9, w ∈ zTB := fun w h => List.mem_append_left _ (List.mem_append_left _ (List.mem_append_left _ (List.mem_append_left _ (List.mem_append_left _ (List.mem_append_left _ (List.mem_append_left _ (List.mem_append_left _ (List.mem_append_left _ (List.mem_append_left _ (List.mem_append_left _ (List.mem_append_left _ (List.mem_append_left _ (List.mem_append_right _ (List.mem_append_right _ (List.mem_append_right _ (List.mem_append_right _ (List.mem_append_right _ (List.mem_append_right _ (List.mem_append_right _ (List.mem_append_right _ (List.mem_append_left _ h)))))))))))))))))))))
theorem zr10 : ∀ w ∈ wsL_law0_r10, w ∈ zTB := fun w h => List.mem_append_left _ (List.mem_append_left _ (List.mem_append_left _ (List.mem_append_left _ (List.mem_append_left _ (List.mem_append_left _ (List.mem_append_left _ (List.mem_append_left _ (List.mem_append_left _ (List.mem_append_left _ (List.mem_append_left _ (List.mem_append_left _ (List.mem_append_left _ (List.mem_append_right _ (List.mem_append_right _ (List.mem_append_right _ (List.mem_append_right _ (List.mem_append_right _ (List.mem_append_right _ (List.mem_append_right _ (List.mem_append_right _ (List.mem_append_right _ (List.mem_append_left _ h))))))))))))))))))))))
theorem zr11 : ∀ w ∈ wsL_law0_r11, w ∈ zTB := fun w h => List.mem_append_left _ (List.mem_append_left _ (List.mem_append_left _ (List.mem_append_left _ (List.mem_append_left _ (List.mem_append_left _ (List.mem_append_left _ (List.mem_append_left _ (List.mem_append_left _ (List.mem_append_left _ (List.mem_append_left _ (List.mem_append_left _ (List.mem_append_left _ (List.mem_append_right _ (List.mem_append_right _ (List.mem_append_right _ (List.mem_append_right _ (List.mem_append_right _ (List.mem_append_right _ (List.mem_append_right _ (List.mem_append_right _ (List.mem_append_right _ (List.mem_append_right _ (List.mem_append_left _ h)))))))))))))))))))))))
theorem zr12 : ∀ w ∈ wsL_law0_r12, w ∈ zTB := fun w h => List.mem_append_left _ (List.mem_append_left _ (List.mem_append_left _ (List.mem_append_left _ (List.mem_append_left _ (List.mem_append_left _ (List.mem_append_left _ (List.mem_append_left _ (List.mem_append_left _ (List.mem_append_left _ (List.mem_append_left _ (List.mem_append_left _ (List.mem_append_left _ (List.mem_append_right _ (List.mem_append_right _ (List.mem_append_right _ (List.mem_append_right _ (List.mem_append_right _ (List.mem_append_right _ (List.mem_append_right _ (List.mem_append_right _ (List.mem_append_right _ (List.mem_append_right _ (List.mem_append_right _ (List.mem_append_left _ h))))))))))))))))))))))))
theorem zr13 : ∀ w ∈ wsL_law0_r13, w ∈ zTB := fun w h => List.mem_append_left _ (List.mem_append_left _ (List.mem_append_left _ (List.mem_append_left _ (List.mem_append_left _ (List.mem_append_left _ (List.mem_append_left _ (List.mem_append_left _ (List.mem_append_left _ (List.mem_append_left _ (List.mem_append_left _ (List.mem_append_left _ (List.mem_append_left _ (List.mem_append_right _ (List.mem_append_right _ (List.mem_append_right _ (List.mem_append_right _ (List.mem_append_right _ (List.mem_append_right _ (List.mem_append_right _ (List.mem_append_right _ (List.mem_append_right _ (List.mem_append_right _ (List.mem_append_right _ (List.mem_append_right _ (List.mem_append_left _ h)))))))))))))))))))))))))
theorem zr14 : ∀ w ∈ wsL_law0_r14, w ∈ zTB := fun w h => List.mem_append_left _ (List.mem_append_left _ (List.mem_append_left _ (List.mem_append_left _ (List.mem_append_left _ (List.mem_append_left _ (List.mem_append_left _ (List.mem_append_left _ (List.mem_append_left _ (List.mem_append_left _ (List.mem_append_left _ (List.mem_append_left _ (List.mem_append_left _ (List.mem_append_right _ (List.mem_append_right _ (List.mem_append_right _ (List.mem_append_right _ (List.mem_append_right _ (List.mem_append_right _ (List.mem_append_right _ (List.mem_append_right _ (List.mem_append_right _ (List.mem_append_right _ (List.mem_append_right _ (List.mem_append_right _ (List.mem_append_right _ (List.mem_append_left _ h))))))))))))))))))))))))))
theorem zr15 : ∀ w ∈ wsL_law0_r15, w ∈ zTB := fun w h => List.mem_append_left _ (List.mem_append_left _ (List.mem_append_left _ (List.mem_append_left _ (List.mem_append_left _ (List.mem_append_left _ (List.mem_append_left _ (List.mem_append_left _ (List.mem_append_left _ (List.mem_append_left _ (List.mem_append_left _ (List.mem_append_left _ (List.mem_append_left _ (List.mem_append_right _ (List.mem_append_right _ (List.mem_append_right _ (List.mem_append_right _ (List.mem_append_right _ (List.mem_append_right _ (List.mem_append_right _ (List.mem_append_right _ (List.mem_append_right _ (List.mem_append_right _ (List.mem_append_right _ (List.mem_append_right _ (List.mem_append_right _ (List.mem_append_right _ (List.mem_append_left _ h)))))))))))))))))))))))))))
theorem zr16 : ∀ w ∈ wsL_law0_r16, w ∈ zTB := fun w h => List.mem_append_left _ (List.mem_append_left _ (List.mem_append_left _ (List.mem_append_left _ (List.mem_append_left _ (List.mem_append_left _ (List.mem_append_left _ (List.mem_append_left _ (List.mem_append_left _ (List.mem_append_left _ (List.mem_append_left _ (List.mem_append_left _ (List.mem_append_left _ (List.mem_append_right _ (List.mem_append_right _ (List.mem_append_right _ (List.mem_append_right _ (List.mem_append_right _ (List.mem_append_right _ (List.mem_append_right _ (List.mem_append_right _ (List.mem_append_right _ (List.mem_append_right _ (List.mem_append_right _ (List.mem_append_right _ (List.mem_append_right _ (List.mem_append_right _ (List.mem_append_right _ (List.mem_append_left _ h))))))))))))))))))))))))))))
theorem zr17 : ∀ w ∈ wsL_law0_r17, w ∈ zTB := fun w h => List.mem_append_left _ (List.mem_append_left _ (List.mem_append_left _ (List.mem_append_left _ (List.mem_append_left _ (List.mem_append_left _ (List.mem_append_left _ (List.mem_append_left _ (List.mem_append_left _ (List.mem_append_left _ (List.mem_append_left _ (List.mem_append_left _ (List.mem_append_left _ (List.mem_append_right _ (List.mem_append_right _ (List.mem_append_right _ (List.mem_append_right _ (List.mem_append_right _ (List.mem_append_right _ (List.mem_append_right _ (List.mem_append_right _ (List.mem_append_right _ (List.mem_append_right _ (List.mem_append_right _ (List.mem_append_right _ (List.mem_append_right _ (List.mem_append_right _ (List.mem_append_right _ (List.mem_append_right _ (List.mem_append_left _ h)))))))))))))))))))))))))))))
theorem zr18 : ∀ w ∈ wsL_law0_r18, w ∈ zTB := fun w h => List.mem_append_left _ (List.mem_append_left _ (List.mem_append_left _ (List.mem_append_left _ (List.mem_append_left _ (List.mem_append_left _ (List.mem_append_left _ (List.mem_append_left _ (List.mem_append_left _ (List.mem_append_left _ (List.mem_append_left _ (List.mem_append_left _ (List.mem_append_left _ (List.mem_append_right _ (List.mem_append_right _ (List.mem_append_right _ (List.mem_append_right _ (List.mem_append_right _ (List.mem_append_right _ (List.mem_append_right _ (List.mem_append_right _ (List.mem_append_right _ (List.mem_append_right _ (List.mem_append_right _ (List.mem_append_right _ (List.mem_append_right _ (List.mem_append_right _ (List.mem_append_right _ (List.mem_append_right _ (List.mem_append_right _ (List.mem_append_left _ h))))))))))))))))))))))))))))))
theorem zr19 : ∀ w ∈ wsL_law0_r19, w ∈ zTB := fun w h => List.mem_append_left _ (List.mem_append_left _ (List.mem_append_left _ (List.mem_append_left _ (List.mem_append_left _ (List.mem_append_left _ (List.mem_append_left _ (List.mem_append_left _ (List.mem_append_left _ (List.mem_append_left _ (List.mem_append_left _ (List.mem_append_left _ (List.mem_append_left _ (List.mem_append_right _ (List.mem_append_right _ (List.mem_append_right _ (List.mem_append_right _ (List.mem_append_right _ (List.mem_append_right _ (List.mem_append_right _ (List.mem_append_right _ (List.mem_append_right _ (List.mem_append_right _ (List.mem_append_right _ (List.mem_append_right _ (List.mem_append_right _ (List.mem_append_right _ (List.mem_append_right _ (List.mem_append_right _ (List.mem_append_right _ (List.mem_append_right _ (List.mem_append_left _ h)))))))))))))))))))))))))))))))
theorem zr20 : ∀ w ∈ wsL_law0_r20, w ∈ zTB := fun w h => List.mem_append_left _ (List.mem_append_left _ (List.mem_append_left _ (List.mem_append_left _ (List.mem_append_left _ (List.mem_append_left _ (List.mem_append_left _ (List.mem_append_left _ (List.mem_append_left _ (List.mem_append_left _ (List.mem_append_left _ (List.mem_append_left _ (List.mem_append_left _ (List.mem_append_right _ (List.mem_append_right _ (List.mem_append_right _ (List.mem_append_right _ (List.mem_append_right _ (List.mem_append_right _ (List.mem_append_right _ (List.mem_append_right _ (List.mem_append_right _ (List.mem_append_right _ (List.mem_append_right _ (List.mem_append_right _ (List.mem_append_right _ (List.mem_append_right _ (List.mem_append_right _ (List.mem_append_right _ (List.mem_append_right _ (List.mem_append_right _ (List.mem_append_right _ (List.mem_append_left _ h))))))))))))))))))))))))))))))))
theorem zr21 : ∀ w ∈ wsL_law0_r21, w ∈ zTB := fun w h => List.mem_append_left _ (List.mem_append_left _ (List.mem_append_left _ (List.mem_append_left _ (List.mem_append_left _ (List.mem_append_left _ (List.mem_append_left _ (List.mem_append_left _ (List.mem_append_left _ (List.mem_append_left _ (List.mem_append_left _ (List.mem_append_left _ (List.mem_append_left _ (List.mem_append_right _ (List.mem_append_right _ (List.mem_append_right _ (List.mem_append_right _ (List.mem_append_right _ (List.mem_append_right _ (List.mem_append_right _ (List.mem_append_right _ (List.mem_append_right _ (List.mem_append_right _ (List.mem_append_right _ (List.mem_append_right _ (List.mem_append_right _ (List.mem_append_right _ (List.mem_append_right _ (List.mem_append_right _ (List.mem_append_right _ (List.mem_append_right _ (List.mem_append_right _ (List.mem_append_right _ (List.mem_append_left _ h)))))))))))))))))))))))))))))))))
theorem zr22 : ∀ w ∈ wsL_law0_r22, w ∈ zTB := fun w h => List.mem_append_left _ (List.mem_append_left _ (List.mem_append_left _ (List.mem_append_left _ (List.mem_append_left _ (List.mem_append_left _ (List.mem_append_left _ (List.mem_append_left _ (List.mem_append_left _ (List.mem_append_left _ (List.mem_append_left _ (List.mem_append_left _ (List.mem_append_left _ (List.mem_append_right _ (List.mem_append_right _ (List.mem_append_right _ (List.mem_append_right _ (List.mem_append_right _ (List.mem_append_right _ (List.mem_append_right _ (List.mem_append_right _ (List.mem_append_right _ (List.mem_append_right _ (List.mem_append_right _ (List.mem_append_right _ (List.mem_append_right _ (List.mem_append_right _ (List.mem_append_right _ (List.mem_append_right _ (List.mem_append_right _ (List.mem_append_right _ (List.mem_append_right _ (List.mem_append_right _ (List.mem_append_right _ (List.mem_append_left _ h))))))))))))))))))))))))))))))))))
theorem zr23 : ∀ w ∈ wsL_law0_r23, w ∈ zTB := fun w h => List.mem_append_left _ (List.mem_append_left _ (List.mem_append_left _ (List.mem_append_left _ (List.mem_append_left _ (List.mem_append_left _ (List.mem_append_left _ (List.mem_append_left _ (List.mem_append_left _ (List.mem_append_left _ (List.mem_append_left _ (List.mem_append_left _ (List.mem_append_left _ (List.mem_append_right _ (List.mem_append_right _ (List.mem_append_right _ (List.mem_append_right _ (List.mem_append_right _ (List.mem_append_right _ (List.mem_append_right _ (List.mem_append_right _ (List.mem_append_right _ (List.mem_append_right _ (List.mem_append_right _ (List.mem_append_right _ (List.mem_append_right _ (List.mem_append_right _ (List.mem_append_right _ (List.mem_append_right _ (List.mem_append_right _ (List.mem_append_right _ (List.mem_append_right _ (List.mem_append_right _ (List.mem_append_right _ (List.mem_append_right _ (List.mem_append_left _ h)))))))))))))))))))))))))))))))))))
theorem zr24 : ∀ w ∈ wsL_law0_r24, w ∈ zTB := fun w h => List.mem_append_left _ (List.mem_append_left _ (List.mem_append_left _ (List.mem_append_left _ (List.mem_append_left _ (List.mem_append_left _ (List.mem_append_left _ (List.mem_append_left _ (List.mem_append_left _ (List.mem_append_left _ (List.mem_append_left _ (List.mem_append_left _ (List.mem_append_left _ (List.mem_append_right _ (List.mem_append_right _ (List.mem_append_right _ (List.mem_append_right _ (List.mem_append_right _ (List.mem_append_right _ (List.mem_append_right _ (List.mem_append_right _ (List.mem_append_right _ (List.mem_append_right _ (List.mem_append_right _ (List.mem_append_right _ (List.mem_append_right _ (List.mem_append_right _ (List.mem_append_right _ (List.mem_append_right _ (List.mem_append_right _ (List.mem_append_right _ (List.mem_append_right _ (List.mem_append_right _ (List.mem_append_right _ (List.mem_append_right _ (List.mem_append_right _ (List.mem_append_left _ h))))))))))))))))))))))))))))))))))))
theorem zr25 : ∀ w ∈ wsL_law0_r25, w ∈ zTB := fun w h => List.mem_append_left _ (List.mem_append_left _ (List.mem_append_left _ (List.mem_append_left _ (List.mem_append_left _ (List.mem_append_left _ (List.mem_append_left _ (List.mem_append_left _ (List.mem_append_left _ (List.mem_append_left _ (List.mem_append_left _ (List.mem_append_left _ (List.mem_append_left _ (List.mem_append_right _ (List.mem_append_right _ (List.mem_append_right _ (List.mem_append_right _ (List.mem_append_right _ (List.mem_append_right _ (List.mem_append_right _ (List.mem_append_right _ (List.mem_append_right _ (List.mem_append_right _ (List.mem_append_right _ (List.mem_append_right _ (List.mem_append_right _ (List.mem_append_right _ (List.mem_append_right _ (List.mem_append_right _ (List.mem_append_right _ (List.mem_append_right _ (List.mem_append_right _ (List.mem_append_right _ (List.mem_append_right _ (List.mem_append_right _ (List.mem_append_right _ (List.mem_append_right _ (List.mem_append_left _ h)))))))))))))))))))))))))))))))))))))
theorem zr26 : ∀ w ∈ wsL_law0_r26, w ∈ zTB := fun w h => List.mem_append_left _ (List.mem_append_left _ (List.mem_append_left _ (List.mem_append_left _ (List.mem_append_left _ (List.mem_append_left _ (List.mem_append_left _ (List.mem_append_left _ (List.mem_append_left _ (List.mem_append_left _ (List.mem_append_left _ (List.mem_append_left _ (List.mem_append_left _ (List.mem_append_right _ (List.mem_append_right _ (List.mem_append_right _ (List.mem_append_right _ (List.mem_append_right _ (List.mem_append_right _ (List.mem_append_right _ (List.mem_append_right _ (List.mem_append_right _ (List.mem_append_right _ (List.mem_append_right _ (List.mem_append_right _ (List.mem_append_right _ (List.mem_append_right _ (List.mem_append_right _ (List.mem_append_right _ (List.mem_append_right _ (List.mem_append_right _ (List.mem_append_right _ (List.mem_append_right _ (List.mem_append_right _ (List.mem_append_right _ (List.mem_append_right _ (List.mem_append_right _ (List.mem_append_right _ (List.mem_append_left _ h))))))))))))))))))))))))))))))))))))))
theorem zr27 : ∀ w ∈ wsL_law0_r27, w ∈ zTB := fun w h => List.mem_append_left _ (List.mem_append_left _ (List.mem_append_left _ (List.mem_append_left _ (List.mem_append_left _ (List.mem_append_left _ (List.mem_append_left _ (List.mem_append_left _ (List.mem_append_left _ (List.mem_append_left _ (List.mem_append_left _ (List.mem_append_left _ (List.mem_append_left _ (List.mem_append_right _ (List.mem_append_right _ (List.mem_append_right _ (List.mem_append_right _ (List.mem_append_right _ (List.mem_append_right _ (List.mem_append_right _ (List.mem_append_right _ (List.mem_append_right _ (List.mem_append_right _ (List.mem_append_right _ (List.mem_append_right _ (List.mem_append_right _ (List.mem_append_right _ (List.mem_append_right _ (List.mem_append_right _ (List.mem_append_right _ (List.mem_append_right _ (List.mem_append_right _ (List.mem_append_right _ (List.mem_append_right _ (List.mem_append_right _ (List.mem_append_right _ (List.mem_append_right _ (List.mem_append_right _ (List.mem_append_right _ (List.mem_append_left _ h)))))))))))))))))))))))))))))))))))))))
theorem zr28 : ∀ w ∈ wsL_law0_r28, w ∈ zTB := fun w h => List.mem_append_left _ (List.mem_append_left _ (List.mem_append_left _ (List.mem_append_left _ (List.mem_append_left _ (List.mem_append_left _ (List.mem_append_left _ (List.mem_append_left _ (List.mem_append_left _ (List.mem_append_left _ (List.mem_append_left _ (List.mem_append_left _ (List.mem_append_left _ (List.mem_append_right _ (List.mem_append_right _ (List.mem_append_right _ (List.mem_append_right _ (List.mem_append_right _ (List.mem_append_right _ (List.mem_append_right _ (List.mem_append_right _ (List.mem_append_right _ (List.mem_append_right _ (List.mem_append_right _ (List.mem_append_right _ (List.mem_append_right _ (List.mem_append_right _ (List.mem_append_right _ (List.mem_append_right _ (List.mem_append_right _ (List.mem_append_right _ (List.mem_append_right _ (List.mem_append_right _ (List.mem_append_right _ (List.mem_append_right _ (List.mem_append_right _ (List.mem_append_right _ (List.mem_append_right _ (List.mem_append_right _ (List.mem_append_right _ (List.mem_append_left _ h))))))))))))))))))))))))))))))))))))))))
theorem zr29 : ∀ w ∈ wsL_law0_r29, w ∈ zTB := fun w h => List.mem_append_left _ (List.mem_append_left _ (List.mem_append_left _ (List.mem_append_left _ (List.mem_append_left _ (List.mem_append_left _ (List.mem_append_left _ (List.mem_append_left _ (List.mem_append_left _ (List.mem_append_left _ (List.mem_append_left _ (List.mem_append_left _ (List.mem_append_left _ (List.mem_append_right _ (List.mem_append_right _ (List.mem_append_right _ (List.mem_append_right _ (List.mem_append_right _ (List.mem_append_right _ (List.mem_append_right _ (List.mem_append_right _ (List.mem_append_right _ (List.mem_append_right _ (List.mem_append_right _ (List.mem_append_right _ (List.mem_append_right _ (List.mem_append_right _ (List.mem_append_right _ (List.mem_append_right _ (List.mem_append_right _ (List.mem_append_right _ (List.mem_append_right _ (List.mem_append_right _ (List.mem_append_right _ (List.mem_append_right _ (List.mem_append_right _ (List.mem_append_right _ (List.mem_append_right _ (List.mem_append_right _ (List.mem_append_right _ (List.mem_append_right _ (List.mem_append_left _ h)))))))))))))))))))))))))))))))))))))))))
theorem zr30 : ∀ w ∈ wsL_law0_r30, w ∈ zTB := fun w h => List.mem_append_left _ (List.mem_append_left _ (List.mem_append_left _ (List.mem_append_left _ (List.mem_append_left _ (List.mem_append_left _ (List.mem_append_left _ (List.mem_append_left _ (List.mem_append_left _ (List.mem_append_left _ (List.mem_append_left _ (List.mem_append_left _ (List.mem_append_left _ (List.mem_append_right _ (List.mem_append_right _ (List.mem_append_right _ (List.mem_append_right _ (List.mem_append_right _ (List.mem_append_right _ (List.mem_append_right _ (List.mem_append_right _ (List.mem_append_right _ (List.mem_append_right _ (List.mem_append_right _ (List.mem_append_right _ (List.mem_append_right _ (List.mem_append_right _ (List.mem_append_right _ (List.mem_append_right _ (List.mem_append_right _ (List.mem_append_right _ (List.mem_append_right _ (List.mem_append_right _ (List.mem_append_right _ (List.mem_append_right _ (List.mem_append_right _ (List.mem_append_right _ (List.mem_append_right _ (List.mem_append_right _ (List.mem_append_right _ (List.mem_append_right _ (List.mem_append_right _ (List.mem_append_left _ h))))))))))))))))))))))))))))))))))))))))))
theorem zr31 : ∀ w ∈ wsL_law0_r31, w ∈ zTB := fun w h => List.mem_append_left _ (List.mem_append_left _ (List.mem_append_left _ (List.mem_append_left _ (List.mem_append_left _ (List.mem_append_left _ (List.mem_append_left _ (List.mem_append_left _ (List.mem_append_left _ (List.mem_append_left _ (List.mem_append_left _ (List.mem_append_left _ (List.mem_append_left _ (List.mem_append_right _ (List.mem_append_right _ (List.mem_append_right _ (List.mem_append_right _ (List.mem_append_right _ (List.mem_append_right _ (List.mem_append_right _ (List.mem_append_right _ (List.mem_append_right _ (List.mem_append_right _ (List.mem_append_right _ (List.mem_append_right _ (List.mem_append_right _ (List.mem_append_right _ (List.mem_append_right _ (List.mem_append_right _ (List.mem_append_right _ (List.mem_append_right _ (List.mem_append_right _ (List.mem_append_right _ (List.mem_append_right _ (List.mem_append_right _ (List.mem_append_right _ (List.mem_append_right _ (List.mem_append_right _ (List.mem_append_right _ (List.mem_append_right _ (List.mem_append_right _ (List.mem_append_right _ (List.mem_append_right _ (List.mem_append_left _ h)))))))))))))))))))))))))))))))))))))))))))
theorem zr32 : ∀ w ∈ wsL_law0_r32, w ∈ zTB := fun w h => List.mem_append_left _ (List.mem_append_left _ (List.mem_append_left _ (List.mem_append_left _ (List.mem_append_left _ (List.mem_append_left _ (List.mem_append_left _ (List.mem_append_left _ (List.mem_append_left _ (List.mem_append_left _ (List.mem_append_left _ (List.mem_append_left _ (List.mem_append_left _ (List.mem_append_right _ (List.mem_append_right _ (List.mem_append_right _ (List.mem_append_right _ (List.mem_append_right _ (List.mem_append_right _ (List.mem_append_right _ (List.mem_append_right _ (List.mem_append_right _ (List.mem_append_right _ (List.mem_append_right _ (List.mem_append_right _ (List.mem_append_right _ (List.mem_append_right _ (List.mem_append_right _ (List.mem_append_right _ (List.mem_append_right _ (List.mem_append_right _ (List.mem_append_right _ (List.mem_append_right _ (List.mem_append_right _ (List.mem_append_right _ (List.mem_append_right _ (List.mem_append_right _ (List.mem_append_right _ (List.mem_append_right _ (List.mem_append_right _ (List.mem_append_right _ (List.mem_append_right _ (List.mem_append_right _ (List.mem_append_right _ (List.mem_append_left _ h))))))))))))))))))))))))))))))))))))))))))))
theorem zr33 : ∀ w ∈ wsL_law0_r33, w ∈ zTB := fun w h => List.mem_append_left _ (List.mem_append_left _ (List.mem_append_left _ (List.mem_append_left _ (List.mem_append_left _ (List.mem_append_left _ (List.mem_append_left _ (List.mem_append_left _ (List.mem_append_left _ (List.mem_append_left _ (List.mem_append_left _ (List.mem_append_left _ (List.mem_append_left _ (List.mem_append_right _ (List.mem_append_right _ (List.mem_append_right _ (List.mem_append_right _ (List.mem_append_right _ (List.mem_append_right _ (List.mem_append_right _ (List.mem_append_right _ (List.mem_append_right _ (List.mem_append_right _ (List.mem_append_right _ (List.mem_append_right _ (List.mem_append_right _ (List.mem_append_right _ (List.mem_append_right _ (List.mem_append_right _ (List.mem_append_right _ (List.mem_append_right _ (List.mem_append_right _ (List.mem_append_right _ (List.mem_append_right _ (List.mem_append_right _ (List.mem_append_right _ (List.mem_append_right _ (List.mem_append_right _ (List.mem_append_right _ (List.mem_append_right _ (List.mem_append_right _ (List.mem_append_right _ (List.mem_append_right _ (List.mem_append_right _ (List.mem_append_right _ (List.mem_append_left _ h)))))))))))))))))))))))))))))))))))))))))))))
theorem zr34 : ∀ w ∈ wsL_law0_r34, w ∈ zTB := fun w h => List.mem_append_left _ (List.mem_append_left _ (List.mem_append_left _ (List.mem_append_left _ (List.mem_append_left _ (List.mem_append_left _ (List.mem_append_left _ (List.mem_append_left _ (List.mem_append_left _ (List.mem_append_left _ (List.mem_append_left _ (List.mem_append_left _ (List.mem_append_left _ (List.mem_append_right _ (List.mem_append_right _ (List.mem_append_right _ (List.mem_append_right _ (List.mem_append_right _ (List.mem_append_right _ (List.mem_append_right _ (List.mem_append_right _ (List.mem_append_right _ (List.mem_append_right _ (List.mem_append_right _ (List.mem_append_right _ (List.mem_append_right _ (List.mem_append_right _ (List.mem_append_right _ (List.mem_append_right _ (List.mem_append_right _ (List.mem_append_right _ (List.mem_append_right _ (List.mem_append_right _ (List.mem_append_right _ (List.mem_append_right _ (List.mem_append_right _ (List.mem_append_right _ (List.mem_append_right _ (List.mem_append_right _ (List.mem_append_right _ (List.mem_append_right _ (List.mem_append_right _ (List.mem_append_right _ (List.mem_append_right _ (List.mem_append_right _ (List.mem_append_right _ (h))))))))))))))))))))))))))))))))))))))))))))))
theorem ziX10 : ∀ w ∈ u_ws RX10 TX10 12, w ∈ zTB := fun w h => List.mem_append_left _ (List.mem_append_left _ (List.mem_append_left _ (List.mem_append_left _ (List.mem_append_left _ (List.mem_append_left _ (List.mem_append_left _ (List.mem_append_left _ (List.mem_append_left _ (List.mem_append_left _ (List.mem_append_left _ (List.mem_append_left _ (List.mem_append_right _ h))))))))))))
theorem ziX11 : ∀ w ∈ u_ws RX11 TX11 40, w ∈ zTB := fun w h => List.mem_append_left _ (List.mem_append_left _ (List.mem_append_left _ (List.mem_append_left _ (List.mem_append_left _ (List.mem_append_left _ (List.mem_append_left _ (List.mem_append_left _ (List.mem_append_left _ (List.mem_append_left _ (List.mem_append_left _ (List.mem_append_right _ h)))))))))))
theorem ziX6 : ∀ w ∈ u_ws RX6 TX6 6, w ∈ zTB := fun w h => List.mem_append_left _ (List.mem_append_left _ (List.mem_append_left _ (List.mem_append_left _ (List.mem_append_left _ (List.mem_append_left _ (List.mem_append_left _ (List.mem_append_left _ (List.mem_append_left _ (List.mem_append_left _ (List.mem_append_right _ h))))))))))
theorem ziX8 : ∀ w ∈ u_ws RX8 TX8 2, w ∈ zTB := fun w h => List.mem_append_left _ (List.mem_append_left _ (List.mem_append_left _ (List.mem_append_left _ (List.mem_append_left _ (List.mem_append_left _ (List.mem_append_left _ (List.mem_append_left _ (List.mem_append_left _ (List.mem_append_right _ h)))))))))
theorem ziX4 : ∀ w ∈ u_ws RX4 TX4 3, w ∈ zTB := fun w h => List.mem_append_left _ (List.mem_append_left _ (List.mem_append_left _ (List.mem_append_left _ (List.mem_append_left _ (List.mem_append_left _ (List.mem_append_left _ (List.mem_append_left _ (List.mem_append_right _ h))))))))
theorem ziX1 : ∀ w ∈ u_ws RX1 TX1 0, w ∈ zTB := fun w h => List.mem_append_left _ (List.mem_append_left _ (List.mem_append_left _ (List.mem_append_left _ (List.mem_append_left _ (List.mem_append_left _ (List.mem_append_left _ (List.mem_append_right _ h)))))))
theorem ziX9 : ∀ w ∈ u_ws RX9 TX9 0, w ∈ zTB := fun w h => List.mem_append_left _ (List.mem_append_left _ (List.mem_append_left _ (List.mem_append_left _ (List.mem_append_left _ (List.mem_append_left _ (List.mem_append_right _ h))))))
theorem ziX2 : ∀ w ∈ u_ws RX2 TX2 0, w ∈ zTB := fun w h => List.mem_append_left _ (List.mem_append_left _ (List.mem_append_left _ (List.mem_append_left _ (List.mem_append_left _ (List.mem_append_right _ h)))))
theorem ziX3 : ∀ w ∈ u_ws RX3 TX3 0, w ∈ zTB := fun w h => List.mem_append_left _ (List.mem_append_left _ (List.mem_append_left _ (List.mem_append_left _ (List.mem_append_right _ h))))
theorem ziX5 : ∀ w ∈ u_ws RX5 TX5 6, w ∈ zTB := fun w h => List.mem_append_left _ (List.mem_append_left _ (List.mem_append_left _ (List.mem_append_right _ h)))
theorem ziX0 : ∀ w ∈ u_ws RX0 TX0 7, w ∈ zTB := fun w h => List.mem_append_left _ (List.mem_append_left _ (List.mem_append_right _ h))
theorem ziX7 : ∀ w ∈ u_ws RX7 TX7 7, w ∈ zTB := fun w h => List.mem_append_left _ (List.mem_append_right _ h)
theorem zo0 : 0 < zcnt 0 := by decide
theorem zo1 : 0 < zcnt 1 := by decide
theorem zo2 : 0 < zcnt 2 := by decide
theorem zo3 : 0 < zcnt 3 := by decide
theorem zo4 : 0 < zcnt 4 := by decide
theorem zo5 : 0 < zcnt 5 := by decide
theorem zo6 : 0 < zcnt 6 := by decide
theorem zo7 : 0 < zcnt 7 := by decide
theorem zo8 : 0 < zcnt 8 := by decide
theorem zo9 : 0 < zcnt 9 := by decide
theorem zo10 : 0 < zcnt 10 := by decide
theorem zo11 : 0 < zcnt 11 := by decide
theorem zo12 : 0 < zcnt 12 := by decide
theorem zo13 : 0 < zcnt 13 := by decide
theorem zo14 : 0 < zcnt 14 := by decide
theorem zo15 : 0 < zcnt 15 := by decide
theorem zo16 : 0 < zcnt 16 := by decide
theorem zo17 : 0 < zcnt 17 := by decide
theorem zo18 : 0 < zcnt 18 := by decide
theorem zo19 : 0 < zcnt 19 := by decide
theorem zo20 : 0 < zcnt 20 := by decide
theorem zo21 : 0 < zcnt 21 := by decide
theorem zo22 : 0 < zcnt 22 := by decide
theorem zo23 : 0 < zcnt 23 := by decide
theorem zo24 : 0 < zcnt 24 := by decide
theorem zo25 : 0 < zcnt 25 := by decide
theorem zo26 : 0 < zcnt 26 := by decide
theorem zo27 : 0 < zcnt 27 := by decide
theorem zo28 : 0 < zcnt 28 := by decide
theorem zo29 : 0 < zcnt 29 := by decide
theorem zo30 : 0 < zcnt 30 := by decide
theorem zo31 : 0 < zcnt 31 := by decide
theorem zo32 : 0 < zcnt 32 := by decide
theorem zo33 : 0 < zcnt 33 := by decide
theorem zo34 : 0 < zcnt 34 := by decide
theorem zo35 : 0 < zcnt 35 := by decide
theorem zo36 : 0 < zcnt 36 := by decide
theorem zo37 : 0 < zcnt 37 := by decide
theorem zo38 : 0 < zcnt 38 := by decide
theorem zo39 : 0 < zcnt 39 := by decide
theorem zo40 : 0 < zcnt 40 := by decide
theorem zo41 : 0 < zcnt 41 := by decide
theorem zo42 : 0 < zcnt 42 := by decide
theorem zo43 : 0 < zcnt 43 := by decide
theorem zo44 : 0 < zcnt 44 := by decide
theorem zo45 : 0 < zcnt 45 := by decide
theorem zo46 : 0 < zcnt 46 := by decide
theorem zo47 : 0 < zcnt 47 := by decide
theorem zo48 : 0 < zcnt 48 := by decide
theorem zo49 : 0 < zcnt 49 := by decide
theorem zo50 : 0 < zcnt 50 := by decide
theorem zo51 : 0 < zcnt 51 := by decide
theorem zo52 : 0 < zcnt 52 := by decide
theorem zo53 : 0 < zcnt 53 := by decide
theorem zo54 : 0 < zcnt 54 := by decide
theorem zo55 : 0 < zcnt 55 := by decide
def zbool (x : Int32) : Prop := x = 0 ∨ x = 1
theorem zbn {x : Int32} (h : zbool x) : narrow .boolean (.int x) = .int x := by rcases h with h | h <;> subst h <;> rfl
theorem zbf {x : Int32} (h : zbool x) : fits .boolean (.int x) = true := by rcases h with h | h <;> subst h <;> rfl
theorem zbv {x : Int32} (h : zbool x) : vp_nar .boolean x = x := by rcases h with h | h <;> subst h <;> rfl
section ZF
variable {p : Program} {l : Launch} {e : Env} {R : Room} {s : State} {m : MethodId} {args : Array Value} {below : List Frame} {meth : Method} {c : Code} {nL kc ks : Nat} {E : zE} {Q : State → Prop} {σ : zMem} {pc pc' : Nat} {lv lv' : List (Nat × Value)} {st : List Value} {cc : ByteArray} {rt : Option FieldType}
theorem zgX0_15 (C : zX p s m args meth c cc nL RX0 rt E) {i : Nat} (hi : i < zcnt 6) (hd : decode cc pc = .ok (.getfield 15, 3)) (hn : pc + 3 = pc') (k9 : zG p l e R s m args below meth c nL E kc ks Q σ pc' lv (.int (σ 6 i 0) :: st)) : zG p l e R s m args below meth c nL E kc ks Q σ pc lv (.ref (E.2.2 6 i) :: st) := z_get (fs := fun r => [.int (r 0), .int (r 1), .int (r 2), .int (r 3), .int (r 4), .int (r 5), .int (r 6)]) C (zL_mem (by decide) hi) (fun _ => rfl) rfl ziX0 0 (by decide) (zr13 _ (List.mem_of_getElem? (i := 12) rfl)) rfl hd hn k9
theorem zgX0_18 (C : zX p s m args meth c cc nL RX0 rt E) {i : Nat} (hi : i < zcnt 6) (hd : decode cc pc = .ok (.getfield 18, 3)) (hn : pc + 3 = pc') (k9 : zG p l e R s m args below meth c nL E kc ks Q σ pc' lv (.int (σ 6 i 3) :: st)) : zG p l e R s m args below meth c nL E kc ks Q σ pc lv (.ref (E.2.2 6 i) :: st) := z_get (fs := fun r => [.int (r 0), .int (r 1), .int (r 2), .int (r 3), .int (r 4), .int (r 5), .int (r 6)]) C (zL_mem (by decide) hi) (fun _ => rfl) rfl ziX0 3 (by decide) (zr26 _ (List.mem_of_getElem? (i := 12) rfl)) rfl hd hn k9
theorem zgX0_21 (C : zX p s m args meth c cc nL RX0 rt E) {i : Nat} (hi : i < zcnt 6) (hd : decode cc pc = .ok (.getfield 21, 3)) (hn : pc + 3 = pc') (k9 : zG p l e R s m args below meth c nL E kc ks Q σ pc' lv (.int (σ 6 i 4) :: st)) : zG p l e R s m args below meth c nL E kc ks Q σ pc lv (.ref (E.2.2 6 i) :: st) := z_get (fs := fun r => [.int (r 0), .int (r 1), .int (r 2), .int (r 3), .int (r 4), .int (r 5), .int (r 6)]) C (zL_mem (by decide) hi) (fun _ => rfl) rfl ziX0 4 (by decide) (zr26 _ (List.mem_of_getElem? (i := 13) rfl)) rfl hd hn k9
theorem zgX10_11 (C : zX p s m args meth c cc nL RX10 rt E) {i : Nat} (hi : i < zcnt 0) (hd : decode cc pc = .ok (.getfield 11, 3)) (hn : pc + 3 = pc') (k9 : zG p l e R s m args below meth c nL E kc ks Q σ pc' lv (.ref (E.2.2 1 0) :: st)) : zG p l e R s m args below meth c nL E kc ks Q σ pc lv (.ref (E.2.2 0 i) :: st) := z_get (fs := fun r => [.ref (E.2.2 1 0), .ref (E.2.2 3 0), .ref (E.2.2 5 0), .ref (E.2.2 7 0), .ref (E.2.2 11 0), .ref (E.2.2 12 0), .ref (E.2.2 15 0), .ref (E.2.2 18 0), .int (r 8), .int (r 9), .int (r 10), .int (r 11)]) C (zL_mem (by decide) hi) (fun _ => rfl) rfl ziX10 0 (by decide) (zr1 _ (List.mem_of_getElem? (i := 14) rfl)) rfl hd hn k9
theorem zgX10_17 (C : zX p s m args meth c cc nL RX10 rt E) {i : Nat} (hi : i < zcnt 0) (hd : decode cc pc = .ok (.getfield 17, 3)) (hn : pc + 3 = pc') (k9 : zG p l e R s m args below meth c nL E kc ks Q σ pc' lv (.ref (E.2.2 3 0) :: st)) : zG p l e R s m args below meth c nL E kc ks Q σ pc lv (.ref (E.2.2 0 i) :: st) := z_get (fs := fun r => [.ref (E.2.2 1 0), .ref (E.2.2 3 0), .ref (E.2.2 5 0), .ref (E.2.2 7 0), .ref (E.2.2 11 0), .ref (E.2.2 12 0), .ref (E.2.2 15 0), .ref (E.2.2 18 0), .int (r 8), .int (r 9), .int (r 10), .int (r 11)]) C (zL_mem (by decide) hi) (fun _ => rfl) rfl ziX10 1 (by decide) (zr1 _ (List.mem_of_getElem? (i := 16) rfl)) rfl hd hn k9
theorem zgX10_23 (C : zX p s m args meth c cc nL RX10 rt E) {i : Nat} (hi : i < zcnt 0) (hd : decode cc pc = .ok (.getfield 23, 3)) (hn : pc + 3 = pc') (k9 : zG p l e R s m args below meth c nL E kc ks Q σ pc' lv (.ref (E.2.2 5 0) :: st)) : zG p l e R s m args below meth c nL E kc ks Q σ pc lv (.ref (E.2.2 0 i) :: st) := z_get (fs := fun r => [.ref (E.2.2 1 0), .ref (E.2.2 3 0), .ref (E.2.2 5 0), .ref (E.2.2 7 0), .ref (E.2.2 11 0), .ref (E.2.2 12 0), .ref (E.2.2 15 0), .ref (E.2.2 18 0), .int (r 8), .int (r 9), .int (r 10), .int (r 11)]) C (zL_mem (by decide) hi) (fun _ => rfl) rfl ziX10 2 (by decide) (zr1 _ (List.mem_of_getElem? (i := 18) rfl)) rfl hd hn k9
theorem zgX10_29 (C : zX p s m args meth c cc nL RX10 rt E) {i : Nat} (hi : i < zcnt 0) (hd : decode cc pc = .ok (.getfield 29, 3)) (hn : pc + 3 = pc') (k9 : zG p l e R s m args below meth c nL E kc ks Q σ pc' lv (.ref (E.2.2 7 0) :: st)) : zG p l e R s m args below meth c nL E kc ks Q σ pc lv (.ref (E.2.2 0 i) :: st) := z_get (fs := fun r => [.ref (E.2.2 1 0), .ref (E.2.2 3 0), .ref (E.2.2 5 0), .ref (E.2.2 7 0), .ref (E.2.2 11 0), .ref (E.2.2 12 0), .ref (E.2.2 15 0), .ref (E.2.2 18 0), .int (r 8), .int (r 9), .int (r 10), .int (r 11)]) C (zL_mem (by decide) hi) (fun _ => rfl) rfl ziX10 3 (by decide) (zr1 _ (List.mem_of_getElem? (i := 20) rfl)) rfl hd hn k9
theorem zgX10_33 (C : zX p s m args meth c cc nL RX10 rt E) {i : Nat} (hi : i < zcnt 0) (hd : decode cc pc = .ok (.getfield 33, 3)) (hn : pc + 3 = pc') (k9 : zG p l e R s m args below meth c nL E kc ks Q σ pc' lv (.ref (E.2.2 11 0) :: st)) : zG p l e R s m args below meth c nL E kc ks Q σ pc lv (.ref (E.2.2 0 i) :: st) := z_get (fs := fun r => [.ref (E.2.2 1 0), .ref (E.2.2 3 0), .ref (E.2.2 5 0), .ref (E.2.2 7 0), .ref (E.2.2 11 0), .ref (E.2.2 12 0), .ref (E.2.2 15 0), .ref (E.2.2 18 0), .int (r 8), .int (r 9), .int (r 10), .int (r 11)]) C (zL_mem (by decide) hi) (fun _ => rfl) rfl ziX10 4 (by decide) (zr1 _ (List.mem_of_getElem? (i := 22) rfl)) rfl hd hn k9
theorem zgX10_40 (C : zX p s m args meth c cc nL RX10 rt E) {i : Nat} (hi : i < zcnt 0) (hd : decode cc pc = .ok (.getfield 40, 3)) (hn : pc + 3 = pc') (k9 : zG p l e R s m args below meth c nL E kc ks Q σ pc' lv (.ref (E.2.2 12 0) :: st)) : zG p l e R s m args below meth c nL E kc ks Q σ pc lv (.ref (E.2.2 0 i) :: st) := z_get (fs := fun r => [.ref (E.2.2 1 0), .ref (E.2.2 3 0), .ref (E.2.2 5 0), .ref (E.2.2 7 0), .ref (E.2.2 11 0), .ref (E.2.2 12 0), .ref (E.2.2 15 0), .ref (E.2.2 18 0), .int (r 8), .int (r 9), .int (r 10), .int (r 11)]) C (zL_mem (by decide) hi) (fun _ => rfl) rfl ziX10 5 (by decide) (zr2 _ (List.mem_of_getElem? (i := 2) rfl)) rfl hd hn k9
theorem zgX10_47 (C : zX p s m args meth c cc nL RX10 rt E) {i : Nat} (hi : i < zcnt 0) (hd : decode cc pc = .ok (.getfield 47, 3)) (hn : pc + 3 = pc') (k9 : zG p l e R s m args below meth c nL E kc ks Q σ pc' lv (.ref (E.2.2 15 0) :: st)) : zG p l e R s m args below meth c nL E kc ks Q σ pc lv (.ref (E.2.2 0 i) :: st) := z_get (fs := fun r => [.ref (E.2.2 1 0), .ref (E.2.2 3 0), .ref (E.2.2 5 0), .ref (E.2.2 7 0), .ref (E.2.2 11 0), .ref (E.2.2 12 0), .ref (E.2.2 15 0), .ref (E.2.2 18 0), .int (r 8), .int (r 9), .int (r 10), .int (r 11)]) C (zL_mem (by decide) hi) (fun _ => rfl) rfl ziX10 6 (by decide) (zr2 _ (List.mem_of_getElem? (i := 6) rfl)) rfl hd hn k9
theorem zgX10_54 (C : zX p s m args meth c cc nL RX10 rt E) {i : Nat} (hi : i < zcnt 0) (hd : decode cc pc = .ok (.getfield 54, 3)) (hn : pc + 3 = pc') (k9 : zG p l e R s m args below meth c nL E kc ks Q σ pc' lv (.ref (E.2.2 18 0) :: st)) : zG p l e R s m args below meth c nL E kc ks Q σ pc lv (.ref (E.2.2 0 i) :: st) := z_get (fs := fun r => [.ref (E.2.2 1 0), .ref (E.2.2 3 0), .ref (E.2.2 5 0), .ref (E.2.2 7 0), .ref (E.2.2 11 0), .ref (E.2.2 12 0), .ref (E.2.2 15 0), .ref (E.2.2 18 0), .int (r 8), .int (r 9), .int (r 10), .int (r 11)]) C (zL_mem (by decide) hi) (fun _ => rfl) rfl ziX10 7 (by decide) (zr2 _ (List.mem_of_getElem? (i := 10) rfl)) rfl hd hn k9
theorem zgX10_58 (C : zX p s m args meth c cc nL RX10 rt E) {i : Nat} (hi : i < zcnt 0) (hd : decode cc pc = .ok (.getfield 58, 3)) (hn : pc + 3 = pc') (k9 : zG p l e R s m args below meth c nL E kc ks Q σ pc' lv (.int (σ 0 i 9) :: st)) : zG p l e R s m args below meth c nL E kc ks Q σ pc lv (.ref (E.2.2 0 i) :: st) := z_get (fs := fun r => [.ref (E.2.2 1 0), .ref (E.2.2 3 0), .ref (E.2.2 5 0), .ref (E.2.2 7 0), .ref (E.2.2 11 0), .ref (E.2.2 12 0), .ref (E.2.2 15 0), .ref (E.2.2 18 0), .int (r 8), .int (r 9), .int (r 10), .int (r 11)]) C (zL_mem (by decide) hi) (fun _ => rfl) rfl ziX10 9 (by decide) (zr2 _ (List.mem_of_getElem? (i := 11) rfl)) rfl hd hn k9
theorem zgX10_89 (C : zX p s m args meth c cc nL RX10 rt E) {i : Nat} (hi : i < zcnt 4) (hd : decode cc pc = .ok (.getfield 89, 3)) (hn : pc + 3 = pc') (k9 : zG p l e R s m args below meth c nL E kc ks Q σ pc' lv (.int (σ 4 i 2) :: st)) : zG p l e R s m args below meth c nL E kc ks Q σ pc lv (.ref (E.2.2 4 i) :: st) := z_get (fs := fun r => [.int (r 0), .ref (E.2.2 2 (r 1).toNatClampNeg), .int (r 2), .int (r 3), .int (r 4), .int (r 5)]) C (zL_mem (by decide) hi) (fun _ => rfl) rfl ziX5 2 (by decide) (zr7 _ (List.mem_of_getElem? (i := 9) rfl)) rfl hd hn k9
theorem zgX10_92 (C : zX p s m args meth c cc nL RX10 rt E) {i : Nat} (hi : i < zcnt 4) (hd : decode cc pc = .ok (.getfield 92, 3)) (hn : pc + 3 = pc') (k9 : zG p l e R s m args below meth c nL E kc ks Q σ pc' lv (.int (σ 4 i 0) :: st)) : zG p l e R s m args below meth c nL E kc ks Q σ pc lv (.ref (E.2.2 4 i) :: st) := z_get (fs := fun r => [.int (r 0), .ref (E.2.2 2 (r 1).toNatClampNeg), .int (r 2), .int (r 3), .int (r 4), .int (r 5)]) C (zL_mem (by decide) hi) (fun _ => rfl) rfl ziX5 0 (by decide) (zr7 _ (List.mem_of_getElem? (i := 10) rfl)) rfl hd hn k9
theorem zgX10_95 (C : zX p s m args meth c cc nL RX10 rt E) {i : Nat} (hi : i < zcnt 4) (hd : decode cc pc = .ok (.getfield 95, 3)) (hn : pc + 3 = pc') (k9 : zG p l e R s m args below meth c nL E kc ks Q σ pc' lv (.ref (E.2.2 2 (σ 4 i 1).toNatClampNeg) :: st)) : zG p l e R s m args below meth c nL E kc ks Q σ pc lv (.ref (E.2.2 4 i) :: st) := z_get (fs := fun r => [.int (r 0), .ref (E.2.2 2 (r 1).toNatClampNeg), .int (r 2), .int (r 3), .int (r 4), .int (r 5)]) C (zL_mem (by decide) hi) (fun _ => rfl) rfl ziX5 1 (by decide) (zr7 _ (List.mem_of_getElem? (i := 11) rfl)) rfl hd hn k9
theorem zgX10_100 (C : zX p s m args meth c cc nL RX10 rt E) {i : Nat} (hi : i < zcnt 0) (hd : decode cc pc = .ok (.getfield 100, 3)) (hn : pc + 3 = pc') (k9 : zG p l e R s m args below meth c nL E kc ks Q σ pc' lv (.int (σ 0 i 8) :: st)) : zG p l e R s m args below meth c nL E kc ks Q σ pc lv (.ref (E.2.2 0 i) :: st) := z_get (fs := fun r => [.ref (E.2.2 1 0), .ref (E.2.2 3 0), .ref (E.2.2 5 0), .ref (E.2.2 7 0), .ref (E.2.2 11 0), .ref (E.2.2 12 0), .ref (E.2.2 15 0), .ref (E.2.2 18 0), .int (r 8), .int (r 9), .int (r 10), .int (r 11)]) C (zL_mem (by decide) hi) (fun _ => rfl) rfl ziX10 8 (by decide) (zr8 _ (List.mem_of_getElem? (i := 13) rfl)) rfl hd hn k9
theorem zgX10_103 (C : zX p s m args meth c cc nL RX10 rt E) {i : Nat} (hi : i < zcnt 6) (hd : decode cc pc = .ok (.getfield 103, 3)) (hn : pc + 3 = pc') (k9 : zG p l e R s m args below meth c nL E kc ks Q σ pc' lv (.int (σ 6 i 0) :: st)) : zG p l e R s m args below meth c nL E kc ks Q σ pc lv (.ref (E.2.2 6 i) :: st) := z_get (fs := fun r => [.int (r 0), .int (r 1), .int (r 2), .int (r 3), .int (r 4), .int (r 5), .int (r 6)]) C (zL_mem (by decide) hi) (fun _ => rfl) rfl ziX0 0 (by decide) (zr8 _ (List.mem_of_getElem? (i := 14) rfl)) rfl hd hn k9
theorem zgX10_106 (C : zX p s m args meth c cc nL RX10 rt E) {i : Nat} (hi : i < zcnt 6) (hd : decode cc pc = .ok (.getfield 106, 3)) (hn : pc + 3 = pc') (k9 : zG p l e R s m args below meth c nL E kc ks Q σ pc' lv (.int (σ 6 i 1) :: st)) : zG p l e R s m args below meth c nL E kc ks Q σ pc lv (.ref (E.2.2 6 i) :: st) := z_get (fs := fun r => [.int (r 0), .int (r 1), .int (r 2), .int (r 3), .int (r 4), .int (r 5), .int (r 6)]) C (zL_mem (by decide) hi) (fun _ => rfl) rfl ziX0 1 (by decide) (zr8 _ (List.mem_of_getElem? (i := 15) rfl)) rfl hd hn k9
theorem zgX10_109 (C : zX p s m args meth c cc nL RX10 rt E) {i : Nat} (hi : i < zcnt 6) (hd : decode cc pc = .ok (.getfield 109, 3)) (hn : pc + 3 = pc') (k9 : zG p l e R s m args below meth c nL E kc ks Q σ pc' lv (.int (σ 6 i 2) :: st)) : zG p l e R s m args below meth c nL E kc ks Q σ pc lv (.ref (E.2.2 6 i) :: st) := z_get (fs := fun r => [.int (r 0), .int (r 1), .int (r 2), .int (r 3), .int (r 4), .int (r 5), .int (r 6)]) C (zL_mem (by decide) hi) (fun _ => rfl) rfl ziX0 2 (by decide) (zr8 _ (List.mem_of_getElem? (i := 16) rfl)) rfl hd hn k9
theorem zgX10_115 (C : zX p s m args meth c cc nL RX10 rt E) {i : Nat} (hi : i < zcnt 6) (hd : decode cc pc = .ok (.getfield 115, 3)) (hn : pc + 3 = pc') (k9 : zG p l e R s m args below meth c nL E kc ks Q σ pc' lv (.int (σ 6 i 5) :: st)) : zG p l e R s m args below meth c nL E kc ks Q σ pc lv (.ref (E.2.2 6 i) :: st) := z_get (fs := fun r => [.int (r 0), .int (r 1), .int (r 2), .int (r 3), .int (r 4), .int (r 5), .int (r 6)]) C (zL_mem (by decide) hi) (fun _ => rfl) rfl ziX0 5 (by decide) (zr9 _ (List.mem_of_getElem? (i := 19) rfl)) rfl hd hn k9
theorem zgX10_123 (C : zX p s m args meth c cc nL RX10 rt E) {i : Nat} (hi : i < zcnt 6) (hd : decode cc pc = .ok (.getfield 123, 3)) (hn : pc + 3 = pc') (k9 : zG p l e R s m args below meth c nL E kc ks Q σ pc' lv (.int (σ 6 i 6) :: st)) : zG p l e R s m args below meth c nL E kc ks Q σ pc lv (.ref (E.2.2 6 i) :: st) := z_get (fs := fun r => [.int (r 0), .int (r 1), .int (r 2), .int (r 3), .int (r 4), .int (r 5), .int (r 6)]) C (zL_mem (by decide) hi) (fun _ => rfl) rfl ziX0 6 (by decide) (zr10 _ (List.mem_of_getElem? (i := 7) rfl)) rfl hd hn k9
theorem zgX10_133 (C : zX p s m args meth c cc nL RX10 rt E) {i : Nat} (hi : i < zcnt 4) (hd : decode cc pc = .ok (.getfield 133, 3)) (hn : pc + 3 = pc') (k9 : zG p l e R s m args below meth c nL E kc ks Q σ pc' lv (.int (σ 4 i 3) :: st)) : zG p l e R s m args below meth c nL E kc ks Q σ pc lv (.ref (E.2.2 4 i) :: st) := z_get (fs := fun r => [.int (r 0), .ref (E.2.2 2 (r 1).toNatClampNeg), .int (r 2), .int (r 3), .int (r 4), .int (r 5)]) C (zL_mem (by decide) hi) (fun _ => rfl) rfl ziX5 3 (by decide) (zr11 _ (List.mem_of_getElem? (i := 0) rfl)) rfl hd hn k9
theorem zgX10_136 (C : zX p s m args meth c cc nL RX10 rt E) {i : Nat} (hi : i < zcnt 4) (hd : decode cc pc = .ok (.getfield 136, 3)) (hn : pc + 3 = pc') (k9 : zG p l e R s m args below meth c nL E kc ks Q σ pc' lv (.int (σ 4 i 4) :: st)) : zG p l e R s m args below meth c nL E kc ks Q σ pc lv (.ref (E.2.2 4 i) :: st) := z_get (fs := fun r => [.int (r 0), .ref (E.2.2 2 (r 1).toNatClampNeg), .int (r 2), .int (r 3), .int (r 4), .int (r 5)]) C (zL_mem (by decide) hi) (fun _ => rfl) rfl ziX5 4 (by decide) (zr11 _ (List.mem_of_getElem? (i := 1) rfl)) rfl hd hn k9
theorem zgX10_139 (C : zX p s m args meth c cc nL RX10 rt E) {i : Nat} (hi : i < zcnt 4) (hd : decode cc pc = .ok (.getfield 139, 3)) (hn : pc + 3 = pc') (k9 : zG p l e R s m args below meth c nL E kc ks Q σ pc' lv (.int (σ 4 i 5) :: st)) : zG p l e R s m args below meth c nL E kc ks Q σ pc lv (.ref (E.2.2 4 i) :: st) := z_get (fs := fun r => [.int (r 0), .ref (E.2.2 2 (r 1).toNatClampNeg), .int (r 2), .int (r 3), .int (r 4), .int (r 5)]) C (zL_mem (by decide) hi) (fun _ => rfl) rfl ziX5 5 (by decide) (zr11 _ (List.mem_of_getElem? (i := 2) rfl)) rfl hd hn k9
theorem zgX10_152 (C : zX p s m args meth c cc nL RX10 rt E) {i : Nat} (hi : i < zcnt 6) (hd : decode cc pc = .ok (.getfield 152, 3)) (hn : pc + 3 = pc') (k9 : zG p l e R s m args below meth c nL E kc ks Q σ pc' lv (.int (σ 6 i 3) :: st)) : zG p l e R s m args below meth c nL E kc ks Q σ pc lv (.ref (E.2.2 6 i) :: st) := z_get (fs := fun r => [.int (r 0), .int (r 1), .int (r 2), .int (r 3), .int (r 4), .int (r 5), .int (r 6)]) C (zL_mem (by decide) hi) (fun _ => rfl) rfl ziX0 3 (by decide) (zr13 _ (List.mem_of_getElem? (i := 6) rfl)) rfl hd hn k9
theorem zgX10_155 (C : zX p s m args meth c cc nL RX10 rt E) {i : Nat} (hi : i < zcnt 6) (hd : decode cc pc = .ok (.getfield 155, 3)) (hn : pc + 3 = pc') (k9 : zG p l e R s m args below meth c nL E kc ks Q σ pc' lv (.int (σ 6 i 4) :: st)) : zG p l e R s m args below meth c nL E kc ks Q σ pc lv (.ref (E.2.2 6 i) :: st) := z_get (fs := fun r => [.int (r 0), .int (r 1), .int (r 2), .int (r 3), .int (r 4), .int (r 5), .int (r 6)]) C (zL_mem (by decide) hi) (fun _ => rfl) rfl ziX0 4 (by decide) (zr13 _ (List.mem_of_getElem? (i := 7) rfl)) rfl hd hn k9
theorem zgX10_170 (C : zX p s m args meth c cc nL RX10 rt E) {i : Nat} (hi : i < zcnt 12) (hd : decode cc pc = .ok (.getfield 170, 3)) (hn : pc + 3 = pc') (k9 : zG p l e R s m args below meth c nL E kc ks Q σ pc' lv (.int (σ 12 i 4) :: st)) : zG p l e R s m args below meth c nL E kc ks Q σ pc lv (.ref (E.2.2 12 i) :: st) := z_get (fs := fun r => [.ref (E.2.2 13 0), .ref (E.2.2 14 0), .int (r 2), .int (r 3), .int (r 4), .int (r 5)]) C (zL_mem (by decide) hi) (fun _ => rfl) rfl ziX6 4 (by decide) (zr16 _ (List.mem_of_getElem? (i := 4) rfl)) rfl hd hn k9
theorem zgX10_173 (C : zX p s m args meth c cc nL RX10 rt E) {i : Nat} (hi : i < zcnt 0) (hd : decode cc pc = .ok (.getfield 173, 3)) (hn : pc + 3 = pc') (k9 : zG p l e R s m args below meth c nL E kc ks Q σ pc' lv (.int (σ 0 i 11) :: st)) : zG p l e R s m args below meth c nL E kc ks Q σ pc lv (.ref (E.2.2 0 i) :: st) := z_get (fs := fun r => [.ref (E.2.2 1 0), .ref (E.2.2 3 0), .ref (E.2.2 5 0), .ref (E.2.2 7 0), .ref (E.2.2 11 0), .ref (E.2.2 12 0), .ref (E.2.2 15 0), .ref (E.2.2 18 0), .int (r 8), .int (r 9), .int (r 10), .int (r 11)]) C (zL_mem (by decide) hi) (fun _ => rfl) rfl ziX10 11 (by decide) (zr16 _ (List.mem_of_getElem? (i := 5) rfl)) rfl hd hn k9
theorem zgX10_176 (C : zX p s m args meth c cc nL RX10 rt E) {i : Nat} (hi : i < zcnt 12) (hd : decode cc pc = .ok (.getfield 176, 3)) (hn : pc + 3 = pc') (k9 : zG p l e R s m args below meth c nL E kc ks Q σ pc' lv (.int (σ 12 i 5) :: st)) : zG p l e R s m args below meth c nL E kc ks Q σ pc lv (.ref (E.2.2 12 i) :: st) := z_get (fs := fun r => [.ref (E.2.2 13 0), .ref (E.2.2 14 0), .int (r 2), .int (r 3), .int (r 4), .int (r 5)]) C (zL_mem (by decide) hi) (fun _ => rfl) rfl ziX6 5 (by decide) (zr16 _ (List.mem_of_getElem? (i := 6) rfl)) rfl hd hn k9
theorem zgX10_192 (C : zX p s m args meth c cc nL RX10 rt E) {i : Nat} (hi : i < zcnt 0) (hd : decode cc pc = .ok (.getfield 192, 3)) (hn : pc + 3 = pc') (k9 : zG p l e R s m args below meth c nL E kc ks Q σ pc' lv (.int (σ 0 i 10) :: st)) : zG p l e R s m args below meth c nL E kc ks Q σ pc lv (.ref (E.2.2 0 i) :: st) := z_get (fs := fun r => [.ref (E.2.2 1 0), .ref (E.2.2 3 0), .ref (E.2.2 5 0), .ref (E.2.2 7 0), .ref (E.2.2 11 0), .ref (E.2.2 12 0), .ref (E.2.2 15 0), .ref (E.2.2 18 0), .int (r 8), .int (r 9), .int (r 10), .int (r 11)]) C (zL_mem (by decide) hi) (fun _ => rfl) rfl ziX10 10 (by decide) (zr20 _ (List.mem_of_getElem? (i := 5) rfl)) rfl hd hn k9
theorem zgX10_221 (C : zX p s m args meth c cc nL RX10 rt E) {i : Nat} (hi : i < zcnt 18) (hd : decode cc pc = .ok (.getfield 221, 3)) (hn : pc + 3 = pc') (k9 : zG p l e R s m args below meth c nL E kc ks Q σ pc' lv (.ref (E.2.2 19 0) :: st)) : zG p l e R s m args below meth c nL E kc ks Q σ pc lv (.ref (E.2.2 18 i) :: st) := z_get (fs := fun r => [.ref (E.2.2 19 0), .ref (E.2.2 20 0), .ref (E.2.2 21 0)]) C (zL_mem (by decide) hi) (fun _ => rfl) rfl ziX4 0 (by decide) (zr25 _ (List.mem_of_getElem? (i := 23) rfl)) rfl hd hn k9
theorem zgX10_225 (C : zX p s m args meth c cc nL RX10 rt E) {i : Nat} (hi : i < zcnt 18) (hd : decode cc pc = .ok (.getfield 225, 3)) (hn : pc + 3 = pc') (k9 : zG p l e R s m args below meth c nL E kc ks Q σ pc' lv (.ref (E.2.2 20 0) :: st)) : zG p l e R s m args below meth c nL E kc ks Q σ pc lv (.ref (E.2.2 18 i) :: st) := z_get (fs := fun r => [.ref (E.2.2 19 0), .ref (E.2.2 20 0), .ref (E.2.2 21 0)]) C (zL_mem (by decide) hi) (fun _ => rfl) rfl ziX4 1 (by decide) (zr26 _ (List.mem_of_getElem? (i := 0) rfl)) rfl hd hn k9
theorem zgX10_240 (C : zX p s m args meth c cc nL RX10 rt E) {i : Nat} (hi : i < zcnt 8) (hd : decode cc pc = .ok (.getfield 240, 3)) (hn : pc + 3 = pc') (k9 : zG p l e R s m args below meth c nL E kc ks Q σ pc' lv (.int (σ 8 i 0) :: st)) : zG p l e R s m args below meth c nL E kc ks Q σ pc lv (.ref (E.2.2 8 i) :: st) := z_get (fs := fun r => [.int (r 0), .int (r 1), .ref (E.2.2 2 (r 2).toNatClampNeg), .int (r 3), .ref (E.2.2 9 i), .ref (E.2.2 10 i), .int (r 6)]) C (zL_mem (by decide) hi) (fun _ => rfl) rfl ziX7 0 (by decide) (zr27 _ (List.mem_of_getElem? (i := 23) rfl)) rfl hd hn k9
theorem zgX10_277 (C : zX p s m args meth c cc nL RX10 rt E) {i : Nat} (hi : i < zcnt 8) (hd : decode cc pc = .ok (.getfield 277, 3)) (hn : pc + 3 = pc') (k9 : zG p l e R s m args below meth c nL E kc ks Q σ pc' lv (.ref (E.2.2 9 i) :: st)) : zG p l e R s m args below meth c nL E kc ks Q σ pc lv (.ref (E.2.2 8 i) :: st) := z_get (fs := fun r => [.int (r 0), .int (r 1), .ref (E.2.2 2 (r 2).toNatClampNeg), .int (r 3), .ref (E.2.2 9 i), .ref (E.2.2 10 i), .int (r 6)]) C (zL_mem (by decide) hi) (fun _ => rfl) rfl ziX7 4 (by decide) (zr28 _ (List.mem_of_getElem? (i := 14) rfl)) rfl hd hn k9
theorem zgX10_280 (C : zX p s m args meth c cc nL RX10 rt E) {i : Nat} (hi : i < zcnt 8) (hd : decode cc pc = .ok (.getfield 280, 3)) (hn : pc + 3 = pc') (k9 : zG p l e R s m args below meth c nL E kc ks Q σ pc' lv (.ref (E.2.2 10 i) :: st)) : zG p l e R s m args below meth c nL E kc ks Q σ pc lv (.ref (E.2.2 8 i) :: st) := z_get (fs := fun r => [.int (r 0), .int (r 1), .ref (E.2.2 2 (r 2).toNatClampNeg), .int (r 3), .ref (E.2.2 9 i), .ref (E.2.2 10 i), .int (r 6)]) C (zL_mem (by decide) hi) (fun _ => rfl) rfl ziX7 5 (by decide) (zr29 _ (List.mem_of_getElem? (i := 4) rfl)) rfl hd hn k9
theorem zgX10_328 (C : zX p s m args meth c cc nL RX10 rt E) {i : Nat} (hi : i < zcnt 12) (hd : decode cc pc = .ok (.getfield 328, 3)) (hn : pc + 3 = pc') (k9 : zG p l e R s m args below meth c nL E kc ks Q σ pc' lv (.ref (E.2.2 13 0) :: st)) : zG p l e R s m args below meth c nL E kc ks Q σ pc lv (.ref (E.2.2 12 i) :: st) := z_get (fs := fun r => [.ref (E.2.2 13 0), .ref (E.2.2 14 0), .int (r 2), .int (r 3), .int (r 4), .int (r 5)]) C (zL_mem (by decide) hi) (fun _ => rfl) rfl ziX6 0 (by decide) (zr16 _ (List.mem_of_getElem? (i := 13) rfl)) rfl hd hn k9
theorem zgX10_334 (C : zX p s m args meth c cc nL RX10 rt E) {i : Nat} (hi : i < zcnt 12) (hd : decode cc pc = .ok (.getfield 334, 3)) (hn : pc + 3 = pc') (k9 : zG p l e R s m args below meth c nL E kc ks Q σ pc' lv (.ref (E.2.2 14 0) :: st)) : zG p l e R s m args below meth c nL E kc ks Q σ pc lv (.ref (E.2.2 12 i) :: st) := z_get (fs := fun r => [.ref (E.2.2 13 0), .ref (E.2.2 14 0), .int (r 2), .int (r 3), .int (r 4), .int (r 5)]) C (zL_mem (by decide) hi) (fun _ => rfl) rfl ziX6 1 (by decide) (zr16 _ (List.mem_of_getElem? (i := 17) rfl)) rfl hd hn k9
theorem zgX11_7 (C : zX p s m args meth c cc nL RX11 rt E) {i : Nat} (hi : i < zcnt 22) (hd : decode cc pc = .ok (.getfield 7, 3)) (hn : pc + 3 = pc') (k9 : zG p l e R s m args below meth c nL E kc ks Q σ pc' lv (.ref (E.2.2 23 0) :: st)) : zG p l e R s m args below meth c nL E kc ks Q σ pc lv (.ref (E.2.2 22 i) :: st) := z_get (fs := fun r => [.int (r 0), .ref (E.2.2 23 0), .ref (E.2.2 24 0), .ref (E.2.2 25 0), .ref (E.2.2 26 0), .ref (E.2.2 27 0), .ref (E.2.2 28 0), .ref (E.2.2 29 0), .ref (E.2.2 30 0), .int (r 9), .ref (E.2.2 31 0), .ref (E.2.2 32 0), .ref (E.2.2 33 0), .ref (E.2.2 34 0), .ref (E.2.2 35 0), .ref (E.2.2 36 0), .int (r 16), .ref (E.2.2 37 0), .ref (E.2.2 38 0), .int (r 19), .int (r 20), .int (r 21), .ref (E.2.2 39 0), .ref (E.2.2 40 0), .ref (E.2.2 41 0), .int (r 25), .ref (E.2.2 42 0), .ref (E.2.2 43 0), .ref (E.2.2 44 0), .int (r 29), .ref (E.2.2 45 0), .ref (E.2.2 46 0), .ref (E.2.2 47 0), .ref (E.2.2 48 0), .ref (E.2.2 49 0), .ref (E.2.2 50 0), .ref (E.2.2 51 0), .ref (E.2.2 52 0), .ref (E.2.2 53 0), .ref (E.2.2 54 0)]) C (zL_mem (by decide) hi) (fun _ => rfl) rfl ziX11 1 (by decide) (zr5 _ (List.mem_of_getElem? (i := 20) rfl)) rfl hd hn k9
theorem zgX11_13 (C : zX p s m args meth c cc nL RX11 rt E) {i : Nat} (hi : i < zcnt 22) (hd : decode cc pc = .ok (.getfield 13, 3)) (hn : pc + 3 = pc') (k9 : zG p l e R s m args below meth c nL E kc ks Q σ pc' lv (.ref (E.2.2 24 0) :: st)) : zG p l e R s m args below meth c nL E kc ks Q σ pc lv (.ref (E.2.2 22 i) :: st) := z_get (fs := fun r => [.int (r 0), .ref (E.2.2 23 0), .ref (E.2.2 24 0), .ref (E.2.2 25 0), .ref (E.2.2 26 0), .ref (E.2.2 27 0), .ref (E.2.2 28 0), .ref (E.2.2 29 0), .ref (E.2.2 30 0), .int (r 9), .ref (E.2.2 31 0), .ref (E.2.2 32 0), .ref (E.2.2 33 0), .ref (E.2.2 34 0), .ref (E.2.2 35 0), .ref (E.2.2 36 0), .int (r 16), .ref (E.2.2 37 0), .ref (E.2.2 38 0), .int (r 19), .int (r 20), .int (r 21), .ref (E.2.2 39 0), .ref (E.2.2 40 0), .ref (E.2.2 41 0), .int (r 25), .ref (E.2.2 42 0), .ref (E.2.2 43 0), .ref (E.2.2 44 0), .int (r 29), .ref (E.2.2 45 0), .ref (E.2.2 46 0), .ref (E.2.2 47 0), .ref (E.2.2 48 0), .ref (E.2.2 49 0), .ref (E.2.2 50 0), .ref (E.2.2 51 0), .ref (E.2.2 52 0), .ref (E.2.2 53 0), .ref (E.2.2 54 0)]) C (zL_mem (by decide) hi) (fun _ => rfl) rfl ziX11 2 (by decide) (zr5 _ (List.mem_of_getElem? (i := 21) rfl)) rfl hd hn k9
theorem zgX11_16 (C : zX p s m args meth c cc nL RX11 rt E) {i : Nat} (hi : i < zcnt 22) (hd : decode cc pc = .ok (.getfield 16, 3)) (hn : pc + 3 = pc') (k9 : zG p l e R s m args below meth c nL E kc ks Q σ pc' lv (.ref (E.2.2 25 0) :: st)) : zG p l e R s m args below meth c nL E kc ks Q σ pc lv (.ref (E.2.2 22 i) :: st) := z_get (fs := fun r => [.int (r 0), .ref (E.2.2 23 0), .ref (E.2.2 24 0), .ref (E.2.2 25 0), .ref (E.2.2 26 0), .ref (E.2.2 27 0), .ref (E.2.2 28 0), .ref (E.2.2 29 0), .ref (E.2.2 30 0), .int (r 9), .ref (E.2.2 31 0), .ref (E.2.2 32 0), .ref (E.2.2 33 0), .ref (E.2.2 34 0), .ref (E.2.2 35 0), .ref (E.2.2 36 0), .int (r 16), .ref (E.2.2 37 0), .ref (E.2.2 38 0), .int (r 19), .int (r 20), .int (r 21), .ref (E.2.2 39 0), .ref (E.2.2 40 0), .ref (E.2.2 41 0), .int (r 25), .ref (E.2.2 42 0), .ref (E.2.2 43 0), .ref (E.2.2 44 0), .int (r 29), .ref (E.2.2 45 0), .ref (E.2.2 46 0), .ref (E.2.2 47 0), .ref (E.2.2 48 0), .ref (E.2.2 49 0), .ref (E.2.2 50 0), .ref (E.2.2 51 0), .ref (E.2.2 52 0), .ref (E.2.2 53 0), .ref (E.2.2 54 0)]) C (zL_mem (by decide) hi) (fun _ => rfl) rfl ziX11 3 (by decide) (zr5 _ (List.mem_of_getElem? (i := 22) rfl)) rfl hd hn k9
theorem zgX11_20 (C : zX p s m args meth c cc nL RX11 rt E) {i : Nat} (hi : i < zcnt 22) (hd : decode cc pc = .ok (.getfield 20, 3)) (hn : pc + 3 = pc') (k9 : zG p l e R s m args below meth c nL E kc ks Q σ pc' lv (.ref (E.2.2 26 0) :: st)) : zG p l e R s m args below meth c nL E kc ks Q σ pc lv (.ref (E.2.2 22 i) :: st) := z_get (fs := fun r => [.int (r 0), .ref (E.2.2 23 0), .ref (E.2.2 24 0), .ref (E.2.2 25 0), .ref (E.2.2 26 0), .ref (E.2.2 27 0), .ref (E.2.2 28 0), .ref (E.2.2 29 0), .ref (E.2.2 30 0), .int (r 9), .ref (E.2.2 31 0), .ref (E.2.2 32 0), .ref (E.2.2 33 0), .ref (E.2.2 34 0), .ref (E.2.2 35 0), .ref (E.2.2 36 0), .int (r 16), .ref (E.2.2 37 0), .ref (E.2.2 38 0), .int (r 19), .int (r 20), .int (r 21), .ref (E.2.2 39 0), .ref (E.2.2 40 0), .ref (E.2.2 41 0), .int (r 25), .ref (E.2.2 42 0), .ref (E.2.2 43 0), .ref (E.2.2 44 0), .int (r 29), .ref (E.2.2 45 0), .ref (E.2.2 46 0), .ref (E.2.2 47 0), .ref (E.2.2 48 0), .ref (E.2.2 49 0), .ref (E.2.2 50 0), .ref (E.2.2 51 0), .ref (E.2.2 52 0), .ref (E.2.2 53 0), .ref (E.2.2 54 0)]) C (zL_mem (by decide) hi) (fun _ => rfl) rfl ziX11 4 (by decide) (zr5 _ (List.mem_of_getElem? (i := 23) rfl)) rfl hd hn k9
theorem zgX11_23 (C : zX p s m args meth c cc nL RX11 rt E) {i : Nat} (hi : i < zcnt 22) (hd : decode cc pc = .ok (.getfield 23, 3)) (hn : pc + 3 = pc') (k9 : zG p l e R s m args below meth c nL E kc ks Q σ pc' lv (.ref (E.2.2 27 0) :: st)) : zG p l e R s m args below meth c nL E kc ks Q σ pc lv (.ref (E.2.2 22 i) :: st) := z_get (fs := fun r => [.int (r 0), .ref (E.2.2 23 0), .ref (E.2.2 24 0), .ref (E.2.2 25 0), .ref (E.2.2 26 0), .ref (E.2.2 27 0), .ref (E.2.2 28 0), .ref (E.2.2 29 0), .ref (E.2.2 30 0), .int (r 9), .ref (E.2.2 31 0), .ref (E.2.2 32 0), .ref (E.2.2 33 0), .ref (E.2.2 34 0), .ref (E.2.2 35 0), .ref (E.2.2 36 0), .int (r 16), .ref (E.2.2 37 0), .ref (E.2.2 38 0), .int (r 19), .int (r 20), .int (r 21), .ref (E.2.2 39 0), .ref (E.2.2 40 0), .ref (E.2.2 41 0), .int (r 25), .ref (E.2.2 42 0), .ref (E.2.2 43 0), .ref (E.2.2 44 0), .int (r 29), .ref (E.2.2 45 0), .ref (E.2.2 46 0), .ref (E.2.2 47 0), .ref (E.2.2 48 0), .ref (E.2.2 49 0), .ref (E.2.2 50 0), .ref (E.2.2 51 0), .ref (E.2.2 52 0), .ref (E.2.2 53 0), .ref (E.2.2 54 0)]) C (zL_mem (by decide) hi) (fun _ => rfl) rfl ziX11 5 (by decide) (zr6 _ (List.mem_of_getElem? (i := 0) rfl)) rfl hd hn k9
theorem zgX11_26 (C : zX p s m args meth c cc nL RX11 rt E) {i : Nat} (hi : i < zcnt 22) (hd : decode cc pc = .ok (.getfield 26, 3)) (hn : pc + 3 = pc') (k9 : zG p l e R s m args below meth c nL E kc ks Q σ pc' lv (.ref (E.2.2 28 0) :: st)) : zG p l e R s m args below meth c nL E kc ks Q σ pc lv (.ref (E.2.2 22 i) :: st) := z_get (fs := fun r => [.int (r 0), .ref (E.2.2 23 0), .ref (E.2.2 24 0), .ref (E.2.2 25 0), .ref (E.2.2 26 0), .ref (E.2.2 27 0), .ref (E.2.2 28 0), .ref (E.2.2 29 0), .ref (E.2.2 30 0), .int (r 9), .ref (E.2.2 31 0), .ref (E.2.2 32 0), .ref (E.2.2 33 0), .ref (E.2.2 34 0), .ref (E.2.2 35 0), .ref (E.2.2 36 0), .int (r 16), .ref (E.2.2 37 0), .ref (E.2.2 38 0), .int (r 19), .int (r 20), .int (r 21), .ref (E.2.2 39 0), .ref (E.2.2 40 0), .ref (E.2.2 41 0), .int (r 25), .ref (E.2.2 42 0), .ref (E.2.2 43 0), .ref (E.2.2 44 0), .int (r 29), .ref (E.2.2 45 0), .ref (E.2.2 46 0), .ref (E.2.2 47 0), .ref (E.2.2 48 0), .ref (E.2.2 49 0), .ref (E.2.2 50 0), .ref (E.2.2 51 0), .ref (E.2.2 52 0), .ref (E.2.2 53 0), .ref (E.2.2 54 0)]) C (zL_mem (by decide) hi) (fun _ => rfl) rfl ziX11 6 (by decide) (zr6 _ (List.mem_of_getElem? (i := 1) rfl)) rfl hd hn k9
theorem zgX11_29 (C : zX p s m args meth c cc nL RX11 rt E) {i : Nat} (hi : i < zcnt 22) (hd : decode cc pc = .ok (.getfield 29, 3)) (hn : pc + 3 = pc') (k9 : zG p l e R s m args below meth c nL E kc ks Q σ pc' lv (.ref (E.2.2 29 0) :: st)) : zG p l e R s m args below meth c nL E kc ks Q σ pc lv (.ref (E.2.2 22 i) :: st) := z_get (fs := fun r => [.int (r 0), .ref (E.2.2 23 0), .ref (E.2.2 24 0), .ref (E.2.2 25 0), .ref (E.2.2 26 0), .ref (E.2.2 27 0), .ref (E.2.2 28 0), .ref (E.2.2 29 0), .ref (E.2.2 30 0), .int (r 9), .ref (E.2.2 31 0), .ref (E.2.2 32 0), .ref (E.2.2 33 0), .ref (E.2.2 34 0), .ref (E.2.2 35 0), .ref (E.2.2 36 0), .int (r 16), .ref (E.2.2 37 0), .ref (E.2.2 38 0), .int (r 19), .int (r 20), .int (r 21), .ref (E.2.2 39 0), .ref (E.2.2 40 0), .ref (E.2.2 41 0), .int (r 25), .ref (E.2.2 42 0), .ref (E.2.2 43 0), .ref (E.2.2 44 0), .int (r 29), .ref (E.2.2 45 0), .ref (E.2.2 46 0), .ref (E.2.2 47 0), .ref (E.2.2 48 0), .ref (E.2.2 49 0), .ref (E.2.2 50 0), .ref (E.2.2 51 0), .ref (E.2.2 52 0), .ref (E.2.2 53 0), .ref (E.2.2 54 0)]) C (zL_mem (by decide) hi) (fun _ => rfl) rfl ziX11 7 (by decide) (zr6 _ (List.mem_of_getElem? (i := 2) rfl)) rfl hd hn k9
theorem zgX11_32 (C : zX p s m args meth c cc nL RX11 rt E) {i : Nat} (hi : i < zcnt 22) (hd : decode cc pc = .ok (.getfield 32, 3)) (hn : pc + 3 = pc') (k9 : zG p l e R s m args below meth c nL E kc ks Q σ pc' lv (.ref (E.2.2 30 0) :: st)) : zG p l e R s m args below meth c nL E kc ks Q σ pc lv (.ref (E.2.2 22 i) :: st) := z_get (fs := fun r => [.int (r 0), .ref (E.2.2 23 0), .ref (E.2.2 24 0), .ref (E.2.2 25 0), .ref (E.2.2 26 0), .ref (E.2.2 27 0), .ref (E.2.2 28 0), .ref (E.2.2 29 0), .ref (E.2.2 30 0), .int (r 9), .ref (E.2.2 31 0), .ref (E.2.2 32 0), .ref (E.2.2 33 0), .ref (E.2.2 34 0), .ref (E.2.2 35 0), .ref (E.2.2 36 0), .int (r 16), .ref (E.2.2 37 0), .ref (E.2.2 38 0), .int (r 19), .int (r 20), .int (r 21), .ref (E.2.2 39 0), .ref (E.2.2 40 0), .ref (E.2.2 41 0), .int (r 25), .ref (E.2.2 42 0), .ref (E.2.2 43 0), .ref (E.2.2 44 0), .int (r 29), .ref (E.2.2 45 0), .ref (E.2.2 46 0), .ref (E.2.2 47 0), .ref (E.2.2 48 0), .ref (E.2.2 49 0), .ref (E.2.2 50 0), .ref (E.2.2 51 0), .ref (E.2.2 52 0), .ref (E.2.2 53 0), .ref (E.2.2 54 0)]) C (zL_mem (by decide) hi) (fun _ => rfl) rfl ziX11 8 (by decide) (zr6 _ (List.mem_of_getElem? (i := 3) rfl)) rfl hd hn k9
theorem zgX11_35 (C : zX p s m args meth c cc nL RX11 rt E) {i : Nat} (hi : i < zcnt 22) (hd : decode cc pc = .ok (.getfield 35, 3)) (hn : pc + 3 = pc') (k9 : zG p l e R s m args below meth c nL E kc ks Q σ pc' lv (.ref (E.2.2 31 0) :: st)) : zG p l e R s m args below meth c nL E kc ks Q σ pc lv (.ref (E.2.2 22 i) :: st) := z_get (fs := fun r => [.int (r 0), .ref (E.2.2 23 0), .ref (E.2.2 24 0), .ref (E.2.2 25 0), .ref (E.2.2 26 0), .ref (E.2.2 27 0), .ref (E.2.2 28 0), .ref (E.2.2 29 0), .ref (E.2.2 30 0), .int (r 9), .ref (E.2.2 31 0), .ref (E.2.2 32 0), .ref (E.2.2 33 0), .ref (E.2.2 34 0), .ref (E.2.2 35 0), .ref (E.2.2 36 0), .int (r 16), .ref (E.2.2 37 0), .ref (E.2.2 38 0), .int (r 19), .int (r 20), .int (r 21), .ref (E.2.2 39 0), .ref (E.2.2 40 0), .ref (E.2.2 41 0), .int (r 25), .ref (E.2.2 42 0), .ref (E.2.2 43 0), .ref (E.2.2 44 0), .int (r 29), .ref (E.2.2 45 0), .ref (E.2.2 46 0), .ref (E.2.2 47 0), .ref (E.2.2 48 0), .ref (E.2.2 49 0), .ref (E.2.2 50 0), .ref (E.2.2 51 0), .ref (E.2.2 52 0), .ref (E.2.2 53 0), .ref (E.2.2 54 0)]) C (zL_mem (by decide) hi) (fun _ => rfl) rfl ziX11 10 (by decide) (zr6 _ (List.mem_of_getElem? (i := 4) rfl)) rfl hd hn k9
theorem zgX11_38 (C : zX p s m args meth c cc nL RX11 rt E) {i : Nat} (hi : i < zcnt 22) (hd : decode cc pc = .ok (.getfield 38, 3)) (hn : pc + 3 = pc') (k9 : zG p l e R s m args below meth c nL E kc ks Q σ pc' lv (.ref (E.2.2 32 0) :: st)) : zG p l e R s m args below meth c nL E kc ks Q σ pc lv (.ref (E.2.2 22 i) :: st) := z_get (fs := fun r => [.int (r 0), .ref (E.2.2 23 0), .ref (E.2.2 24 0), .ref (E.2.2 25 0), .ref (E.2.2 26 0), .ref (E.2.2 27 0), .ref (E.2.2 28 0), .ref (E.2.2 29 0), .ref (E.2.2 30 0), .int (r 9), .ref (E.2.2 31 0), .ref (E.2.2 32 0), .ref (E.2.2 33 0), .ref (E.2.2 34 0), .ref (E.2.2 35 0), .ref (E.2.2 36 0), .int (r 16), .ref (E.2.2 37 0), .ref (E.2.2 38 0), .int (r 19), .int (r 20), .int (r 21), .ref (E.2.2 39 0), .ref (E.2.2 40 0), .ref (E.2.2 41 0), .int (r 25), .ref (E.2.2 42 0), .ref (E.2.2 43 0), .ref (E.2.2 44 0), .int (r 29), .ref (E.2.2 45 0), .ref (E.2.2 46 0), .ref (E.2.2 47 0), .ref (E.2.2 48 0), .ref (E.2.2 49 0), .ref (E.2.2 50 0), .ref (E.2.2 51 0), .ref (E.2.2 52 0), .ref (E.2.2 53 0), .ref (E.2.2 54 0)]) C (zL_mem (by decide) hi) (fun _ => rfl) rfl ziX11 11 (by decide) (zr6 _ (List.mem_of_getElem? (i := 5) rfl)) rfl hd hn k9
theorem zgX11_41 (C : zX p s m args meth c cc nL RX11 rt E) {i : Nat} (hi : i < zcnt 22) (hd : decode cc pc = .ok (.getfield 41, 3)) (hn : pc + 3 = pc') (k9 : zG p l e R s m args below meth c nL E kc ks Q σ pc' lv (.ref (E.2.2 33 0) :: st)) : zG p l e R s m args below meth c nL E kc ks Q σ pc lv (.ref (E.2.2 22 i) :: st) := z_get (fs := fun r => [.int (r 0), .ref (E.2.2 23 0), .ref (E.2.2 24 0), .ref (E.2.2 25 0), .ref (E.2.2 26 0), .ref (E.2.2 27 0), .ref (E.2.2 28 0), .ref (E.2.2 29 0), .ref (E.2.2 30 0), .int (r 9), .ref (E.2.2 31 0), .ref (E.2.2 32 0), .ref (E.2.2 33 0), .ref (E.2.2 34 0), .ref (E.2.2 35 0), .ref (E.2.2 36 0), .int (r 16), .ref (E.2.2 37 0), .ref (E.2.2 38 0), .int (r 19), .int (r 20), .int (r 21), .ref (E.2.2 39 0), .ref (E.2.2 40 0), .ref (E.2.2 41 0), .int (r 25), .ref (E.2.2 42 0), .ref (E.2.2 43 0), .ref (E.2.2 44 0), .int (r 29), .ref (E.2.2 45 0), .ref (E.2.2 46 0), .ref (E.2.2 47 0), .ref (E.2.2 48 0), .ref (E.2.2 49 0), .ref (E.2.2 50 0), .ref (E.2.2 51 0), .ref (E.2.2 52 0), .ref (E.2.2 53 0), .ref (E.2.2 54 0)]) C (zL_mem (by decide) hi) (fun _ => rfl) rfl ziX11 12 (by decide) (zr6 _ (List.mem_of_getElem? (i := 6) rfl)) rfl hd hn k9
theorem zgX11_44 (C : zX p s m args meth c cc nL RX11 rt E) {i : Nat} (hi : i < zcnt 22) (hd : decode cc pc = .ok (.getfield 44, 3)) (hn : pc + 3 = pc') (k9 : zG p l e R s m args below meth c nL E kc ks Q σ pc' lv (.ref (E.2.2 34 0) :: st)) : zG p l e R s m args below meth c nL E kc ks Q σ pc lv (.ref (E.2.2 22 i) :: st) := z_get (fs := fun r => [.int (r 0), .ref (E.2.2 23 0), .ref (E.2.2 24 0), .ref (E.2.2 25 0), .ref (E.2.2 26 0), .ref (E.2.2 27 0), .ref (E.2.2 28 0), .ref (E.2.2 29 0), .ref (E.2.2 30 0), .int (r 9), .ref (E.2.2 31 0), .ref (E.2.2 32 0), .ref (E.2.2 33 0), .ref (E.2.2 34 0), .ref (E.2.2 35 0), .ref (E.2.2 36 0), .int (r 16), .ref (E.2.2 37 0), .ref (E.2.2 38 0), .int (r 19), .int (r 20), .int (r 21), .ref (E.2.2 39 0), .ref (E.2.2 40 0), .ref (E.2.2 41 0), .int (r 25), .ref (E.2.2 42 0), .ref (E.2.2 43 0), .ref (E.2.2 44 0), .int (r 29), .ref (E.2.2 45 0), .ref (E.2.2 46 0), .ref (E.2.2 47 0), .ref (E.2.2 48 0), .ref (E.2.2 49 0), .ref (E.2.2 50 0), .ref (E.2.2 51 0), .ref (E.2.2 52 0), .ref (E.2.2 53 0), .ref (E.2.2 54 0)]) C (zL_mem (by decide) hi) (fun _ => rfl) rfl ziX11 13 (by decide) (zr6 _ (List.mem_of_getElem? (i := 7) rfl)) rfl hd hn k9
theorem zgX11_47 (C : zX p s m args meth c cc nL RX11 rt E) {i : Nat} (hi : i < zcnt 22) (hd : decode cc pc = .ok (.getfield 47, 3)) (hn : pc + 3 = pc') (k9 : zG p l e R s m args below meth c nL E kc ks Q σ pc' lv (.ref (E.2.2 35 0) :: st)) : zG p l e R s m args below meth c nL E kc ks Q σ pc lv (.ref (E.2.2 22 i) :: st) := z_get (fs := fun r => [.int (r 0), .ref (E.2.2 23 0), .ref (E.2.2 24 0), .ref (E.2.2 25 0), .ref (E.2.2 26 0), .ref (E.2.2 27 0), .ref (E.2.2 28 0), .ref (E.2.2 29 0), .ref (E.2.2 30 0), .int (r 9), .ref (E.2.2 31 0), .ref (E.2.2 32 0), .ref (E.2.2 33 0), .ref (E.2.2 34 0), .ref (E.2.2 35 0), .ref (E.2.2 36 0), .int (r 16), .ref (E.2.2 37 0), .ref (E.2.2 38 0), .int (r 19), .int (r 20), .int (r 21), .ref (E.2.2 39 0), .ref (E.2.2 40 0), .ref (E.2.2 41 0), .int (r 25), .ref (E.2.2 42 0), .ref (E.2.2 43 0), .ref (E.2.2 44 0), .int (r 29), .ref (E.2.2 45 0), .ref (E.2.2 46 0), .ref (E.2.2 47 0), .ref (E.2.2 48 0), .ref (E.2.2 49 0), .ref (E.2.2 50 0), .ref (E.2.2 51 0), .ref (E.2.2 52 0), .ref (E.2.2 53 0), .ref (E.2.2 54 0)]) C (zL_mem (by decide) hi) (fun _ => rfl) rfl ziX11 14 (by decide) (zr6 _ (List.mem_of_getElem? (i := 8) rfl)) rfl hd hn k9
theorem zgX11_50 (C : zX p s m args meth c cc nL RX11 rt E) {i : Nat} (hi : i < zcnt 22) (hd : decode cc pc = .ok (.getfield 50, 3)) (hn : pc + 3 = pc') (k9 : zG p l e R s m args below meth c nL E kc ks Q σ pc' lv (.ref (E.2.2 36 0) :: st)) : zG p l e R s m args below meth c nL E kc ks Q σ pc lv (.ref (E.2.2 22 i) :: st) := z_get (fs := fun r => [.int (r 0), .ref (E.2.2 23 0), .ref (E.2.2 24 0), .ref (E.2.2 25 0), .ref (E.2.2 26 0), .ref (E.2.2 27 0), .ref (E.2.2 28 0), .ref (E.2.2 29 0), .ref (E.2.2 30 0), .int (r 9), .ref (E.2.2 31 0), .ref (E.2.2 32 0), .ref (E.2.2 33 0), .ref (E.2.2 34 0), .ref (E.2.2 35 0), .ref (E.2.2 36 0), .int (r 16), .ref (E.2.2 37 0), .ref (E.2.2 38 0), .int (r 19), .int (r 20), .int (r 21), .ref (E.2.2 39 0), .ref (E.2.2 40 0), .ref (E.2.2 41 0), .int (r 25), .ref (E.2.2 42 0), .ref (E.2.2 43 0), .ref (E.2.2 44 0), .int (r 29), .ref (E.2.2 45 0), .ref (E.2.2 46 0), .ref (E.2.2 47 0), .ref (E.2.2 48 0), .ref (E.2.2 49 0), .ref (E.2.2 50 0), .ref (E.2.2 51 0), .ref (E.2.2 52 0), .ref (E.2.2 53 0), .ref (E.2.2 54 0)]) C (zL_mem (by decide) hi) (fun _ => rfl) rfl ziX11 15 (by decide) (zr6 _ (List.mem_of_getElem? (i := 9) rfl)) rfl hd hn k9
theorem zgX11_53 (C : zX p s m args meth c cc nL RX11 rt E) {i : Nat} (hi : i < zcnt 22) (hd : decode cc pc = .ok (.getfield 53, 3)) (hn : pc + 3 = pc') (k9 : zG p l e R s m args below meth c nL E kc ks Q σ pc' lv (.int (σ 22 i 16) :: st)) : zG p l e R s m args below meth c nL E kc ks Q σ pc lv (.ref (E.2.2 22 i) :: st) := z_get (fs := fun r => [.int (r 0), .ref (E.2.2 23 0), .ref (E.2.2 24 0), .ref (E.2.2 25 0), .ref (E.2.2 26 0), .ref (E.2.2 27 0), .ref (E.2.2 28 0), .ref (E.2.2 29 0), .ref (E.2.2 30 0), .int (r 9), .ref (E.2.2 31 0), .ref (E.2.2 32 0), .ref (E.2.2 33 0), .ref (E.2.2 34 0), .ref (E.2.2 35 0), .ref (E.2.2 36 0), .int (r 16), .ref (E.2.2 37 0), .ref (E.2.2 38 0), .int (r 19), .int (r 20), .int (r 21), .ref (E.2.2 39 0), .ref (E.2.2 40 0), .ref (E.2.2 41 0), .int (r 25), .ref (E.2.2 42 0), .ref (E.2.2 43 0), .ref (E.2.2 44 0), .int (r 29), .ref (E.2.2 45 0), .ref (E.2.2 46 0), .ref (E.2.2 47 0), .ref (E.2.2 48 0), .ref (E.2.2 49 0), .ref (E.2.2 50 0), .ref (E.2.2 51 0), .ref (E.2.2 52 0), .ref (E.2.2 53 0), .ref (E.2.2 54 0)]) C (zL_mem (by decide) hi) (fun _ => rfl) rfl ziX11 16 (by decide) (zr6 _ (List.mem_of_getElem? (i := 10) rfl)) rfl hd hn k9
theorem zgX11_57 (C : zX p s m args meth c cc nL RX11 rt E) {i : Nat} (hi : i < zcnt 22) (hd : decode cc pc = .ok (.getfield 57, 3)) (hn : pc + 3 = pc') (k9 : zG p l e R s m args below meth c nL E kc ks Q σ pc' lv (.ref (E.2.2 37 0) :: st)) : zG p l e R s m args below meth c nL E kc ks Q σ pc lv (.ref (E.2.2 22 i) :: st) := z_get (fs := fun r => [.int (r 0), .ref (E.2.2 23 0), .ref (E.2.2 24 0), .ref (E.2.2 25 0), .ref (E.2.2 26 0), .ref (E.2.2 27 0), .ref (E.2.2 28 0), .ref (E.2.2 29 0), .ref (E.2.2 30 0), .int (r 9), .ref (E.2.2 31 0), .ref (E.2.2 32 0), .ref (E.2.2 33 0), .ref (E.2.2 34 0), .ref (E.2.2 35 0), .ref (E.2.2 36 0), .int (r 16), .ref (E.2.2 37 0), .ref (E.2.2 38 0), .int (r 19), .int (r 20), .int (r 21), .ref (E.2.2 39 0), .ref (E.2.2 40 0), .ref (E.2.2 41 0), .int (r 25), .ref (E.2.2 42 0), .ref (E.2.2 43 0), .ref (E.2.2 44 0), .int (r 29), .ref (E.2.2 45 0), .ref (E.2.2 46 0), .ref (E.2.2 47 0), .ref (E.2.2 48 0), .ref (E.2.2 49 0), .ref (E.2.2 50 0), .ref (E.2.2 51 0), .ref (E.2.2 52 0), .ref (E.2.2 53 0), .ref (E.2.2 54 0)]) C (zL_mem (by decide) hi) (fun _ => rfl) rfl ziX11 17 (by decide) (zr6 _ (List.mem_of_getElem? (i := 11) rfl)) rfl hd hn k9
theorem zgX11_60 (C : zX p s m args meth c cc nL RX11 rt E) {i : Nat} (hi : i < zcnt 22) (hd : decode cc pc = .ok (.getfield 60, 3)) (hn : pc + 3 = pc') (k9 : zG p l e R s m args below meth c nL E kc ks Q σ pc' lv (.ref (E.2.2 38 0) :: st)) : zG p l e R s m args below meth c nL E kc ks Q σ pc lv (.ref (E.2.2 22 i) :: st) := z_get (fs := fun r => [.int (r 0), .ref (E.2.2 23 0), .ref (E.2.2 24 0), .ref (E.2.2 25 0), .ref (E.2.2 26 0), .ref (E.2.2 27 0), .ref (E.2.2 28 0), .ref (E.2.2 29 0), .ref (E.2.2 30 0), .int (r 9), .ref (E.2.2 31 0), .ref (E.2.2 32 0), .ref (E.2.2 33 0), .ref (E.2.2 34 0), .ref (E.2.2 35 0), .ref (E.2.2 36 0), .int (r 16), .ref (E.2.2 37 0), .ref (E.2.2 38 0), .int (r 19), .int (r 20), .int (r 21), .ref (E.2.2 39 0), .ref (E.2.2 40 0), .ref (E.2.2 41 0), .int (r 25), .ref (E.2.2 42 0), .ref (E.2.2 43 0), .ref (E.2.2 44 0), .int (r 29), .ref (E.2.2 45 0), .ref (E.2.2 46 0), .ref (E.2.2 47 0), .ref (E.2.2 48 0), .ref (E.2.2 49 0), .ref (E.2.2 50 0), .ref (E.2.2 51 0), .ref (E.2.2 52 0), .ref (E.2.2 53 0), .ref (E.2.2 54 0)]) C (zL_mem (by decide) hi) (fun _ => rfl) rfl ziX11 18 (by decide) (zr6 _ (List.mem_of_getElem? (i := 12) rfl)) rfl hd hn k9
theorem zgX11_63 (C : zX p s m args meth c cc nL RX11 rt E) {i : Nat} (hi : i < zcnt 22) (hd : decode cc pc = .ok (.getfield 63, 3)) (hn : pc + 3 = pc') (k9 : zG p l e R s m args below meth c nL E kc ks Q σ pc' lv (.ref (E.2.2 39 0) :: st)) : zG p l e R s m args below meth c nL E kc ks Q σ pc lv (.ref (E.2.2 22 i) :: st) := z_get (fs := fun r => [.int (r 0), .ref (E.2.2 23 0), .ref (E.2.2 24 0), .ref (E.2.2 25 0), .ref (E.2.2 26 0), .ref (E.2.2 27 0), .ref (E.2.2 28 0), .ref (E.2.2 29 0), .ref (E.2.2 30 0), .int (r 9), .ref (E.2.2 31 0), .ref (E.2.2 32 0), .ref (E.2.2 33 0), .ref (E.2.2 34 0), .ref (E.2.2 35 0), .ref (E.2.2 36 0), .int (r 16), .ref (E.2.2 37 0), .ref (E.2.2 38 0), .int (r 19), .int (r 20), .int (r 21), .ref (E.2.2 39 0), .ref (E.2.2 40 0), .ref (E.2.2 41 0), .int (r 25), .ref (E.2.2 42 0), .ref (E.2.2 43 0), .ref (E.2.2 44 0), .int (r 29), .ref (E.2.2 45 0), .ref (E.2.2 46 0), .ref (E.2.2 47 0), .ref (E.2.2 48 0), .ref (E.2.2 49 0), .ref (E.2.2 50 0), .ref (E.2.2 51 0), .ref (E.2.2 52 0), .ref (E.2.2 53 0), .ref (E.2.2 54 0)]) C (zL_mem (by decide) hi) (fun _ => rfl) rfl ziX11 22 (by decide) (zr6 _ (List.mem_of_getElem? (i := 13) rfl)) rfl hd hn k9
theorem zgX11_66 (C : zX p s m args meth c cc nL RX11 rt E) {i : Nat} (hi : i < zcnt 22) (hd : decode cc pc = .ok (.getfield 66, 3)) (hn : pc + 3 = pc') (k9 : zG p l e R s m args below meth c nL E kc ks Q σ pc' lv (.ref (E.2.2 40 0) :: st)) : zG p l e R s m args below meth c nL E kc ks Q σ pc lv (.ref (E.2.2 22 i) :: st) := z_get (fs := fun r => [.int (r 0), .ref (E.2.2 23 0), .ref (E.2.2 24 0), .ref (E.2.2 25 0), .ref (E.2.2 26 0), .ref (E.2.2 27 0), .ref (E.2.2 28 0), .ref (E.2.2 29 0), .ref (E.2.2 30 0), .int (r 9), .ref (E.2.2 31 0), .ref (E.2.2 32 0), .ref (E.2.2 33 0), .ref (E.2.2 34 0), .ref (E.2.2 35 0), .ref (E.2.2 36 0), .int (r 16), .ref (E.2.2 37 0), .ref (E.2.2 38 0), .int (r 19), .int (r 20), .int (r 21), .ref (E.2.2 39 0), .ref (E.2.2 40 0), .ref (E.2.2 41 0), .int (r 25), .ref (E.2.2 42 0), .ref (E.2.2 43 0), .ref (E.2.2 44 0), .int (r 29), .ref (E.2.2 45 0), .ref (E.2.2 46 0), .ref (E.2.2 47 0), .ref (E.2.2 48 0), .ref (E.2.2 49 0), .ref (E.2.2 50 0), .ref (E.2.2 51 0), .ref (E.2.2 52 0), .ref (E.2.2 53 0), .ref (E.2.2 54 0)]) C (zL_mem (by decide) hi) (fun _ => rfl) rfl ziX11 23 (by decide) (zr6 _ (List.mem_of_getElem? (i := 14) rfl)) rfl hd hn k9
theorem zgX11_69 (C : zX p s m args meth c cc nL RX11 rt E) {i : Nat} (hi : i < zcnt 22) (hd : decode cc pc = .ok (.getfield 69, 3)) (hn : pc + 3 = pc') (k9 : zG p l e R s m args below meth c nL E kc ks Q σ pc' lv (.ref (E.2.2 41 0) :: st)) : zG p l e R s m args below meth c nL E kc ks Q σ pc lv (.ref (E.2.2 22 i) :: st) := z_get (fs := fun r => [.int (r 0), .ref (E.2.2 23 0), .ref (E.2.2 24 0), .ref (E.2.2 25 0), .ref (E.2.2 26 0), .ref (E.2.2 27 0), .ref (E.2.2 28 0), .ref (E.2.2 29 0), .ref (E.2.2 30 0), .int (r 9), .ref (E.2.2 31 0), .ref (E.2.2 32 0), .ref (E.2.2 33 0), .ref (E.2.2 34 0), .ref (E.2.2 35 0), .ref (E.2.2 36 0), .int (r 16), .ref (E.2.2 37 0), .ref (E.2.2 38 0), .int (r 19), .int (r 20), .int (r 21), .ref (E.2.2 39 0), .ref (E.2.2 40 0), .ref (E.2.2 41 0), .int (r 25), .ref (E.2.2 42 0), .ref (E.2.2 43 0), .ref (E.2.2 44 0), .int (r 29), .ref (E.2.2 45 0), .ref (E.2.2 46 0), .ref (E.2.2 47 0), .ref (E.2.2 48 0), .ref (E.2.2 49 0), .ref (E.2.2 50 0), .ref (E.2.2 51 0), .ref (E.2.2 52 0), .ref (E.2.2 53 0), .ref (E.2.2 54 0)]) C (zL_mem (by decide) hi) (fun _ => rfl) rfl ziX11 24 (by decide) (zr6 _ (List.mem_of_getElem? (i := 15) rfl)) rfl hd hn k9
theorem zgX11_72 (C : zX p s m args meth c cc nL RX11 rt E) {i : Nat} (hi : i < zcnt 22) (hd : decode cc pc = .ok (.getfield 72, 3)) (hn : pc + 3 = pc') (k9 : zG p l e R s m args below meth c nL E kc ks Q σ pc' lv (.ref (E.2.2 42 0) :: st)) : zG p l e R s m args below meth c nL E kc ks Q σ pc lv (.ref (E.2.2 22 i) :: st) := z_get (fs := fun r => [.int (r 0), .ref (E.2.2 23 0), .ref (E.2.2 24 0), .ref (E.2.2 25 0), .ref (E.2.2 26 0), .ref (E.2.2 27 0), .ref (E.2.2 28 0), .ref (E.2.2 29 0), .ref (E.2.2 30 0), .int (r 9), .ref (E.2.2 31 0), .ref (E.2.2 32 0), .ref (E.2.2 33 0), .ref (E.2.2 34 0), .ref (E.2.2 35 0), .ref (E.2.2 36 0), .int (r 16), .ref (E.2.2 37 0), .ref (E.2.2 38 0), .int (r 19), .int (r 20), .int (r 21), .ref (E.2.2 39 0), .ref (E.2.2 40 0), .ref (E.2.2 41 0), .int (r 25), .ref (E.2.2 42 0), .ref (E.2.2 43 0), .ref (E.2.2 44 0), .int (r 29), .ref (E.2.2 45 0), .ref (E.2.2 46 0), .ref (E.2.2 47 0), .ref (E.2.2 48 0), .ref (E.2.2 49 0), .ref (E.2.2 50 0), .ref (E.2.2 51 0), .ref (E.2.2 52 0), .ref (E.2.2 53 0), .ref (E.2.2 54 0)]) C (zL_mem (by decide) hi) (fun _ => rfl) rfl ziX11 26 (by decide) (zr6 _ (List.mem_of_getElem? (i := 16) rfl)) rfl hd hn k9
theorem zgX11_75 (C : zX p s m args meth c cc nL RX11 rt E) {i : Nat} (hi : i < zcnt 22) (hd : decode cc pc = .ok (.getfield 75, 3)) (hn : pc + 3 = pc') (k9 : zG p l e R s m args below meth c nL E kc ks Q σ pc' lv (.ref (E.2.2 43 0) :: st)) : zG p l e R s m args below meth c nL E kc ks Q σ pc lv (.ref (E.2.2 22 i) :: st) := z_get (fs := fun r => [.int (r 0), .ref (E.2.2 23 0), .ref (E.2.2 24 0), .ref (E.2.2 25 0), .ref (E.2.2 26 0), .ref (E.2.2 27 0), .ref (E.2.2 28 0), .ref (E.2.2 29 0), .ref (E.2.2 30 0), .int (r 9), .ref (E.2.2 31 0), .ref (E.2.2 32 0), .ref (E.2.2 33 0), .ref (E.2.2 34 0), .ref (E.2.2 35 0), .ref (E.2.2 36 0), .int (r 16), .ref (E.2.2 37 0), .ref (E.2.2 38 0), .int (r 19), .int (r 20), .int (r 21), .ref (E.2.2 39 0), .ref (E.2.2 40 0), .ref (E.2.2 41 0), .int (r 25), .ref (E.2.2 42 0), .ref (E.2.2 43 0), .ref (E.2.2 44 0), .int (r 29), .ref (E.2.2 45 0), .ref (E.2.2 46 0), .ref (E.2.2 47 0), .ref (E.2.2 48 0), .ref (E.2.2 49 0), .ref (E.2.2 50 0), .ref (E.2.2 51 0), .ref (E.2.2 52 0), .ref (E.2.2 53 0), .ref (E.2.2 54 0)]) C (zL_mem (by decide) hi) (fun _ => rfl) rfl ziX11 27 (by decide) (zr6 _ (List.mem_of_getElem? (i := 17) rfl)) rfl hd hn k9
theorem zgX11_78 (C : zX p s m args meth c cc nL RX11 rt E) {i : Nat} (hi : i < zcnt 22) (hd : decode cc pc = .ok (.getfield 78, 3)) (hn : pc + 3 = pc') (k9 : zG p l e R s m args below meth c nL E kc ks Q σ pc' lv (.ref (E.2.2 44 0) :: st)) : zG p l e R s m args below meth c nL E kc ks Q σ pc lv (.ref (E.2.2 22 i) :: st) := z_get (fs := fun r => [.int (r 0), .ref (E.2.2 23 0), .ref (E.2.2 24 0), .ref (E.2.2 25 0), .ref (E.2.2 26 0), .ref (E.2.2 27 0), .ref (E.2.2 28 0), .ref (E.2.2 29 0), .ref (E.2.2 30 0), .int (r 9), .ref (E.2.2 31 0), .ref (E.2.2 32 0), .ref (E.2.2 33 0), .ref (E.2.2 34 0), .ref (E.2.2 35 0), .ref (E.2.2 36 0), .int (r 16), .ref (E.2.2 37 0), .ref (E.2.2 38 0), .int (r 19), .int (r 20), .int (r 21), .ref (E.2.2 39 0), .ref (E.2.2 40 0), .ref (E.2.2 41 0), .int (r 25), .ref (E.2.2 42 0), .ref (E.2.2 43 0), .ref (E.2.2 44 0), .int (r 29), .ref (E.2.2 45 0), .ref (E.2.2 46 0), .ref (E.2.2 47 0), .ref (E.2.2 48 0), .ref (E.2.2 49 0), .ref (E.2.2 50 0), .ref (E.2.2 51 0), .ref (E.2.2 52 0), .ref (E.2.2 53 0), .ref (E.2.2 54 0)]) C (zL_mem (by decide) hi) (fun _ => rfl) rfl ziX11 28 (by decide) (zr6 _ (List.mem_of_getElem? (i := 18) rfl)) rfl hd hn k9
theorem zgX11_81 (C : zX p s m args meth c cc nL RX11 rt E) {i : Nat} (hi : i < zcnt 22) (hd : decode cc pc = .ok (.getfield 81, 3)) (hn : pc + 3 = pc') (k9 : zG p l e R s m args below meth c nL E kc ks Q σ pc' lv (.ref (E.2.2 45 0) :: st)) : zG p l e R s m args below meth c nL E kc ks Q σ pc lv (.ref (E.2.2 22 i) :: st) := z_get (fs := fun r => [.int (r 0), .ref (E.2.2 23 0), .ref (E.2.2 24 0), .ref (E.2.2 25 0), .ref (E.2.2 26 0), .ref (E.2.2 27 0), .ref (E.2.2 28 0), .ref (E.2.2 29 0), .ref (E.2.2 30 0), .int (r 9), .ref (E.2.2 31 0), .ref (E.2.2 32 0), .ref (E.2.2 33 0), .ref (E.2.2 34 0), .ref (E.2.2 35 0), .ref (E.2.2 36 0), .int (r 16), .ref (E.2.2 37 0), .ref (E.2.2 38 0), .int (r 19), .int (r 20), .int (r 21), .ref (E.2.2 39 0), .ref (E.2.2 40 0), .ref (E.2.2 41 0), .int (r 25), .ref (E.2.2 42 0), .ref (E.2.2 43 0), .ref (E.2.2 44 0), .int (r 29), .ref (E.2.2 45 0), .ref (E.2.2 46 0), .ref (E.2.2 47 0), .ref (E.2.2 48 0), .ref (E.2.2 49 0), .ref (E.2.2 50 0), .ref (E.2.2 51 0), .ref (E.2.2 52 0), .ref (E.2.2 53 0), .ref (E.2.2 54 0)]) C (zL_mem (by decide) hi) (fun _ => rfl) rfl ziX11 30 (by decide) (zr6 _ (List.mem_of_getElem? (i := 19) rfl)) rfl hd hn k9
theorem zgX11_84 (C : zX p s m args meth c cc nL RX11 rt E) {i : Nat} (hi : i < zcnt 22) (hd : decode cc pc = .ok (.getfield 84, 3)) (hn : pc + 3 = pc') (k9 : zG p l e R s m args below meth c nL E kc ks Q σ pc' lv (.ref (E.2.2 46 0) :: st)) : zG p l e R s m args below meth c nL E kc ks Q σ pc lv (.ref (E.2.2 22 i) :: st) := z_get (fs := fun r => [.int (r 0), .ref (E.2.2 23 0), .ref (E.2.2 24 0), .ref (E.2.2 25 0), .ref (E.2.2 26 0), .ref (E.2.2 27 0), .ref (E.2.2 28 0), .ref (E.2.2 29 0), .ref (E.2.2 30 0), .int (r 9), .ref (E.2.2 31 0), .ref (E.2.2 32 0), .ref (E.2.2 33 0), .ref (E.2.2 34 0), .ref (E.2.2 35 0), .ref (E.2.2 36 0), .int (r 16), .ref (E.2.2 37 0), .ref (E.2.2 38 0), .int (r 19), .int (r 20), .int (r 21), .ref (E.2.2 39 0), .ref (E.2.2 40 0), .ref (E.2.2 41 0), .int (r 25), .ref (E.2.2 42 0), .ref (E.2.2 43 0), .ref (E.2.2 44 0), .int (r 29), .ref (E.2.2 45 0), .ref (E.2.2 46 0), .ref (E.2.2 47 0), .ref (E.2.2 48 0), .ref (E.2.2 49 0), .ref (E.2.2 50 0), .ref (E.2.2 51 0), .ref (E.2.2 52 0), .ref (E.2.2 53 0), .ref (E.2.2 54 0)]) C (zL_mem (by decide) hi) (fun _ => rfl) rfl ziX11 31 (by decide) (zr6 _ (List.mem_of_getElem? (i := 20) rfl)) rfl hd hn k9
theorem zgX11_87 (C : zX p s m args meth c cc nL RX11 rt E) {i : Nat} (hi : i < zcnt 22) (hd : decode cc pc = .ok (.getfield 87, 3)) (hn : pc + 3 = pc') (k9 : zG p l e R s m args below meth c nL E kc ks Q σ pc' lv (.ref (E.2.2 47 0) :: st)) : zG p l e R s m args below meth c nL E kc ks Q σ pc lv (.ref (E.2.2 22 i) :: st) := z_get (fs := fun r => [.int (r 0), .ref (E.2.2 23 0), .ref (E.2.2 24 0), .ref (E.2.2 25 0), .ref (E.2.2 26 0), .ref (E.2.2 27 0), .ref (E.2.2 28 0), .ref (E.2.2 29 0), .ref (E.2.2 30 0), .int (r 9), .ref (E.2.2 31 0), .ref (E.2.2 32 0), .ref (E.2.2 33 0), .ref (E.2.2 34 0), .ref (E.2.2 35 0), .ref (E.2.2 36 0), .int (r 16), .ref (E.2.2 37 0), .ref (E.2.2 38 0), .int (r 19), .int (r 20), .int (r 21), .ref (E.2.2 39 0), .ref (E.2.2 40 0), .ref (E.2.2 41 0), .int (r 25), .ref (E.2.2 42 0), .ref (E.2.2 43 0), .ref (E.2.2 44 0), .int (r 29), .ref (E.2.2 45 0), .ref (E.2.2 46 0), .ref (E.2.2 47 0), .ref (E.2.2 48 0), .ref (E.2.2 49 0), .ref (E.2.2 50 0), .ref (E.2.2 51 0), .ref (E.2.2 52 0), .ref (E.2.2 53 0), .ref (E.2.2 54 0)]) C (zL_mem (by decide) hi) (fun _ => rfl) rfl ziX11 32 (by decide) (zr6 _ (List.mem_of_getElem? (i := 21) rfl)) rfl hd hn k9
theorem zgX11_90 (C : zX p s m args meth c cc nL RX11 rt E) {i : Nat} (hi : i < zcnt 22) (hd : decode cc pc = .ok (.getfield 90, 3)) (hn : pc + 3 = pc') (k9 : zG p l e R s m args below meth c nL E kc ks Q σ pc' lv (.ref (E.2.2 48 0) :: st)) : zG p l e R s m args below meth c nL E kc ks Q σ pc lv (.ref (E.2.2 22 i) :: st) := z_get (fs := fun r => [.int (r 0), .ref (E.2.2 23 0), .ref (E.2.2 24 0), .ref (E.2.2 25 0), .ref (E.2.2 26 0), .ref (E.2.2 27 0), .ref (E.2.2 28 0), .ref (E.2.2 29 0), .ref (E.2.2 30 0), .int (r 9), .ref (E.2.2 31 0), .ref (E.2.2 32 0), .ref (E.2.2 33 0), .ref (E.2.2 34 0), .ref (E.2.2 35 0), .ref (E.2.2 36 0), .int (r 16), .ref (E.2.2 37 0), .ref (E.2.2 38 0), .int (r 19), .int (r 20), .int (r 21), .ref (E.2.2 39 0), .ref (E.2.2 40 0), .ref (E.2.2 41 0), .int (r 25), .ref (E.2.2 42 0), .ref (E.2.2 43 0), .ref (E.2.2 44 0), .int (r 29), .ref (E.2.2 45 0), .ref (E.2.2 46 0), .ref (E.2.2 47 0), .ref (E.2.2 48 0), .ref (E.2.2 49 0), .ref (E.2.2 50 0), .ref (E.2.2 51 0), .ref (E.2.2 52 0), .ref (E.2.2 53 0), .ref (E.2.2 54 0)]) C (zL_mem (by decide) hi) (fun _ => rfl) rfl ziX11 33 (by decide) (zr6 _ (List.mem_of_getElem? (i := 22) rfl)) rfl hd hn k9
theorem zgX11_93 (C : zX p s m args meth c cc nL RX11 rt E) {i : Nat} (hi : i < zcnt 22) (hd : decode cc pc = .ok (.getfield 93, 3)) (hn : pc + 3 = pc') (k9 : zG p l e R s m args below meth c nL E kc ks Q σ pc' lv (.ref (E.2.2 49 0) :: st)) : zG p l e R s m args below meth c nL E kc ks Q σ pc lv (.ref (E.2.2 22 i) :: st) := z_get (fs := fun r => [.int (r 0), .ref (E.2.2 23 0), .ref (E.2.2 24 0), .ref (E.2.2 25 0), .ref (E.2.2 26 0), .ref (E.2.2 27 0), .ref (E.2.2 28 0), .ref (E.2.2 29 0), .ref (E.2.2 30 0), .int (r 9), .ref (E.2.2 31 0), .ref (E.2.2 32 0), .ref (E.2.2 33 0), .ref (E.2.2 34 0), .ref (E.2.2 35 0), .ref (E.2.2 36 0), .int (r 16), .ref (E.2.2 37 0), .ref (E.2.2 38 0), .int (r 19), .int (r 20), .int (r 21), .ref (E.2.2 39 0), .ref (E.2.2 40 0), .ref (E.2.2 41 0), .int (r 25), .ref (E.2.2 42 0), .ref (E.2.2 43 0), .ref (E.2.2 44 0), .int (r 29), .ref (E.2.2 45 0), .ref (E.2.2 46 0), .ref (E.2.2 47 0), .ref (E.2.2 48 0), .ref (E.2.2 49 0), .ref (E.2.2 50 0), .ref (E.2.2 51 0), .ref (E.2.2 52 0), .ref (E.2.2 53 0), .ref (E.2.2 54 0)]) C (zL_mem (by decide) hi) (fun _ => rfl) rfl ziX11 34 (by decide) (zr6 _ (List.mem_of_getElem? (i := 23) rfl)) rfl hd hn k9
theorem zgX11_96 (C : zX p s m args meth c cc nL RX11 rt E) {i : Nat} (hi : i < zcnt 22) (hd : decode cc pc = .ok (.getfield 96, 3)) (hn : pc + 3 = pc') (k9 : zG p l e R s m args below meth c nL E kc ks Q σ pc' lv (.ref (E.2.2 50 0) :: st)) : zG p l e R s m args below meth c nL E kc ks Q σ pc lv (.ref (E.2.2 22 i) :: st) := z_get (fs := fun r => [.int (r 0), .ref (E.2.2 23 0), .ref (E.2.2 24 0), .ref (E.2.2 25 0), .ref (E.2.2 26 0), .ref (E.2.2 27 0), .ref (E.2.2 28 0), .ref (E.2.2 29 0), .ref (E.2.2 30 0), .int (r 9), .ref (E.2.2 31 0), .ref (E.2.2 32 0), .ref (E.2.2 33 0), .ref (E.2.2 34 0), .ref (E.2.2 35 0), .ref (E.2.2 36 0), .int (r 16), .ref (E.2.2 37 0), .ref (E.2.2 38 0), .int (r 19), .int (r 20), .int (r 21), .ref (E.2.2 39 0), .ref (E.2.2 40 0), .ref (E.2.2 41 0), .int (r 25), .ref (E.2.2 42 0), .ref (E.2.2 43 0), .ref (E.2.2 44 0), .int (r 29), .ref (E.2.2 45 0), .ref (E.2.2 46 0), .ref (E.2.2 47 0), .ref (E.2.2 48 0), .ref (E.2.2 49 0), .ref (E.2.2 50 0), .ref (E.2.2 51 0), .ref (E.2.2 52 0), .ref (E.2.2 53 0), .ref (E.2.2 54 0)]) C (zL_mem (by decide) hi) (fun _ => rfl) rfl ziX11 35 (by decide) (zr7 _ (List.mem_of_getElem? (i := 0) rfl)) rfl hd hn k9
theorem zgX11_99 (C : zX p s m args meth c cc nL RX11 rt E) {i : Nat} (hi : i < zcnt 22) (hd : decode cc pc = .ok (.getfield 99, 3)) (hn : pc + 3 = pc') (k9 : zG p l e R s m args below meth c nL E kc ks Q σ pc' lv (.ref (E.2.2 51 0) :: st)) : zG p l e R s m args below meth c nL E kc ks Q σ pc lv (.ref (E.2.2 22 i) :: st) := z_get (fs := fun r => [.int (r 0), .ref (E.2.2 23 0), .ref (E.2.2 24 0), .ref (E.2.2 25 0), .ref (E.2.2 26 0), .ref (E.2.2 27 0), .ref (E.2.2 28 0), .ref (E.2.2 29 0), .ref (E.2.2 30 0), .int (r 9), .ref (E.2.2 31 0), .ref (E.2.2 32 0), .ref (E.2.2 33 0), .ref (E.2.2 34 0), .ref (E.2.2 35 0), .ref (E.2.2 36 0), .int (r 16), .ref (E.2.2 37 0), .ref (E.2.2 38 0), .int (r 19), .int (r 20), .int (r 21), .ref (E.2.2 39 0), .ref (E.2.2 40 0), .ref (E.2.2 41 0), .int (r 25), .ref (E.2.2 42 0), .ref (E.2.2 43 0), .ref (E.2.2 44 0), .int (r 29), .ref (E.2.2 45 0), .ref (E.2.2 46 0), .ref (E.2.2 47 0), .ref (E.2.2 48 0), .ref (E.2.2 49 0), .ref (E.2.2 50 0), .ref (E.2.2 51 0), .ref (E.2.2 52 0), .ref (E.2.2 53 0), .ref (E.2.2 54 0)]) C (zL_mem (by decide) hi) (fun _ => rfl) rfl ziX11 36 (by decide) (zr7 _ (List.mem_of_getElem? (i := 1) rfl)) rfl hd hn k9
theorem zgX11_102 (C : zX p s m args meth c cc nL RX11 rt E) {i : Nat} (hi : i < zcnt 22) (hd : decode cc pc = .ok (.getfield 102, 3)) (hn : pc + 3 = pc') (k9 : zG p l e R s m args below meth c nL E kc ks Q σ pc' lv (.ref (E.2.2 52 0) :: st)) : zG p l e R s m args below meth c nL E kc ks Q σ pc lv (.ref (E.2.2 22 i) :: st) := z_get (fs := fun r => [.int (r 0), .ref (E.2.2 23 0), .ref (E.2.2 24 0), .ref (E.2.2 25 0), .ref (E.2.2 26 0), .ref (E.2.2 27 0), .ref (E.2.2 28 0), .ref (E.2.2 29 0), .ref (E.2.2 30 0), .int (r 9), .ref (E.2.2 31 0), .ref (E.2.2 32 0), .ref (E.2.2 33 0), .ref (E.2.2 34 0), .ref (E.2.2 35 0), .ref (E.2.2 36 0), .int (r 16), .ref (E.2.2 37 0), .ref (E.2.2 38 0), .int (r 19), .int (r 20), .int (r 21), .ref (E.2.2 39 0), .ref (E.2.2 40 0), .ref (E.2.2 41 0), .int (r 25), .ref (E.2.2 42 0), .ref (E.2.2 43 0), .ref (E.2.2 44 0), .int (r 29), .ref (E.2.2 45 0), .ref (E.2.2 46 0), .ref (E.2.2 47 0), .ref (E.2.2 48 0), .ref (E.2.2 49 0), .ref (E.2.2 50 0), .ref (E.2.2 51 0), .ref (E.2.2 52 0), .ref (E.2.2 53 0), .ref (E.2.2 54 0)]) C (zL_mem (by decide) hi) (fun _ => rfl) rfl ziX11 37 (by decide) (zr7 _ (List.mem_of_getElem? (i := 2) rfl)) rfl hd hn k9
theorem zgX11_105 (C : zX p s m args meth c cc nL RX11 rt E) {i : Nat} (hi : i < zcnt 22) (hd : decode cc pc = .ok (.getfield 105, 3)) (hn : pc + 3 = pc') (k9 : zG p l e R s m args below meth c nL E kc ks Q σ pc' lv (.ref (E.2.2 53 0) :: st)) : zG p l e R s m args below meth c nL E kc ks Q σ pc lv (.ref (E.2.2 22 i) :: st) := z_get (fs := fun r => [.int (r 0), .ref (E.2.2 23 0), .ref (E.2.2 24 0), .ref (E.2.2 25 0), .ref (E.2.2 26 0), .ref (E.2.2 27 0), .ref (E.2.2 28 0), .ref (E.2.2 29 0), .ref (E.2.2 30 0), .int (r 9), .ref (E.2.2 31 0), .ref (E.2.2 32 0), .ref (E.2.2 33 0), .ref (E.2.2 34 0), .ref (E.2.2 35 0), .ref (E.2.2 36 0), .int (r 16), .ref (E.2.2 37 0), .ref (E.2.2 38 0), .int (r 19), .int (r 20), .int (r 21), .ref (E.2.2 39 0), .ref (E.2.2 40 0), .ref (E.2.2 41 0), .int (r 25), .ref (E.2.2 42 0), .ref (E.2.2 43 0), .ref (E.2.2 44 0), .int (r 29), .ref (E.2.2 45 0), .ref (E.2.2 46 0), .ref (E.2.2 47 0), .ref (E.2.2 48 0), .ref (E.2.2 49 0), .ref (E.2.2 50 0), .ref (E.2.2 51 0), .ref (E.2.2 52 0), .ref (E.2.2 53 0), .ref (E.2.2 54 0)]) C (zL_mem (by decide) hi) (fun _ => rfl) rfl ziX11 38 (by decide) (zr7 _ (List.mem_of_getElem? (i := 3) rfl)) rfl hd hn k9
theorem zgX11_108 (C : zX p s m args meth c cc nL RX11 rt E) {i : Nat} (hi : i < zcnt 22) (hd : decode cc pc = .ok (.getfield 108, 3)) (hn : pc + 3 = pc') (k9 : zG p l e R s m args below meth c nL E kc ks Q σ pc' lv (.ref (E.2.2 54 0) :: st)) : zG p l e R s m args below meth c nL E kc ks Q σ pc lv (.ref (E.2.2 22 i) :: st) := z_get (fs := fun r => [.int (r 0), .ref (E.2.2 23 0), .ref (E.2.2 24 0), .ref (E.2.2 25 0), .ref (E.2.2 26 0), .ref (E.2.2 27 0), .ref (E.2.2 28 0), .ref (E.2.2 29 0), .ref (E.2.2 30 0), .int (r 9), .ref (E.2.2 31 0), .ref (E.2.2 32 0), .ref (E.2.2 33 0), .ref (E.2.2 34 0), .ref (E.2.2 35 0), .ref (E.2.2 36 0), .int (r 16), .ref (E.2.2 37 0), .ref (E.2.2 38 0), .int (r 19), .int (r 20), .int (r 21), .ref (E.2.2 39 0), .ref (E.2.2 40 0), .ref (E.2.2 41 0), .int (r 25), .ref (E.2.2 42 0), .ref (E.2.2 43 0), .ref (E.2.2 44 0), .int (r 29), .ref (E.2.2 45 0), .ref (E.2.2 46 0), .ref (E.2.2 47 0), .ref (E.2.2 48 0), .ref (E.2.2 49 0), .ref (E.2.2 50 0), .ref (E.2.2 51 0), .ref (E.2.2 52 0), .ref (E.2.2 53 0), .ref (E.2.2 54 0)]) C (zL_mem (by decide) hi) (fun _ => rfl) rfl ziX11 39 (by decide) (zr7 _ (List.mem_of_getElem? (i := 4) rfl)) rfl hd hn k9
theorem zgX11_111 (C : zX p s m args meth c cc nL RX11 rt E) {i : Nat} (hi : i < zcnt 22) (hd : decode cc pc = .ok (.getfield 111, 3)) (hn : pc + 3 = pc') (k9 : zG p l e R s m args below meth c nL E kc ks Q σ pc' lv (.int (σ 22 i 0) :: st)) : zG p l e R s m args below meth c nL E kc ks Q σ pc lv (.ref (E.2.2 22 i) :: st) := z_get (fs := fun r => [.int (r 0), .ref (E.2.2 23 0), .ref (E.2.2 24 0), .ref (E.2.2 25 0), .ref (E.2.2 26 0), .ref (E.2.2 27 0), .ref (E.2.2 28 0), .ref (E.2.2 29 0), .ref (E.2.2 30 0), .int (r 9), .ref (E.2.2 31 0), .ref (E.2.2 32 0), .ref (E.2.2 33 0), .ref (E.2.2 34 0), .ref (E.2.2 35 0), .ref (E.2.2 36 0), .int (r 16), .ref (E.2.2 37 0), .ref (E.2.2 38 0), .int (r 19), .int (r 20), .int (r 21), .ref (E.2.2 39 0), .ref (E.2.2 40 0), .ref (E.2.2 41 0), .int (r 25), .ref (E.2.2 42 0), .ref (E.2.2 43 0), .ref (E.2.2 44 0), .int (r 29), .ref (E.2.2 45 0), .ref (E.2.2 46 0), .ref (E.2.2 47 0), .ref (E.2.2 48 0), .ref (E.2.2 49 0), .ref (E.2.2 50 0), .ref (E.2.2 51 0), .ref (E.2.2 52 0), .ref (E.2.2 53 0), .ref (E.2.2 54 0)]) C (zL_mem (by decide) hi) (fun _ => rfl) rfl ziX11 0 (by decide) (zr30 _ (List.mem_of_getElem? (i := 19) rfl)) rfl hd hn k9
theorem zgX11_118 (C : zX p s m args meth c cc nL RX11 rt E) {i : Nat} (hi : i < zcnt 22) (hd : decode cc pc = .ok (.getfield 118, 3)) (hn : pc + 3 = pc') (k9 : zG p l e R s m args below meth c nL E kc ks Q σ pc' lv (.int (σ 22 i 9) :: st)) : zG p l e R s m args below meth c nL E kc ks Q σ pc lv (.ref (E.2.2 22 i) :: st) := z_get (fs := fun r => [.int (r 0), .ref (E.2.2 23 0), .ref (E.2.2 24 0), .ref (E.2.2 25 0), .ref (E.2.2 26 0), .ref (E.2.2 27 0), .ref (E.2.2 28 0), .ref (E.2.2 29 0), .ref (E.2.2 30 0), .int (r 9), .ref (E.2.2 31 0), .ref (E.2.2 32 0), .ref (E.2.2 33 0), .ref (E.2.2 34 0), .ref (E.2.2 35 0), .ref (E.2.2 36 0), .int (r 16), .ref (E.2.2 37 0), .ref (E.2.2 38 0), .int (r 19), .int (r 20), .int (r 21), .ref (E.2.2 39 0), .ref (E.2.2 40 0), .ref (E.2.2 41 0), .int (r 25), .ref (E.2.2 42 0), .ref (E.2.2 43 0), .ref (E.2.2 44 0), .int (r 29), .ref (E.2.2 45 0), .ref (E.2.2 46 0), .ref (E.2.2 47 0), .ref (E.2.2 48 0), .ref (E.2.2 49 0), .ref (E.2.2 50 0), .ref (E.2.2 51 0), .ref (E.2.2 52 0), .ref (E.2.2 53 0), .ref (E.2.2 54 0)]) C (zL_mem (by decide) hi) (fun _ => rfl) rfl ziX11 9 (by decide) (zr8 _ (List.mem_of_getElem? (i := 22) rfl)) rfl hd hn k9
theorem zgX11_159 (C : zX p s m args meth c cc nL RX11 rt E) {i : Nat} (hi : i < zcnt 22) (hd : decode cc pc = .ok (.getfield 159, 3)) (hn : pc + 3 = pc') (k9 : zG p l e R s m args below meth c nL E kc ks Q σ pc' lv (.int (σ 22 i 19) :: st)) : zG p l e R s m args below meth c nL E kc ks Q σ pc lv (.ref (E.2.2 22 i) :: st) := z_get (fs := fun r => [.int (r 0), .ref (E.2.2 23 0), .ref (E.2.2 24 0), .ref (E.2.2 25 0), .ref (E.2.2 26 0), .ref (E.2.2 27 0), .ref (E.2.2 28 0), .ref (E.2.2 29 0), .ref (E.2.2 30 0), .int (r 9), .ref (E.2.2 31 0), .ref (E.2.2 32 0), .ref (E.2.2 33 0), .ref (E.2.2 34 0), .ref (E.2.2 35 0), .ref (E.2.2 36 0), .int (r 16), .ref (E.2.2 37 0), .ref (E.2.2 38 0), .int (r 19), .int (r 20), .int (r 21), .ref (E.2.2 39 0), .ref (E.2.2 40 0), .ref (E.2.2 41 0), .int (r 25), .ref (E.2.2 42 0), .ref (E.2.2 43 0), .ref (E.2.2 44 0), .int (r 29), .ref (E.2.2 45 0), .ref (E.2.2 46 0), .ref (E.2.2 47 0), .ref (E.2.2 48 0), .ref (E.2.2 49 0), .ref (E.2.2 50 0), .ref (E.2.2 51 0), .ref (E.2.2 52 0), .ref (E.2.2 53 0), .ref (E.2.2 54 0)]) C (zL_mem (by decide) hi) (fun _ => rfl) rfl ziX11 19 (by decide) (zr17 _ (List.mem_of_getElem? (i := 22) rfl)) rfl hd hn k9
theorem zgX11_162 (C : zX p s m args meth c cc nL RX11 rt E) {i : Nat} (hi : i < zcnt 22) (hd : decode cc pc = .ok (.getfield 162, 3)) (hn : pc + 3 = pc') (k9 : zG p l e R s m args below meth c nL E kc ks Q σ pc' lv (.int (σ 22 i 20) :: st)) : zG p l e R s m args below meth c nL E kc ks Q σ pc lv (.ref (E.2.2 22 i) :: st) := z_get (fs := fun r => [.int (r 0), .ref (E.2.2 23 0), .ref (E.2.2 24 0), .ref (E.2.2 25 0), .ref (E.2.2 26 0), .ref (E.2.2 27 0), .ref (E.2.2 28 0), .ref (E.2.2 29 0), .ref (E.2.2 30 0), .int (r 9), .ref (E.2.2 31 0), .ref (E.2.2 32 0), .ref (E.2.2 33 0), .ref (E.2.2 34 0), .ref (E.2.2 35 0), .ref (E.2.2 36 0), .int (r 16), .ref (E.2.2 37 0), .ref (E.2.2 38 0), .int (r 19), .int (r 20), .int (r 21), .ref (E.2.2 39 0), .ref (E.2.2 40 0), .ref (E.2.2 41 0), .int (r 25), .ref (E.2.2 42 0), .ref (E.2.2 43 0), .ref (E.2.2 44 0), .int (r 29), .ref (E.2.2 45 0), .ref (E.2.2 46 0), .ref (E.2.2 47 0), .ref (E.2.2 48 0), .ref (E.2.2 49 0), .ref (E.2.2 50 0), .ref (E.2.2 51 0), .ref (E.2.2 52 0), .ref (E.2.2 53 0), .ref (E.2.2 54 0)]) C (zL_mem (by decide) hi) (fun _ => rfl) rfl ziX11 20 (by decide) (zr18 _ (List.mem_of_getElem? (i := 11) rfl)) rfl hd hn k9
theorem zgX11_180 (C : zX p s m args meth c cc nL RX11 rt E) {i : Nat} (hi : i < zcnt 22) (hd : decode cc pc = .ok (.getfield 180, 3)) (hn : pc + 3 = pc') (k9 : zG p l e R s m args below meth c nL E kc ks Q σ pc' lv (.int (σ 22 i 21) :: st)) : zG p l e R s m args below meth c nL E kc ks Q σ pc lv (.ref (E.2.2 22 i) :: st) := z_get (fs := fun r => [.int (r 0), .ref (E.2.2 23 0), .ref (E.2.2 24 0), .ref (E.2.2 25 0), .ref (E.2.2 26 0), .ref (E.2.2 27 0), .ref (E.2.2 28 0), .ref (E.2.2 29 0), .ref (E.2.2 30 0), .int (r 9), .ref (E.2.2 31 0), .ref (E.2.2 32 0), .ref (E.2.2 33 0), .ref (E.2.2 34 0), .ref (E.2.2 35 0), .ref (E.2.2 36 0), .int (r 16), .ref (E.2.2 37 0), .ref (E.2.2 38 0), .int (r 19), .int (r 20), .int (r 21), .ref (E.2.2 39 0), .ref (E.2.2 40 0), .ref (E.2.2 41 0), .int (r 25), .ref (E.2.2 42 0), .ref (E.2.2 43 0), .ref (E.2.2 44 0), .int (r 29), .ref (E.2.2 45 0), .ref (E.2.2 46 0), .ref (E.2.2 47 0), .ref (E.2.2 48 0), .ref (E.2.2 49 0), .ref (E.2.2 50 0), .ref (E.2.2 51 0), .ref (E.2.2 52 0), .ref (E.2.2 53 0), .ref (E.2.2 54 0)]) C (zL_mem (by decide) hi) (fun _ => rfl) rfl ziX11 21 (by decide) (zr20 _ (List.mem_of_getElem? (i := 10) rfl)) rfl hd hn k9
theorem zgX11_189 (C : zX p s m args meth c cc nL RX11 rt E) {i : Nat} (hi : i < zcnt 22) (hd : decode cc pc = .ok (.getfield 189, 3)) (hn : pc + 3 = pc') (k9 : zG p l e R s m args below meth c nL E kc ks Q σ pc' lv (.int (σ 22 i 25) :: st)) : zG p l e R s m args below meth c nL E kc ks Q σ pc lv (.ref (E.2.2 22 i) :: st) := z_get (fs := fun r => [.int (r 0), .ref (E.2.2 23 0), .ref (E.2.2 24 0), .ref (E.2.2 25 0), .ref (E.2.2 26 0), .ref (E.2.2 27 0), .ref (E.2.2 28 0), .ref (E.2.2 29 0), .ref (E.2.2 30 0), .int (r 9), .ref (E.2.2 31 0), .ref (E.2.2 32 0), .ref (E.2.2 33 0), .ref (E.2.2 34 0), .ref (E.2.2 35 0), .ref (E.2.2 36 0), .int (r 16), .ref (E.2.2 37 0), .ref (E.2.2 38 0), .int (r 19), .int (r 20), .int (r 21), .ref (E.2.2 39 0), .ref (E.2.2 40 0), .ref (E.2.2 41 0), .int (r 25), .ref (E.2.2 42 0), .ref (E.2.2 43 0), .ref (E.2.2 44 0), .int (r 29), .ref (E.2.2 45 0), .ref (E.2.2 46 0), .ref (E.2.2 47 0), .ref (E.2.2 48 0), .ref (E.2.2 49 0), .ref (E.2.2 50 0), .ref (E.2.2 51 0), .ref (E.2.2 52 0), .ref (E.2.2 53 0), .ref (E.2.2 54 0)]) C (zL_mem (by decide) hi) (fun _ => rfl) rfl ziX11 25 (by decide) (zr23 _ (List.mem_of_getElem? (i := 8) rfl)) rfl hd hn k9
theorem zgX11_196 (C : zX p s m args meth c cc nL RX11 rt E) {i : Nat} (hi : i < zcnt 22) (hd : decode cc pc = .ok (.getfield 196, 3)) (hn : pc + 3 = pc') (k9 : zG p l e R s m args below meth c nL E kc ks Q σ pc' lv (.int (σ 22 i 29) :: st)) : zG p l e R s m args below meth c nL E kc ks Q σ pc lv (.ref (E.2.2 22 i) :: st) := z_get (fs := fun r => [.int (r 0), .ref (E.2.2 23 0), .ref (E.2.2 24 0), .ref (E.2.2 25 0), .ref (E.2.2 26 0), .ref (E.2.2 27 0), .ref (E.2.2 28 0), .ref (E.2.2 29 0), .ref (E.2.2 30 0), .int (r 9), .ref (E.2.2 31 0), .ref (E.2.2 32 0), .ref (E.2.2 33 0), .ref (E.2.2 34 0), .ref (E.2.2 35 0), .ref (E.2.2 36 0), .int (r 16), .ref (E.2.2 37 0), .ref (E.2.2 38 0), .int (r 19), .int (r 20), .int (r 21), .ref (E.2.2 39 0), .ref (E.2.2 40 0), .ref (E.2.2 41 0), .int (r 25), .ref (E.2.2 42 0), .ref (E.2.2 43 0), .ref (E.2.2 44 0), .int (r 29), .ref (E.2.2 45 0), .ref (E.2.2 46 0), .ref (E.2.2 47 0), .ref (E.2.2 48 0), .ref (E.2.2 49 0), .ref (E.2.2 50 0), .ref (E.2.2 51 0), .ref (E.2.2 52 0), .ref (E.2.2 53 0), .ref (E.2.2 54 0)]) C (zL_mem (by decide) hi) (fun _ => rfl) rfl ziX11 29 (by decide) (zr24 _ (List.mem_of_getElem? (i := 18) rfl)) rfl hd hn k9
theorem zgX4_9 (C : zX p s m args meth c cc nL RX4 rt E) {i : Nat} (hi : i < zcnt 18) (hd : decode cc pc = .ok (.getfield 9, 3)) (hn : pc + 3 = pc') (k9 : zG p l e R s m args below meth c nL E kc ks Q σ pc' lv (.ref (E.2.2 19 0) :: st)) : zG p l e R s m args below meth c nL E kc ks Q σ pc lv (.ref (E.2.2 18 i) :: st) := z_get (fs := fun r => [.ref (E.2.2 19 0), .ref (E.2.2 20 0), .ref (E.2.2 21 0)]) C (zL_mem (by decide) hi) (fun _ => rfl) rfl ziX4 0 (by decide) (zr3 _ (List.mem_of_getElem? (i := 23) rfl)) rfl hd hn k9
theorem zgX4_15 (C : zX p s m args meth c cc nL RX4 rt E) {i : Nat} (hi : i < zcnt 18) (hd : decode cc pc = .ok (.getfield 15, 3)) (hn : pc + 3 = pc') (k9 : zG p l e R s m args below meth c nL E kc ks Q σ pc' lv (.ref (E.2.2 20 0) :: st)) : zG p l e R s m args below meth c nL E kc ks Q σ pc lv (.ref (E.2.2 18 i) :: st) := z_get (fs := fun r => [.ref (E.2.2 19 0), .ref (E.2.2 20 0), .ref (E.2.2 21 0)]) C (zL_mem (by decide) hi) (fun _ => rfl) rfl ziX4 1 (by decide) (zr4 _ (List.mem_of_getElem? (i := 0) rfl)) rfl hd hn k9
theorem zgX4_18 (C : zX p s m args meth c cc nL RX4 rt E) {i : Nat} (hi : i < zcnt 18) (hd : decode cc pc = .ok (.getfield 18, 3)) (hn : pc + 3 = pc') (k9 : zG p l e R s m args below meth c nL E kc ks Q σ pc' lv (.ref (E.2.2 21 0) :: st)) : zG p l e R s m args below meth c nL E kc ks Q σ pc lv (.ref (E.2.2 18 i) :: st) := z_get (fs := fun r => [.ref (E.2.2 19 0), .ref (E.2.2 20 0), .ref (E.2.2 21 0)]) C (zL_mem (by decide) hi) (fun _ => rfl) rfl ziX4 2 (by decide) (zr4 _ (List.mem_of_getElem? (i := 1) rfl)) rfl hd hn k9
theorem zgX4_27 (C : zX p s m args meth c cc nL RX4 rt E) {i : Nat} (hi : i < zcnt 6) (hd : decode cc pc = .ok (.getfield 27, 3)) (hn : pc + 3 = pc') (k9 : zG p l e R s m args below meth c nL E kc ks Q σ pc' lv (.int (σ 6 i 1) :: st)) : zG p l e R s m args below meth c nL E kc ks Q σ pc lv (.ref (E.2.2 6 i) :: st) := z_get (fs := fun r => [.int (r 0), .int (r 1), .int (r 2), .int (r 3), .int (r 4), .int (r 5), .int (r 6)]) C (zL_mem (by decide) hi) (fun _ => rfl) rfl ziX0 1 (by decide) (zr26 _ (List.mem_of_getElem? (i := 5) rfl)) rfl hd hn k9
theorem zgX4_37 (C : zX p s m args meth c cc nL RX4 rt E) {i : Nat} (hi : i < zcnt 6) (hd : decode cc pc = .ok (.getfield 37, 3)) (hn : pc + 3 = pc') (k9 : zG p l e R s m args below meth c nL E kc ks Q σ pc' lv (.int (σ 6 i 6) :: st)) : zG p l e R s m args below meth c nL E kc ks Q σ pc lv (.ref (E.2.2 6 i) :: st) := z_get (fs := fun r => [.int (r 0), .int (r 1), .int (r 2), .int (r 3), .int (r 4), .int (r 5), .int (r 6)]) C (zL_mem (by decide) hi) (fun _ => rfl) rfl ziX0 6 (by decide) (zr26 _ (List.mem_of_getElem? (i := 7) rfl)) rfl hd hn k9
theorem zgX5_9 (C : zX p s m args meth c cc nL RX5 rt E) {i : Nat} (hi : i < zcnt 4) (hd : decode cc pc = .ok (.getfield 9, 3)) (hn : pc + 3 = pc') (k9 : zG p l e R s m args below meth c nL E kc ks Q σ pc' lv (.int (σ 4 i 3) :: st)) : zG p l e R s m args below meth c nL E kc ks Q σ pc lv (.ref (E.2.2 4 i) :: st) := z_get (fs := fun r => [.int (r 0), .ref (E.2.2 2 (r 1).toNatClampNeg), .int (r 2), .int (r 3), .int (r 4), .int (r 5)]) C (zL_mem (by decide) hi) (fun _ => rfl) rfl ziX5 3 (by decide) (zr4 _ (List.mem_of_getElem? (i := 22) rfl)) rfl hd hn k9
theorem zgX5_18 (C : zX p s m args meth c cc nL RX5 rt E) {i : Nat} (hi : i < zcnt 4) (hd : decode cc pc = .ok (.getfield 18, 3)) (hn : pc + 3 = pc') (k9 : zG p l e R s m args below meth c nL E kc ks Q σ pc' lv (.int (σ 4 i 5) :: st)) : zG p l e R s m args below meth c nL E kc ks Q σ pc lv (.ref (E.2.2 4 i) :: st) := z_get (fs := fun r => [.int (r 0), .ref (E.2.2 2 (r 1).toNatClampNeg), .int (r 2), .int (r 3), .int (r 4), .int (r 5)]) C (zL_mem (by decide) hi) (fun _ => rfl) rfl ziX5 5 (by decide) (zr5 _ (List.mem_of_getElem? (i := 0) rfl)) rfl hd hn k9
theorem zgX5_21 (C : zX p s m args meth c cc nL RX5 rt E) {i : Nat} (hi : i < zcnt 4) (hd : decode cc pc = .ok (.getfield 21, 3)) (hn : pc + 3 = pc') (k9 : zG p l e R s m args below meth c nL E kc ks Q σ pc' lv (.ref (E.2.2 2 (σ 4 i 1).toNatClampNeg) :: st)) : zG p l e R s m args below meth c nL E kc ks Q σ pc lv (.ref (E.2.2 4 i) :: st) := z_get (fs := fun r => [.int (r 0), .ref (E.2.2 2 (r 1).toNatClampNeg), .int (r 2), .int (r 3), .int (r 4), .int (r 5)]) C (zL_mem (by decide) hi) (fun _ => rfl) rfl ziX5 1 (by decide) (zr5 _ (List.mem_of_getElem? (i := 1) rfl)) rfl hd hn k9
theorem zgX5_25 (C : zX p s m args meth c cc nL RX5 rt E) {i : Nat} (hi : i < zcnt 4) (hd : decode cc pc = .ok (.getfield 25, 3)) (hn : pc + 3 = pc') (k9 : zG p l e R s m args below meth c nL E kc ks Q σ pc' lv (.int (σ 4 i 2) :: st)) : zG p l e R s m args below meth c nL E kc ks Q σ pc lv (.ref (E.2.2 4 i) :: st) := z_get (fs := fun r => [.int (r 0), .ref (E.2.2 2 (r 1).toNatClampNeg), .int (r 2), .int (r 3), .int (r 4), .int (r 5)]) C (zL_mem (by decide) hi) (fun _ => rfl) rfl ziX5 2 (by decide) (zr11 _ (List.mem_of_getElem? (i := 23) rfl)) rfl hd hn k9
theorem zgX6_9 (C : zX p s m args meth c cc nL RX6 rt E) {i : Nat} (hi : i < zcnt 12) (hd : decode cc pc = .ok (.getfield 9, 3)) (hn : pc + 3 = pc') (k9 : zG p l e R s m args below meth c nL E kc ks Q σ pc' lv (.ref (E.2.2 13 0) :: st)) : zG p l e R s m args below meth c nL E kc ks Q σ pc lv (.ref (E.2.2 12 i) :: st) := z_get (fs := fun r => [.ref (E.2.2 13 0), .ref (E.2.2 14 0), .int (r 2), .int (r 3), .int (r 4), .int (r 5)]) C (zL_mem (by decide) hi) (fun _ => rfl) rfl ziX6 0 (by decide) (zr3 _ (List.mem_of_getElem? (i := 10) rfl)) rfl hd hn k9
theorem zgX6_15 (C : zX p s m args meth c cc nL RX6 rt E) {i : Nat} (hi : i < zcnt 12) (hd : decode cc pc = .ok (.getfield 15, 3)) (hn : pc + 3 = pc') (k9 : zG p l e R s m args below meth c nL E kc ks Q σ pc' lv (.ref (E.2.2 14 0) :: st)) : zG p l e R s m args below meth c nL E kc ks Q σ pc lv (.ref (E.2.2 12 i) :: st) := z_get (fs := fun r => [.ref (E.2.2 13 0), .ref (E.2.2 14 0), .int (r 2), .int (r 3), .int (r 4), .int (r 5)]) C (zL_mem (by decide) hi) (fun _ => rfl) rfl ziX6 1 (by decide) (zr3 _ (List.mem_of_getElem? (i := 11) rfl)) rfl hd hn k9
theorem zgX6_19 (C : zX p s m args meth c cc nL RX6 rt E) {i : Nat} (hi : i < zcnt 12) (hd : decode cc pc = .ok (.getfield 19, 3)) (hn : pc + 3 = pc') (k9 : zG p l e R s m args below meth c nL E kc ks Q σ pc' lv (.int (σ 12 i 4) :: st)) : zG p l e R s m args below meth c nL E kc ks Q σ pc lv (.ref (E.2.2 12 i) :: st) := z_get (fs := fun r => [.ref (E.2.2 13 0), .ref (E.2.2 14 0), .int (r 2), .int (r 3), .int (r 4), .int (r 5)]) C (zL_mem (by decide) hi) (fun _ => rfl) rfl ziX6 4 (by decide) (zr3 _ (List.mem_of_getElem? (i := 12) rfl)) rfl hd hn k9
theorem zgX6_23 (C : zX p s m args meth c cc nL RX6 rt E) {i : Nat} (hi : i < zcnt 12) (hd : decode cc pc = .ok (.getfield 23, 3)) (hn : pc + 3 = pc') (k9 : zG p l e R s m args below meth c nL E kc ks Q σ pc' lv (.int (σ 12 i 5) :: st)) : zG p l e R s m args below meth c nL E kc ks Q σ pc lv (.ref (E.2.2 12 i) :: st) := z_get (fs := fun r => [.ref (E.2.2 13 0), .ref (E.2.2 14 0), .int (r 2), .int (r 3), .int (r 4), .int (r 5)]) C (zL_mem (by decide) hi) (fun _ => rfl) rfl ziX6 5 (by decide) (zr16 _ (List.mem_of_getElem? (i := 22) rfl)) rfl hd hn k9
theorem zgX6_26 (C : zX p s m args meth c cc nL RX6 rt E) {i : Nat} (hi : i < zcnt 12) (hd : decode cc pc = .ok (.getfield 26, 3)) (hn : pc + 3 = pc') (k9 : zG p l e R s m args below meth c nL E kc ks Q σ pc' lv (.int (σ 12 i 2) :: st)) : zG p l e R s m args below meth c nL E kc ks Q σ pc lv (.ref (E.2.2 12 i) :: st) := z_get (fs := fun r => [.ref (E.2.2 13 0), .ref (E.2.2 14 0), .int (r 2), .int (r 3), .int (r 4), .int (r 5)]) C (zL_mem (by decide) hi) (fun _ => rfl) rfl ziX6 2 (by decide) (zr16 _ (List.mem_of_getElem? (i := 23) rfl)) rfl hd hn k9
theorem zgX6_29 (C : zX p s m args meth c cc nL RX6 rt E) {i : Nat} (hi : i < zcnt 12) (hd : decode cc pc = .ok (.getfield 29, 3)) (hn : pc + 3 = pc') (k9 : zG p l e R s m args below meth c nL E kc ks Q σ pc' lv (.int (σ 12 i 3) :: st)) : zG p l e R s m args below meth c nL E kc ks Q σ pc lv (.ref (E.2.2 12 i) :: st) := z_get (fs := fun r => [.ref (E.2.2 13 0), .ref (E.2.2 14 0), .int (r 2), .int (r 3), .int (r 4), .int (r 5)]) C (zL_mem (by decide) hi) (fun _ => rfl) rfl ziX6 3 (by decide) (zr17 _ (List.mem_of_getElem? (i := 0) rfl)) rfl hd hn k9
theorem zgX7_9 (C : zX p s m args meth c cc nL RX7 rt E) {i : Nat} (hi : i < zcnt 8) (hd : decode cc pc = .ok (.getfield 9, 3)) (hn : pc + 3 = pc') (k9 : zG p l e R s m args below meth c nL E kc ks Q σ pc' lv (.int (σ 8 i 0) :: st)) : zG p l e R s m args below meth c nL E kc ks Q σ pc lv (.ref (E.2.2 8 i) :: st) := z_get (fs := fun r => [.int (r 0), .int (r 1), .ref (E.2.2 2 (r 2).toNatClampNeg), .int (r 3), .ref (E.2.2 9 i), .ref (E.2.2 10 i), .int (r 6)]) C (zL_mem (by decide) hi) (fun _ => rfl) rfl ziX7 0 (by decide) (zr5 _ (List.mem_of_getElem? (i := 11) rfl)) rfl hd hn k9
theorem zgX7_15 (C : zX p s m args meth c cc nL RX7 rt E) {i : Nat} (hi : i < zcnt 8) (hd : decode cc pc = .ok (.getfield 15, 3)) (hn : pc + 3 = pc') (k9 : zG p l e R s m args below meth c nL E kc ks Q σ pc' lv (.ref (E.2.2 9 i) :: st)) : zG p l e R s m args below meth c nL E kc ks Q σ pc lv (.ref (E.2.2 8 i) :: st) := z_get (fs := fun r => [.int (r 0), .int (r 1), .ref (E.2.2 2 (r 2).toNatClampNeg), .int (r 3), .ref (E.2.2 9 i), .ref (E.2.2 10 i), .int (r 6)]) C (zL_mem (by decide) hi) (fun _ => rfl) rfl ziX7 4 (by decide) (zr5 _ (List.mem_of_getElem? (i := 12) rfl)) rfl hd hn k9
theorem zgX7_19 (C : zX p s m args meth c cc nL RX7 rt E) {i : Nat} (hi : i < zcnt 8) (hd : decode cc pc = .ok (.getfield 19, 3)) (hn : pc + 3 = pc') (k9 : zG p l e R s m args below meth c nL E kc ks Q σ pc' lv (.ref (E.2.2 10 i) :: st)) : zG p l e R s m args below meth c nL E kc ks Q σ pc lv (.ref (E.2.2 8 i) :: st) := z_get (fs := fun r => [.int (r 0), .int (r 1), .ref (E.2.2 2 (r 2).toNatClampNeg), .int (r 3), .ref (E.2.2 9 i), .ref (E.2.2 10 i), .int (r 6)]) C (zL_mem (by decide) hi) (fun _ => rfl) rfl ziX7 5 (by decide) (zr5 _ (List.mem_of_getElem? (i := 14) rfl)) rfl hd hn k9
theorem zgX7_27 (C : zX p s m args meth c cc nL RX7 rt E) {i : Nat} (hi : i < zcnt 8) (hd : decode cc pc = .ok (.getfield 27, 3)) (hn : pc + 3 = pc') (k9 : zG p l e R s m args below meth c nL E kc ks Q σ pc' lv (.int (σ 8 i 6) :: st)) : zG p l e R s m args below meth c nL E kc ks Q σ pc lv (.ref (E.2.2 8 i) :: st) := z_get (fs := fun r => [.int (r 0), .int (r 1), .ref (E.2.2 2 (r 2).toNatClampNeg), .int (r 3), .ref (E.2.2 9 i), .ref (E.2.2 10 i), .int (r 6)]) C (zL_mem (by decide) hi) (fun _ => rfl) rfl ziX7 6 (by decide) (zr28 _ (List.mem_of_getElem? (i := 19) rfl)) rfl hd hn k9
theorem zgX8_9 (C : zX p s m args meth c cc nL RX8 rt E) {i : Nat} (hi : i < zcnt 15) (hd : decode cc pc = .ok (.getfield 9, 3)) (hn : pc + 3 = pc') (k9 : zG p l e R s m args below meth c nL E kc ks Q σ pc' lv (.ref (E.2.2 16 0) :: st)) : zG p l e R s m args below meth c nL E kc ks Q σ pc lv (.ref (E.2.2 15 i) :: st) := z_get (fs := fun r => [.ref (E.2.2 16 0), .ref (E.2.2 17 0)]) C (zL_mem (by decide) hi) (fun _ => rfl) rfl ziX8 0 (by decide) (zr3 _ (List.mem_of_getElem? (i := 17) rfl)) rfl hd hn k9
theorem zgX8_15 (C : zX p s m args meth c cc nL RX8 rt E) {i : Nat} (hi : i < zcnt 15) (hd : decode cc pc = .ok (.getfield 15, 3)) (hn : pc + 3 = pc') (k9 : zG p l e R s m args below meth c nL E kc ks Q σ pc' lv (.ref (E.2.2 17 0) :: st)) : zG p l e R s m args below meth c nL E kc ks Q σ pc lv (.ref (E.2.2 15 i) :: st) := z_get (fs := fun r => [.ref (E.2.2 16 0), .ref (E.2.2 17 0)]) C (zL_mem (by decide) hi) (fun _ => rfl) rfl ziX8 1 (by decide) (zr3 _ (List.mem_of_getElem? (i := 18) rfl)) rfl hd hn k9
theorem zpX10_58 (C : zX p s m args meth c cc nL RX10 rt E) {i : Nat} (hi : i < zcnt 0) {x : Int32} (hd : decode cc pc = .ok (.putfield 58, 3)) (hn : pc + 3 = pc') (k9 : zG p l e R s m args below meth c nL E kc ks Q (um σ 0 i 9 x) pc' lv st) : zG p l e R s m args below meth c nL E kc ks Q σ pc lv (.int x :: .ref (E.2.2 0 i) :: st) := z_put (x := x) (fs := fun r => [.ref (E.2.2 1 0), .ref (E.2.2 3 0), .ref (E.2.2 5 0), .ref (E.2.2 7 0), .ref (E.2.2 11 0), .ref (E.2.2 12 0), .ref (E.2.2 15 0), .ref (E.2.2 18 0), .int (r 8), .int (r 9), .int (r 10), .int (r 11)]) C (zL_mem (by decide) hi) (fun _ => rfl) rfl ziX10 tyX10 tyX10_ok nmX10 9 (by decide) (zr2 _ (List.mem_of_getElem? (i := 11) rfl)) rfl rfl rfl (Nat.le_of_ble_eq_true rfl) rfl hd hn k9
theorem zpX10_89 (C : zX p s m args meth c cc nL RX10 rt E) {i : Nat} (hi : i < zcnt 4) {x : Int32} (hd : decode cc pc = .ok (.putfield 89, 3)) (hn : pc + 3 = pc') (k9 : zG p l e R s m args below meth c nL E kc ks Q (um σ 4 i 2 x) pc' lv st) : zG p l e R s m args below meth c nL E kc ks Q σ pc lv (.int x :: .ref (E.2.2 4 i) :: st) := z_put (x := x) (fs := fun r => [.int (r 0), .ref (E.2.2 2 (r 1).toNatClampNeg), .int (r 2), .int (r 3), .int (r 4), .int (r 5)]) C (zL_mem (by decide) hi) (fun _ => rfl) rfl ziX5 tyX5 tyX5_ok nmX5 2 (by decide) (zr7 _ (List.mem_of_getElem? (i := 9) rfl)) rfl rfl rfl (Nat.le_of_ble_eq_true rfl) rfl hd hn k9
theorem zpX10_92 (C : zX p s m args meth c cc nL RX10 rt E) {i : Nat} (hi : i < zcnt 4) {x : Int32} (hd : decode cc pc = .ok (.putfield 92, 3)) (hn : pc + 3 = pc') (k9 : zG p l e R s m args below meth c nL E kc ks Q (um σ 4 i 0 x) pc' lv st) : zG p l e R s m args below meth c nL E kc ks Q σ pc lv (.int x :: .ref (E.2.2 4 i) :: st) := z_put (x := x) (fs := fun r => [.int (r 0), .ref (E.2.2 2 (r 1).toNatClampNeg), .int (r 2), .int (r 3), .int (r 4), .int (r 5)]) C (zL_mem (by decide) hi) (fun _ => rfl) rfl ziX5 tyX5 tyX5_ok nmX5 0 (by decide) (zr7 _ (List.mem_of_getElem? (i := 10) rfl)) rfl rfl rfl (Nat.le_of_ble_eq_true rfl) rfl hd hn k9
theorem zpX10_95 (C : zX p s m args meth c cc nL RX10 rt E) {i : Nat} (hi : i < zcnt 4) {g : Nat} (hg : g < 4) (hd : decode cc pc = .ok (.putfield 95, 3)) (hn : pc + 3 = pc') (k9 : zG p l e R s m args below meth c nL E kc ks Q (um σ 4 i 1 (nI g)) pc' lv st) : zG p l e R s m args below meth c nL E kc ks Q σ pc lv (.ref (E.2.2 2 g) :: .ref (E.2.2 4 i) :: st) := z_put (x := (nI g)) (fs := fun r => [.int (r 0), .ref (E.2.2 2 (r 1).toNatClampNeg), .int (r 2), .int (r 3), .int (r 4), .int (r 5)]) C (zL_mem (by decide) hi) (fun _ => rfl) rfl ziX5 tyX5 tyX5_ok nmX5 1 (by decide) (zr7 _ (List.mem_of_getElem? (i := 11) rfl)) rfl rfl rfl (Nat.le_of_ble_eq_true rfl) (by have e9 : (nI g).toNatClampNeg = g := nI_clamp (by omega); have e8 : upd (σ 4 i) 1 (nI g) 1 = nI g := rfl; simp [upd, e9]) hd hn k9
theorem zpX10_100 (C : zX p s m args meth c cc nL RX10 rt E) {i : Nat} (hi : i < zcnt 0) {x : Int32} (hd : decode cc pc = .ok (.putfield 100, 3)) (hn : pc + 3 = pc') (k9 : zG p l e R s m args below meth c nL E kc ks Q (um σ 0 i 8 x) pc' lv st) : zG p l e R s m args below meth c nL E kc ks Q σ pc lv (.int x :: .ref (E.2.2 0 i) :: st) := z_put (x := x) (fs := fun r => [.ref (E.2.2 1 0), .ref (E.2.2 3 0), .ref (E.2.2 5 0), .ref (E.2.2 7 0), .ref (E.2.2 11 0), .ref (E.2.2 12 0), .ref (E.2.2 15 0), .ref (E.2.2 18 0), .int (r 8), .int (r 9), .int (r 10), .int (r 11)]) C (zL_mem (by decide) hi) (fun _ => rfl) rfl ziX10 tyX10 tyX10_ok nmX10 8 (by decide) (zr8 _ (List.mem_of_getElem? (i := 13) rfl)) rfl rfl rfl (Nat.le_of_ble_eq_true rfl) rfl hd hn k9
theorem zpX10_103 (C : zX p s m args meth c cc nL RX10 rt E) {i : Nat} (hi : i < zcnt 6) {x : Int32} (hd : decode cc pc = .ok (.putfield 103, 3)) (hn : pc + 3 = pc') (k9 : zG p l e R s m args below meth c nL E kc ks Q (um σ 6 i 0 x) pc' lv st) : zG p l e R s m args below meth c nL E kc ks Q σ pc lv (.int x :: .ref (E.2.2 6 i) :: st) := z_put (x := x) (fs := fun r => [.int (r 0), .int (r 1), .int (r 2), .int (r 3), .int (r 4), .int (r 5), .int (r 6)]) C (zL_mem (by decide) hi) (fun _ => rfl) rfl ziX0 tyX0 tyX0_ok nmX0 0 (by decide) (zr8 _ (List.mem_of_getElem? (i := 14) rfl)) rfl rfl rfl (Nat.le_of_ble_eq_true rfl) rfl hd hn k9
theorem zpX10_106 (C : zX p s m args meth c cc nL RX10 rt E) {i : Nat} (hi : i < zcnt 6) {x : Int32} (hd : decode cc pc = .ok (.putfield 106, 3)) (hn : pc + 3 = pc') (k9 : zG p l e R s m args below meth c nL E kc ks Q (um σ 6 i 1 x) pc' lv st) : zG p l e R s m args below meth c nL E kc ks Q σ pc lv (.int x :: .ref (E.2.2 6 i) :: st) := z_put (x := x) (fs := fun r => [.int (r 0), .int (r 1), .int (r 2), .int (r 3), .int (r 4), .int (r 5), .int (r 6)]) C (zL_mem (by decide) hi) (fun _ => rfl) rfl ziX0 tyX0 tyX0_ok nmX0 1 (by decide) (zr8 _ (List.mem_of_getElem? (i := 15) rfl)) rfl rfl rfl (Nat.le_of_ble_eq_true rfl) rfl hd hn k9
theorem zpX10_109 (C : zX p s m args meth c cc nL RX10 rt E) {i : Nat} (hi : i < zcnt 6) {x : Int32} (hd : decode cc pc = .ok (.putfield 109, 3)) (hn : pc + 3 = pc') (k9 : zG p l e R s m args below meth c nL E kc ks Q (um σ 6 i 2 x) pc' lv st) : zG p l e R s m args below meth c nL E kc ks Q σ pc lv (.int x :: .ref (E.2.2 6 i) :: st) := z_put (x := x) (fs := fun r => [.int (r 0), .int (r 1), .int (r 2), .int (r 3), .int (r 4), .int (r 5), .int (r 6)]) C (zL_mem (by decide) hi) (fun _ => rfl) rfl ziX0 tyX0 tyX0_ok nmX0 2 (by decide) (zr8 _ (List.mem_of_getElem? (i := 16) rfl)) rfl rfl rfl (Nat.le_of_ble_eq_true rfl) rfl hd hn k9
theorem zpX10_115 (C : zX p s m args meth c cc nL RX10 rt E) {i : Nat} (hi : i < zcnt 6) {x : Int32} (hb : zbool x) (hd : decode cc pc = .ok (.putfield 115, 3)) (hn : pc + 3 = pc') (k9 : zG p l e R s m args below meth c nL E kc ks Q (um σ 6 i 5 x) pc' lv st) : zG p l e R s m args below meth c nL E kc ks Q σ pc lv (.int x :: .ref (E.2.2 6 i) :: st) := z_put (x := x) (fs := fun r => [.int (r 0), .int (r 1), .int (r 2), .int (r 3), .int (r 4), .int (r 5), .int (r 6)]) C (zL_mem (by decide) hi) (fun _ => rfl) rfl ziX0 tyX0 tyX0_ok nmX0 5 (by decide) (zr9 _ (List.mem_of_getElem? (i := 19) rfl)) rfl (zbn hb) (zbf hb) (Nat.le_of_ble_eq_true rfl) rfl hd hn k9
theorem zpX10_123 (C : zX p s m args meth c cc nL RX10 rt E) {i : Nat} (hi : i < zcnt 6) {x : Int32} (hd : decode cc pc = .ok (.putfield 123, 3)) (hn : pc + 3 = pc') (k9 : zG p l e R s m args below meth c nL E kc ks Q (um σ 6 i 6 x) pc' lv st) : zG p l e R s m args below meth c nL E kc ks Q σ pc lv (.int x :: .ref (E.2.2 6 i) :: st) := z_put (x := x) (fs := fun r => [.int (r 0), .int (r 1), .int (r 2), .int (r 3), .int (r 4), .int (r 5), .int (r 6)]) C (zL_mem (by decide) hi) (fun _ => rfl) rfl ziX0 tyX0 tyX0_ok nmX0 6 (by decide) (zr10 _ (List.mem_of_getElem? (i := 7) rfl)) rfl rfl rfl (Nat.le_of_ble_eq_true rfl) rfl hd hn k9
theorem zpX10_133 (C : zX p s m args meth c cc nL RX10 rt E) {i : Nat} (hi : i < zcnt 4) {x : Int32} (hd : decode cc pc = .ok (.putfield 133, 3)) (hn : pc + 3 = pc') (k9 : zG p l e R s m args below meth c nL E kc ks Q (um σ 4 i 3 x) pc' lv st) : zG p l e R s m args below meth c nL E kc ks Q σ pc lv (.int x :: .ref (E.2.2 4 i) :: st) := z_put (x := x) (fs := fun r => [.int (r 0), .ref (E.2.2 2 (r 1).toNatClampNeg), .int (r 2), .int (r 3), .int (r 4), .int (r 5)]) C (zL_mem (by decide) hi) (fun _ => rfl) rfl ziX5 tyX5 tyX5_ok nmX5 3 (by decide) (zr11 _ (List.mem_of_getElem? (i := 0) rfl)) rfl rfl rfl (Nat.le_of_ble_eq_true rfl) rfl hd hn k9
theorem zpX10_136 (C : zX p s m args meth c cc nL RX10 rt E) {i : Nat} (hi : i < zcnt 4) {x : Int32} (hd : decode cc pc = .ok (.putfield 136, 3)) (hn : pc + 3 = pc') (k9 : zG p l e R s m args below meth c nL E kc ks Q (um σ 4 i 4 x) pc' lv st) : zG p l e R s m args below meth c nL E kc ks Q σ pc lv (.int x :: .ref (E.2.2 4 i) :: st) := z_put (x := x) (fs := fun r => [.int (r 0), .ref (E.2.2 2 (r 1).toNatClampNeg), .int (r 2), .int (r 3), .int (r 4), .int (r 5)]) C (zL_mem (by decide) hi) (fun _ => rfl) rfl ziX5 tyX5 tyX5_ok nmX5 4 (by decide) (zr11 _ (List.mem_of_getElem? (i := 1) rfl)) rfl rfl rfl (Nat.le_of_ble_eq_true rfl) rfl hd hn k9
theorem zpX10_139 (C : zX p s m args meth c cc nL RX10 rt E) {i : Nat} (hi : i < zcnt 4) {x : Int32} (hd : decode cc pc = .ok (.putfield 139, 3)) (hn : pc + 3 = pc') (k9 : zG p l e R s m args below meth c nL E kc ks Q (um σ 4 i 5 x) pc' lv st) : zG p l e R s m args below meth c nL E kc ks Q σ pc lv (.int x :: .ref (E.2.2 4 i) :: st) := z_put (x := x) (fs := fun r => [.int (r 0), .ref (E.2.2 2 (r 1).toNatClampNeg), .int (r 2), .int (r 3), .int (r 4), .int (r 5)]) C (zL_mem (by decide) hi) (fun _ => rfl) rfl ziX5 tyX5 tyX5_ok nmX5 5 (by decide) (zr11 _ (List.mem_of_getElem? (i := 2) rfl)) rfl rfl rfl (Nat.le_of_ble_eq_true rfl) rfl hd hn k9
theorem zpX10_152 (C : zX p s m args meth c cc nL RX10 rt E) {i : Nat} (hi : i < zcnt 6) {x : Int32} (hd : decode cc pc = .ok (.putfield 152, 3)) (hn : pc + 3 = pc') (k9 : zG p l e R s m args below meth c nL E kc ks Q (um σ 6 i 3 x) pc' lv st) : zG p l e R s m args below meth c nL E kc ks Q σ pc lv (.int x :: .ref (E.2.2 6 i) :: st) := z_put (x := x) (fs := fun r => [.int (r 0), .int (r 1), .int (r 2), .int (r 3), .int (r 4), .int (r 5), .int (r 6)]) C (zL_mem (by decide) hi) (fun _ => rfl) rfl ziX0 tyX0 tyX0_ok nmX0 3 (by decide) (zr13 _ (List.mem_of_getElem? (i := 6) rfl)) rfl rfl rfl (Nat.le_of_ble_eq_true rfl) rfl hd hn k9
theorem zpX10_155 (C : zX p s m args meth c cc nL RX10 rt E) {i : Nat} (hi : i < zcnt 6) {x : Int32} (hd : decode cc pc = .ok (.putfield 155, 3)) (hn : pc + 3 = pc') (k9 : zG p l e R s m args below meth c nL E kc ks Q (um σ 6 i 4 x) pc' lv st) : zG p l e R s m args below meth c nL E kc ks Q σ pc lv (.int x :: .ref (E.2.2 6 i) :: st) := z_put (x := x) (fs := fun r => [.int (r 0), .int (r 1), .int (r 2), .int (r 3), .int (r 4), .int (r 5), .int (r 6)]) C (zL_mem (by decide) hi) (fun _ => rfl) rfl ziX0 tyX0 tyX0_ok nmX0 4 (by decide) (zr13 _ (List.mem_of_getElem? (i := 7) rfl)) rfl rfl rfl (Nat.le_of_ble_eq_true rfl) rfl hd hn k9
theorem zpX10_173 (C : zX p s m args meth c cc nL RX10 rt E) {i : Nat} (hi : i < zcnt 0) {x : Int32} (hd : decode cc pc = .ok (.putfield 173, 3)) (hn : pc + 3 = pc') (k9 : zG p l e R s m args below meth c nL E kc ks Q (um σ 0 i 11 x) pc' lv st) : zG p l e R s m args below meth c nL E kc ks Q σ pc lv (.int x :: .ref (E.2.2 0 i) :: st) := z_put (x := x) (fs := fun r => [.ref (E.2.2 1 0), .ref (E.2.2 3 0), .ref (E.2.2 5 0), .ref (E.2.2 7 0), .ref (E.2.2 11 0), .ref (E.2.2 12 0), .ref (E.2.2 15 0), .ref (E.2.2 18 0), .int (r 8), .int (r 9), .int (r 10), .int (r 11)]) C (zL_mem (by decide) hi) (fun _ => rfl) rfl ziX10 tyX10 tyX10_ok nmX10 11 (by decide) (zr16 _ (List.mem_of_getElem? (i := 5) rfl)) rfl rfl rfl (Nat.le_of_ble_eq_true rfl) rfl hd hn k9
theorem zpX10_192 (C : zX p s m args meth c cc nL RX10 rt E) {i : Nat} (hi : i < zcnt 0) {x : Int32} (hd : decode cc pc = .ok (.putfield 192, 3)) (hn : pc + 3 = pc') (k9 : zG p l e R s m args below meth c nL E kc ks Q (um σ 0 i 10 x) pc' lv st) : zG p l e R s m args below meth c nL E kc ks Q σ pc lv (.int x :: .ref (E.2.2 0 i) :: st) := z_put (x := x) (fs := fun r => [.ref (E.2.2 1 0), .ref (E.2.2 3 0), .ref (E.2.2 5 0), .ref (E.2.2 7 0), .ref (E.2.2 11 0), .ref (E.2.2 12 0), .ref (E.2.2 15 0), .ref (E.2.2 18 0), .int (r 8), .int (r 9), .int (r 10), .int (r 11)]) C (zL_mem (by decide) hi) (fun _ => rfl) rfl ziX10 tyX10 tyX10_ok nmX10 10 (by decide) (zr20 _ (List.mem_of_getElem? (i := 5) rfl)) rfl rfl rfl (Nat.le_of_ble_eq_true rfl) rfl hd hn k9
theorem zpX10_240 (C : zX p s m args meth c cc nL RX10 rt E) {i : Nat} (hi : i < zcnt 8) {x : Int32} (hd : decode cc pc = .ok (.putfield 240, 3)) (hn : pc + 3 = pc') (k9 : zG p l e R s m args below meth c nL E kc ks Q (um σ 8 i 0 x) pc' lv st) : zG p l e R s m args below meth c nL E kc ks Q σ pc lv (.int x :: .ref (E.2.2 8 i) :: st) := z_put (x := x) (fs := fun r => [.int (r 0), .int (r 1), .ref (E.2.2 2 (r 2).toNatClampNeg), .int (r 3), .ref (E.2.2 9 i), .ref (E.2.2 10 i), .int (r 6)]) C (zL_mem (by decide) hi) (fun _ => rfl) rfl ziX7 tyX7 tyX7_ok nmX7 0 (by decide) (zr27 _ (List.mem_of_getElem? (i := 23) rfl)) rfl rfl rfl (Nat.le_of_ble_eq_true rfl) rfl hd hn k9
theorem zpX10_296 (C : zX p s m args meth c cc nL RX10 rt E) {i : Nat} (hi : i < zcnt 8) {g : Nat} (hg : g < 4) (hd : decode cc pc = .ok (.putfield 296, 3)) (hn : pc + 3 = pc') (k9 : zG p l e R s m args below meth c nL E kc ks Q (um σ 8 i 2 (nI g)) pc' lv st) : zG p l e R s m args below meth c nL E kc ks Q σ pc lv (.ref (E.2.2 2 g) :: .ref (E.2.2 8 i) :: st) := z_put (x := (nI g)) (fs := fun r => [.int (r 0), .int (r 1), .ref (E.2.2 2 (r 2).toNatClampNeg), .int (r 3), .ref (E.2.2 9 i), .ref (E.2.2 10 i), .int (r 6)]) C (zL_mem (by decide) hi) (fun _ => rfl) rfl ziX7 tyX7 tyX7_ok nmX7 2 (by decide) (zr28 _ (List.mem_of_getElem? (i := 8) rfl)) rfl rfl rfl (Nat.le_of_ble_eq_true rfl) (by have e9 : (nI g).toNatClampNeg = g := nI_clamp (by omega); have e8 : upd (σ 8 i) 2 (nI g) 2 = nI g := rfl; simp [upd, e9]) hd hn k9
theorem zpX10_297 (C : zX p s m args meth c cc nL RX10 rt E) {i : Nat} (hi : i < zcnt 8) {x : Int32} (hd : decode cc pc = .ok (.putfield 297, 3)) (hn : pc + 3 = pc') (k9 : zG p l e R s m args below meth c nL E kc ks Q (um σ 8 i 3 x) pc' lv st) : zG p l e R s m args below meth c nL E kc ks Q σ pc lv (.int x :: .ref (E.2.2 8 i) :: st) := z_put (x := x) (fs := fun r => [.int (r 0), .int (r 1), .ref (E.2.2 2 (r 2).toNatClampNeg), .int (r 3), .ref (E.2.2 9 i), .ref (E.2.2 10 i), .int (r 6)]) C (zL_mem (by decide) hi) (fun _ => rfl) rfl ziX7 tyX7 tyX7_ok nmX7 3 (by decide) (zr28 _ (List.mem_of_getElem? (i := 9) rfl)) rfl rfl rfl (Nat.le_of_ble_eq_true rfl) rfl hd hn k9
theorem zpX10_305 (C : zX p s m args meth c cc nL RX10 rt E) {i : Nat} (hi : i < zcnt 8) {x : Int32} (hd : decode cc pc = .ok (.putfield 305, 3)) (hn : pc + 3 = pc') (k9 : zG p l e R s m args below meth c nL E kc ks Q (um σ 8 i 1 x) pc' lv st) : zG p l e R s m args below meth c nL E kc ks Q σ pc lv (.int x :: .ref (E.2.2 8 i) :: st) := z_put (x := x) (fs := fun r => [.int (r 0), .int (r 1), .ref (E.2.2 2 (r 2).toNatClampNeg), .int (r 3), .ref (E.2.2 9 i), .ref (E.2.2 10 i), .int (r 6)]) C (zL_mem (by decide) hi) (fun _ => rfl) rfl ziX7 tyX7 tyX7_ok nmX7 1 (by decide) (zr28 _ (List.mem_of_getElem? (i := 7) rfl)) rfl rfl rfl (Nat.le_of_ble_eq_true rfl) rfl hd hn k9
theorem zpX10_322 (C : zX p s m args meth c cc nL RX10 rt E) {i : Nat} (hi : i < zcnt 12) {x : Int32} (hd : decode cc pc = .ok (.putfield 322, 3)) (hn : pc + 3 = pc') (k9 : zG p l e R s m args below meth c nL E kc ks Q (um σ 12 i 2 x) pc' lv st) : zG p l e R s m args below meth c nL E kc ks Q σ pc lv (.int x :: .ref (E.2.2 12 i) :: st) := z_put (x := x) (fs := fun r => [.ref (E.2.2 13 0), .ref (E.2.2 14 0), .int (r 2), .int (r 3), .int (r 4), .int (r 5)]) C (zL_mem (by decide) hi) (fun _ => rfl) rfl ziX6 tyX6 tyX6_ok nmX6 2 (by decide) (zr16 _ (List.mem_of_getElem? (i := 11) rfl)) rfl rfl rfl (Nat.le_of_ble_eq_true rfl) rfl hd hn k9
theorem zpX10_325 (C : zX p s m args meth c cc nL RX10 rt E) {i : Nat} (hi : i < zcnt 12) {x : Int32} (hd : decode cc pc = .ok (.putfield 325, 3)) (hn : pc + 3 = pc') (k9 : zG p l e R s m args below meth c nL E kc ks Q (um σ 12 i 3 x) pc' lv st) : zG p l e R s m args below meth c nL E kc ks Q σ pc lv (.int x :: .ref (E.2.2 12 i) :: st) := z_put (x := x) (fs := fun r => [.ref (E.2.2 13 0), .ref (E.2.2 14 0), .int (r 2), .int (r 3), .int (r 4), .int (r 5)]) C (zL_mem (by decide) hi) (fun _ => rfl) rfl ziX6 tyX6 tyX6_ok nmX6 3 (by decide) (zr16 _ (List.mem_of_getElem? (i := 12) rfl)) rfl rfl rfl (Nat.le_of_ble_eq_true rfl) rfl hd hn k9
theorem zpX11_53 (C : zX p s m args meth c cc nL RX11 rt E) {i : Nat} (hi : i < zcnt 22) {x : Int32} (hd : decode cc pc = .ok (.putfield 53, 3)) (hn : pc + 3 = pc') (k9 : zG p l e R s m args below meth c nL E kc ks Q (um σ 22 i 16 x) pc' lv st) : zG p l e R s m args below meth c nL E kc ks Q σ pc lv (.int x :: .ref (E.2.2 22 i) :: st) := z_put (x := x) (fs := fun r => [.int (r 0), .ref (E.2.2 23 0), .ref (E.2.2 24 0), .ref (E.2.2 25 0), .ref (E.2.2 26 0), .ref (E.2.2 27 0), .ref (E.2.2 28 0), .ref (E.2.2 29 0), .ref (E.2.2 30 0), .int (r 9), .ref (E.2.2 31 0), .ref (E.2.2 32 0), .ref (E.2.2 33 0), .ref (E.2.2 34 0), .ref (E.2.2 35 0), .ref (E.2.2 36 0), .int (r 16), .ref (E.2.2 37 0), .ref (E.2.2 38 0), .int (r 19), .int (r 20), .int (r 21), .ref (E.2.2 39 0), .ref (E.2.2 40 0), .ref (E.2.2 41 0), .int (r 25), .ref (E.2.2 42 0), .ref (E.2.2 43 0), .ref (E.2.2 44 0), .int (r 29), .ref (E.2.2 45 0), .ref (E.2.2 46 0), .ref (E.2.2 47 0), .ref (E.2.2 48 0), .ref (E.2.2 49 0), .ref (E.2.2 50 0), .ref (E.2.2 51 0), .ref (E.2.2 52 0), .ref (E.2.2 53 0), .ref (E.2.2 54 0)]) C (zL_mem (by decide) hi) (fun _ => rfl) rfl ziX11 tyX11 tyX11_ok nmX11 16 (by decide) (zr6 _ (List.mem_of_getElem? (i := 10) rfl)) rfl rfl rfl (Nat.le_of_ble_eq_true rfl) rfl hd hn k9
theorem zpX11_111 (C : zX p s m args meth c cc nL RX11 rt E) {i : Nat} (hi : i < zcnt 22) {x : Int32} (hd : decode cc pc = .ok (.putfield 111, 3)) (hn : pc + 3 = pc') (k9 : zG p l e R s m args below meth c nL E kc ks Q (um σ 22 i 0 x) pc' lv st) : zG p l e R s m args below meth c nL E kc ks Q σ pc lv (.int x :: .ref (E.2.2 22 i) :: st) := z_put (x := x) (fs := fun r => [.int (r 0), .ref (E.2.2 23 0), .ref (E.2.2 24 0), .ref (E.2.2 25 0), .ref (E.2.2 26 0), .ref (E.2.2 27 0), .ref (E.2.2 28 0), .ref (E.2.2 29 0), .ref (E.2.2 30 0), .int (r 9), .ref (E.2.2 31 0), .ref (E.2.2 32 0), .ref (E.2.2 33 0), .ref (E.2.2 34 0), .ref (E.2.2 35 0), .ref (E.2.2 36 0), .int (r 16), .ref (E.2.2 37 0), .ref (E.2.2 38 0), .int (r 19), .int (r 20), .int (r 21), .ref (E.2.2 39 0), .ref (E.2.2 40 0), .ref (E.2.2 41 0), .int (r 25), .ref (E.2.2 42 0), .ref (E.2.2 43 0), .ref (E.2.2 44 0), .int (r 29), .ref (E.2.2 45 0), .ref (E.2.2 46 0), .ref (E.2.2 47 0), .ref (E.2.2 48 0), .ref (E.2.2 49 0), .ref (E.2.2 50 0), .ref (E.2.2 51 0), .ref (E.2.2 52 0), .ref (E.2.2 53 0), .ref (E.2.2 54 0)]) C (zL_mem (by decide) hi) (fun _ => rfl) rfl ziX11 tyX11 tyX11_ok nmX11 0 (by decide) (zr30 _ (List.mem_of_getElem? (i := 19) rfl)) rfl rfl rfl (Nat.le_of_ble_eq_true rfl) rfl hd hn k9
theorem zpX11_118 (C : zX p s m args meth c cc nL RX11 rt E) {i : Nat} (hi : i < zcnt 22) {x : Int32} (hd : decode cc pc = .ok (.putfield 118, 3)) (hn : pc + 3 = pc') (k9 : zG p l e R s m args below meth c nL E kc ks Q (um σ 22 i 9 x) pc' lv st) : zG p l e R s m args below meth c nL E kc ks Q σ pc lv (.int x :: .ref (E.2.2 22 i) :: st) := z_put (x := x) (fs := fun r => [.int (r 0), .ref (E.2.2 23 0), .ref (E.2.2 24 0), .ref (E.2.2 25 0), .ref (E.2.2 26 0), .ref (E.2.2 27 0), .ref (E.2.2 28 0), .ref (E.2.2 29 0), .ref (E.2.2 30 0), .int (r 9), .ref (E.2.2 31 0), .ref (E.2.2 32 0), .ref (E.2.2 33 0), .ref (E.2.2 34 0), .ref (E.2.2 35 0), .ref (E.2.2 36 0), .int (r 16), .ref (E.2.2 37 0), .ref (E.2.2 38 0), .int (r 19), .int (r 20), .int (r 21), .ref (E.2.2 39 0), .ref (E.2.2 40 0), .ref (E.2.2 41 0), .int (r 25), .ref (E.2.2 42 0), .ref (E.2.2 43 0), .ref (E.2.2 44 0), .int (r 29), .ref (E.2.2 45 0), .ref (E.2.2 46 0), .ref (E.2.2 47 0), .ref (E.2.2 48 0), .ref (E.2.2 49 0), .ref (E.2.2 50 0), .ref (E.2.2 51 0), .ref (E.2.2 52 0), .ref (E.2.2 53 0), .ref (E.2.2 54 0)]) C (zL_mem (by decide) hi) (fun _ => rfl) rfl ziX11 tyX11 tyX11_ok nmX11 9 (by decide) (zr8 _ (List.mem_of_getElem? (i := 22) rfl)) rfl rfl rfl (Nat.le_of_ble_eq_true rfl) rfl hd hn k9
theorem zpX11_159 (C : zX p s m args meth c cc nL RX11 rt E) {i : Nat} (hi : i < zcnt 22) {x : Int32} (hd : decode cc pc = .ok (.putfield 159, 3)) (hn : pc + 3 = pc') (k9 : zG p l e R s m args below meth c nL E kc ks Q (um σ 22 i 19 x) pc' lv st) : zG p l e R s m args below meth c nL E kc ks Q σ pc lv (.int x :: .ref (E.2.2 22 i) :: st) := z_put (x := x) (fs := fun r => [.int (r 0), .ref (E.2.2 23 0), .ref (E.2.2 24 0), .ref (E.2.2 25 0), .ref (E.2.2 26 0), .ref (E.2.2 27 0), .ref (E.2.2 28 0), .ref (E.2.2 29 0), .ref (E.2.2 30 0), .int (r 9), .ref (E.2.2 31 0), .ref (E.2.2 32 0), .ref (E.2.2 33 0), .ref (E.2.2 34 0), .ref (E.2.2 35 0), .ref (E.2.2 36 0), .int (r 16), .ref (E.2.2 37 0), .ref (E.2.2 38 0), .int (r 19), .int (r 20), .int (r 21), .ref (E.2.2 39 0), .ref (E.2.2 40 0), .ref (E.2.2 41 0), .int (r 25), .ref (E.2.2 42 0), .ref (E.2.2 43 0), .ref (E.2.2 44 0), .int (r 29), .ref (E.2.2 45 0), .ref (E.2.2 46 0), .ref (E.2.2 47 0), .ref (E.2.2 48 0), .ref (E.2.2 49 0), .ref (E.2.2 50 0), .ref (E.2.2 51 0), .ref (E.2.2 52 0), .ref (E.2.2 53 0), .ref (E.2.2 54 0)]) C (zL_mem (by decide) hi) (fun _ => rfl) rfl ziX11 tyX11 tyX11_ok nmX11 19 (by decide) (zr17 _ (List.mem_of_getElem? (i := 22) rfl)) rfl rfl rfl (Nat.le_of_ble_eq_true rfl) rfl hd hn k9
theorem zpX11_162 (C : zX p s m args meth c cc nL RX11 rt E) {i : Nat} (hi : i < zcnt 22) {x : Int32} (hd : decode cc pc = .ok (.putfield 162, 3)) (hn : pc + 3 = pc') (k9 : zG p l e R s m args below meth c nL E kc ks Q (um σ 22 i 20 x) pc' lv st) : zG p l e R s m args below meth c nL E kc ks Q σ pc lv (.int x :: .ref (E.2.2 22 i) :: st) := z_put (x := x) (fs := fun r => [.int (r 0), .ref (E.2.2 23 0), .ref (E.2.2 24 0), .ref (E.2.2 25 0), .ref (E.2.2 26 0), .ref (E.2.2 27 0), .ref (E.2.2 28 0), .ref (E.2.2 29 0), .ref (E.2.2 30 0), .int (r 9), .ref (E.2.2 31 0), .ref (E.2.2 32 0), .ref (E.2.2 33 0), .ref (E.2.2 34 0), .ref (E.2.2 35 0), .ref (E.2.2 36 0), .int (r 16), .ref (E.2.2 37 0), .ref (E.2.2 38 0), .int (r 19), .int (r 20), .int (r 21), .ref (E.2.2 39 0), .ref (E.2.2 40 0), .ref (E.2.2 41 0), .int (r 25), .ref (E.2.2 42 0), .ref (E.2.2 43 0), .ref (E.2.2 44 0), .int (r 29), .ref (E.2.2 45 0), .ref (E.2.2 46 0), .ref (E.2.2 47 0), .ref (E.2.2 48 0), .ref (E.2.2 49 0), .ref (E.2.2 50 0), .ref (E.2.2 51 0), .ref (E.2.2 52 0), .ref (E.2.2 53 0), .ref (E.2.2 54 0)]) C (zL_mem (by decide) hi) (fun _ => rfl) rfl ziX11 tyX11 tyX11_ok nmX11 20 (by decide) (zr18 _ (List.mem_of_getElem? (i := 11) rfl)) rfl rfl rfl (Nat.le_of_ble_eq_true rfl) rfl hd hn k9
theorem zpX11_180 (C : zX p s m args meth c cc nL RX11 rt E) {i : Nat} (hi : i < zcnt 22) {x : Int32} (hd : decode cc pc = .ok (.putfield 180, 3)) (hn : pc + 3 = pc') (k9 : zG p l e R s m args below meth c nL E kc ks Q (um σ 22 i 21 x) pc' lv st) : zG p l e R s m args below meth c nL E kc ks Q σ pc lv (.int x :: .ref (E.2.2 22 i) :: st) := z_put (x := x) (fs := fun r => [.int (r 0), .ref (E.2.2 23 0), .ref (E.2.2 24 0), .ref (E.2.2 25 0), .ref (E.2.2 26 0), .ref (E.2.2 27 0), .ref (E.2.2 28 0), .ref (E.2.2 29 0), .ref (E.2.2 30 0), .int (r 9), .ref (E.2.2 31 0), .ref (E.2.2 32 0), .ref (E.2.2 33 0), .ref (E.2.2 34 0), .ref (E.2.2 35 0), .ref (E.2.2 36 0), .int (r 16), .ref (E.2.2 37 0), .ref (E.2.2 38 0), .int (r 19), .int (r 20), .int (r 21), .ref (E.2.2 39 0), .ref (E.2.2 40 0), .ref (E.2.2 41 0), .int (r 25), .ref (E.2.2 42 0), .ref (E.2.2 43 0), .ref (E.2.2 44 0), .int (r 29), .ref (E.2.2 45 0), .ref (E.2.2 46 0), .ref (E.2.2 47 0), .ref (E.2.2 48 0), .ref (E.2.2 49 0), .ref (E.2.2 50 0), .ref (E.2.2 51 0), .ref (E.2.2 52 0), .ref (E.2.2 53 0), .ref (E.2.2 54 0)]) C (zL_mem (by decide) hi) (fun _ => rfl) rfl ziX11 tyX11 tyX11_ok nmX11 21 (by decide) (zr20 _ (List.mem_of_getElem? (i := 10) rfl)) rfl rfl rfl (Nat.le_of_ble_eq_true rfl) rfl hd hn k9
theorem zpX11_189 (C : zX p s m args meth c cc nL RX11 rt E) {i : Nat} (hi : i < zcnt 22) {x : Int32} (hd : decode cc pc = .ok (.putfield 189, 3)) (hn : pc + 3 = pc') (k9 : zG p l e R s m args below meth c nL E kc ks Q (um σ 22 i 25 x) pc' lv st) : zG p l e R s m args below meth c nL E kc ks Q σ pc lv (.int x :: .ref (E.2.2 22 i) :: st) := z_put (x := x) (fs := fun r => [.int (r 0), .ref (E.2.2 23 0), .ref (E.2.2 24 0), .ref (E.2.2 25 0), .ref (E.2.2 26 0), .ref (E.2.2 27 0), .ref (E.2.2 28 0), .ref (E.2.2 29 0), .ref (E.2.2 30 0), .int (r 9), .ref (E.2.2 31 0), .ref (E.2.2 32 0), .ref (E.2.2 33 0), .ref (E.2.2 34 0), .ref (E.2.2 35 0), .ref (E.2.2 36 0), .int (r 16), .ref (E.2.2 37 0), .ref (E.2.2 38 0), .int (r 19), .int (r 20), .int (r 21), .ref (E.2.2 39 0), .ref (E.2.2 40 0), .ref (E.2.2 41 0), .int (r 25), .ref (E.2.2 42 0), .ref (E.2.2 43 0), .ref (E.2.2 44 0), .int (r 29), .ref (E.2.2 45 0), .ref (E.2.2 46 0), .ref (E.2.2 47 0), .ref (E.2.2 48 0), .ref (E.2.2 49 0), .ref (E.2.2 50 0), .ref (E.2.2 51 0), .ref (E.2.2 52 0), .ref (E.2.2 53 0), .ref (E.2.2 54 0)]) C (zL_mem (by decide) hi) (fun _ => rfl) rfl ziX11 tyX11 tyX11_ok nmX11 25 (by decide) (zr23 _ (List.mem_of_getElem? (i := 8) rfl)) rfl rfl rfl (Nat.le_of_ble_eq_true rfl) rfl hd hn k9
theorem zpX11_196 (C : zX p s m args meth c cc nL RX11 rt E) {i : Nat} (hi : i < zcnt 22) {x : Int32} (hd : decode cc pc = .ok (.putfield 196, 3)) (hn : pc + 3 = pc') (k9 : zG p l e R s m args below meth c nL E kc ks Q (um σ 22 i 29 x) pc' lv st) : zG p l e R s m args below meth c nL E kc ks Q σ pc lv (.int x :: .ref (E.2.2 22 i) :: st) := z_put (x := x) (fs := fun r => [.int (r 0), .ref (E.2.2 23 0), .ref (E.2.2 24 0), .ref (E.2.2 25 0), .ref (E.2.2 26 0), .ref (E.2.2 27 0), .ref (E.2.2 28 0), .ref (E.2.2 29 0), .ref (E.2.2 30 0), .int (r 9), .ref (E.2.2 31 0), .ref (E.2.2 32 0), .ref (E.2.2 33 0), .ref (E.2.2 34 0), .ref (E.2.2 35 0), .ref (E.2.2 36 0), .int (r 16), .ref (E.2.2 37 0), .ref (E.2.2 38 0), .int (r 19), .int (r 20), .int (r 21), .ref (E.2.2 39 0), .ref (E.2.2 40 0), .ref (E.2.2 41 0), .int (r 25), .ref (E.2.2 42 0), .ref (E.2.2 43 0), .ref (E.2.2 44 0), .int (r 29), .ref (E.2.2 45 0), .ref (E.2.2 46 0), .ref (E.2.2 47 0), .ref (E.2.2 48 0), .ref (E.2.2 49 0), .ref (E.2.2 50 0), .ref (E.2.2 51 0), .ref (E.2.2 52 0), .ref (E.2.2 53 0), .ref (E.2.2 54 0)]) C (zL_mem (by decide) hi) (fun _ => rfl) rfl ziX11 tyX11 tyX11_ok nmX11 29 (by decide) (zr24 _ (List.mem_of_getElem? (i := 18) rfl)) rfl rfl rfl (Nat.le_of_ble_eq_true rfl) rfl hd hn k9
theorem zpX6_19 (C : zX p s m args meth c cc nL RX6 rt E) {i : Nat} (hi : i < zcnt 12) {x : Int32} (hd : decode cc pc = .ok (.putfield 19, 3)) (hn : pc + 3 = pc') (k9 : zG p l e R s m args below meth c nL E kc ks Q (um σ 12 i 4 x) pc' lv st) : zG p l e R s m args below meth c nL E kc ks Q σ pc lv (.int x :: .ref (E.2.2 12 i) :: st) := z_put (x := x) (fs := fun r => [.ref (E.2.2 13 0), .ref (E.2.2 14 0), .int (r 2), .int (r 3), .int (r 4), .int (r 5)]) C (zL_mem (by decide) hi) (fun _ => rfl) rfl ziX6 tyX6 tyX6_ok nmX6 4 (by decide) (zr3 _ (List.mem_of_getElem? (i := 12) rfl)) rfl rfl rfl (Nat.le_of_ble_eq_true rfl) rfl hd hn k9
theorem zpX6_23 (C : zX p s m args meth c cc nL RX6 rt E) {i : Nat} (hi : i < zcnt 12) {x : Int32} (hd : decode cc pc = .ok (.putfield 23, 3)) (hn : pc + 3 = pc') (k9 : zG p l e R s m args below meth c nL E kc ks Q (um σ 12 i 5 x) pc' lv st) : zG p l e R s m args below meth c nL E kc ks Q σ pc lv (.int x :: .ref (E.2.2 12 i) :: st) := z_put (x := x) (fs := fun r => [.ref (E.2.2 13 0), .ref (E.2.2 14 0), .int (r 2), .int (r 3), .int (r 4), .int (r 5)]) C (zL_mem (by decide) hi) (fun _ => rfl) rfl ziX6 tyX6 tyX6_ok nmX6 5 (by decide) (zr16 _ (List.mem_of_getElem? (i := 22) rfl)) rfl rfl rfl (Nat.le_of_ble_eq_true rfl) rfl hd hn k9
theorem zpX7_9 (C : zX p s m args meth c cc nL RX7 rt E) {i : Nat} (hi : i < zcnt 8) {x : Int32} (hd : decode cc pc = .ok (.putfield 9, 3)) (hn : pc + 3 = pc') (k9 : zG p l e R s m args below meth c nL E kc ks Q (um σ 8 i 0 x) pc' lv st) : zG p l e R s m args below meth c nL E kc ks Q σ pc lv (.int x :: .ref (E.2.2 8 i) :: st) := z_put (x := x) (fs := fun r => [.int (r 0), .int (r 1), .ref (E.2.2 2 (r 2).toNatClampNeg), .int (r 3), .ref (E.2.2 9 i), .ref (E.2.2 10 i), .int (r 6)]) C (zL_mem (by decide) hi) (fun _ => rfl) rfl ziX7 tyX7 tyX7_ok nmX7 0 (by decide) (zr5 _ (List.mem_of_getElem? (i := 11) rfl)) rfl rfl rfl (Nat.le_of_ble_eq_true rfl) rfl hd hn k9
theorem zpX7_27 (C : zX p s m args meth c cc nL RX7 rt E) {i : Nat} (hi : i < zcnt 8) {x : Int32} (hd : decode cc pc = .ok (.putfield 27, 3)) (hn : pc + 3 = pc') (k9 : zG p l e R s m args below meth c nL E kc ks Q (um σ 8 i 6 x) pc' lv st) : zG p l e R s m args below meth c nL E kc ks Q σ pc lv (.int x :: .ref (E.2.2 8 i) :: st) := z_put (x := x) (fs := fun r => [.int (r 0), .int (r 1), .ref (E.2.2 2 (r 2).toNatClampNeg), .int (r 3), .ref (E.2.2 9 i), .ref (E.2.2 10 i), .int (r 6)]) C (zL_mem (by decide) hi) (fun _ => rfl) rfl ziX7 tyX7 tyX7_ok nmX7 6 (by decide) (zr28 _ (List.mem_of_getElem? (i := 19) rfl)) rfl rfl rfl (Nat.le_of_ble_eq_true rfl) rfl hd hn k9
end ZF
theorem zwX10_77_X10_isPlot : zWs RX10 77 yX10_isPlot cX10_isPlot 1 (some .boolean) 1 := ⟨(zr7 _ (List.mem_of_getElem? (i := 14) rfl)), (zr7 _ (List.mem_of_getElem? (i := 12) rfl)), (zr1 _ (List.mem_of_getElem? (i := 2) rfl)), by decide +kernel⟩
theorem ztX10_77_X10_isPlot : Cond.static yX10_isPlot ∈ zTB := (zr7 _ (List.mem_of_getElem? (i := 13) rfl))
theorem zwX10_81_X10_within : zWs RX10 81 yX10_within cX10_within 2 (some .boolean) 2 := ⟨(zr7 _ (List.mem_of_getElem? (i := 17) rfl)), (zr7 _ (List.mem_of_getElem? (i := 15) rfl)), (zr1 _ (List.mem_of_getElem? (i := 2) rfl)), by decide +kernel⟩
theorem ztX10_81_X10_within : Cond.static yX10_within ∈ zTB := (zr7 _ (List.mem_of_getElem? (i := 16) rfl))
theorem zwX10_85_X5_isSold : zWs RX10 85 yX5_isSold cX5_isSold 1 (some .boolean) 0 := ⟨(zr7 _ (List.mem_of_getElem? (i := 21) rfl)), (zr7 _ (List.mem_of_getElem? (i := 18) rfl)), (zr3 _ (List.mem_of_getElem? (i := 0) rfl)), by decide +kernel⟩
theorem zvX10_85_X5_isSold : Cond.instanceMethod yX5_isSold ∈ zTB ∧ Cond.selects RX5 yX5_isSold yX5_isSold ∈ zTB := ⟨(zr7 _ (List.mem_of_getElem? (i := 19) rfl)), (zr7 _ (List.mem_of_getElem? (i := 20) rfl))⟩
theorem zwX10_112_X10_isBuyer : zWs RX10 112 yX10_isBuyer cX10_isBuyer 2 (some .boolean) 1 := ⟨(zr9 _ (List.mem_of_getElem? (i := 6) rfl)), (zr9 _ (List.mem_of_getElem? (i := 3) rfl)), (zr1 _ (List.mem_of_getElem? (i := 2) rfl)), by decide +kernel⟩
theorem zvX10_112_X10_isBuyer : Cond.instanceMethod yX10_isBuyer ∈ zTB ∧ Cond.selects RX10 yX10_isBuyer yX10_isBuyer ∈ zTB := ⟨(zr9 _ (List.mem_of_getElem? (i := 4) rfl)), (zr9 _ (List.mem_of_getElem? (i := 5) rfl))⟩
theorem zwX10_119_X10_oneIf : zWs RX10 119 yX10_oneIf cX10_oneIf 1 (some .int) 1 := ⟨(zr9 _ (List.mem_of_getElem? (i := 22) rfl)), (zr9 _ (List.mem_of_getElem? (i := 20) rfl)), (zr1 _ (List.mem_of_getElem? (i := 2) rfl)), by decide +kernel⟩
theorem ztX10_119_X10_oneIf : Cond.static yX10_oneIf ∈ zTB := (zr9 _ (List.mem_of_getElem? (i := 21) rfl))
theorem zwX10_130_X5_hay : zWs RX10 130 yX5_hay cX5_hay 1 (some .int) 0 := ⟨(zr11 _ (List.mem_of_getElem? (i := 22) rfl)), (zr11 _ (List.mem_of_getElem? (i := 19) rfl)), (zr3 _ (List.mem_of_getElem? (i := 0) rfl)), by decide +kernel⟩
theorem zvX10_130_X5_hay : Cond.instanceMethod yX5_hay ∈ zTB ∧ Cond.selects RX5 yX5_hay yX5_hay ∈ zTB := ⟨(zr11 _ (List.mem_of_getElem? (i := 20) rfl)), (zr11 _ (List.mem_of_getElem? (i := 21) rfl))⟩
theorem zwX10_142_X5_stands : zWs RX10 142 yX5_stands cX5_stands 1 (some .boolean) 0 := ⟨(zr12 _ (List.mem_of_getElem? (i := 5) rfl)), (zr12 _ (List.mem_of_getElem? (i := 2) rfl)), (zr3 _ (List.mem_of_getElem? (i := 0) rfl)), by decide +kernel⟩
theorem zvX10_142_X5_stands : Cond.instanceMethod yX5_stands ∈ zTB ∧ Cond.selects RX5 yX5_stands yX5_stands ∈ zTB := ⟨(zr12 _ (List.mem_of_getElem? (i := 3) rfl)), (zr12 _ (List.mem_of_getElem? (i := 4) rfl))⟩
theorem zwX10_145_X0_need : zWs RX10 145 yX0_need cX0_need 1 (some .int) 0 := ⟨(zr13 _ (List.mem_of_getElem? (i := 11) rfl)), (zr13 _ (List.mem_of_getElem? (i := 8) rfl)), (zr3 _ (List.mem_of_getElem? (i := 2) rfl)), by decide +kernel⟩
theorem zvX10_145_X0_need : Cond.instanceMethod yX0_need ∈ zTB ∧ Cond.selects RX0 yX0_need yX0_need ∈ zTB := ⟨(zr13 _ (List.mem_of_getElem? (i := 9) rfl)), (zr13 _ (List.mem_of_getElem? (i := 10) rfl))⟩
theorem zwX10_148_X10_hayOf : zWs RX10 148 yX10_hayOf cX10_hayOf 4 (some .int) 1 := ⟨(zr13 _ (List.mem_of_getElem? (i := 16) rfl)), (zr13 _ (List.mem_of_getElem? (i := 13) rfl)), (zr1 _ (List.mem_of_getElem? (i := 2) rfl)), by decide +kernel⟩
theorem zvX10_148_X10_hayOf : Cond.instanceMethod yX10_hayOf ∈ zTB ∧ Cond.selects RX10 yX10_hayOf yX10_hayOf ∈ zTB := ⟨(zr13 _ (List.mem_of_getElem? (i := 14) rfl)), (zr13 _ (List.mem_of_getElem? (i := 15) rfl))⟩
theorem zwX10_158_X10_worthTo : zWs RX10 158 yX10_worthTo cX10_worthTo 5 (some .int) 2 := ⟨(zr14 _ (List.mem_of_getElem? (i := 16) rfl)), (zr14 _ (List.mem_of_getElem? (i := 13) rfl)), (zr1 _ (List.mem_of_getElem? (i := 2) rfl)), by decide +kernel⟩
theorem zvX10_158_X10_worthTo : Cond.instanceMethod yX10_worthTo ∈ zTB ∧ Cond.selects RX10 yX10_worthTo yX10_worthTo ∈ zTB := ⟨(zr14 _ (List.mem_of_getElem? (i := 14) rfl)), (zr14 _ (List.mem_of_getElem? (i := 15) rfl))⟩
theorem zwX10_162_X10_prepareSale : zWs RX10 162 yX10_prepareSale cX10_prepareSale 3 none 1 := ⟨(zr16 _ (List.mem_of_getElem? (i := 10) rfl)), (zr16 _ (List.mem_of_getElem? (i := 7) rfl)), (zr1 _ (List.mem_of_getElem? (i := 2) rfl)), by decide +kernel⟩
theorem zvX10_162_X10_prepareSale : Cond.instanceMethod yX10_prepareSale ∈ zTB ∧ Cond.selects RX10 yX10_prepareSale yX10_prepareSale ∈ zTB := ⟨(zr16 _ (List.mem_of_getElem? (i := 8) rfl)), (zr16 _ (List.mem_of_getElem? (i := 9) rfl))⟩
theorem zwX10_166_X6_burn : zWs RX10 166 yX6_burn cX6_burn 6 none 2 := ⟨(zr16 _ (List.mem_of_getElem? (i := 21) rfl)), (zr16 _ (List.mem_of_getElem? (i := 18) rfl)), (zr2 _ (List.mem_of_getElem? (i := 1) rfl)), by decide +kernel⟩
theorem zvX10_166_X6_burn : Cond.instanceMethod yX6_burn ∈ zTB ∧ Cond.selects RX6 yX6_burn yX6_burn ∈ zTB := ⟨(zr16 _ (List.mem_of_getElem? (i := 19) rfl)), (zr16 _ (List.mem_of_getElem? (i := 20) rfl))⟩
theorem zwX10_179_X6_lotTaker : zWs RX10 179 yX6_lotTaker cX6_lotTaker 1 (some .int) 0 := ⟨(zr17 _ (List.mem_of_getElem? (i := 4) rfl)), (zr17 _ (List.mem_of_getElem? (i := 1) rfl)), (zr2 _ (List.mem_of_getElem? (i := 1) rfl)), by decide +kernel⟩
theorem zvX10_179_X6_lotTaker : Cond.instanceMethod yX6_lotTaker ∈ zTB ∧ Cond.selects RX6 yX6_lotTaker yX6_lotTaker ∈ zTB := ⟨(zr17 _ (List.mem_of_getElem? (i := 2) rfl)), (zr17 _ (List.mem_of_getElem? (i := 3) rfl))⟩
theorem zwX10_182_X6_lotPrice : zWs RX10 182 yX6_lotPrice cX6_lotPrice 3 (some .int) 1 := ⟨(zr17 _ (List.mem_of_getElem? (i := 12) rfl)), (zr17 _ (List.mem_of_getElem? (i := 9) rfl)), (zr2 _ (List.mem_of_getElem? (i := 1) rfl)), by decide +kernel⟩
theorem zvX10_182_X6_lotPrice : Cond.instanceMethod yX6_lotPrice ∈ zTB ∧ Cond.selects RX6 yX6_lotPrice yX6_lotPrice ∈ zTB := ⟨(zr17 _ (List.mem_of_getElem? (i := 10) rfl)), (zr17 _ (List.mem_of_getElem? (i := 11) rfl))⟩
theorem zwX10_185_X10_hand : zWs RX10 185 yX10_hand cX10_hand 4 none 3 := ⟨(zr17 _ (List.mem_of_getElem? (i := 17) rfl)), (zr17 _ (List.mem_of_getElem? (i := 14) rfl)), (zr1 _ (List.mem_of_getElem? (i := 2) rfl)), by decide +kernel⟩
theorem zvX10_185_X10_hand : Cond.instanceMethod yX10_hand ∈ zTB ∧ Cond.selects RX10 yX10_hand yX10_hand ∈ zTB := ⟨(zr17 _ (List.mem_of_getElem? (i := 15) rfl)), (zr17 _ (List.mem_of_getElem? (i := 16) rfl))⟩
theorem zwX10_189_X10_lotter : zWs RX10 189 yX10_lotter cX10_lotter 3 (some .int) 1 := ⟨(zr19 _ (List.mem_of_getElem? (i := 7) rfl)), (zr19 _ (List.mem_of_getElem? (i := 4) rfl)), (zr1 _ (List.mem_of_getElem? (i := 2) rfl)), by decide +kernel⟩
theorem zvX10_189_X10_lotter : Cond.instanceMethod yX10_lotter ∈ zTB ∧ Cond.selects RX10 yX10_lotter yX10_lotter ∈ zTB := ⟨(zr19 _ (List.mem_of_getElem? (i := 5) rfl)), (zr19 _ (List.mem_of_getElem? (i := 6) rfl))⟩
theorem zwX10_195_X8_trampled : zWs RX10 195 yX8_trampled cX8_trampled 4 (some .int) 2 := ⟨(zr21 _ (List.mem_of_getElem? (i := 2) rfl)), (zr20 _ (List.mem_of_getElem? (i := 23) rfl)), (zr2 _ (List.mem_of_getElem? (i := 5) rfl)), by decide +kernel⟩
theorem zvX10_195_X8_trampled : Cond.instanceMethod yX8_trampled ∈ zTB ∧ Cond.selects RX8 yX8_trampled yX8_trampled ∈ zTB := ⟨(zr21 _ (List.mem_of_getElem? (i := 0) rfl)), (zr21 _ (List.mem_of_getElem? (i := 1) rfl))⟩
theorem zwX10_198_X10_standing : zWs RX10 198 yX10_standing cX10_standing 3 (some .int) 0 := ⟨(zr23 _ (List.mem_of_getElem? (i := 3) rfl)), (zr23 _ (List.mem_of_getElem? (i := 0) rfl)), (zr1 _ (List.mem_of_getElem? (i := 2) rfl)), by decide +kernel⟩
theorem zvX10_198_X10_standing : Cond.instanceMethod yX10_standing ∈ zTB ∧ Cond.selects RX10 yX10_standing yX10_standing ∈ zTB := ⟨(zr23 _ (List.mem_of_getElem? (i := 1) rfl)), (zr23 _ (List.mem_of_getElem? (i := 2) rfl))⟩
theorem zwX10_201_X10_standingAt : zWs RX10 201 yX10_standingAt cX10_standingAt 4 (some .int) 1 := ⟨(zr23 _ (List.mem_of_getElem? (i := 20) rfl)), (zr23 _ (List.mem_of_getElem? (i := 17) rfl)), (zr1 _ (List.mem_of_getElem? (i := 2) rfl)), by decide +kernel⟩
theorem zvX10_201_X10_standingAt : Cond.instanceMethod yX10_standingAt ∈ zTB ∧ Cond.selects RX10 yX10_standingAt yX10_standingAt ∈ zTB := ⟨(zr23 _ (List.mem_of_getElem? (i := 18) rfl)), (zr23 _ (List.mem_of_getElem? (i := 19) rfl))⟩
theorem zwX10_204_X5_isCut : zWs RX10 204 yX5_isCut cX5_isCut 1 (some .boolean) 0 := ⟨(zr12 _ (List.mem_of_getElem? (i := 10) rfl)), (zr24 _ (List.mem_of_getElem? (i := 5) rfl)), (zr3 _ (List.mem_of_getElem? (i := 0) rfl)), by decide +kernel⟩
theorem zvX10_204_X5_isCut : Cond.instanceMethod yX5_isCut ∈ zTB ∧ Cond.selects RX5 yX5_isCut yX5_isCut ∈ zTB := ⟨(zr12 _ (List.mem_of_getElem? (i := 8) rfl)), (zr12 _ (List.mem_of_getElem? (i := 9) rfl))⟩
theorem zwX10_207_X10_dryDay : zWs RX10 207 yX10_dryDay cX10_dryDay 4 (some .int) 1 := ⟨(zr24 _ (List.mem_of_getElem? (i := 9) rfl)), (zr24 _ (List.mem_of_getElem? (i := 6) rfl)), (zr1 _ (List.mem_of_getElem? (i := 2) rfl)), by decide +kernel⟩
theorem zvX10_207_X10_dryDay : Cond.instanceMethod yX10_dryDay ∈ zTB ∧ Cond.selects RX10 yX10_dryDay yX10_dryDay ∈ zTB := ⟨(zr24 _ (List.mem_of_getElem? (i := 7) rfl)), (zr24 _ (List.mem_of_getElem? (i := 8) rfl))⟩
theorem zwX10_211_X10_inBarn : zWs RX10 211 yX10_inBarn cX10_inBarn 5 (some .int) 1 := ⟨(zr25 _ (List.mem_of_getElem? (i := 2) rfl)), (zr24 _ (List.mem_of_getElem? (i := 23) rfl)), (zr1 _ (List.mem_of_getElem? (i := 2) rfl)), by decide +kernel⟩
theorem zvX10_211_X10_inBarn : Cond.instanceMethod yX10_inBarn ∈ zTB ∧ Cond.selects RX10 yX10_inBarn yX10_inBarn ∈ zTB := ⟨(zr25 _ (List.mem_of_getElem? (i := 0) rfl)), (zr25 _ (List.mem_of_getElem? (i := 1) rfl))⟩
theorem zwX10_214_X4_settle : zWs RX10 214 yX4_settle cX4_settle 5 none 2 := ⟨(zr26 _ (List.mem_of_getElem? (i := 4) rfl)), (zr26 _ (List.mem_of_getElem? (i := 1) rfl)), (zr2 _ (List.mem_of_getElem? (i := 9) rfl)), by decide +kernel⟩
theorem zvX10_214_X4_settle : Cond.instanceMethod yX4_settle ∈ zTB ∧ Cond.selects RX4 yX4_settle yX4_settle ∈ zTB := ⟨(zr26 _ (List.mem_of_getElem? (i := 2) rfl)), (zr26 _ (List.mem_of_getElem? (i := 3) rfl))⟩
theorem zwX10_218_X0_owes : zWs RX10 218 yX0_owes cX0_owes 1 (some .int) 0 := ⟨(zr26 _ (List.mem_of_getElem? (i := 11) rfl)), (zr26 _ (List.mem_of_getElem? (i := 14) rfl)), (zr3 _ (List.mem_of_getElem? (i := 2) rfl)), by decide +kernel⟩
theorem zvX10_218_X0_owes : Cond.instanceMethod yX0_owes ∈ zTB ∧ Cond.selects RX0 yX0_owes yX0_owes ∈ zTB := ⟨(zr26 _ (List.mem_of_getElem? (i := 9) rfl)), (zr26 _ (List.mem_of_getElem? (i := 10) rfl))⟩
theorem zwX10_228_X10_sold : zWs RX10 228 yX10_sold cX10_sold 3 (some .int) 0 := ⟨(zr27 _ (List.mem_of_getElem? (i := 6) rfl)), (zr27 _ (List.mem_of_getElem? (i := 3) rfl)), (zr1 _ (List.mem_of_getElem? (i := 2) rfl)), by decide +kernel⟩
theorem zvX10_228_X10_sold : Cond.instanceMethod yX10_sold ∈ zTB ∧ Cond.selects RX10 yX10_sold yX10_sold ∈ zTB := ⟨(zr27 _ (List.mem_of_getElem? (i := 4) rfl)), (zr27 _ (List.mem_of_getElem? (i := 5) rfl))⟩
theorem zwX10_231_X10_allHay : zWs RX10 231 yX10_allHay cX10_allHay 3 (some .int) 0 := ⟨(zr27 _ (List.mem_of_getElem? (i := 10) rfl)), (zr27 _ (List.mem_of_getElem? (i := 7) rfl)), (zr1 _ (List.mem_of_getElem? (i := 2) rfl)), by decide +kernel⟩
theorem zvX10_231_X10_allHay : Cond.instanceMethod yX10_allHay ∈ zTB ∧ Cond.selects RX10 yX10_allHay yX10_allHay ∈ zTB := ⟨(zr27 _ (List.mem_of_getElem? (i := 8) rfl)), (zr27 _ (List.mem_of_getElem? (i := 9) rfl))⟩
theorem zwX10_234_X10_rainyDays : zWs RX10 234 yX10_rainyDays cX10_rainyDays 3 (some .int) 0 := ⟨(zr27 _ (List.mem_of_getElem? (i := 14) rfl)), (zr27 _ (List.mem_of_getElem? (i := 11) rfl)), (zr1 _ (List.mem_of_getElem? (i := 2) rfl)), by decide +kernel⟩
theorem zvX10_234_X10_rainyDays : Cond.instanceMethod yX10_rainyDays ∈ zTB ∧ Cond.selects RX10 yX10_rainyDays yX10_rainyDays ∈ zTB := ⟨(zr27 _ (List.mem_of_getElem? (i := 12) rfl)), (zr27 _ (List.mem_of_getElem? (i := 13) rfl))⟩
theorem zwX10_237_X10_isShelf : zWs RX10 237 yX10_isShelf cX10_isShelf 1 (some .boolean) 1 := ⟨(zr28 _ (List.mem_of_getElem? (i := 2) rfl)), (zr28 _ (List.mem_of_getElem? (i := 0) rfl)), (zr1 _ (List.mem_of_getElem? (i := 2) rfl)), by decide +kernel⟩
theorem ztX10_237_X10_isShelf : Cond.static yX10_isShelf ∈ zTB := (zr28 _ (List.mem_of_getElem? (i := 1) rfl))
theorem zwX10_243_X10_keepPlot : zWs RX10 243 yX10_keepPlot cX10_keepPlot 3 (some .int) 2 := ⟨(zr28 _ (List.mem_of_getElem? (i := 6) rfl)), (zr28 _ (List.mem_of_getElem? (i := 3) rfl)), (zr1 _ (List.mem_of_getElem? (i := 2) rfl)), by decide +kernel⟩
theorem zvX10_243_X10_keepPlot : Cond.instanceMethod yX10_keepPlot ∈ zTB ∧ Cond.selects RX10 yX10_keepPlot yX10_keepPlot ∈ zTB := ⟨(zr28 _ (List.mem_of_getElem? (i := 4) rfl)), (zr28 _ (List.mem_of_getElem? (i := 5) rfl))⟩
theorem zwX10_247_X10_keepWorths : zWs RX10 247 yX10_keepWorths cX10_keepWorths 4 (some .int) 2 := ⟨(zr28 _ (List.mem_of_getElem? (i := 13) rfl)), (zr28 _ (List.mem_of_getElem? (i := 10) rfl)), (zr1 _ (List.mem_of_getElem? (i := 2) rfl)), by decide +kernel⟩
theorem zvX10_247_X10_keepWorths : Cond.instanceMethod yX10_keepWorths ∈ zTB ∧ Cond.selects RX10 yX10_keepWorths yX10_keepWorths ∈ zTB := ⟨(zr28 _ (List.mem_of_getElem? (i := 11) rfl)), (zr28 _ (List.mem_of_getElem? (i := 12) rfl))⟩
theorem zwX10_250_X10_keepOwners : zWs RX10 250 yX10_keepOwners cX10_keepOwners 3 (some .int) 1 := ⟨(zr29 _ (List.mem_of_getElem? (i := 3) rfl)), (zr29 _ (List.mem_of_getElem? (i := 0) rfl)), (zr1 _ (List.mem_of_getElem? (i := 2) rfl)), by decide +kernel⟩
theorem zvX10_250_X10_keepOwners : Cond.instanceMethod yX10_keepOwners ∈ zTB ∧ Cond.selects RX10 yX10_keepOwners yX10_keepOwners ∈ zTB := ⟨(zr29 _ (List.mem_of_getElem? (i := 1) rfl)), (zr29 _ (List.mem_of_getElem? (i := 2) rfl))⟩
theorem zwX10_254_X7_takeRow : zWs RX10 254 yX7_takeRow cX7_takeRow 3 none 2 := ⟨(zr28 _ (List.mem_of_getElem? (i := 18) rfl)), (zr28 _ (List.mem_of_getElem? (i := 15) rfl)), (zr3 _ (List.mem_of_getElem? (i := 4) rfl)), by decide +kernel⟩
theorem zvX10_254_X7_takeRow : Cond.instanceMethod yX7_takeRow ∈ zTB ∧ Cond.selects RX7 yX7_takeRow yX7_takeRow ∈ zTB := ⟨(zr28 _ (List.mem_of_getElem? (i := 16) rfl)), (zr28 _ (List.mem_of_getElem? (i := 17) rfl))⟩
theorem zwX10_308_X5_beside : zWs RX10 308 yX5_beside cX5_beside 3 (some .int) 2 := ⟨(zr15 _ (List.mem_of_getElem? (i := 9) rfl)), (zr15 _ (List.mem_of_getElem? (i := 7) rfl)), (zr3 _ (List.mem_of_getElem? (i := 0) rfl)), by decide +kernel⟩
theorem ztX10_308_X5_beside : Cond.static yX5_beside ∈ zTB := (zr15 _ (List.mem_of_getElem? (i := 8) rfl))
theorem zwX10_311_X5_steps : zWs RX10 311 yX5_steps cX5_steps 2 (some .int) 2 := ⟨(zr14 _ (List.mem_of_getElem? (i := 23) rfl)), (zr14 _ (List.mem_of_getElem? (i := 21) rfl)), (zr3 _ (List.mem_of_getElem? (i := 0) rfl)), by decide +kernel⟩
theorem ztX10_311_X5_steps : Cond.static yX5_steps ∈ zTB := (zr14 _ (List.mem_of_getElem? (i := 22) rfl))
theorem zwX10_314_X10_ownsBeside : zWs RX10 314 yX10_ownsBeside cX10_ownsBeside 5 (some .boolean) 2 := ⟨(zr15 _ (List.mem_of_getElem? (i := 6) rfl)), (zr15 _ (List.mem_of_getElem? (i := 3) rfl)), (zr1 _ (List.mem_of_getElem? (i := 2) rfl)), by decide +kernel⟩
theorem zvX10_314_X10_ownsBeside : Cond.instanceMethod yX10_ownsBeside ∈ zTB ∧ Cond.selects RX10 yX10_ownsBeside yX10_ownsBeside ∈ zTB := ⟨(zr15 _ (List.mem_of_getElem? (i := 4) rfl)), (zr15 _ (List.mem_of_getElem? (i := 5) rfl))⟩
theorem zwX11_114_X11_in : zWs RX11 114 yX11_in cX11_in 3 (some .boolean) 3 := ⟨(zr8 _ (List.mem_of_getElem? (i := 7) rfl)), (zr8 _ (List.mem_of_getElem? (i := 5) rfl)), (zr1 _ (List.mem_of_getElem? (i := 5) rfl)), by decide +kernel⟩
theorem ztX11_114_X11_in : Cond.static yX11_in ∈ zTB := (zr8 _ (List.mem_of_getElem? (i := 6) rfl))
theorem zwX11_121_X11_isPlot : zWs RX11 121 yX11_isPlot cX11_isPlot 1 (some .boolean) 1 := ⟨(zr8 _ (List.mem_of_getElem? (i := 4) rfl)), (zr8 _ (List.mem_of_getElem? (i := 2) rfl)), (zr1 _ (List.mem_of_getElem? (i := 5) rfl)), by decide +kernel⟩
theorem ztX11_121_X11_isPlot : Cond.static yX11_isPlot ∈ zTB := (zr8 _ (List.mem_of_getElem? (i := 3) rfl))
theorem zwX11_126_X11_isBuyer : zWs RX11 126 yX11_isBuyer cX11_isBuyer 2 (some .boolean) 1 := ⟨(zr9 _ (List.mem_of_getElem? (i := 14) rfl)), (zr9 _ (List.mem_of_getElem? (i := 11) rfl)), (zr1 _ (List.mem_of_getElem? (i := 5) rfl)), by decide +kernel⟩
theorem zvX11_126_X11_isBuyer : Cond.instanceMethod yX11_isBuyer ∈ zTB ∧ Cond.selects RX11 yX11_isBuyer yX11_isBuyer ∈ zTB := ⟨(zr9 _ (List.mem_of_getElem? (i := 12) rfl)), (zr9 _ (List.mem_of_getElem? (i := 13) rfl))⟩
theorem zwX11_129_X11_chanceOf : zWs RX11 129 yX11_chanceOf cX11_chanceOf 1 (some .int) 1 := ⟨(zr12 _ (List.mem_of_getElem? (i := 17) rfl)), (zr12 _ (List.mem_of_getElem? (i := 15) rfl)), (zr1 _ (List.mem_of_getElem? (i := 5) rfl)), by decide +kernel⟩
theorem ztX11_129_X11_chanceOf : Cond.static yX11_chanceOf ∈ zTB := (zr12 _ (List.mem_of_getElem? (i := 16) rfl))
theorem zwX11_133_X11_hayOf : zWs RX11 133 yX11_hayOf cX11_hayOf 2 (some .int) 1 := ⟨(zr12 _ (List.mem_of_getElem? (i := 21) rfl)), (zr12 _ (List.mem_of_getElem? (i := 18) rfl)), (zr1 _ (List.mem_of_getElem? (i := 5) rfl)), by decide +kernel⟩
theorem zvX11_133_X11_hayOf : Cond.instanceMethod yX11_hayOf ∈ zTB ∧ Cond.selects RX11 yX11_hayOf yX11_hayOf ∈ zTB := ⟨(zr12 _ (List.mem_of_getElem? (i := 19) rfl)), (zr12 _ (List.mem_of_getElem? (i := 20) rfl))⟩
theorem zwX11_136_X11_stands : zWs RX11 136 yX11_stands cX11_stands 2 (some .boolean) 1 := ⟨(zr13 _ (List.mem_of_getElem? (i := 1) rfl)), (zr12 _ (List.mem_of_getElem? (i := 22) rfl)), (zr1 _ (List.mem_of_getElem? (i := 5) rfl)), by decide +kernel⟩
theorem zvX11_136_X11_stands : Cond.instanceMethod yX11_stands ∈ zTB ∧ Cond.selects RX11 yX11_stands yX11_stands ∈ zTB := ⟨(zr12 _ (List.mem_of_getElem? (i := 23) rfl)), (zr13 _ (List.mem_of_getElem? (i := 0) rfl))⟩
theorem zwX11_139_X11_has : zWs RX11 139 yX11_has cX11_has 3 (some .boolean) 2 := ⟨(zr14 _ (List.mem_of_getElem? (i := 4) rfl)), (zr14 _ (List.mem_of_getElem? (i := 1) rfl)), (zr1 _ (List.mem_of_getElem? (i := 5) rfl)), by decide +kernel⟩
theorem zvX11_139_X11_has : Cond.instanceMethod yX11_has ∈ zTB ∧ Cond.selects RX11 yX11_has yX11_has ∈ zTB := ⟨(zr14 _ (List.mem_of_getElem? (i := 2) rfl)), (zr14 _ (List.mem_of_getElem? (i := 3) rfl))⟩
theorem zwX11_143_X11_hayHeld : zWs RX11 143 yX11_hayHeld cX11_hayHeld 4 (some .int) 1 := ⟨(zr14 _ (List.mem_of_getElem? (i := 0) rfl)), (zr13 _ (List.mem_of_getElem? (i := 21) rfl)), (zr1 _ (List.mem_of_getElem? (i := 5) rfl)), by decide +kernel⟩
theorem zvX11_143_X11_hayHeld : Cond.instanceMethod yX11_hayHeld ∈ zTB ∧ Cond.selects RX11 yX11_hayHeld yX11_hayHeld ∈ zTB := ⟨(zr13 _ (List.mem_of_getElem? (i := 22) rfl)), (zr13 _ (List.mem_of_getElem? (i := 23) rfl))⟩
theorem zwX11_146_X11_debt : zWs RX11 146 yX11_debt cX11_debt 4 (some .int) 1 := ⟨(zr14 _ (List.mem_of_getElem? (i := 8) rfl)), (zr14 _ (List.mem_of_getElem? (i := 5) rfl)), (zr1 _ (List.mem_of_getElem? (i := 5) rfl)), by decide +kernel⟩
theorem zvX11_146_X11_debt : Cond.instanceMethod yX11_debt ∈ zTB ∧ Cond.selects RX11 yX11_debt yX11_debt ∈ zTB := ⟨(zr14 _ (List.mem_of_getElem? (i := 6) rfl)), (zr14 _ (List.mem_of_getElem? (i := 7) rfl))⟩
theorem zwX11_149_X11_apart : zWs RX11 149 yX11_apart cX11_apart 2 (some .int) 2 := ⟨(zr15 _ (List.mem_of_getElem? (i := 23) rfl)), (zr15 _ (List.mem_of_getElem? (i := 21) rfl)), (zr1 _ (List.mem_of_getElem? (i := 5) rfl)), by decide +kernel⟩
theorem ztX11_149_X11_apart : Cond.static yX11_apart ∈ zTB := (zr15 _ (List.mem_of_getElem? (i := 22) rfl))
theorem zwX11_153_X11_steps : zWs RX11 153 yX11_steps cX11_steps 2 (some .int) 2 := ⟨(zr15 _ (List.mem_of_getElem? (i := 20) rfl)), (zr15 _ (List.mem_of_getElem? (i := 18) rfl)), (zr1 _ (List.mem_of_getElem? (i := 5) rfl)), by decide +kernel⟩
theorem ztX11_153_X11_steps : Cond.static yX11_steps ∈ zTB := (zr15 _ (List.mem_of_getElem? (i := 19) rfl))
theorem zwX11_156_X11_worthOf : zWs RX11 156 yX11_worthOf cX11_worthOf 6 (some .int) 2 := ⟨(zr15 _ (List.mem_of_getElem? (i := 17) rfl)), (zr15 _ (List.mem_of_getElem? (i := 14) rfl)), (zr1 _ (List.mem_of_getElem? (i := 5) rfl)), by decide +kernel⟩
theorem zvX11_156_X11_worthOf : Cond.instanceMethod yX11_worthOf ∈ zTB ∧ Cond.selects RX11 yX11_worthOf yX11_worthOf ∈ zTB := ⟨(zr15 _ (List.mem_of_getElem? (i := 15) rfl)), (zr15 _ (List.mem_of_getElem? (i := 16) rfl))⟩
theorem zwX11_165_X11_capOf : zWs RX11 165 yX11_capOf cX11_capOf 2 (some .int) 1 := ⟨(zr18 _ (List.mem_of_getElem? (i := 15) rfl)), (zr18 _ (List.mem_of_getElem? (i := 12) rfl)), (zr1 _ (List.mem_of_getElem? (i := 5) rfl)), by decide +kernel⟩
theorem zvX11_165_X11_capOf : Cond.instanceMethod yX11_capOf ∈ zTB ∧ Cond.selects RX11 yX11_capOf yX11_capOf ∈ zTB := ⟨(zr18 _ (List.mem_of_getElem? (i := 13) rfl)), (zr18 _ (List.mem_of_getElem? (i := 14) rfl))⟩
theorem zwX11_168_X11_value : zWs RX11 168 yX11_value cX11_value 3 none 1 := ⟨(zr18 _ (List.mem_of_getElem? (i := 2) rfl)), (zr17 _ (List.mem_of_getElem? (i := 23) rfl)), (zr1 _ (List.mem_of_getElem? (i := 5) rfl)), by decide +kernel⟩
theorem zvX11_168_X11_value : Cond.instanceMethod yX11_value ∈ zTB ∧ Cond.selects RX11 yX11_value yX11_value ∈ zTB := ⟨(zr18 _ (List.mem_of_getElem? (i := 0) rfl)), (zr18 _ (List.mem_of_getElem? (i := 1) rfl))⟩
theorem zwX11_172_X11_burn : zWs RX11 172 yX11_burn cX11_burn 7 (some .int) 2 := ⟨(zr18 _ (List.mem_of_getElem? (i := 6) rfl)), (zr18 _ (List.mem_of_getElem? (i := 3) rfl)), (zr1 _ (List.mem_of_getElem? (i := 5) rfl)), by decide +kernel⟩
theorem zvX11_172_X11_burn : Cond.instanceMethod yX11_burn ∈ zTB ∧ Cond.selects RX11 yX11_burn yX11_burn ∈ zTB := ⟨(zr18 _ (List.mem_of_getElem? (i := 4) rfl)), (zr18 _ (List.mem_of_getElem? (i := 5) rfl))⟩
theorem zwX11_175_X11_lotFor : zWs RX11 175 yX11_lotFor cX11_lotFor 3 (some .int) 0 := ⟨(zr18 _ (List.mem_of_getElem? (i := 10) rfl)), (zr18 _ (List.mem_of_getElem? (i := 7) rfl)), (zr1 _ (List.mem_of_getElem? (i := 5) rfl)), by decide +kernel⟩
theorem zvX11_175_X11_lotFor : Cond.instanceMethod yX11_lotFor ∈ zTB ∧ Cond.selects RX11 yX11_lotFor yX11_lotFor ∈ zTB := ⟨(zr18 _ (List.mem_of_getElem? (i := 8) rfl)), (zr18 _ (List.mem_of_getElem? (i := 9) rfl))⟩
theorem zwX11_183_X11_standUp : zWs RX11 183 yX11_standUp cX11_standUp 2 none 0 := ⟨(zr22 _ (List.mem_of_getElem? (i := 6) rfl)), (zr22 _ (List.mem_of_getElem? (i := 3) rfl)), (zr1 _ (List.mem_of_getElem? (i := 5) rfl)), by decide +kernel⟩
theorem zvX11_183_X11_standUp : Cond.instanceMethod yX11_standUp ∈ zTB ∧ Cond.selects RX11 yX11_standUp yX11_standUp ∈ zTB := ⟨(zr22 _ (List.mem_of_getElem? (i := 4) rfl)), (zr22 _ (List.mem_of_getElem? (i := 5) rfl))⟩
theorem zwX11_186_X11_wayFrom : zWs RX11 186 yX11_wayFrom cX11_wayFrom 6 (some .int) 1 := ⟨(zr22 _ (List.mem_of_getElem? (i := 10) rfl)), (zr22 _ (List.mem_of_getElem? (i := 7) rfl)), (zr1 _ (List.mem_of_getElem? (i := 5) rfl)), by decide +kernel⟩
theorem zvX11_186_X11_wayFrom : Cond.instanceMethod yX11_wayFrom ∈ zTB ∧ Cond.selects RX11 yX11_wayFrom yX11_wayFrom ∈ zTB := ⟨(zr22 _ (List.mem_of_getElem? (i := 8) rfl)), (zr22 _ (List.mem_of_getElem? (i := 9) rfl))⟩
theorem zwX11_192_X11_workOut : zWs RX11 192 yX11_workOut cX11_workOut 4 (some .boolean) 0 := ⟨(zr23 _ (List.mem_of_getElem? (i := 12) rfl)), (zr23 _ (List.mem_of_getElem? (i := 9) rfl)), (zr1 _ (List.mem_of_getElem? (i := 5) rfl)), by decide +kernel⟩
theorem zvX11_192_X11_workOut : Cond.instanceMethod yX11_workOut ∈ zTB ∧ Cond.selects RX11 yX11_workOut yX11_workOut ∈ zTB := ⟨(zr23 _ (List.mem_of_getElem? (i := 10) rfl)), (zr23 _ (List.mem_of_getElem? (i := 11) rfl))⟩
theorem zwX11_199_X11_dries : zWs RX11 199 yX11_dries cX11_dries 4 (some .int) 1 := ⟨(zr24 _ (List.mem_of_getElem? (i := 17) rfl)), (zr24 _ (List.mem_of_getElem? (i := 14) rfl)), (zr1 _ (List.mem_of_getElem? (i := 5) rfl)), by decide +kernel⟩
theorem zvX11_199_X11_dries : Cond.instanceMethod yX11_dries ∈ zTB ∧ Cond.selects RX11 yX11_dries yX11_dries ∈ zTB := ⟨(zr24 _ (List.mem_of_getElem? (i := 15) rfl)), (zr24 _ (List.mem_of_getElem? (i := 16) rfl))⟩
theorem zwX11_202_X11_inBarn : zWs RX11 202 yX11_inBarn cX11_inBarn 3 (some .int) 1 := ⟨(zr25 _ (List.mem_of_getElem? (i := 10) rfl)), (zr25 _ (List.mem_of_getElem? (i := 7) rfl)), (zr1 _ (List.mem_of_getElem? (i := 5) rfl)), by decide +kernel⟩
theorem zvX11_202_X11_inBarn : Cond.instanceMethod yX11_inBarn ∈ zTB ∧ Cond.selects RX11 yX11_inBarn yX11_inBarn ∈ zTB := ⟨(zr25 _ (List.mem_of_getElem? (i := 8) rfl)), (zr25 _ (List.mem_of_getElem? (i := 9) rfl))⟩
theorem zwX11_205_X11_settle : zWs RX11 205 yX11_settle cX11_settle 4 none 0 := ⟨(zr26 _ (List.mem_of_getElem? (i := 22) rfl)), (zr26 _ (List.mem_of_getElem? (i := 19) rfl)), (zr1 _ (List.mem_of_getElem? (i := 5) rfl)), by decide +kernel⟩
theorem zvX11_205_X11_settle : Cond.instanceMethod yX11_settle ∈ zTB ∧ Cond.selects RX11 yX11_settle yX11_settle ∈ zTB := ⟨(zr26 _ (List.mem_of_getElem? (i := 20) rfl)), (zr26 _ (List.mem_of_getElem? (i := 21) rfl))⟩
theorem zwX11_208_X11_isShelf : zWs RX11 208 yX11_isShelf cX11_isShelf 1 (some .boolean) 1 := ⟨(zr29 _ (List.mem_of_getElem? (i := 11) rfl)), (zr29 _ (List.mem_of_getElem? (i := 9) rfl)), (zr1 _ (List.mem_of_getElem? (i := 5) rfl)), by decide +kernel⟩
theorem ztX11_208_X11_isShelf : Cond.static yX11_isShelf ∈ zTB := (zr29 _ (List.mem_of_getElem? (i := 10) rfl))
theorem zwX11_211_X11_noPlot : zWs RX11 211 yX11_noPlot cX11_noPlot 2 (some .int) 1 := ⟨(zr33 _ (List.mem_of_getElem? (i := 12) rfl)), (zr33 _ (List.mem_of_getElem? (i := 9) rfl)), (zr1 _ (List.mem_of_getElem? (i := 5) rfl)), by decide +kernel⟩
theorem zvX11_211_X11_noPlot : Cond.instanceMethod yX11_noPlot ∈ zTB ∧ Cond.selects RX11 yX11_noPlot yX11_noPlot ∈ zTB := ⟨(zr33 _ (List.mem_of_getElem? (i := 10) rfl)), (zr33 _ (List.mem_of_getElem? (i := 11) rfl))⟩
theorem zwX4_21_X0_owes : zWs RX4 21 yX0_owes cX0_owes 1 (some .int) 0 := ⟨(zr26 _ (List.mem_of_getElem? (i := 11) rfl)), (zr26 _ (List.mem_of_getElem? (i := 8) rfl)), (zr3 _ (List.mem_of_getElem? (i := 2) rfl)), by decide +kernel⟩
theorem zvX4_21_X0_owes : Cond.instanceMethod yX0_owes ∈ zTB ∧ Cond.selects RX0 yX0_owes yX0_owes ∈ zTB := ⟨(zr26 _ (List.mem_of_getElem? (i := 9) rfl)), (zr26 _ (List.mem_of_getElem? (i := 10) rfl))⟩
theorem zwX5_34_X5_isSold : zWs RX5 34 yX5_isSold cX5_isSold 1 (some .boolean) 0 := ⟨(zr7 _ (List.mem_of_getElem? (i := 21) rfl)), (zr12 _ (List.mem_of_getElem? (i := 6) rfl)), (zr3 _ (List.mem_of_getElem? (i := 0) rfl)), by decide +kernel⟩
theorem zvX5_34_X5_isSold : Cond.instanceMethod yX5_isSold ∈ zTB ∧ Cond.selects RX5 yX5_isSold yX5_isSold ∈ zTB := ⟨(zr7 _ (List.mem_of_getElem? (i := 19) rfl)), (zr7 _ (List.mem_of_getElem? (i := 20) rfl))⟩
theorem zwX5_38_X5_isCut : zWs RX5 38 yX5_isCut cX5_isCut 1 (some .boolean) 0 := ⟨(zr12 _ (List.mem_of_getElem? (i := 10) rfl)), (zr12 _ (List.mem_of_getElem? (i := 7) rfl)), (zr3 _ (List.mem_of_getElem? (i := 0) rfl)), by decide +kernel⟩
theorem zvX5_38_X5_isCut : Cond.instanceMethod yX5_isCut ∈ zTB ∧ Cond.selects RX5 yX5_isCut yX5_isCut ∈ zTB := ⟨(zr12 _ (List.mem_of_getElem? (i := 8) rfl)), (zr12 _ (List.mem_of_getElem? (i := 9) rfl))⟩
theorem zwX5_41_X5_stands : zWs RX5 41 yX5_stands cX5_stands 1 (some .boolean) 0 := ⟨(zr12 _ (List.mem_of_getElem? (i := 5) rfl)), (zr21 _ (List.mem_of_getElem? (i := 7) rfl)), (zr3 _ (List.mem_of_getElem? (i := 0) rfl)), by decide +kernel⟩
theorem zvX5_41_X5_stands : Cond.instanceMethod yX5_stands ∈ zTB ∧ Cond.selects RX5 yX5_stands yX5_stands ∈ zTB := ⟨(zr12 _ (List.mem_of_getElem? (i := 3) rfl)), (zr12 _ (List.mem_of_getElem? (i := 4) rfl))⟩
theorem zwX6_32_X6_greatestBut : zWs RX6 32 yX6_greatestBut cX6_greatestBut 5 (some .int) 1 := ⟨(zr17 _ (List.mem_of_getElem? (i := 8) rfl)), (zr17 _ (List.mem_of_getElem? (i := 5) rfl)), (zr2 _ (List.mem_of_getElem? (i := 1) rfl)), by decide +kernel⟩
theorem zvX6_32_X6_greatestBut : Cond.instanceMethod yX6_greatestBut ∈ zTB ∧ Cond.selects RX6 yX6_greatestBut yX6_greatestBut ∈ zTB := ⟨(zr17 _ (List.mem_of_getElem? (i := 6) rfl)), (zr17 _ (List.mem_of_getElem? (i := 7) rfl))⟩
theorem zwX7_30_J7_fill_53178 : zWs RX7 30 yJ7_fill_53178 cJ7_fill_53178 4 none 2 := ⟨(zr21 _ (List.mem_of_getElem? (i := 16) rfl)), (zr28 _ (List.mem_of_getElem? (i := 20) rfl)), (zr21 _ (List.mem_of_getElem? (i := 15) rfl)), by decide +kernel⟩
theorem ztX7_30_J7_fill_53178 : Cond.static yJ7_fill_53178 ∈ zTB := (zr21 _ (List.mem_of_getElem? (i := 14) rfl))
theorem zwX7_36_J7_fill_031fb : zWs RX7 36 yJ7_fill_031fb cJ7_fill_031fb 4 none 2 := ⟨(zr28 _ (List.mem_of_getElem? (i := 23) rfl)), (zr28 _ (List.mem_of_getElem? (i := 21) rfl)), (zr21 _ (List.mem_of_getElem? (i := 15) rfl)), by decide +kernel⟩
theorem ztX7_36_J7_fill_031fb : Cond.static yJ7_fill_031fb ∈ zTB := (zr28 _ (List.mem_of_getElem? (i := 22) rfl))
theorem zwX8_18_X5_toll : zWs RX8 18 yX5_toll cX5_toll 1 (some .int) 0 := ⟨(zr21 _ (List.mem_of_getElem? (i := 6) rfl)), (zr21 _ (List.mem_of_getElem? (i := 3) rfl)), (zr3 _ (List.mem_of_getElem? (i := 0) rfl)), by decide +kernel⟩
theorem zvX8_18_X5_toll : Cond.instanceMethod yX5_toll ∈ zTB ∧ Cond.selects RX5 yX5_toll yX5_toll ∈ zTB := ⟨(zr21 _ (List.mem_of_getElem? (i := 4) rfl)), (zr21 _ (List.mem_of_getElem? (i := 5) rfl))⟩
theorem zwX8_24_X8_spread : zWs RX8 24 yX8_spread cX8_spread 5 none 0 := ⟨(zr21 _ (List.mem_of_getElem? (i := 11) rfl)), (zr21 _ (List.mem_of_getElem? (i := 8) rfl)), (zr2 _ (List.mem_of_getElem? (i := 5) rfl)), by decide +kernel⟩
theorem zvX8_24_X8_spread : Cond.instanceMethod yX8_spread ∈ zTB ∧ Cond.selects RX8 yX8_spread yX8_spread ∈ zTB := ⟨(zr21 _ (List.mem_of_getElem? (i := 9) rfl)), (zr21 _ (List.mem_of_getElem? (i := 10) rfl))⟩
theorem zwX8_28_J7_fill_53178 : zWs RX8 28 yJ7_fill_53178 cJ7_fill_53178 4 none 2 := ⟨(zr21 _ (List.mem_of_getElem? (i := 16) rfl)), (zr21 _ (List.mem_of_getElem? (i := 13) rfl)), (zr21 _ (List.mem_of_getElem? (i := 15) rfl)), by decide +kernel⟩
theorem ztX8_28_J7_fill_53178 : Cond.static yJ7_fill_53178 ∈ zTB := (zr21 _ (List.mem_of_getElem? (i := 14) rfl))
theorem zwX8_34_X8_leastBeside : zWs RX8 34 yX8_leastBeside cX8_leastBeside 5 (some .int) 1 := ⟨(zr21 _ (List.mem_of_getElem? (i := 20) rfl)), (zr21 _ (List.mem_of_getElem? (i := 17) rfl)), (zr2 _ (List.mem_of_getElem? (i := 5) rfl)), by decide +kernel⟩
theorem zvX8_34_X8_leastBeside : Cond.instanceMethod yX8_leastBeside ∈ zTB ∧ Cond.selects RX8 yX8_leastBeside yX8_leastBeside ∈ zTB := ⟨(zr21 _ (List.mem_of_getElem? (i := 18) rfl)), (zr21 _ (List.mem_of_getElem? (i := 19) rfl))⟩
theorem zwX8_38_X5_beside : zWs RX8 38 yX5_beside cX5_beside 3 (some .int) 2 := ⟨(zr15 _ (List.mem_of_getElem? (i := 9) rfl)), (zr21 _ (List.mem_of_getElem? (i := 22) rfl)), (zr3 _ (List.mem_of_getElem? (i := 0) rfl)), by decide +kernel⟩
theorem ztX8_38_X5_beside : Cond.static yX5_beside ∈ zTB := (zr15 _ (List.mem_of_getElem? (i := 8) rfl))
theorem zmX10_317 : Cond.methodLink RX10 317 Lib.Math.max.name ∈ zTB ∧ Cond.static Lib.Math.max.name ∈ zTB ∧ Cond.initialized "java/lang/Math" ∈ zTB ∧ Cond.code Lib.Math.max.name Lib.Math.max.code 2 (some .int) ∈ zTB := ⟨(zr14 _ (List.mem_of_getElem? (i := 17) rfl)), (zr14 _ (List.mem_of_getElem? (i := 18) rfl)), (zr14 _ (List.mem_of_getElem? (i := 19) rfl)), (zr14 _ (List.mem_of_getElem? (i := 20) rfl))⟩
theorem zmX10_331 : Cond.methodLink RX10 331 Lib.Math.min.name ∈ zTB ∧ Cond.static Lib.Math.min.name ∈ zTB ∧ Cond.initialized "java/lang/Math" ∈ zTB ∧ Cond.code Lib.Math.min.name Lib.Math.min.code 2 (some .int) ∈ zTB := ⟨(zr16 _ (List.mem_of_getElem? (i := 14) rfl)), (zr16 _ (List.mem_of_getElem? (i := 15) rfl)), (zr14 _ (List.mem_of_getElem? (i := 19) rfl)), (zr16 _ (List.mem_of_getElem? (i := 16) rfl))⟩
theorem zmX4_31 : Cond.methodLink RX4 31 Lib.Math.min.name ∈ zTB ∧ Cond.static Lib.Math.min.name ∈ zTB ∧ Cond.initialized "java/lang/Math" ∈ zTB ∧ Cond.code Lib.Math.min.name Lib.Math.min.code 2 (some .int) ∈ zTB := ⟨(zr26 _ (List.mem_of_getElem? (i := 6) rfl)), (zr16 _ (List.mem_of_getElem? (i := 15) rfl)), (zr14 _ (List.mem_of_getElem? (i := 19) rfl)), (zr16 _ (List.mem_of_getElem? (i := 16) rfl))⟩
theorem zmX5_44 : Cond.methodLink RX5 44 Lib.Math.abs.name ∈ zTB ∧ Cond.static Lib.Math.abs.name ∈ zTB ∧ Cond.initialized "java/lang/Math" ∈ zTB ∧ Cond.code Lib.Math.abs.name Lib.Math.abs.code 1 (some .int) ∈ zTB := ⟨(zr15 _ (List.mem_of_getElem? (i := 0) rfl)), (zr15 _ (List.mem_of_getElem? (i := 1) rfl)), (zr14 _ (List.mem_of_getElem? (i := 19) rfl)), (zr15 _ (List.mem_of_getElem? (i := 2) rfl))⟩
theorem zmX6_36 : Cond.methodLink RX6 36 Lib.Math.min.name ∈ zTB ∧ Cond.static Lib.Math.min.name ∈ zTB ∧ Cond.initialized "java/lang/Math" ∈ zTB ∧ Cond.code Lib.Math.min.name Lib.Math.min.code 2 (some .int) ∈ zTB := ⟨(zr17 _ (List.mem_of_getElem? (i := 13) rfl)), (zr16 _ (List.mem_of_getElem? (i := 15) rfl)), (zr14 _ (List.mem_of_getElem? (i := 19) rfl)), (zr16 _ (List.mem_of_getElem? (i := 16) rfl))⟩
theorem zmX8_42 : Cond.methodLink RX8 42 Lib.Math.min.name ∈ zTB ∧ Cond.static Lib.Math.min.name ∈ zTB ∧ Cond.initialized "java/lang/Math" ∈ zTB ∧ Cond.code Lib.Math.min.name Lib.Math.min.code 2 (some .int) ∈ zTB := ⟨(zr21 _ (List.mem_of_getElem? (i := 21) rfl)), (zr16 _ (List.mem_of_getElem? (i := 15) rfl)), (zr14 _ (List.mem_of_getElem? (i := 19) rfl)), (zr16 _ (List.mem_of_getElem? (i := 16) rfl))⟩
end
section
section ZDS
variable {p : Program} {l : Launch} {e : Env} {R : Room} {s : State} {m : MethodId} {args : Array Value} {below : List Frame} {meth : Method} {c : Code} {nL kc ks : Nat} {E : zE} {Q : State → Prop} {σ : zMem} {pc pc' : Nat} {lv lv' : List (Nat × Value)} {st : List Value} {cc : ByteArray} {rt : Option FieldType}
theorem z_callUi {own : String} (C : zX p s m args meth c cc nL own rt E) {x y : MethodName} {cc' b0 : ByteArray} {nL' m0 fr lo index N q i ci : Nat} {r0 : Option FieldType} {ty : FieldType} {As st0 : List Value} {Q9 : Int32 → zMem → Prop} {fs : List Value} {w9 : vw_C} {owner : String} (hM : zMi l y cc' nL' ty fr lo E (.ref (E.2.2 q i) :: As) σ Q9) (hw : GoodIn zTB (va_wsO own index w9.1 owner x y (Cond.code y cc' nL' (some ty) :: zTB))) (h0 : Cond.code ⟨owner, x.name, x.desc⟩ b0 m0 r0 ∈ zTB) (hdd : owner ≠ "java/lang/invoke/MethodHandle" ∧ owner ≠ "java/lang/invoke/VarHandle" ∧ (parseMethodDescriptor x.desc).map (fun d => d.parameters.length) = some N) (hc : (q, i) ∈ zL) (hct : zct E q i (σ q i) = .inr (ci, fs)) (hcl : vwCl[ci]? = some w9) (hR : fr + 1 ≤ R.frames ∧ 8 + (nL' + 11) + lo ≤ R.locals) (hkc : kc ≤ R.cells ∧ ks ≤ R.slots) (hN : As.length = N) (hst : st0 = As.reverse ++ .ref (E.2.2 q i) :: st) (hW : (st.map fun v => v.category).sum ≤ 8) (hd : decode cc pc = .ok (.invokevirtual index, 3)) (hn : pc + 3 = pc') (k9 : ∀ (r : Int32) (u : zMem), Q9 r u → zG p l e R s m args below meth c nL E kc ks Q u pc' lv (.int r :: st)) : zG p l e R s m args below meth c nL E kc ks Q σ pc lv st0 := by
  intro ls H locs h1 h2 h3
  subst hn
  subst hst
  refine va_calli (va_runU (C := w9.1) (b := E.2.2 q i) (As := As) (rest := st) C.1 (hM H.size) (va_cwO N C.1.2.2.2.2 hw rfl rfl rfl h0 hdd hR) (zPV C h2 hc hct hcl) rfl hN h1.1 rfl (lv_room hW) hd hkc) h3 (fun q _ h => zfree h3 q h) (zfree h3) (fun r u t H1 locs1 ht hvm hq hB hz hk1 hS => ?_)
  exact k9 r u hq ls H1 locs1 h1 (by rw [← ht]; exact hB.1) hS
def zchance (g : Nat) : Int32 := match g with
  | 0 => 80
  | 1 => 50
  | 2 => 25
  | _ => 95
def vc_X1_chance (σ : zMem) (i : Nat) (Q : Int32 → zMem → Prop) : Prop := Q 80 σ
set_option maxHeartbeats 4000000 in
set_option maxRecDepth 100000 in
theorem sc_X1_chance (l : Launch) (E : zE) (σ : zMem) (i : Nat) (Q : Int32 → zMem → Prop) (hi : i < zcnt 2) (h : vc_X1_chance σ i Q) : zMi l yX1_chance cX1_chance 1 .int 0 0 E [.ref (E.2.2 2 i)] σ Q := by
  refine zMi_of (by decide) (Nat.le_of_ble_eq_true rfl) ?_
  intro p e s m args below meth c C
  unfold vc_X1_chance at h
  have fin : zG p l e (zRm 0 0) s m args below meth c 1 E 0 0 (MQ below (va_Qi Q (zPost E) (zA E s.heap.size)) args s 0 0 (zA E s.heap.size)) σ 0 [(0, .ref (E.2.2 2 i))] [] := by
    refine z_bipush (v := 80) (pc' := 2) C dX1_chance_0 (by decide) rfl ?_
    exact z_iret C dX1_chance_2 h
  exact fin
def vc_X9_chance (σ : zMem) (i : Nat) (Q : Int32 → zMem → Prop) : Prop := Q 50 σ
set_option maxHeartbeats 4000000 in
set_option maxRecDepth 100000 in
theorem sc_X9_chance (l : Launch) (E : zE) (σ : zMem) (i : Nat) (Q : Int32 → zMem → Prop) (hi : i < zcnt 2) (h : vc_X9_chance σ i Q) : zMi l yX9_chance cX9_chance 1 .int 0 0 E [.ref (E.2.2 2 i)] σ Q := by
  refine zMi_of (by decide) (Nat.le_of_ble_eq_true rfl) ?_
  intro p e s m args below meth c C
  unfold vc_X9_chance at h
  have fin : zG p l e (zRm 0 0) s m args below meth c 1 E 0 0 (MQ below (va_Qi Q (zPost E) (zA E s.heap.size)) args s 0 0 (zA E s.heap.size)) σ 0 [(0, .ref (E.2.2 2 i))] [] := by
    refine z_bipush (v := 50) (pc' := 2) C dX9_chance_0 (by decide) rfl ?_
    exact z_iret C dX9_chance_2 h
  exact fin
def vc_X2_chance (σ : zMem) (i : Nat) (Q : Int32 → zMem → Prop) : Prop := Q 25 σ
set_option maxHeartbeats 4000000 in
set_option maxRecDepth 100000 in
theorem sc_X2_chance (l : Launch) (E : zE) (σ : zMem) (i : Nat) (Q : Int32 → zMem → Prop) (hi : i < zcnt 2) (h : vc_X2_chance σ i Q) : zMi l yX2_chance cX2_chance 1 .int 0 0 E [.ref (E.2.2 2 i)] σ Q := by
  refine zMi_of (by decide) (Nat.le_of_ble_eq_true rfl) ?_
  intro p e s m args below meth c C
  unfold vc_X2_chance at h
  have fin : zG p l e (zRm 0 0) s m args below meth c 1 E 0 0 (MQ below (va_Qi Q (zPost E) (zA E s.heap.size)) args s 0 0 (zA E s.heap.size)) σ 0 [(0, .ref (E.2.2 2 i))] [] := by
    refine z_bipush (v := 25) (pc' := 2) C dX2_chance_0 (by decide) rfl ?_
    exact z_iret C dX2_chance_2 h
  exact fin
def vc_X3_chance (σ : zMem) (i : Nat) (Q : Int32 → zMem → Prop) : Prop := Q 95 σ
set_option maxHeartbeats 4000000 in
set_option maxRecDepth 100000 in
theorem sc_X3_chance (l : Launch) (E : zE) (σ : zMem) (i : Nat) (Q : Int32 → zMem → Prop) (hi : i < zcnt 2) (h : vc_X3_chance σ i Q) : zMi l yX3_chance cX3_chance 1 .int 0 0 E [.ref (E.2.2 2 i)] σ Q := by
  refine zMi_of (by decide) (Nat.le_of_ble_eq_true rfl) ?_
  intro p e s m args below meth c C
  unfold vc_X3_chance at h
  have fin : zG p l e (zRm 0 0) s m args below meth c 1 E 0 0 (MQ below (va_Qi Q (zPost E) (zA E s.heap.size)) args s 0 0 (zA E s.heap.size)) σ 0 [(0, .ref (E.2.2 2 i))] [] := by
    refine z_bipush (v := 95) (pc' := 2) C dX3_chance_0 (by decide) rfl ?_
    exact z_iret C dX3_chance_2 h
  exact fin
theorem zqX10_126_X9 : GoodIn zTB (va_wsO RX10 126 RX9 "CandleMeadow$Dry" ⟨"CandleMeadow$Dry", "chance", "()I"⟩ yX9_chance (Cond.code yX9_chance cX9_chance 1 (some .int) :: zTB)) := goodIn_app (goodIn_of _ (by decide +kernel)) (zGood (zr11 _ (List.mem_of_getElem? (i := 18) rfl)))
theorem zqX10_126_X2 : GoodIn zTB (va_wsO RX10 126 RX2 "CandleMeadow$Dry" ⟨"CandleMeadow$Dry", "chance", "()I"⟩ yX2_chance (Cond.code yX2_chance cX2_chance 1 (some .int) :: zTB)) := goodIn_app (goodIn_of _ (by decide +kernel)) (zGood (zr11 _ (List.mem_of_getElem? (i := 12) rfl)))
theorem zqX10_126_X3 : GoodIn zTB (va_wsO RX10 126 RX3 "CandleMeadow$Dry" ⟨"CandleMeadow$Dry", "chance", "()I"⟩ yX3_chance (Cond.code yX3_chance cX3_chance 1 (some .int) :: zTB)) := goodIn_app (goodIn_of _ (by decide +kernel)) (zGood (zr11 _ (List.mem_of_getElem? (i := 15) rfl)))
theorem zwX10_126_X1_chance : zWs RX10 126 yX1_chance cX1_chance 1 (some .int) 0 := ⟨(zr11 _ (List.mem_of_getElem? (i := 6) rfl)), (zr11 _ (List.mem_of_getElem? (i := 3) rfl)), (zr2 _ (List.mem_of_getElem? (i := 13) rfl)), by decide +kernel⟩
theorem zvX10_126_X1_chance : Cond.instanceMethod yX1_chance ∈ zTB ∧ Cond.selects RX1 yX1_chance yX1_chance ∈ zTB := ⟨(zr11 _ (List.mem_of_getElem? (i := 4) rfl)), (zr11 _ (List.mem_of_getElem? (i := 5) rfl))⟩
set_option maxHeartbeats 4000000 in
theorem zdX10_126 (C : zX p s m args meth c cc nL RX10 rt E) {g : Nat} (hg : g < zcnt 2) (hf : 1 ≤ R.frames) (hlo : 20 ≤ R.locals) (hkc : kc ≤ R.cells) (hks : ks ≤ R.slots) (hW : (st.map fun v => v.category).sum ≤ 8) (hd : decode cc pc = .ok (.invokevirtual 126, 3)) (hn : pc + 3 = pc') (k9 : zG p l e R s m args below meth c nL E kc ks Q σ pc' lv (.int (zchance g) :: st)) : zG p l e R s m args below meth c nL E kc ks Q σ pc lv (.ref (E.2.2 2 g) :: st) := by
  have hm := zL_mem (q := 2) (by decide) hg
  rcases (show g = 0 ∨ g = 1 ∨ g = 2 ∨ g = 3 by have e9 : zcnt 2 = 4 := rfl; omega) with rfl | rfl | rfl | rfl
  · exact z_callVi (q := 2) (i := 0) (w9 := (RX1, TX1, 0)) (As := []) C (sc_X1_chance l E σ 0 (fun r u => r = 80 ∧ u = σ) hg ⟨rfl, rfl⟩) zwX10_126_X1_chance zvX10_126_X1_chance.1 zvX10_126_X1_chance.2 hm rfl rfl ⟨hf, hlo⟩ ⟨hkc, hks⟩ rfl rfl hW hd hn (fun r u h => by obtain ⟨e1, e2⟩ := h; subst e1; subst e2; exact k9)
  · exact z_callUi (x := ⟨"CandleMeadow$Dry", "chance", "()I"⟩) (owner := "CandleMeadow$Dry") (q := 2) (i := 1) (w9 := (RX9, TX9, 0)) (As := []) C (sc_X9_chance l E σ 1 (fun r u => r = 50 ∧ u = σ) hg ⟨rfl, rfl⟩) zqX10_126_X9 (zr11 _ (List.mem_of_getElem? (i := 6) rfl)) (by decide +kernel) hm rfl rfl ⟨hf, hlo⟩ ⟨hkc, hks⟩ rfl rfl hW hd hn (fun r u h => by obtain ⟨e1, e2⟩ := h; subst e1; subst e2; exact k9)
  · exact z_callUi (x := ⟨"CandleMeadow$Dry", "chance", "()I"⟩) (owner := "CandleMeadow$Dry") (q := 2) (i := 2) (w9 := (RX2, TX2, 0)) (As := []) C (sc_X2_chance l E σ 2 (fun r u => r = 25 ∧ u = σ) hg ⟨rfl, rfl⟩) zqX10_126_X2 (zr11 _ (List.mem_of_getElem? (i := 6) rfl)) (by decide +kernel) hm rfl rfl ⟨hf, hlo⟩ ⟨hkc, hks⟩ rfl rfl hW hd hn (fun r u h => by obtain ⟨e1, e2⟩ := h; subst e1; subst e2; exact k9)
  · exact z_callUi (x := ⟨"CandleMeadow$Dry", "chance", "()I"⟩) (owner := "CandleMeadow$Dry") (q := 2) (i := 3) (w9 := (RX3, TX3, 0)) (As := []) C (sc_X3_chance l E σ 3 (fun r u => r = 95 ∧ u = σ) hg ⟨rfl, rfl⟩) zqX10_126_X3 (zr11 _ (List.mem_of_getElem? (i := 6) rfl)) (by decide +kernel) hm rfl rfl ⟨hf, hlo⟩ ⟨hkc, hks⟩ rfl rfl hW hd hn (fun r u h => by obtain ⟨e1, e2⟩ := h; subst e1; subst e2; exact k9)
theorem zqX5_28_X9 : GoodIn zTB (va_wsO RX5 28 RX9 "CandleMeadow$Dry" ⟨"CandleMeadow$Dry", "chance", "()I"⟩ yX9_chance (Cond.code yX9_chance cX9_chance 1 (some .int) :: zTB)) := goodIn_app (goodIn_of _ (by decide +kernel)) (zGood (zr11 _ (List.mem_of_getElem? (i := 18) rfl)))
theorem zqX5_28_X2 : GoodIn zTB (va_wsO RX5 28 RX2 "CandleMeadow$Dry" ⟨"CandleMeadow$Dry", "chance", "()I"⟩ yX2_chance (Cond.code yX2_chance cX2_chance 1 (some .int) :: zTB)) := goodIn_app (goodIn_of _ (by decide +kernel)) (zGood (zr11 _ (List.mem_of_getElem? (i := 12) rfl)))
theorem zqX5_28_X3 : GoodIn zTB (va_wsO RX5 28 RX3 "CandleMeadow$Dry" ⟨"CandleMeadow$Dry", "chance", "()I"⟩ yX3_chance (Cond.code yX3_chance cX3_chance 1 (some .int) :: zTB)) := goodIn_app (goodIn_of _ (by decide +kernel)) (zGood (zr11 _ (List.mem_of_getElem? (i := 15) rfl)))
theorem zwX5_28_X1_chance : zWs RX5 28 yX1_chance cX1_chance 1 (some .int) 0 := ⟨(zr11 _ (List.mem_of_getElem? (i := 6) rfl)), (zr12 _ (List.mem_of_getElem? (i := 0) rfl)), (zr2 _ (List.mem_of_getElem? (i := 13) rfl)), by decide +kernel⟩
theorem zvX5_28_X1_chance : Cond.instanceMethod yX1_chance ∈ zTB ∧ Cond.selects RX1 yX1_chance yX1_chance ∈ zTB := ⟨(zr11 _ (List.mem_of_getElem? (i := 4) rfl)), (zr11 _ (List.mem_of_getElem? (i := 5) rfl))⟩
set_option maxHeartbeats 4000000 in
theorem zdX5_28 (C : zX p s m args meth c cc nL RX5 rt E) {g : Nat} (hg : g < zcnt 2) (hf : 1 ≤ R.frames) (hlo : 20 ≤ R.locals) (hkc : kc ≤ R.cells) (hks : ks ≤ R.slots) (hW : (st.map fun v => v.category).sum ≤ 8) (hd : decode cc pc = .ok (.invokevirtual 28, 3)) (hn : pc + 3 = pc') (k9 : zG p l e R s m args below meth c nL E kc ks Q σ pc' lv (.int (zchance g) :: st)) : zG p l e R s m args below meth c nL E kc ks Q σ pc lv (.ref (E.2.2 2 g) :: st) := by
  have hm := zL_mem (q := 2) (by decide) hg
  rcases (show g = 0 ∨ g = 1 ∨ g = 2 ∨ g = 3 by have e9 : zcnt 2 = 4 := rfl; omega) with rfl | rfl | rfl | rfl
  · exact z_callVi (q := 2) (i := 0) (w9 := (RX1, TX1, 0)) (As := []) C (sc_X1_chance l E σ 0 (fun r u => r = 80 ∧ u = σ) hg ⟨rfl, rfl⟩) zwX5_28_X1_chance zvX5_28_X1_chance.1 zvX5_28_X1_chance.2 hm rfl rfl ⟨hf, hlo⟩ ⟨hkc, hks⟩ rfl rfl hW hd hn (fun r u h => by obtain ⟨e1, e2⟩ := h; subst e1; subst e2; exact k9)
  · exact z_callUi (x := ⟨"CandleMeadow$Dry", "chance", "()I"⟩) (owner := "CandleMeadow$Dry") (q := 2) (i := 1) (w9 := (RX9, TX9, 0)) (As := []) C (sc_X9_chance l E σ 1 (fun r u => r = 50 ∧ u = σ) hg ⟨rfl, rfl⟩) zqX5_28_X9 (zr11 _ (List.mem_of_getElem? (i := 6) rfl)) (by decide +kernel) hm rfl rfl ⟨hf, hlo⟩ ⟨hkc, hks⟩ rfl rfl hW hd hn (fun r u h => by obtain ⟨e1, e2⟩ := h; subst e1; subst e2; exact k9)
  · exact z_callUi (x := ⟨"CandleMeadow$Dry", "chance", "()I"⟩) (owner := "CandleMeadow$Dry") (q := 2) (i := 2) (w9 := (RX2, TX2, 0)) (As := []) C (sc_X2_chance l E σ 2 (fun r u => r = 25 ∧ u = σ) hg ⟨rfl, rfl⟩) zqX5_28_X2 (zr11 _ (List.mem_of_getElem? (i := 6) rfl)) (by decide +kernel) hm rfl rfl ⟨hf, hlo⟩ ⟨hkc, hks⟩ rfl rfl hW hd hn (fun r u h => by obtain ⟨e1, e2⟩ := h; subst e1; subst e2; exact k9)
  · exact z_callUi (x := ⟨"CandleMeadow$Dry", "chance", "()I"⟩) (owner := "CandleMeadow$Dry") (q := 2) (i := 3) (w9 := (RX3, TX3, 0)) (As := []) C (sc_X3_chance l E σ 3 (fun r u => r = 95 ∧ u = σ) hg ⟨rfl, rfl⟩) zqX5_28_X3 (zr11 _ (List.mem_of_getElem? (i := 6) rfl)) (by decide +kernel) hm rfl rfl ⟨hf, hlo⟩ ⟨hkc, hks⟩ rfl rfl hW hd hn (fun r u h => by obtain ⟨e1, e2⟩ := h; subst e1; subst e2; exact k9)
end ZDS
end
section
def vc_X0_need (σ : zMem) (i : Nat) (Q : Int32 → zMem → Prop) : Prop := Q (12 * (σ 6 i 0)) σ
set_option maxHeartbeats 4000000 in
set_option maxRecDepth 100000 in
theorem sc_X0_need (l : Launch) (E : zE) (σ : zMem) (i : Nat) (Q : Int32 → zMem → Prop) (hi : i < zcnt 6) (h : vc_X0_need σ i Q) : zMi l yX0_need cX0_need 1 .int 0 0 E [.ref (E.2.2 6 i)] σ Q := by
  refine zMi_of (by decide) (Nat.le_of_ble_eq_true rfl) ?_
  intro p e s m args below meth c C
  unfold vc_X0_need at h
  have fin : zG p l e (zRm 0 0) s m args below meth c 1 E 0 0 (MQ below (va_Qi Q (zPost E) (zA E s.heap.size)) args s 0 0 (zA E s.heap.size)) σ 0 [(0, .ref (E.2.2 6 i))] [] := by
    refine z_bipush (v := 12) (pc' := 2) C dX0_need_0 (by decide) rfl ?_
    refine z_aload_n (pc' := 3) C dX0_need_2 rfl 0 rfl rfl ?_
    refine zgX0_15 (pc' := 6) C hi dX0_need_3 rfl ?_
    refine z_imul (pc' := 7) C dX0_need_6 rfl ?_
    exact z_iret C dX0_need_7 h
  exact fin
def vc_X0_owes (σ : zMem) (i : Nat) (Q : Int32 → zMem → Prop) : Prop := Q ((σ 6 i 3) + (10 * (σ 6 i 4))) σ
set_option maxHeartbeats 4000000 in
set_option maxRecDepth 100000 in
theorem sc_X0_owes (l : Launch) (E : zE) (σ : zMem) (i : Nat) (Q : Int32 → zMem → Prop) (hi : i < zcnt 6) (h : vc_X0_owes σ i Q) : zMi l yX0_owes cX0_owes 1 .int 0 0 E [.ref (E.2.2 6 i)] σ Q := by
  refine zMi_of (by decide) (Nat.le_of_ble_eq_true rfl) ?_
  intro p e s m args below meth c C
  unfold vc_X0_owes at h
  have fin : zG p l e (zRm 0 0) s m args below meth c 1 E 0 0 (MQ below (va_Qi Q (zPost E) (zA E s.heap.size)) args s 0 0 (zA E s.heap.size)) σ 0 [(0, .ref (E.2.2 6 i))] [] := by
    refine z_aload_n (pc' := 1) C dX0_owes_0 rfl 0 rfl rfl ?_
    refine zgX0_18 (pc' := 4) C hi dX0_owes_1 rfl ?_
    refine z_bipush (v := 10) (pc' := 6) C dX0_owes_4 (by decide) rfl ?_
    refine z_aload_n (pc' := 7) C dX0_owes_6 rfl 0 rfl rfl ?_
    refine zgX0_21 (pc' := 10) C hi dX0_owes_7 rfl ?_
    refine z_imul (pc' := 11) C dX0_owes_10 rfl ?_
    refine z_iadd (pc' := 12) C dX0_owes_11 rfl ?_
    exact z_iret C dX0_owes_12 h
  exact fin
def vc_X4_settle_62 (x2 : Int32) (Q : zMem → Prop) : Nat → zMem → Int32 → Prop
  | 0, _, _ => False
  | n + 1, σ, x3 => ((x2 ≤ x3) → Q σ) ∧ ((¬ x2 ≤ x3) → vp_in x3 10 ∧ (((σ 6 x3.toNatClampNeg 6) < 0) → vc_X4_settle_62 x2 Q n σ (x3 + 1)) ∧ ((¬ (σ 6 x3.toNatClampNeg 6) < 0) → ((x2 ≤ (σ 6 x3.toNatClampNeg 6)) → vc_X4_settle_62 x2 Q n σ (x3 + 1)) ∧ ((¬ x2 ≤ (σ 6 x3.toNatClampNeg 6)) → vp_in x3 10 ∧ vc_X0_owes σ x3.toNatClampNeg (fun r10 σ9 => vp_in x3 10 ∧ vp_in (σ 6 x3.toNatClampNeg 6) 10 ∧ vp_in x3 10 ∧ vp_in (σ 6 x3.toNatClampNeg 6) 10 ∧ vp_in x3 10 ∧ vp_in (σ 6 x3.toNatClampNeg 6) 10 ∧ vc_X4_settle_62 x2 Q n (um (um σ9 20 0 x3.toNatClampNeg ((if (σ9 21 0 (σ 6 x3.toNatClampNeg 6).toNatClampNeg) < (r10 - (σ9 19 0 x3.toNatClampNeg)) then σ9 21 0 (σ 6 x3.toNatClampNeg 6).toNatClampNeg else r10 - (σ9 19 0 x3.toNatClampNeg)))) 21 0 (σ 6 x3.toNatClampNeg 6).toNatClampNeg (((um σ9 20 0 x3.toNatClampNeg ((if (σ9 21 0 (σ 6 x3.toNatClampNeg 6).toNatClampNeg) < (r10 - (σ9 19 0 x3.toNatClampNeg)) then σ9 21 0 (σ 6 x3.toNatClampNeg 6).toNatClampNeg else r10 - (σ9 19 0 x3.toNatClampNeg)))) 21 0 (σ 6 x3.toNatClampNeg 6).toNatClampNeg) - ((um σ9 20 0 x3.toNatClampNeg ((if (σ9 21 0 (σ 6 x3.toNatClampNeg 6).toNatClampNeg) < (r10 - (σ9 19 0 x3.toNatClampNeg)) then σ9 21 0 (σ 6 x3.toNatClampNeg 6).toNatClampNeg else r10 - (σ9 19 0 x3.toNatClampNeg)))) 20 0 x3.toNatClampNeg))) (x3 + 1)))))
def vc_X4_settle_2 (x2 : Int32) (Q : zMem → Prop) : Nat → zMem → Int32 → Prop
  | 0, _, _ => False
  | n + 1, σ, x3 => ((x2 ≤ x3) → ∃ n3, vc_X4_settle_62 x2 Q n3 σ 0) ∧ ((¬ x2 ≤ x3) → vp_in x3 10 ∧ vc_X0_owes σ x3.toNatClampNeg (fun r19 σ18 => vp_in x3 10 ∧ vp_in x3 10 ∧ vp_in x3 10 ∧ vp_in x3 10 ∧ vp_in x3 10 ∧ vp_in x3 10 ∧ vc_X4_settle_2 x2 Q n (um (um (um σ18 19 0 x3.toNatClampNeg ((if (σ18 6 x3.toNatClampNeg 1) < r19 then σ18 6 x3.toNatClampNeg 1 else r19))) 21 0 x3.toNatClampNeg (((um σ18 19 0 x3.toNatClampNeg ((if (σ18 6 x3.toNatClampNeg 1) < r19 then σ18 6 x3.toNatClampNeg 1 else r19))) 6 x3.toNatClampNeg 1) - ((um σ18 19 0 x3.toNatClampNeg ((if (σ18 6 x3.toNatClampNeg 1) < r19 then σ18 6 x3.toNatClampNeg 1 else r19))) 19 0 x3.toNatClampNeg))) 20 0 x3.toNatClampNeg 0) (x3 + 1)))
def vc_X4_settle (σ : zMem) (a1 : Int32) (Q : zMem → Prop) : Prop := ∃ n1, vc_X4_settle_2 a1 Q n1 σ 0
set_option maxHeartbeats 4000000 in
set_option maxRecDepth 100000 in
theorem sl_X4_settle_62 {p : Program} {l : Launch} {e : Env} {s : State} {m : MethodId} {args : Array Value} {below : List Frame} {meth : Method} {c : Code} {E : zE} (C : zX p s m args meth c cX4_settle 5 RX4 none E) (x2 : Int32) (Q : zMem → Prop) : ∀ (n : Nat) (σ : zMem) (x3 : Int32), vc_X4_settle_62 x2 Q n σ x3 → zG p l e (zRm 1 21) s m args below meth c 5 E 0 0 (MQ below (va_Qv Q (zPost E) (zA E s.heap.size)) args s 0 0 (zA E s.heap.size)) σ 62 [(0, .ref (E.2.2 18 0)), (1, .ref (E.2.2 5 0)), (2, .int x2), (3, .int x3)] [] := by
  intro n
  induction n with
  | zero =>
    intro σ x3 h
    exact False.elim h
  | succ n ih =>
    intro σ x3 h
    rw [vc_X4_settle_62] at h
    refine z_iload_n (pc' := 63) C dX4_settle_62 rfl 3 rfl rfl ?_
    refine z_iload_n (pc' := 64) C dX4_settle_63 rfl 2 rfl rfl ?_
    obtain ⟨ht, hf⟩ := h
    refine z_icmp_ge (tgt := 137) (pc' := 67) C dX4_settle_64 (by decide) rfl (fun c4 => ?_) (fun c4 => ?_)
    · have h := ht c4
      exact z_vret C dX4_settle_137 h
    · have h := hf c4
      refine z_aload_n (pc' := 68) C dX4_settle_67 rfl 1 rfl rfl ?_
      refine z_iload_n (pc' := 69) C dX4_settle_68 rfl 3 rfl rfl ?_
      obtain ⟨hv5, h⟩ := h
      refine z_aald (n := 10) (t0 := 5) (q2 := 6) (pc' := 70) C (zL_mem (by decide) zo5) (fun _ => rfl) rfl hv5 dX4_settle_69 rfl ?_
      refine zgX4_37 (pc' := 73) C (zin hv5) dX4_settle_70 rfl ?_
      refine z_istore (pc' := 75) (lv' := [(4, .int (σ 6 x3.toNatClampNeg 6)), (0, .ref (E.2.2 18 0)), (1, .ref (E.2.2 5 0)), (2, .int x2), (3, .int x3)]) C dX4_settle_73 (by decide) rfl rfl ?_
      refine z_iload (pc' := 77) C dX4_settle_75 0 rfl rfl ?_
      obtain ⟨ht, hf⟩ := h
      refine z_if_lt (tgt := 131) (pc' := 80) C dX4_settle_77 (by decide) rfl (fun c6 => ?_) (fun c6 => ?_)
      · have h := ht c6
        refine z_iinc (j := 4) (v := x3 + 1) (pc' := 134) (lv' := [(3, .int (x3 + 1)), (4, .int (σ 6 x3.toNatClampNeg 6)), (0, .ref (E.2.2 18 0)), (1, .ref (E.2.2 5 0)), (2, .int x2)]) C dX4_settle_131 rfl rfl (by decide) rfl rfl ?_
        refine z_goto (tgt := 62) C dX4_settle_134 (by decide) ?_
        refine z_sub (lv' := [(0, .ref (E.2.2 18 0)), (1, .ref (E.2.2 5 0)), (2, .int x2), (3, .int (x3 + 1))]) [2, 3, 4, 0] rfl ?_
        exact ih _ _ h
      · have h := hf c6
        refine z_iload (pc' := 82) C dX4_settle_80 0 rfl rfl ?_
        refine z_iload_n (pc' := 83) C dX4_settle_82 rfl 3 rfl rfl ?_
        obtain ⟨ht, hf⟩ := h
        refine z_icmp_ge (tgt := 131) (pc' := 86) C dX4_settle_83 (by decide) rfl (fun c7 => ?_) (fun c7 => ?_)
        · have h := ht c7
          refine z_iinc (j := 4) (v := x3 + 1) (pc' := 134) (lv' := [(3, .int (x3 + 1)), (4, .int (σ 6 x3.toNatClampNeg 6)), (0, .ref (E.2.2 18 0)), (1, .ref (E.2.2 5 0)), (2, .int x2)]) C dX4_settle_131 rfl rfl (by decide) rfl rfl ?_
          refine z_goto (tgt := 62) C dX4_settle_134 (by decide) ?_
          refine z_sub (lv' := [(0, .ref (E.2.2 18 0)), (1, .ref (E.2.2 5 0)), (2, .int x2), (3, .int (x3 + 1))]) [2, 3, 4, 0] rfl ?_
          exact ih _ _ h
        · have h := hf c7
          refine z_aload_n (pc' := 87) C dX4_settle_86 rfl 1 rfl rfl ?_
          refine zgX4_15 (pc' := 90) C zo18 dX4_settle_87 rfl ?_
          refine z_iload_n (pc' := 91) C dX4_settle_90 rfl 4 rfl rfl ?_
          refine z_aload_n (pc' := 92) C dX4_settle_91 rfl 2 rfl rfl ?_
          refine z_iload_n (pc' := 93) C dX4_settle_92 rfl 4 rfl rfl ?_
          obtain ⟨hv8, h⟩ := h
          refine z_aald (n := 10) (t0 := 5) (q2 := 6) (pc' := 94) C (zL_mem (by decide) zo5) (fun _ => rfl) rfl hv8 dX4_settle_93 rfl ?_
          refine z_callVi (q := 6) (i := x3.toNatClampNeg) (w9 := (RX0, TX0, 7)) (pc' := 97) (st := [.int x3, .ref (E.2.2 20 0)]) (As := []) C (sc_X0_owes l E σ x3.toNatClampNeg _ (zin hv8) h) zwX4_21_X0_owes zvX4_21_X0_owes.1 zvX4_21_X0_owes.2 (zL_mem (by decide) (zin hv8)) rfl rfl ⟨(Nat.le_of_ble_eq_true rfl), (Nat.le_of_ble_eq_true rfl)⟩ ⟨Nat.zero_le _, Nat.zero_le _⟩ rfl rfl (Nat.le_of_ble_eq_true rfl) dX4_settle_94 rfl (fun r10 σ9 h => ?_)
          refine z_aload_n (pc' := 98) C dX4_settle_97 rfl 1 rfl rfl ?_
          refine zgX4_9 (pc' := 101) C zo18 dX4_settle_98 rfl ?_
          refine z_iload_n (pc' := 102) C dX4_settle_101 rfl 4 rfl rfl ?_
          obtain ⟨hv11, h⟩ := h
          refine z_iald (n := 10) (pc' := 103) C (zL_mem (by decide) zo19) (fun _ => rfl) hv11 dX4_settle_102 rfl ?_
          refine z_isub (pc' := 104) C dX4_settle_103 rfl ?_
          refine z_aload_n (pc' := 105) C dX4_settle_104 rfl 1 rfl rfl ?_
          refine zgX4_18 (pc' := 108) C zo18 dX4_settle_105 rfl ?_
          refine z_iload (pc' := 110) C dX4_settle_108 0 rfl rfl ?_
          obtain ⟨hv12, h⟩ := h
          refine z_iald (n := 10) (pc' := 111) C (zL_mem (by decide) zo21) (fun _ => rfl) hv12 dX4_settle_110 rfl ?_
          refine z_mmin (pc' := 114) C zmX4_31 (Nat.le_of_ble_eq_true rfl) (Nat.le_of_ble_eq_true rfl) (Nat.zero_le _) (Nat.zero_le _) dX4_settle_111 rfl ?_
          obtain ⟨hv13, h⟩ := h
          refine z_iast (n := 10) (pc' := 115) C (zL_mem (by decide) zo20) (fun _ => rfl) hv13 dX4_settle_114 rfl ?_
          refine z_aload_n (pc' := 116) C dX4_settle_115 rfl 1 rfl rfl ?_
          refine zgX4_18 (pc' := 119) C zo18 dX4_settle_116 rfl ?_
          refine z_iload (pc' := 121) C dX4_settle_119 0 rfl rfl ?_
          refine z_dup2 (pc' := 122) C dX4_settle_121 rfl rfl rfl ?_
          obtain ⟨hv14, h⟩ := h
          refine z_iald (n := 10) (pc' := 123) C (zL_mem (by decide) zo21) (fun _ => rfl) hv14 dX4_settle_122 rfl ?_
          refine z_aload_n (pc' := 124) C dX4_settle_123 rfl 1 rfl rfl ?_
          refine zgX4_15 (pc' := 127) C zo18 dX4_settle_124 rfl ?_
          refine z_iload_n (pc' := 128) C dX4_settle_127 rfl 4 rfl rfl ?_
          obtain ⟨hv15, h⟩ := h
          refine z_iald (n := 10) (pc' := 129) C (zL_mem (by decide) zo20) (fun _ => rfl) hv15 dX4_settle_128 rfl ?_
          refine z_isub (pc' := 130) C dX4_settle_129 rfl ?_
          obtain ⟨hv16, h⟩ := h
          refine z_iast (n := 10) (pc' := 131) C (zL_mem (by decide) zo21) (fun _ => rfl) hv16 dX4_settle_130 rfl ?_
          refine z_iinc (j := 4) (v := x3 + 1) (pc' := 134) (lv' := [(3, .int (x3 + 1)), (4, .int (σ 6 x3.toNatClampNeg 6)), (0, .ref (E.2.2 18 0)), (1, .ref (E.2.2 5 0)), (2, .int x2)]) C dX4_settle_131 rfl rfl (by decide) rfl rfl ?_
          refine z_goto (tgt := 62) C dX4_settle_134 (by decide) ?_
          refine z_sub (lv' := [(0, .ref (E.2.2 18 0)), (1, .ref (E.2.2 5 0)), (2, .int x2), (3, .int (x3 + 1))]) [2, 3, 4, 0] rfl ?_
          exact ih _ _ h
set_option maxHeartbeats 4000000 in
set_option maxRecDepth 100000 in
theorem sl_X4_settle_2 {p : Program} {l : Launch} {e : Env} {s : State} {m : MethodId} {args : Array Value} {below : List Frame} {meth : Method} {c : Code} {E : zE} (C : zX p s m args meth c cX4_settle 5 RX4 none E) (x2 : Int32) (Q : zMem → Prop) : ∀ (n : Nat) (σ : zMem) (x3 : Int32), vc_X4_settle_2 x2 Q n σ x3 → zG p l e (zRm 1 21) s m args below meth c 5 E 0 0 (MQ below (va_Qv Q (zPost E) (zA E s.heap.size)) args s 0 0 (zA E s.heap.size)) σ 2 [(0, .ref (E.2.2 18 0)), (1, .ref (E.2.2 5 0)), (2, .int x2), (3, .int x3)] [] := by
  intro n
  induction n with
  | zero =>
    intro σ x3 h
    exact False.elim h
  | succ n ih =>
    intro σ x3 h
    rw [vc_X4_settle_2] at h
    refine z_iload_n (pc' := 3) C dX4_settle_2 rfl 3 rfl rfl ?_
    refine z_iload_n (pc' := 4) C dX4_settle_3 rfl 2 rfl rfl ?_
    obtain ⟨ht, hf⟩ := h
    refine z_icmp_ge (tgt := 60) (pc' := 7) C dX4_settle_4 (by decide) rfl (fun c2 => ?_) (fun c2 => ?_)
    · have h := ht c2
      refine z_iconst (v := 0) (pc' := 61) C dX4_settle_60 (by decide) rfl ?_
      refine z_istore_n (pc' := 62) (lv' := [(3, .int 0), (0, .ref (E.2.2 18 0)), (1, .ref (E.2.2 5 0)), (2, .int x2)]) C dX4_settle_61 rfl (by decide) rfl rfl ?_
      obtain ⟨n3, h⟩ := h
      refine z_sub (lv' := [(0, .ref (E.2.2 18 0)), (1, .ref (E.2.2 5 0)), (2, .int x2), (3, .int 0)]) [1, 2, 3, 0] rfl ?_
      exact sl_X4_settle_62 C x2 Q n3 _ _ h
    · have h := hf c2
      refine z_aload_n (pc' := 8) C dX4_settle_7 rfl 0 rfl rfl ?_
      refine zgX4_9 (pc' := 11) C zo18 dX4_settle_8 rfl ?_
      refine z_iload_n (pc' := 12) C dX4_settle_11 rfl 3 rfl rfl ?_
      refine z_aload_n (pc' := 13) C dX4_settle_12 rfl 1 rfl rfl ?_
      refine z_iload_n (pc' := 14) C dX4_settle_13 rfl 3 rfl rfl ?_
      obtain ⟨hv17, h⟩ := h
      refine z_aald (n := 10) (t0 := 5) (q2 := 6) (pc' := 15) C (zL_mem (by decide) zo5) (fun _ => rfl) rfl hv17 dX4_settle_14 rfl ?_
      refine z_callVi (q := 6) (i := x3.toNatClampNeg) (w9 := (RX0, TX0, 7)) (pc' := 18) (st := [.int x3, .ref (E.2.2 19 0)]) (As := []) C (sc_X0_owes l E σ x3.toNatClampNeg _ (zin hv17) h) zwX4_21_X0_owes zvX4_21_X0_owes.1 zvX4_21_X0_owes.2 (zL_mem (by decide) (zin hv17)) rfl rfl ⟨(Nat.le_of_ble_eq_true rfl), (Nat.le_of_ble_eq_true rfl)⟩ ⟨Nat.zero_le _, Nat.zero_le _⟩ rfl rfl (Nat.le_of_ble_eq_true rfl) dX4_settle_15 rfl (fun r19 σ18 h => ?_)
      refine z_aload_n (pc' := 19) C dX4_settle_18 rfl 1 rfl rfl ?_
      refine z_iload_n (pc' := 20) C dX4_settle_19 rfl 3 rfl rfl ?_
      obtain ⟨hv20, h⟩ := h
      refine z_aald (n := 10) (t0 := 5) (q2 := 6) (pc' := 21) C (zL_mem (by decide) zo5) (fun _ => rfl) rfl hv20 dX4_settle_20 rfl ?_
      refine zgX4_27 (pc' := 24) C (zin hv20) dX4_settle_21 rfl ?_
      refine z_mmin (pc' := 27) C zmX4_31 (Nat.le_of_ble_eq_true rfl) (Nat.le_of_ble_eq_true rfl) (Nat.zero_le _) (Nat.zero_le _) dX4_settle_24 rfl ?_
      obtain ⟨hv21, h⟩ := h
      refine z_iast (n := 10) (pc' := 28) C (zL_mem (by decide) zo19) (fun _ => rfl) hv21 dX4_settle_27 rfl ?_
      refine z_aload_n (pc' := 29) C dX4_settle_28 rfl 0 rfl rfl ?_
      refine zgX4_18 (pc' := 32) C zo18 dX4_settle_29 rfl ?_
      refine z_iload_n (pc' := 33) C dX4_settle_32 rfl 3 rfl rfl ?_
      refine z_aload_n (pc' := 34) C dX4_settle_33 rfl 1 rfl rfl ?_
      refine z_iload_n (pc' := 35) C dX4_settle_34 rfl 3 rfl rfl ?_
      obtain ⟨hv22, h⟩ := h
      refine z_aald (n := 10) (t0 := 5) (q2 := 6) (pc' := 36) C (zL_mem (by decide) zo5) (fun _ => rfl) rfl hv22 dX4_settle_35 rfl ?_
      refine zgX4_27 (pc' := 39) C (zin hv22) dX4_settle_36 rfl ?_
      refine z_aload_n (pc' := 40) C dX4_settle_39 rfl 0 rfl rfl ?_
      refine zgX4_9 (pc' := 43) C zo18 dX4_settle_40 rfl ?_
      refine z_iload_n (pc' := 44) C dX4_settle_43 rfl 3 rfl rfl ?_
      obtain ⟨hv23, h⟩ := h
      refine z_iald (n := 10) (pc' := 45) C (zL_mem (by decide) zo19) (fun _ => rfl) hv23 dX4_settle_44 rfl ?_
      refine z_isub (pc' := 46) C dX4_settle_45 rfl ?_
      obtain ⟨hv24, h⟩ := h
      refine z_iast (n := 10) (pc' := 47) C (zL_mem (by decide) zo21) (fun _ => rfl) hv24 dX4_settle_46 rfl ?_
      refine z_aload_n (pc' := 48) C dX4_settle_47 rfl 0 rfl rfl ?_
      refine zgX4_15 (pc' := 51) C zo18 dX4_settle_48 rfl ?_
      refine z_iload_n (pc' := 52) C dX4_settle_51 rfl 3 rfl rfl ?_
      refine z_iconst (v := 0) (pc' := 53) C dX4_settle_52 (by decide) rfl ?_
      obtain ⟨hv25, h⟩ := h
      refine z_iast (n := 10) (pc' := 54) C (zL_mem (by decide) zo20) (fun _ => rfl) hv25 dX4_settle_53 rfl ?_
      refine z_iinc (j := 3) (v := x3 + 1) (pc' := 57) (lv' := [(3, .int (x3 + 1)), (0, .ref (E.2.2 18 0)), (1, .ref (E.2.2 5 0)), (2, .int x2)]) C dX4_settle_54 rfl rfl (by decide) rfl rfl ?_
      refine z_goto (tgt := 2) C dX4_settle_57 (by decide) ?_
      refine z_sub (lv' := [(0, .ref (E.2.2 18 0)), (1, .ref (E.2.2 5 0)), (2, .int x2), (3, .int (x3 + 1))]) [1, 2, 3, 0] rfl ?_
      exact ih _ _ h
set_option maxHeartbeats 4000000 in
set_option maxRecDepth 100000 in
theorem sc_X4_settle (l : Launch) (E : zE) (σ : zMem) (a1 : Int32) (Q : zMem → Prop) (h : vc_X4_settle σ a1 Q) : zMv l yX4_settle cX4_settle 5 1 21 E [.ref (E.2.2 18 0), .ref (E.2.2 5 0), .int a1] σ Q := by
  refine zMv_of (by decide) (Nat.le_of_ble_eq_true rfl) ?_
  intro p e s m args below meth c C
  unfold vc_X4_settle at h
  have fin : zG p l e (zRm 1 21) s m args below meth c 5 E 0 0 (MQ below (va_Qv Q (zPost E) (zA E s.heap.size)) args s 0 0 (zA E s.heap.size)) σ 0 [(0, .ref (E.2.2 18 0)), (1, .ref (E.2.2 5 0)), (2, .int a1)] [] := by
    refine z_iconst (v := 0) (pc' := 1) C dX4_settle_0 (by decide) rfl ?_
    refine z_istore_n (pc' := 2) (lv' := [(3, .int 0), (0, .ref (E.2.2 18 0)), (1, .ref (E.2.2 5 0)), (2, .int a1)]) C dX4_settle_1 rfl (by decide) rfl rfl ?_
    obtain ⟨n1, h⟩ := h
    refine z_sub (lv' := [(0, .ref (E.2.2 18 0)), (1, .ref (E.2.2 5 0)), (2, .int a1), (3, .int 0)]) [1, 2, 3, 0] rfl ?_
    exact sl_X4_settle_2 C a1 Q n1 _ _ h
  exact fin
def vc_X5_hay (σ : zMem) (i : Nat) (Q : Int32 → zMem → Prop) : Prop := (σ 4 i 1).toNatClampNeg < zcnt 2 ∧ Q (((σ 4 i 2) * (zchance ((σ 4 i 1).toNatClampNeg))) / 100) σ
set_option maxHeartbeats 4000000 in
set_option maxRecDepth 100000 in
theorem sc_X5_hay (l : Launch) (E : zE) (σ : zMem) (i : Nat) (Q : Int32 → zMem → Prop) (hi : i < zcnt 4) (h : vc_X5_hay σ i Q) : zMi l yX5_hay cX5_hay 1 .int 1 20 E [.ref (E.2.2 4 i)] σ Q := by
  refine zMi_of (by decide) (Nat.le_of_ble_eq_true rfl) ?_
  intro p e s m args below meth c C
  unfold vc_X5_hay at h
  have fin : zG p l e (zRm 1 20) s m args below meth c 1 E 0 0 (MQ below (va_Qi Q (zPost E) (zA E s.heap.size)) args s 0 0 (zA E s.heap.size)) σ 0 [(0, .ref (E.2.2 4 i))] [] := by
    refine z_aload_n (pc' := 1) C dX5_hay_0 rfl 0 rfl rfl ?_
    refine zgX5_25 (pc' := 4) C hi dX5_hay_1 rfl ?_
    refine z_aload_n (pc' := 5) C dX5_hay_4 rfl 0 rfl rfl ?_
    obtain ⟨hg1, h⟩ := h
    refine zgX5_21 (pc' := 8) C hi dX5_hay_5 rfl ?_
    refine zdX5_28 (pc' := 11) (st := [.int (σ 4 i 2)]) C hg1 (Nat.le_of_ble_eq_true rfl) (Nat.le_of_ble_eq_true rfl) (Nat.zero_le _) (Nat.zero_le _) (Nat.le_of_ble_eq_true rfl) dX5_hay_8 rfl ?_
    refine z_imul (pc' := 12) C dX5_hay_11 rfl ?_
    refine z_bipush (v := 100) (pc' := 14) C dX5_hay_12 (by decide) rfl ?_
    refine z_idiv (pc' := 15) C dX5_hay_14 (by decide) rfl ?_
    exact z_iret C dX5_hay_15 h
  exact fin
def vc_X5_isSold (σ : zMem) (i : Nat) (Q : Int32 → zMem → Prop) : Prop := (((σ 4 i 3) = ((-2))) → Q 0 σ) ∧ ((¬ (σ 4 i 3) = ((-2))) → Q 1 σ)
set_option maxHeartbeats 4000000 in
set_option maxRecDepth 100000 in
theorem sc_X5_isSold (l : Launch) (E : zE) (σ : zMem) (i : Nat) (Q : Int32 → zMem → Prop) (hi : i < zcnt 4) (h : vc_X5_isSold σ i Q) : zMi l yX5_isSold cX5_isSold 1 .boolean 0 0 E [.ref (E.2.2 4 i)] σ Q := by
  refine zMi_of (by decide) (Nat.le_of_ble_eq_true rfl) ?_
  intro p e s m args below meth c C
  unfold vc_X5_isSold at h
  have fin : zG p l e (zRm 0 0) s m args below meth c 1 E 0 0 (MQ below (va_Qi Q (zPost E) (zA E s.heap.size)) args s 0 0 (zA E s.heap.size)) σ 0 [(0, .ref (E.2.2 4 i))] [] := by
    refine z_aload_n (pc' := 1) C dX5_isSold_0 rfl 0 rfl rfl ?_
    refine zgX5_9 (pc' := 4) C hi dX5_isSold_1 rfl ?_
    refine z_bipush (v := (-2)) (pc' := 6) C dX5_isSold_4 (by decide) rfl ?_
    obtain ⟨ht, hf⟩ := h
    refine z_icmp_eq (tgt := 13) (pc' := 9) C dX5_isSold_6 (by decide) rfl (fun c1 => ?_) (fun c1 => ?_)
    · have h := ht c1
      refine z_iconst (v := 0) (pc' := 14) C dX5_isSold_13 (by decide) rfl ?_
      exact z_zret C rfl dX5_isSold_14 h
    · have h := hf c1
      refine z_iconst (v := 1) (pc' := 10) C dX5_isSold_9 (by decide) rfl ?_
      refine z_goto (tgt := 14) C dX5_isSold_10 (by decide) ?_
      exact z_zret C rfl dX5_isSold_14 h
  exact fin
def vc_X5_isCut (σ : zMem) (i : Nat) (Q : Int32 → zMem → Prop) : Prop := (((σ 4 i 5) = ((-2))) → Q 0 σ) ∧ ((¬ (σ 4 i 5) = ((-2))) → Q 1 σ)
set_option maxHeartbeats 4000000 in
set_option maxRecDepth 100000 in
theorem sc_X5_isCut (l : Launch) (E : zE) (σ : zMem) (i : Nat) (Q : Int32 → zMem → Prop) (hi : i < zcnt 4) (h : vc_X5_isCut σ i Q) : zMi l yX5_isCut cX5_isCut 1 .boolean 0 0 E [.ref (E.2.2 4 i)] σ Q := by
  refine zMi_of (by decide) (Nat.le_of_ble_eq_true rfl) ?_
  intro p e s m args below meth c C
  unfold vc_X5_isCut at h
  have fin : zG p l e (zRm 0 0) s m args below meth c 1 E 0 0 (MQ below (va_Qi Q (zPost E) (zA E s.heap.size)) args s 0 0 (zA E s.heap.size)) σ 0 [(0, .ref (E.2.2 4 i))] [] := by
    refine z_aload_n (pc' := 1) C dX5_isCut_0 rfl 0 rfl rfl ?_
    refine zgX5_18 (pc' := 4) C hi dX5_isCut_1 rfl ?_
    refine z_bipush (v := (-2)) (pc' := 6) C dX5_isCut_4 (by decide) rfl ?_
    obtain ⟨ht, hf⟩ := h
    refine z_icmp_eq (tgt := 13) (pc' := 9) C dX5_isCut_6 (by decide) rfl (fun c1 => ?_) (fun c1 => ?_)
    · have h := ht c1
      refine z_iconst (v := 0) (pc' := 14) C dX5_isCut_13 (by decide) rfl ?_
      exact z_zret C rfl dX5_isCut_14 h
    · have h := hf c1
      refine z_iconst (v := 1) (pc' := 10) C dX5_isCut_9 (by decide) rfl ?_
      refine z_goto (tgt := 14) C dX5_isCut_10 (by decide) ?_
      exact z_zret C rfl dX5_isCut_14 h
  exact fin
def vc_X5_stands (σ : zMem) (i : Nat) (Q : Int32 → zMem → Prop) : Prop := vc_X5_isSold σ i (fun r2 σ1 => ((r2 = 0) → Q 0 σ1) ∧ ((¬ r2 = 0) → vc_X5_isCut σ1 i (fun r5 σ4 => ((¬ r5 = 0) → Q 0 σ4) ∧ ((r5 = 0) → (((σ4 4 i 2) ≤ 0) → Q 0 σ4) ∧ ((¬ (σ4 4 i 2) ≤ 0) → Q 1 σ4)))))
set_option maxHeartbeats 4000000 in
set_option maxRecDepth 100000 in
theorem sc_X5_stands (l : Launch) (E : zE) (σ : zMem) (i : Nat) (Q : Int32 → zMem → Prop) (hi : i < zcnt 4) (h : vc_X5_stands σ i Q) : zMi l yX5_stands cX5_stands 1 .boolean 1 20 E [.ref (E.2.2 4 i)] σ Q := by
  refine zMi_of (by decide) (Nat.le_of_ble_eq_true rfl) ?_
  intro p e s m args below meth c C
  unfold vc_X5_stands at h
  have fin : zG p l e (zRm 1 20) s m args below meth c 1 E 0 0 (MQ below (va_Qi Q (zPost E) (zA E s.heap.size)) args s 0 0 (zA E s.heap.size)) σ 0 [(0, .ref (E.2.2 4 i))] [] := by
    refine z_aload_n (pc' := 1) C dX5_stands_0 rfl 0 rfl rfl ?_
    refine z_callVi (q := 4) (i := i) (w9 := (RX5, TX5, 6)) (pc' := 4) (st := []) (As := []) C (sc_X5_isSold l E σ i _ hi h) zwX5_34_X5_isSold zvX5_34_X5_isSold.1 zvX5_34_X5_isSold.2 (zL_mem (by decide) hi) rfl rfl ⟨(Nat.le_of_ble_eq_true rfl), (Nat.le_of_ble_eq_true rfl)⟩ ⟨Nat.zero_le _, Nat.zero_le _⟩ rfl rfl (Nat.le_of_ble_eq_true rfl) dX5_stands_1 rfl (fun r2 σ1 h => ?_)
    obtain ⟨ht, hf⟩ := h
    refine z_if_eq (tgt := 25) (pc' := 7) C dX5_stands_4 (by decide) rfl (fun c3 => ?_) (fun c3 => ?_)
    · have h := ht c3
      refine z_iconst (v := 0) (pc' := 26) C dX5_stands_25 (by decide) rfl ?_
      exact z_zret C rfl dX5_stands_26 h
    · have h := hf c3
      refine z_aload_n (pc' := 8) C dX5_stands_7 rfl 0 rfl rfl ?_
      refine z_callVi (q := 4) (i := i) (w9 := (RX5, TX5, 6)) (pc' := 11) (st := []) (As := []) C (sc_X5_isCut l E σ1 i _ hi h) zwX5_38_X5_isCut zvX5_38_X5_isCut.1 zvX5_38_X5_isCut.2 (zL_mem (by decide) hi) rfl rfl ⟨(Nat.le_of_ble_eq_true rfl), (Nat.le_of_ble_eq_true rfl)⟩ ⟨Nat.zero_le _, Nat.zero_le _⟩ rfl rfl (Nat.le_of_ble_eq_true rfl) dX5_stands_8 rfl (fun r5 σ4 h => ?_)
      obtain ⟨ht, hf⟩ := h
      refine z_if_ne (tgt := 25) (pc' := 14) C dX5_stands_11 (by decide) rfl (fun c6 => ?_) (fun c6 => ?_)
      · have h := ht c6
        refine z_iconst (v := 0) (pc' := 26) C dX5_stands_25 (by decide) rfl ?_
        exact z_zret C rfl dX5_stands_26 h
      · have h := hf c6
        refine z_aload_n (pc' := 15) C dX5_stands_14 rfl 0 rfl rfl ?_
        refine zgX5_25 (pc' := 18) C hi dX5_stands_15 rfl ?_
        obtain ⟨ht, hf⟩ := h
        refine z_if_le (tgt := 25) (pc' := 21) C dX5_stands_18 (by decide) rfl (fun c7 => ?_) (fun c7 => ?_)
        · have h := ht c7
          refine z_iconst (v := 0) (pc' := 26) C dX5_stands_25 (by decide) rfl ?_
          exact z_zret C rfl dX5_stands_26 h
        · have h := hf c7
          refine z_iconst (v := 1) (pc' := 22) C dX5_stands_21 (by decide) rfl ?_
          refine z_goto (tgt := 26) C dX5_stands_22 (by decide) ?_
          exact z_zret C rfl dX5_stands_26 h
  exact fin
def vc_X5_toll (σ : zMem) (i : Nat) (Q : Int32 → zMem → Prop) : Prop := vc_X5_stands σ i (fun r2 σ1 => ((r2 = 0) → Q 0 σ1) ∧ ((¬ r2 = 0) → Q ((σ1 4 i 2) / 10) σ1))
set_option maxHeartbeats 4000000 in
set_option maxRecDepth 100000 in
theorem sc_X5_toll (l : Launch) (E : zE) (σ : zMem) (i : Nat) (Q : Int32 → zMem → Prop) (hi : i < zcnt 4) (h : vc_X5_toll σ i Q) : zMi l yX5_toll cX5_toll 1 .int 2 40 E [.ref (E.2.2 4 i)] σ Q := by
  refine zMi_of (by decide) (Nat.le_of_ble_eq_true rfl) ?_
  intro p e s m args below meth c C
  unfold vc_X5_toll at h
  have fin : zG p l e (zRm 2 40) s m args below meth c 1 E 0 0 (MQ below (va_Qi Q (zPost E) (zA E s.heap.size)) args s 0 0 (zA E s.heap.size)) σ 0 [(0, .ref (E.2.2 4 i))] [] := by
    refine z_aload_n (pc' := 1) C dX5_toll_0 rfl 0 rfl rfl ?_
    refine z_callVi (q := 4) (i := i) (w9 := (RX5, TX5, 6)) (pc' := 4) (st := []) (As := []) C (sc_X5_stands l E σ i _ hi h) zwX5_41_X5_stands zvX5_41_X5_stands.1 zvX5_41_X5_stands.2 (zL_mem (by decide) hi) rfl rfl ⟨(Nat.le_of_ble_eq_true rfl), (Nat.le_of_ble_eq_true rfl)⟩ ⟨Nat.zero_le _, Nat.zero_le _⟩ rfl rfl (Nat.le_of_ble_eq_true rfl) dX5_toll_1 rfl (fun r2 σ1 h => ?_)
    obtain ⟨ht, hf⟩ := h
    refine z_if_eq (tgt := 17) (pc' := 7) C dX5_toll_4 (by decide) rfl (fun c3 => ?_) (fun c3 => ?_)
    · have h := ht c3
      refine z_iconst (v := 0) (pc' := 18) C dX5_toll_17 (by decide) rfl ?_
      exact z_iret C dX5_toll_18 h
    · have h := hf c3
      refine z_aload_n (pc' := 8) C dX5_toll_7 rfl 0 rfl rfl ?_
      refine zgX5_25 (pc' := 11) C hi dX5_toll_8 rfl ?_
      refine z_bipush (v := 10) (pc' := 13) C dX5_toll_11 (by decide) rfl ?_
      refine z_idiv (pc' := 14) C dX5_toll_13 (by decide) rfl ?_
      refine z_goto (tgt := 18) C dX5_toll_14 (by decide) ?_
      exact z_iret C dX5_toll_18 h
  exact fin
def vc_X5_beside (σ : zMem) (a0 : Int32) (a1 : Int32) (Q : Int32 → zMem → Prop) : Prop := ((a1 = 0) → (((a0 - a0 / 6 * 6) ≤ 0) → Q ((-1)) σ) ∧ ((¬ (a0 - a0 / 6 * 6) ≤ 0) → Q (a0 - 1) σ)) ∧ ((a1 = 1) → ((5 ≤ (a0 - a0 / 6 * 6)) → Q ((-1)) σ) ∧ ((¬ 5 ≤ (a0 - a0 / 6 * 6)) → Q (a0 + 1) σ)) ∧ ((a1 = 2) → ((a0 < 6) → Q ((-1)) σ) ∧ ((¬ a0 < 6) → Q (a0 - 6) σ)) ∧ (¬ a1 = 0 → ¬ a1 = 1 → ¬ a1 = 2 → ((18 ≤ a0) → Q ((-1)) σ) ∧ ((¬ 18 ≤ a0) → Q (a0 + 6) σ))
set_option maxHeartbeats 4000000 in
set_option maxRecDepth 100000 in
theorem sc_X5_beside (l : Launch) (E : zE) (σ : zMem) (a0 : Int32) (a1 : Int32) (Q : Int32 → zMem → Prop) (h : vc_X5_beside σ a0 a1 Q) : zMi l yX5_beside cX5_beside 3 .int 0 0 E [.int a0, .int a1] σ Q := by
  refine zMi_of (by decide) (Nat.le_of_ble_eq_true rfl) ?_
  intro p e s m args below meth c C
  unfold vc_X5_beside at h
  have fin : zG p l e (zRm 0 0) s m args below meth c 3 E 0 0 (MQ below (va_Qi Q (zPost E) (zA E s.heap.size)) args s 0 0 (zA E s.heap.size)) σ 0 [(0, .int a0), (1, .int a1)] [] := by
    refine z_iload_n (pc' := 1) C dX5_beside_0 rfl 0 rfl rfl ?_
    refine z_bipush (v := 6) (pc' := 3) C dX5_beside_1 (by decide) rfl ?_
    refine z_irem (pc' := 4) C dX5_beside_3 (by decide) rfl ?_
    refine z_istore_n (pc' := 5) (lv' := [(2, .int (a0 - a0 / 6 * 6)), (0, .int a0), (1, .int a1)]) C dX5_beside_4 rfl (by decide) rfl rfl ?_
    refine z_iload_n (pc' := 6) C dX5_beside_5 rfl 2 rfl rfl ?_
    obtain ⟨hk, h⟩ := h
    by_cases c1 : a1 = 0
    · have h := hk c1
      refine z_tabIn (tgt := 32) C dX5_beside_6 0 c1 (by decide) (by decide) rfl (by decide) ?_
      refine z_iload_n (pc' := 33) C dX5_beside_32 rfl 0 rfl rfl ?_
      obtain ⟨ht, hf⟩ := h
      refine z_if_le (tgt := 42) (pc' := 36) C dX5_beside_33 (by decide) rfl (fun c2 => ?_) (fun c2 => ?_)
      · have h := ht c2
        refine z_iconst (v := (-1)) (pc' := 43) C dX5_beside_42 (by decide) rfl ?_
        exact z_iret C dX5_beside_43 h
      · have h := hf c2
        refine z_iload_n (pc' := 37) C dX5_beside_36 rfl 1 rfl rfl ?_
        refine z_iconst (v := 1) (pc' := 38) C dX5_beside_37 (by decide) rfl ?_
        refine z_isub (pc' := 39) C dX5_beside_38 rfl ?_
        refine z_goto (tgt := 43) C dX5_beside_39 (by decide) ?_
        exact z_iret C dX5_beside_43 h
    obtain ⟨hk, h⟩ := h
    by_cases c3 : a1 = 1
    · have h := hk c3
      refine z_tabIn (tgt := 44) C dX5_beside_6 1 c3 (by decide) (by decide) rfl (by decide) ?_
      refine z_iload_n (pc' := 45) C dX5_beside_44 rfl 0 rfl rfl ?_
      refine z_iconst (v := 5) (pc' := 46) C dX5_beside_45 (by decide) rfl ?_
      obtain ⟨ht, hf⟩ := h
      refine z_icmp_ge (tgt := 55) (pc' := 49) C dX5_beside_46 (by decide) rfl (fun c4 => ?_) (fun c4 => ?_)
      · have h := ht c4
        refine z_iconst (v := (-1)) (pc' := 56) C dX5_beside_55 (by decide) rfl ?_
        exact z_iret C dX5_beside_56 h
      · have h := hf c4
        refine z_iload_n (pc' := 50) C dX5_beside_49 rfl 1 rfl rfl ?_
        refine z_iconst (v := 1) (pc' := 51) C dX5_beside_50 (by decide) rfl ?_
        refine z_iadd (pc' := 52) C dX5_beside_51 rfl ?_
        refine z_goto (tgt := 56) C dX5_beside_52 (by decide) ?_
        exact z_iret C dX5_beside_56 h
    obtain ⟨hk, h⟩ := h
    by_cases c5 : a1 = 2
    · have h := hk c5
      refine z_tabIn (tgt := 57) C dX5_beside_6 2 c5 (by decide) (by decide) rfl (by decide) ?_
      refine z_iload_n (pc' := 58) C dX5_beside_57 rfl 1 rfl rfl ?_
      refine z_bipush (v := 6) (pc' := 60) C dX5_beside_58 (by decide) rfl ?_
      obtain ⟨ht, hf⟩ := h
      refine z_icmp_lt (tgt := 70) (pc' := 63) C dX5_beside_60 (by decide) rfl (fun c6 => ?_) (fun c6 => ?_)
      · have h := ht c6
        refine z_iconst (v := (-1)) (pc' := 71) C dX5_beside_70 (by decide) rfl ?_
        exact z_iret C dX5_beside_71 h
      · have h := hf c6
        refine z_iload_n (pc' := 64) C dX5_beside_63 rfl 1 rfl rfl ?_
        refine z_bipush (v := 6) (pc' := 66) C dX5_beside_64 (by decide) rfl ?_
        refine z_isub (pc' := 67) C dX5_beside_66 rfl ?_
        refine z_goto (tgt := 71) C dX5_beside_67 (by decide) ?_
        exact z_iret C dX5_beside_71 h
    have h := h c1 c3 c5
    refine z_tabOut (tgt := 72) C dX5_beside_6 (by have ec1 := lv_neT (a := 0) c1 rfl; have ec3 := lv_neT (a := 1) c3 rfl; have ec5 := lv_neT (a := 2) c5 rfl; omega) (by decide) ?_
    refine z_iload_n (pc' := 73) C dX5_beside_72 rfl 1 rfl rfl ?_
    refine z_bipush (v := 18) (pc' := 75) C dX5_beside_73 (by decide) rfl ?_
    obtain ⟨ht, hf⟩ := h
    refine z_icmp_ge (tgt := 85) (pc' := 78) C dX5_beside_75 (by decide) rfl (fun c7 => ?_) (fun c7 => ?_)
    · have h := ht c7
      refine z_iconst (v := (-1)) (pc' := 86) C dX5_beside_85 (by decide) rfl ?_
      exact z_iret C dX5_beside_86 h
    · have h := hf c7
      refine z_iload_n (pc' := 79) C dX5_beside_78 rfl 1 rfl rfl ?_
      refine z_bipush (v := 6) (pc' := 81) C dX5_beside_79 (by decide) rfl ?_
      refine z_iadd (pc' := 82) C dX5_beside_81 rfl ?_
      refine z_goto (tgt := 86) C dX5_beside_82 (by decide) ?_
      exact z_iret C dX5_beside_86 h
  exact fin
def vc_X5_steps (σ : zMem) (a0 : Int32) (a1 : Int32) (Q : Int32 → zMem → Prop) : Prop := Q (((if 0 ≤ (a0 - a0 / 6 * 6) - (a1 - a1 / 6 * 6) then (a0 - a0 / 6 * 6) - (a1 - a1 / 6 * 6) else 0 - ((a0 - a0 / 6 * 6) - (a1 - a1 / 6 * 6)))) + ((if 0 ≤ (a0 / 6) - (a1 / 6) then (a0 / 6) - (a1 / 6) else 0 - ((a0 / 6) - (a1 / 6))))) σ
set_option maxHeartbeats 4000000 in
set_option maxRecDepth 100000 in
theorem sc_X5_steps (l : Launch) (E : zE) (σ : zMem) (a0 : Int32) (a1 : Int32) (Q : Int32 → zMem → Prop) (h : vc_X5_steps σ a0 a1 Q) : zMi l yX5_steps cX5_steps 2 .int 1 21 E [.int a0, .int a1] σ Q := by
  refine zMi_of (by decide) (Nat.le_of_ble_eq_true rfl) ?_
  intro p e s m args below meth c C
  unfold vc_X5_steps at h
  have fin : zG p l e (zRm 1 21) s m args below meth c 2 E 0 0 (MQ below (va_Qi Q (zPost E) (zA E s.heap.size)) args s 0 0 (zA E s.heap.size)) σ 0 [(0, .int a0), (1, .int a1)] [] := by
    refine z_iload_n (pc' := 1) C dX5_steps_0 rfl 0 rfl rfl ?_
    refine z_bipush (v := 6) (pc' := 3) C dX5_steps_1 (by decide) rfl ?_
    refine z_irem (pc' := 4) C dX5_steps_3 (by decide) rfl ?_
    refine z_iload_n (pc' := 5) C dX5_steps_4 rfl 1 rfl rfl ?_
    refine z_bipush (v := 6) (pc' := 7) C dX5_steps_5 (by decide) rfl ?_
    refine z_irem (pc' := 8) C dX5_steps_7 (by decide) rfl ?_
    refine z_isub (pc' := 9) C dX5_steps_8 rfl ?_
    refine z_mabs (pc' := 12) C zmX5_44 (Nat.le_of_ble_eq_true rfl) (Nat.le_of_ble_eq_true rfl) (Nat.zero_le _) (Nat.zero_le _) dX5_steps_9 rfl ?_
    refine z_iload_n (pc' := 13) C dX5_steps_12 rfl 0 rfl rfl ?_
    refine z_bipush (v := 6) (pc' := 15) C dX5_steps_13 (by decide) rfl ?_
    refine z_idiv (pc' := 16) C dX5_steps_15 (by decide) rfl ?_
    refine z_iload_n (pc' := 17) C dX5_steps_16 rfl 1 rfl rfl ?_
    refine z_bipush (v := 6) (pc' := 19) C dX5_steps_17 (by decide) rfl ?_
    refine z_idiv (pc' := 20) C dX5_steps_19 (by decide) rfl ?_
    refine z_isub (pc' := 21) C dX5_steps_20 rfl ?_
    refine z_mabs (pc' := 24) C zmX5_44 (Nat.le_of_ble_eq_true rfl) (Nat.le_of_ble_eq_true rfl) (Nat.zero_le _) (Nat.zero_le _) dX5_steps_21 rfl ?_
    refine z_iadd (pc' := 25) C dX5_steps_24 rfl ?_
    exact z_iret C dX5_steps_25 h
  exact fin
def vc_X6_burn_16 (x1 : Int32) (Q : zMem → Prop) : Nat → zMem → Int32 → Int32 → Prop
  | 0, _, _, _ => False
  | n + 1, σ, x3, x4 => ((x1 ≤ x4) → Q σ) ∧ ((¬ x1 ≤ x4) → vp_in x3 10 ∧ (((σ 14 0 x3.toNatClampNeg) = 0) → ((x3 = (σ 12 0 4)) → (((σ 12 0 2) ≤ (x3 + 1)) → vc_X6_burn_16 x1 Q n σ 0 (x4 + 1)) ∧ ((¬ (σ 12 0 2) ≤ (x3 + 1)) → vc_X6_burn_16 x1 Q n σ (x3 + 1) (x4 + 1))) ∧ ((¬ x3 = (σ 12 0 4)) → vp_in x3 10 ∧ (((σ 13 0 x3.toNatClampNeg) < ((σ 12 0 5) + (σ 12 0 3))) → (((σ 12 0 2) ≤ (x3 + 1)) → vc_X6_burn_16 x1 Q n σ 0 (x4 + 1)) ∧ ((¬ (σ 12 0 2) ≤ (x3 + 1)) → vc_X6_burn_16 x1 Q n σ (x3 + 1) (x4 + 1))) ∧ ((¬ (σ 13 0 x3.toNatClampNeg) < ((σ 12 0 5) + (σ 12 0 3))) → ((((um (um σ 12 0 4 x3) 12 0 5 (((um σ 12 0 4 x3) 12 0 5) + ((um σ 12 0 4 x3) 12 0 3))) 12 0 2) ≤ (x3 + 1)) → vc_X6_burn_16 x1 Q n (um (um σ 12 0 4 x3) 12 0 5 (((um σ 12 0 4 x3) 12 0 5) + ((um σ 12 0 4 x3) 12 0 3))) 0 (x4 + 1)) ∧ ((¬ ((um (um σ 12 0 4 x3) 12 0 5 (((um σ 12 0 4 x3) 12 0 5) + ((um σ 12 0 4 x3) 12 0 3))) 12 0 2) ≤ (x3 + 1)) → vc_X6_burn_16 x1 Q n (um (um σ 12 0 4 x3) 12 0 5 (((um σ 12 0 4 x3) 12 0 5) + ((um σ 12 0 4 x3) 12 0 3))) (x3 + 1) (x4 + 1))))) ∧ ((¬ (σ 14 0 x3.toNatClampNeg) = 0) → (((3 * (σ 12 0 2)) < (x1 - x4)) → (((σ 12 0 2) ≤ (x3 + 1)) → vc_X6_burn_16 x1 Q n σ 0 (x4 + 1)) ∧ ((¬ (σ 12 0 2) ≤ (x3 + 1)) → vc_X6_burn_16 x1 Q n σ (x3 + 1) (x4 + 1))) ∧ ((¬ (3 * (σ 12 0 2)) < (x1 - x4)) → ((x3 = (σ 12 0 4)) → (((σ 12 0 2) ≤ (x3 + 1)) → vc_X6_burn_16 x1 Q n σ 0 (x4 + 1)) ∧ ((¬ (σ 12 0 2) ≤ (x3 + 1)) → vc_X6_burn_16 x1 Q n σ (x3 + 1) (x4 + 1))) ∧ ((¬ x3 = (σ 12 0 4)) → vp_in x3 10 ∧ (((σ 13 0 x3.toNatClampNeg) < ((σ 12 0 5) + (σ 12 0 3))) → (((σ 12 0 2) ≤ (x3 + 1)) → vc_X6_burn_16 x1 Q n σ 0 (x4 + 1)) ∧ ((¬ (σ 12 0 2) ≤ (x3 + 1)) → vc_X6_burn_16 x1 Q n σ (x3 + 1) (x4 + 1))) ∧ ((¬ (σ 13 0 x3.toNatClampNeg) < ((σ 12 0 5) + (σ 12 0 3))) → ((((um (um σ 12 0 4 x3) 12 0 5 (((um σ 12 0 4 x3) 12 0 5) + ((um σ 12 0 4 x3) 12 0 3))) 12 0 2) ≤ (x3 + 1)) → vc_X6_burn_16 x1 Q n (um (um σ 12 0 4 x3) 12 0 5 (((um σ 12 0 4 x3) 12 0 5) + ((um σ 12 0 4 x3) 12 0 3))) 0 (x4 + 1)) ∧ ((¬ ((um (um σ 12 0 4 x3) 12 0 5 (((um σ 12 0 4 x3) 12 0 5) + ((um σ 12 0 4 x3) 12 0 3))) 12 0 2) ≤ (x3 + 1)) → vc_X6_burn_16 x1 Q n (um (um σ 12 0 4 x3) 12 0 5 (((um σ 12 0 4 x3) 12 0 5) + ((um σ 12 0 4 x3) 12 0 3))) (x3 + 1) (x4 + 1)))))))
def vc_X6_burn (σ : zMem) (a0 : Int32) (a1 : Int32) (Q : zMem → Prop) : Prop := ∃ n1, vc_X6_burn_16 a0 Q n1 (um (um σ 12 0 4 ((-2))) 12 0 5 0) a1 0
set_option maxHeartbeats 4000000 in
set_option maxRecDepth 100000 in
theorem sl_X6_burn_16 {p : Program} {l : Launch} {e : Env} {s : State} {m : MethodId} {args : Array Value} {below : List Frame} {meth : Method} {c : Code} {E : zE} (C : zX p s m args meth c cX6_burn 6 RX6 none E) (x1 : Int32) (Q : zMem → Prop) : ∀ (n : Nat) (σ : zMem) (x3 : Int32) (x4 : Int32), vc_X6_burn_16 x1 Q n σ x3 x4 → zG p l e (zRm 0 0) s m args below meth c 6 E 0 0 (MQ below (va_Qv Q (zPost E) (zA E s.heap.size)) args s 0 0 (zA E s.heap.size)) σ 16 [(0, .ref (E.2.2 12 0)), (1, .int x1), (3, .int x3), (4, .int x4)] [] := by
  intro n
  induction n with
  | zero =>
    intro σ x3 x4 h
    exact False.elim h
  | succ n ih =>
    intro σ x3 x4 h
    rw [vc_X6_burn_16] at h
    refine z_iload (pc' := 18) C dX6_burn_16 3 rfl rfl ?_
    refine z_iload_n (pc' := 19) C dX6_burn_18 rfl 1 rfl rfl ?_
    obtain ⟨ht, hf⟩ := h
    refine z_icmp_ge (tgt := 124) (pc' := 22) C dX6_burn_19 (by decide) rfl (fun c2 => ?_) (fun c2 => ?_)
    · have h := ht c2
      exact z_vret C dX6_burn_124 h
    · have h := hf c2
      refine z_aload_n (pc' := 23) C dX6_burn_22 rfl 0 rfl rfl ?_
      refine zgX6_15 (pc' := 26) C zo12 dX6_burn_23 rfl ?_
      refine z_iload_n (pc' := 27) C dX6_burn_26 rfl 2 rfl rfl ?_
      obtain ⟨hv3, h⟩ := h
      refine z_zald (n := 10) (pc' := 28) C (zL_mem (by decide) zo14) (fun _ => rfl) hv3 dX6_burn_27 rfl ?_
      obtain ⟨ht, hf⟩ := h
      refine z_if_eq (tgt := 44) (pc' := 31) C dX6_burn_28 (by decide) rfl (fun c4 => ?_) (fun c4 => ?_)
      · have h := ht c4
        refine z_iconst (v := 1) (pc' := 45) C dX6_burn_44 (by decide) rfl ?_
        refine z_goto (tgt := 49) C dX6_burn_45 (by decide) ?_
        refine z_istore (pc' := 51) (lv' := [(5, .int 1), (0, .ref (E.2.2 12 0)), (1, .int x1), (3, .int x3), (4, .int x4)]) C dX6_burn_49 (by decide) rfl rfl ?_
        refine z_iload (pc' := 53) C dX6_burn_51 0 rfl rfl ?_
        refine z_if_eq (tgt := 100) (pc' := 56) C dX6_burn_53 (by decide) rfl (fun c5 => absurd c5 (by decide)) (fun _ => ?_)
        refine z_iload_n (pc' := 57) C dX6_burn_56 rfl 3 rfl rfl ?_
        refine z_aload_n (pc' := 58) C dX6_burn_57 rfl 1 rfl rfl ?_
        refine zgX6_19 (pc' := 61) C zo12 dX6_burn_58 rfl ?_
        obtain ⟨ht, hf⟩ := h
        refine z_icmp_eq (tgt := 100) (pc' := 64) C dX6_burn_61 (by decide) rfl (fun c6 => ?_) (fun c6 => ?_)
        · have h := ht c6
          refine z_iload_n (pc' := 101) C dX6_burn_100 rfl 3 rfl rfl ?_
          refine z_iconst (v := 1) (pc' := 102) C dX6_burn_101 (by decide) rfl ?_
          refine z_iadd (pc' := 103) C dX6_burn_102 rfl ?_
          refine z_aload_n (pc' := 104) C dX6_burn_103 rfl 1 rfl rfl ?_
          refine zgX6_26 (pc' := 107) C zo12 dX6_burn_104 rfl ?_
          obtain ⟨ht, hf⟩ := h
          refine z_icmp_ge (tgt := 116) (pc' := 110) C dX6_burn_107 (by decide) rfl (fun c7 => ?_) (fun c7 => ?_)
          · have h := ht c7
            refine z_iconst (v := 0) (pc' := 117) C dX6_burn_116 (by decide) rfl ?_
            refine z_istore_n (pc' := 118) (lv' := [(3, .int 0), (5, .int 1), (0, .ref (E.2.2 12 0)), (1, .int x1), (4, .int x4)]) C dX6_burn_117 rfl (by decide) rfl rfl ?_
            refine z_iinc (j := 4) (v := x4 + 1) (pc' := 121) (lv' := [(4, .int (x4 + 1)), (3, .int 0), (5, .int 1), (0, .ref (E.2.2 12 0)), (1, .int x1)]) C dX6_burn_118 rfl rfl (by decide) rfl rfl ?_
            refine z_goto (tgt := 16) C dX6_burn_121 (by decide) ?_
            refine z_sub (lv' := [(0, .ref (E.2.2 12 0)), (1, .int x1), (3, .int 0), (4, .int (x4 + 1))]) [3, 4, 1, 0] rfl ?_
            exact ih _ _ _ h
          · have h := hf c7
            refine z_iload_n (pc' := 111) C dX6_burn_110 rfl 3 rfl rfl ?_
            refine z_iconst (v := 1) (pc' := 112) C dX6_burn_111 (by decide) rfl ?_
            refine z_iadd (pc' := 113) C dX6_burn_112 rfl ?_
            refine z_goto (tgt := 117) C dX6_burn_113 (by decide) ?_
            refine z_istore_n (pc' := 118) (lv' := [(3, .int (x3 + 1)), (5, .int 1), (0, .ref (E.2.2 12 0)), (1, .int x1), (4, .int x4)]) C dX6_burn_117 rfl (by decide) rfl rfl ?_
            refine z_iinc (j := 4) (v := x4 + 1) (pc' := 121) (lv' := [(4, .int (x4 + 1)), (3, .int (x3 + 1)), (5, .int 1), (0, .ref (E.2.2 12 0)), (1, .int x1)]) C dX6_burn_118 rfl rfl (by decide) rfl rfl ?_
            refine z_goto (tgt := 16) C dX6_burn_121 (by decide) ?_
            refine z_sub (lv' := [(0, .ref (E.2.2 12 0)), (1, .int x1), (3, .int (x3 + 1)), (4, .int (x4 + 1))]) [3, 4, 1, 0] rfl ?_
            exact ih _ _ _ h
        · have h := hf c6
          refine z_aload_n (pc' := 65) C dX6_burn_64 rfl 1 rfl rfl ?_
          refine zgX6_23 (pc' := 68) C zo12 dX6_burn_65 rfl ?_
          refine z_aload_n (pc' := 69) C dX6_burn_68 rfl 1 rfl rfl ?_
          refine zgX6_29 (pc' := 72) C zo12 dX6_burn_69 rfl ?_
          refine z_iadd (pc' := 73) C dX6_burn_72 rfl ?_
          refine z_aload_n (pc' := 74) C dX6_burn_73 rfl 1 rfl rfl ?_
          refine zgX6_9 (pc' := 77) C zo12 dX6_burn_74 rfl ?_
          refine z_iload_n (pc' := 78) C dX6_burn_77 rfl 3 rfl rfl ?_
          obtain ⟨hv8, h⟩ := h
          refine z_iald (n := 10) (pc' := 79) C (zL_mem (by decide) zo13) (fun _ => rfl) hv8 dX6_burn_78 rfl ?_
          obtain ⟨ht, hf⟩ := h
          refine z_icmp_gt (tgt := 100) (pc' := 82) C dX6_burn_79 (by decide) rfl (fun c9 => ?_) (fun c9 => ?_)
          · have h := ht c9
            refine z_iload_n (pc' := 101) C dX6_burn_100 rfl 3 rfl rfl ?_
            refine z_iconst (v := 1) (pc' := 102) C dX6_burn_101 (by decide) rfl ?_
            refine z_iadd (pc' := 103) C dX6_burn_102 rfl ?_
            refine z_aload_n (pc' := 104) C dX6_burn_103 rfl 1 rfl rfl ?_
            refine zgX6_26 (pc' := 107) C zo12 dX6_burn_104 rfl ?_
            obtain ⟨ht, hf⟩ := h
            refine z_icmp_ge (tgt := 116) (pc' := 110) C dX6_burn_107 (by decide) rfl (fun c10 => ?_) (fun c10 => ?_)
            · have h := ht c10
              refine z_iconst (v := 0) (pc' := 117) C dX6_burn_116 (by decide) rfl ?_
              refine z_istore_n (pc' := 118) (lv' := [(3, .int 0), (5, .int 1), (0, .ref (E.2.2 12 0)), (1, .int x1), (4, .int x4)]) C dX6_burn_117 rfl (by decide) rfl rfl ?_
              refine z_iinc (j := 4) (v := x4 + 1) (pc' := 121) (lv' := [(4, .int (x4 + 1)), (3, .int 0), (5, .int 1), (0, .ref (E.2.2 12 0)), (1, .int x1)]) C dX6_burn_118 rfl rfl (by decide) rfl rfl ?_
              refine z_goto (tgt := 16) C dX6_burn_121 (by decide) ?_
              refine z_sub (lv' := [(0, .ref (E.2.2 12 0)), (1, .int x1), (3, .int 0), (4, .int (x4 + 1))]) [3, 4, 1, 0] rfl ?_
              exact ih _ _ _ h
            · have h := hf c10
              refine z_iload_n (pc' := 111) C dX6_burn_110 rfl 3 rfl rfl ?_
              refine z_iconst (v := 1) (pc' := 112) C dX6_burn_111 (by decide) rfl ?_
              refine z_iadd (pc' := 113) C dX6_burn_112 rfl ?_
              refine z_goto (tgt := 117) C dX6_burn_113 (by decide) ?_
              refine z_istore_n (pc' := 118) (lv' := [(3, .int (x3 + 1)), (5, .int 1), (0, .ref (E.2.2 12 0)), (1, .int x1), (4, .int x4)]) C dX6_burn_117 rfl (by decide) rfl rfl ?_
              refine z_iinc (j := 4) (v := x4 + 1) (pc' := 121) (lv' := [(4, .int (x4 + 1)), (3, .int (x3 + 1)), (5, .int 1), (0, .ref (E.2.2 12 0)), (1, .int x1)]) C dX6_burn_118 rfl rfl (by decide) rfl rfl ?_
              refine z_goto (tgt := 16) C dX6_burn_121 (by decide) ?_
              refine z_sub (lv' := [(0, .ref (E.2.2 12 0)), (1, .int x1), (3, .int (x3 + 1)), (4, .int (x4 + 1))]) [3, 4, 1, 0] rfl ?_
              exact ih _ _ _ h
          · have h := hf c9
            refine z_aload_n (pc' := 83) C dX6_burn_82 rfl 1 rfl rfl ?_
            refine z_iload_n (pc' := 84) C dX6_burn_83 rfl 3 rfl rfl ?_
            refine zpX6_19 (pc' := 87) C zo12 dX6_burn_84 rfl ?_
            refine z_aload_n (pc' := 88) C dX6_burn_87 rfl 1 rfl rfl ?_
            refine z_dup (pc' := 89) C dX6_burn_88 rfl rfl ?_
            refine zgX6_23 (pc' := 92) C zo12 dX6_burn_89 rfl ?_
            refine z_aload_n (pc' := 93) C dX6_burn_92 rfl 1 rfl rfl ?_
            refine zgX6_29 (pc' := 96) C zo12 dX6_burn_93 rfl ?_
            refine z_iadd (pc' := 97) C dX6_burn_96 rfl ?_
            refine zpX6_23 (pc' := 100) C zo12 dX6_burn_97 rfl ?_
            refine z_iload_n (pc' := 101) C dX6_burn_100 rfl 3 rfl rfl ?_
            refine z_iconst (v := 1) (pc' := 102) C dX6_burn_101 (by decide) rfl ?_
            refine z_iadd (pc' := 103) C dX6_burn_102 rfl ?_
            refine z_aload_n (pc' := 104) C dX6_burn_103 rfl 1 rfl rfl ?_
            refine zgX6_26 (pc' := 107) C zo12 dX6_burn_104 rfl ?_
            obtain ⟨ht, hf⟩ := h
            refine z_icmp_ge (tgt := 116) (pc' := 110) C dX6_burn_107 (by decide) rfl (fun c11 => ?_) (fun c11 => ?_)
            · have h := ht c11
              refine z_iconst (v := 0) (pc' := 117) C dX6_burn_116 (by decide) rfl ?_
              refine z_istore_n (pc' := 118) (lv' := [(3, .int 0), (5, .int 1), (0, .ref (E.2.2 12 0)), (1, .int x1), (4, .int x4)]) C dX6_burn_117 rfl (by decide) rfl rfl ?_
              refine z_iinc (j := 4) (v := x4 + 1) (pc' := 121) (lv' := [(4, .int (x4 + 1)), (3, .int 0), (5, .int 1), (0, .ref (E.2.2 12 0)), (1, .int x1)]) C dX6_burn_118 rfl rfl (by decide) rfl rfl ?_
              refine z_goto (tgt := 16) C dX6_burn_121 (by decide) ?_
              refine z_sub (lv' := [(0, .ref (E.2.2 12 0)), (1, .int x1), (3, .int 0), (4, .int (x4 + 1))]) [3, 4, 1, 0] rfl ?_
              exact ih _ _ _ h
            · have h := hf c11
              refine z_iload_n (pc' := 111) C dX6_burn_110 rfl 3 rfl rfl ?_
              refine z_iconst (v := 1) (pc' := 112) C dX6_burn_111 (by decide) rfl ?_
              refine z_iadd (pc' := 113) C dX6_burn_112 rfl ?_
              refine z_goto (tgt := 117) C dX6_burn_113 (by decide) ?_
              refine z_istore_n (pc' := 118) (lv' := [(3, .int (x3 + 1)), (5, .int 1), (0, .ref (E.2.2 12 0)), (1, .int x1), (4, .int x4)]) C dX6_burn_117 rfl (by decide) rfl rfl ?_
              refine z_iinc (j := 4) (v := x4 + 1) (pc' := 121) (lv' := [(4, .int (x4 + 1)), (3, .int (x3 + 1)), (5, .int 1), (0, .ref (E.2.2 12 0)), (1, .int x1)]) C dX6_burn_118 rfl rfl (by decide) rfl rfl ?_
              refine z_goto (tgt := 16) C dX6_burn_121 (by decide) ?_
              refine z_sub (lv' := [(0, .ref (E.2.2 12 0)), (1, .int x1), (3, .int (x3 + 1)), (4, .int (x4 + 1))]) [3, 4, 1, 0] rfl ?_
              exact ih _ _ _ h
      · have h := hf c4
        refine z_iload_n (pc' := 32) C dX6_burn_31 rfl 1 rfl rfl ?_
        refine z_iload (pc' := 34) C dX6_burn_32 3 rfl rfl ?_
        refine z_isub (pc' := 35) C dX6_burn_34 rfl ?_
        refine z_iconst (v := 3) (pc' := 36) C dX6_burn_35 (by decide) rfl ?_
        refine z_aload_n (pc' := 37) C dX6_burn_36 rfl 0 rfl rfl ?_
        refine zgX6_26 (pc' := 40) C zo12 dX6_burn_37 rfl ?_
        refine z_imul (pc' := 41) C dX6_burn_40 rfl ?_
        obtain ⟨ht, hf⟩ := h
        refine z_icmp_gt (tgt := 48) (pc' := 44) C dX6_burn_41 (by decide) rfl (fun c12 => ?_) (fun c12 => ?_)
        · have h := ht c12
          refine z_iconst (v := 0) (pc' := 49) C dX6_burn_48 (by decide) rfl ?_
          refine z_istore (pc' := 51) (lv' := [(5, .int 0), (0, .ref (E.2.2 12 0)), (1, .int x1), (3, .int x3), (4, .int x4)]) C dX6_burn_49 (by decide) rfl rfl ?_
          refine z_iload (pc' := 53) C dX6_burn_51 0 rfl rfl ?_
          refine z_if_eq (tgt := 100) (pc' := 56) C dX6_burn_53 (by decide) rfl (fun _ => ?_) (fun c13 => absurd c13 (by decide))
          refine z_iload_n (pc' := 101) C dX6_burn_100 rfl 3 rfl rfl ?_
          refine z_iconst (v := 1) (pc' := 102) C dX6_burn_101 (by decide) rfl ?_
          refine z_iadd (pc' := 103) C dX6_burn_102 rfl ?_
          refine z_aload_n (pc' := 104) C dX6_burn_103 rfl 1 rfl rfl ?_
          refine zgX6_26 (pc' := 107) C zo12 dX6_burn_104 rfl ?_
          obtain ⟨ht, hf⟩ := h
          refine z_icmp_ge (tgt := 116) (pc' := 110) C dX6_burn_107 (by decide) rfl (fun c14 => ?_) (fun c14 => ?_)
          · have h := ht c14
            refine z_iconst (v := 0) (pc' := 117) C dX6_burn_116 (by decide) rfl ?_
            refine z_istore_n (pc' := 118) (lv' := [(3, .int 0), (5, .int 0), (0, .ref (E.2.2 12 0)), (1, .int x1), (4, .int x4)]) C dX6_burn_117 rfl (by decide) rfl rfl ?_
            refine z_iinc (j := 4) (v := x4 + 1) (pc' := 121) (lv' := [(4, .int (x4 + 1)), (3, .int 0), (5, .int 0), (0, .ref (E.2.2 12 0)), (1, .int x1)]) C dX6_burn_118 rfl rfl (by decide) rfl rfl ?_
            refine z_goto (tgt := 16) C dX6_burn_121 (by decide) ?_
            refine z_sub (lv' := [(0, .ref (E.2.2 12 0)), (1, .int x1), (3, .int 0), (4, .int (x4 + 1))]) [3, 4, 1, 0] rfl ?_
            exact ih _ _ _ h
          · have h := hf c14
            refine z_iload_n (pc' := 111) C dX6_burn_110 rfl 3 rfl rfl ?_
            refine z_iconst (v := 1) (pc' := 112) C dX6_burn_111 (by decide) rfl ?_
            refine z_iadd (pc' := 113) C dX6_burn_112 rfl ?_
            refine z_goto (tgt := 117) C dX6_burn_113 (by decide) ?_
            refine z_istore_n (pc' := 118) (lv' := [(3, .int (x3 + 1)), (5, .int 0), (0, .ref (E.2.2 12 0)), (1, .int x1), (4, .int x4)]) C dX6_burn_117 rfl (by decide) rfl rfl ?_
            refine z_iinc (j := 4) (v := x4 + 1) (pc' := 121) (lv' := [(4, .int (x4 + 1)), (3, .int (x3 + 1)), (5, .int 0), (0, .ref (E.2.2 12 0)), (1, .int x1)]) C dX6_burn_118 rfl rfl (by decide) rfl rfl ?_
            refine z_goto (tgt := 16) C dX6_burn_121 (by decide) ?_
            refine z_sub (lv' := [(0, .ref (E.2.2 12 0)), (1, .int x1), (3, .int (x3 + 1)), (4, .int (x4 + 1))]) [3, 4, 1, 0] rfl ?_
            exact ih _ _ _ h
        · have h := hf c12
          refine z_iconst (v := 1) (pc' := 45) C dX6_burn_44 (by decide) rfl ?_
          refine z_goto (tgt := 49) C dX6_burn_45 (by decide) ?_
          refine z_istore (pc' := 51) (lv' := [(5, .int 1), (0, .ref (E.2.2 12 0)), (1, .int x1), (3, .int x3), (4, .int x4)]) C dX6_burn_49 (by decide) rfl rfl ?_
          refine z_iload (pc' := 53) C dX6_burn_51 0 rfl rfl ?_
          refine z_if_eq (tgt := 100) (pc' := 56) C dX6_burn_53 (by decide) rfl (fun c15 => absurd c15 (by decide)) (fun _ => ?_)
          refine z_iload_n (pc' := 57) C dX6_burn_56 rfl 3 rfl rfl ?_
          refine z_aload_n (pc' := 58) C dX6_burn_57 rfl 1 rfl rfl ?_
          refine zgX6_19 (pc' := 61) C zo12 dX6_burn_58 rfl ?_
          obtain ⟨ht, hf⟩ := h
          refine z_icmp_eq (tgt := 100) (pc' := 64) C dX6_burn_61 (by decide) rfl (fun c16 => ?_) (fun c16 => ?_)
          · have h := ht c16
            refine z_iload_n (pc' := 101) C dX6_burn_100 rfl 3 rfl rfl ?_
            refine z_iconst (v := 1) (pc' := 102) C dX6_burn_101 (by decide) rfl ?_
            refine z_iadd (pc' := 103) C dX6_burn_102 rfl ?_
            refine z_aload_n (pc' := 104) C dX6_burn_103 rfl 1 rfl rfl ?_
            refine zgX6_26 (pc' := 107) C zo12 dX6_burn_104 rfl ?_
            obtain ⟨ht, hf⟩ := h
            refine z_icmp_ge (tgt := 116) (pc' := 110) C dX6_burn_107 (by decide) rfl (fun c17 => ?_) (fun c17 => ?_)
            · have h := ht c17
              refine z_iconst (v := 0) (pc' := 117) C dX6_burn_116 (by decide) rfl ?_
              refine z_istore_n (pc' := 118) (lv' := [(3, .int 0), (5, .int 1), (0, .ref (E.2.2 12 0)), (1, .int x1), (4, .int x4)]) C dX6_burn_117 rfl (by decide) rfl rfl ?_
              refine z_iinc (j := 4) (v := x4 + 1) (pc' := 121) (lv' := [(4, .int (x4 + 1)), (3, .int 0), (5, .int 1), (0, .ref (E.2.2 12 0)), (1, .int x1)]) C dX6_burn_118 rfl rfl (by decide) rfl rfl ?_
              refine z_goto (tgt := 16) C dX6_burn_121 (by decide) ?_
              refine z_sub (lv' := [(0, .ref (E.2.2 12 0)), (1, .int x1), (3, .int 0), (4, .int (x4 + 1))]) [3, 4, 1, 0] rfl ?_
              exact ih _ _ _ h
            · have h := hf c17
              refine z_iload_n (pc' := 111) C dX6_burn_110 rfl 3 rfl rfl ?_
              refine z_iconst (v := 1) (pc' := 112) C dX6_burn_111 (by decide) rfl ?_
              refine z_iadd (pc' := 113) C dX6_burn_112 rfl ?_
              refine z_goto (tgt := 117) C dX6_burn_113 (by decide) ?_
              refine z_istore_n (pc' := 118) (lv' := [(3, .int (x3 + 1)), (5, .int 1), (0, .ref (E.2.2 12 0)), (1, .int x1), (4, .int x4)]) C dX6_burn_117 rfl (by decide) rfl rfl ?_
              refine z_iinc (j := 4) (v := x4 + 1) (pc' := 121) (lv' := [(4, .int (x4 + 1)), (3, .int (x3 + 1)), (5, .int 1), (0, .ref (E.2.2 12 0)), (1, .int x1)]) C dX6_burn_118 rfl rfl (by decide) rfl rfl ?_
              refine z_goto (tgt := 16) C dX6_burn_121 (by decide) ?_
              refine z_sub (lv' := [(0, .ref (E.2.2 12 0)), (1, .int x1), (3, .int (x3 + 1)), (4, .int (x4 + 1))]) [3, 4, 1, 0] rfl ?_
              exact ih _ _ _ h
          · have h := hf c16
            refine z_aload_n (pc' := 65) C dX6_burn_64 rfl 1 rfl rfl ?_
            refine zgX6_23 (pc' := 68) C zo12 dX6_burn_65 rfl ?_
            refine z_aload_n (pc' := 69) C dX6_burn_68 rfl 1 rfl rfl ?_
            refine zgX6_29 (pc' := 72) C zo12 dX6_burn_69 rfl ?_
            refine z_iadd (pc' := 73) C dX6_burn_72 rfl ?_
            refine z_aload_n (pc' := 74) C dX6_burn_73 rfl 1 rfl rfl ?_
            refine zgX6_9 (pc' := 77) C zo12 dX6_burn_74 rfl ?_
            refine z_iload_n (pc' := 78) C dX6_burn_77 rfl 3 rfl rfl ?_
            obtain ⟨hv18, h⟩ := h
            refine z_iald (n := 10) (pc' := 79) C (zL_mem (by decide) zo13) (fun _ => rfl) hv18 dX6_burn_78 rfl ?_
            obtain ⟨ht, hf⟩ := h
            refine z_icmp_gt (tgt := 100) (pc' := 82) C dX6_burn_79 (by decide) rfl (fun c19 => ?_) (fun c19 => ?_)
            · have h := ht c19
              refine z_iload_n (pc' := 101) C dX6_burn_100 rfl 3 rfl rfl ?_
              refine z_iconst (v := 1) (pc' := 102) C dX6_burn_101 (by decide) rfl ?_
              refine z_iadd (pc' := 103) C dX6_burn_102 rfl ?_
              refine z_aload_n (pc' := 104) C dX6_burn_103 rfl 1 rfl rfl ?_
              refine zgX6_26 (pc' := 107) C zo12 dX6_burn_104 rfl ?_
              obtain ⟨ht, hf⟩ := h
              refine z_icmp_ge (tgt := 116) (pc' := 110) C dX6_burn_107 (by decide) rfl (fun c20 => ?_) (fun c20 => ?_)
              · have h := ht c20
                refine z_iconst (v := 0) (pc' := 117) C dX6_burn_116 (by decide) rfl ?_
                refine z_istore_n (pc' := 118) (lv' := [(3, .int 0), (5, .int 1), (0, .ref (E.2.2 12 0)), (1, .int x1), (4, .int x4)]) C dX6_burn_117 rfl (by decide) rfl rfl ?_
                refine z_iinc (j := 4) (v := x4 + 1) (pc' := 121) (lv' := [(4, .int (x4 + 1)), (3, .int 0), (5, .int 1), (0, .ref (E.2.2 12 0)), (1, .int x1)]) C dX6_burn_118 rfl rfl (by decide) rfl rfl ?_
                refine z_goto (tgt := 16) C dX6_burn_121 (by decide) ?_
                refine z_sub (lv' := [(0, .ref (E.2.2 12 0)), (1, .int x1), (3, .int 0), (4, .int (x4 + 1))]) [3, 4, 1, 0] rfl ?_
                exact ih _ _ _ h
              · have h := hf c20
                refine z_iload_n (pc' := 111) C dX6_burn_110 rfl 3 rfl rfl ?_
                refine z_iconst (v := 1) (pc' := 112) C dX6_burn_111 (by decide) rfl ?_
                refine z_iadd (pc' := 113) C dX6_burn_112 rfl ?_
                refine z_goto (tgt := 117) C dX6_burn_113 (by decide) ?_
                refine z_istore_n (pc' := 118) (lv' := [(3, .int (x3 + 1)), (5, .int 1), (0, .ref (E.2.2 12 0)), (1, .int x1), (4, .int x4)]) C dX6_burn_117 rfl (by decide) rfl rfl ?_
                refine z_iinc (j := 4) (v := x4 + 1) (pc' := 121) (lv' := [(4, .int (x4 + 1)), (3, .int (x3 + 1)), (5, .int 1), (0, .ref (E.2.2 12 0)), (1, .int x1)]) C dX6_burn_118 rfl rfl (by decide) rfl rfl ?_
                refine z_goto (tgt := 16) C dX6_burn_121 (by decide) ?_
                refine z_sub (lv' := [(0, .ref (E.2.2 12 0)), (1, .int x1), (3, .int (x3 + 1)), (4, .int (x4 + 1))]) [3, 4, 1, 0] rfl ?_
                exact ih _ _ _ h
            · have h := hf c19
              refine z_aload_n (pc' := 83) C dX6_burn_82 rfl 1 rfl rfl ?_
              refine z_iload_n (pc' := 84) C dX6_burn_83 rfl 3 rfl rfl ?_
              refine zpX6_19 (pc' := 87) C zo12 dX6_burn_84 rfl ?_
              refine z_aload_n (pc' := 88) C dX6_burn_87 rfl 1 rfl rfl ?_
              refine z_dup (pc' := 89) C dX6_burn_88 rfl rfl ?_
              refine zgX6_23 (pc' := 92) C zo12 dX6_burn_89 rfl ?_
              refine z_aload_n (pc' := 93) C dX6_burn_92 rfl 1 rfl rfl ?_
              refine zgX6_29 (pc' := 96) C zo12 dX6_burn_93 rfl ?_
              refine z_iadd (pc' := 97) C dX6_burn_96 rfl ?_
              refine zpX6_23 (pc' := 100) C zo12 dX6_burn_97 rfl ?_
              refine z_iload_n (pc' := 101) C dX6_burn_100 rfl 3 rfl rfl ?_
              refine z_iconst (v := 1) (pc' := 102) C dX6_burn_101 (by decide) rfl ?_
              refine z_iadd (pc' := 103) C dX6_burn_102 rfl ?_
              refine z_aload_n (pc' := 104) C dX6_burn_103 rfl 1 rfl rfl ?_
              refine zgX6_26 (pc' := 107) C zo12 dX6_burn_104 rfl ?_
              obtain ⟨ht, hf⟩ := h
              refine z_icmp_ge (tgt := 116) (pc' := 110) C dX6_burn_107 (by decide) rfl (fun c21 => ?_) (fun c21 => ?_)
              · have h := ht c21
                refine z_iconst (v := 0) (pc' := 117) C dX6_burn_116 (by decide) rfl ?_
                refine z_istore_n (pc' := 118) (lv' := [(3, .int 0), (5, .int 1), (0, .ref (E.2.2 12 0)), (1, .int x1), (4, .int x4)]) C dX6_burn_117 rfl (by decide) rfl rfl ?_
                refine z_iinc (j := 4) (v := x4 + 1) (pc' := 121) (lv' := [(4, .int (x4 + 1)), (3, .int 0), (5, .int 1), (0, .ref (E.2.2 12 0)), (1, .int x1)]) C dX6_burn_118 rfl rfl (by decide) rfl rfl ?_
                refine z_goto (tgt := 16) C dX6_burn_121 (by decide) ?_
                refine z_sub (lv' := [(0, .ref (E.2.2 12 0)), (1, .int x1), (3, .int 0), (4, .int (x4 + 1))]) [3, 4, 1, 0] rfl ?_
                exact ih _ _ _ h
              · have h := hf c21
                refine z_iload_n (pc' := 111) C dX6_burn_110 rfl 3 rfl rfl ?_
                refine z_iconst (v := 1) (pc' := 112) C dX6_burn_111 (by decide) rfl ?_
                refine z_iadd (pc' := 113) C dX6_burn_112 rfl ?_
                refine z_goto (tgt := 117) C dX6_burn_113 (by decide) ?_
                refine z_istore_n (pc' := 118) (lv' := [(3, .int (x3 + 1)), (5, .int 1), (0, .ref (E.2.2 12 0)), (1, .int x1), (4, .int x4)]) C dX6_burn_117 rfl (by decide) rfl rfl ?_
                refine z_iinc (j := 4) (v := x4 + 1) (pc' := 121) (lv' := [(4, .int (x4 + 1)), (3, .int (x3 + 1)), (5, .int 1), (0, .ref (E.2.2 12 0)), (1, .int x1)]) C dX6_burn_118 rfl rfl (by decide) rfl rfl ?_
                refine z_goto (tgt := 16) C dX6_burn_121 (by decide) ?_
                refine z_sub (lv' := [(0, .ref (E.2.2 12 0)), (1, .int x1), (3, .int (x3 + 1)), (4, .int (x4 + 1))]) [3, 4, 1, 0] rfl ?_
                exact ih _ _ _ h
set_option maxHeartbeats 4000000 in
set_option maxRecDepth 100000 in
theorem sc_X6_burn (l : Launch) (E : zE) (σ : zMem) (a0 : Int32) (a1 : Int32) (Q : zMem → Prop) (h : vc_X6_burn σ a0 a1 Q) : zMv l yX6_burn cX6_burn 6 0 0 E [.ref (E.2.2 12 0), .int a0, .int a1] σ Q := by
  refine zMv_of (by decide) (Nat.le_of_ble_eq_true rfl) ?_
  intro p e s m args below meth c C
  unfold vc_X6_burn at h
  have fin : zG p l e (zRm 0 0) s m args below meth c 6 E 0 0 (MQ below (va_Qv Q (zPost E) (zA E s.heap.size)) args s 0 0 (zA E s.heap.size)) σ 0 [(0, .ref (E.2.2 12 0)), (1, .int a0), (2, .int a1)] [] := by
    refine z_aload_n (pc' := 1) C dX6_burn_0 rfl 0 rfl rfl ?_
    refine z_bipush (v := (-2)) (pc' := 3) C dX6_burn_1 (by decide) rfl ?_
    refine zpX6_19 (pc' := 6) C zo12 dX6_burn_3 rfl ?_
    refine z_aload_n (pc' := 7) C dX6_burn_6 rfl 0 rfl rfl ?_
    refine z_iconst (v := 0) (pc' := 8) C dX6_burn_7 (by decide) rfl ?_
    refine zpX6_23 (pc' := 11) C zo12 dX6_burn_8 rfl ?_
    refine z_iload_n (pc' := 12) C dX6_burn_11 rfl 2 rfl rfl ?_
    refine z_istore_n (pc' := 13) (lv' := [(3, .int a1), (0, .ref (E.2.2 12 0)), (1, .int a0), (2, .int a1)]) C dX6_burn_12 rfl (by decide) rfl rfl ?_
    refine z_iconst (v := 0) (pc' := 14) C dX6_burn_13 (by decide) rfl ?_
    refine z_istore (pc' := 16) (lv' := [(4, .int 0), (3, .int a1), (0, .ref (E.2.2 12 0)), (1, .int a0), (2, .int a1)]) C dX6_burn_14 (by decide) rfl rfl ?_
    obtain ⟨n1, h⟩ := h
    refine z_sub (lv' := [(0, .ref (E.2.2 12 0)), (1, .int a0), (3, .int a1), (4, .int 0)]) [2, 3, 1, 0] rfl ?_
    exact sl_X6_burn_16 C a0 Q n1 _ _ _ h
  exact fin
def vc_X6_greatestBut_5 (x1 : Int32) (Q : Int32 → zMem → Prop) : Nat → zMem → Int32 → Int32 → Prop
  | 0, _, _, _ => False
  | n + 1, σ, x2, x3 => (((σ 12 0 2) ≤ x3) → Q x2 σ) ∧ ((¬ (σ 12 0 2) ≤ x3) → ((x3 = x1) → vc_X6_greatestBut_5 x1 Q n σ x2 (x3 + 1)) ∧ ((¬ x3 = x1) → vp_in x3 10 ∧ (((σ 13 0 x3.toNatClampNeg) < (σ 12 0 3)) → vc_X6_greatestBut_5 x1 Q n σ x2 (x3 + 1)) ∧ ((¬ (σ 13 0 x3.toNatClampNeg) < (σ 12 0 3)) → ((x2 = ((-2))) → vc_X6_greatestBut_5 x1 Q n σ x3 (x3 + 1)) ∧ ((¬ x2 = ((-2))) → vp_in x3 10 ∧ vp_in x2 10 ∧ (((σ 13 0 x3.toNatClampNeg) ≤ (σ 13 0 x2.toNatClampNeg)) → vc_X6_greatestBut_5 x1 Q n σ x2 (x3 + 1)) ∧ ((¬ (σ 13 0 x3.toNatClampNeg) ≤ (σ 13 0 x2.toNatClampNeg)) → vc_X6_greatestBut_5 x1 Q n σ x3 (x3 + 1))))))
def vc_X6_greatestBut (σ : zMem) (a0 : Int32) (Q : Int32 → zMem → Prop) : Prop := ∃ n1, vc_X6_greatestBut_5 a0 Q n1 σ ((-2)) 0
set_option maxHeartbeats 4000000 in
set_option maxRecDepth 100000 in
theorem sl_X6_greatestBut_5 {p : Program} {l : Launch} {e : Env} {s : State} {m : MethodId} {args : Array Value} {below : List Frame} {meth : Method} {c : Code} {E : zE} (C : zX p s m args meth c cX6_greatestBut 5 RX6 (some .int) E) (x1 : Int32) (Q : Int32 → zMem → Prop) : ∀ (n : Nat) (σ : zMem) (x2 : Int32) (x3 : Int32), vc_X6_greatestBut_5 x1 Q n σ x2 x3 → zG p l e (zRm 0 0) s m args below meth c 5 E 0 0 (MQ below (va_Qi Q (zPost E) (zA E s.heap.size)) args s 0 0 (zA E s.heap.size)) σ 5 [(0, .ref (E.2.2 12 0)), (1, .int x1), (2, .int x2), (3, .int x3)] [] := by
  intro n
  induction n with
  | zero =>
    intro σ x2 x3 h
    exact False.elim h
  | succ n ih =>
    intro σ x2 x3 h
    rw [vc_X6_greatestBut_5] at h
    refine z_iload_n (pc' := 6) C dX6_greatestBut_5 rfl 3 rfl rfl ?_
    refine z_aload_n (pc' := 7) C dX6_greatestBut_6 rfl 0 rfl rfl ?_
    refine zgX6_26 (pc' := 10) C zo12 dX6_greatestBut_7 rfl ?_
    obtain ⟨ht, hf⟩ := h
    refine z_icmp_ge (tgt := 72) (pc' := 13) C dX6_greatestBut_10 (by decide) rfl (fun c2 => ?_) (fun c2 => ?_)
    · have h := ht c2
      refine z_iload_n (pc' := 73) C dX6_greatestBut_72 rfl 2 rfl rfl ?_
      exact z_iret C dX6_greatestBut_73 h
    · have h := hf c2
      refine z_iload_n (pc' := 14) C dX6_greatestBut_13 rfl 3 rfl rfl ?_
      refine z_iload_n (pc' := 15) C dX6_greatestBut_14 rfl 1 rfl rfl ?_
      obtain ⟨ht, hf⟩ := h
      refine z_icmp_eq (tgt := 35) (pc' := 18) C dX6_greatestBut_15 (by decide) rfl (fun c3 => ?_) (fun c3 => ?_)
      · have h := ht c3
        refine z_iconst (v := 0) (pc' := 36) C dX6_greatestBut_35 (by decide) rfl ?_
        refine z_istore (pc' := 38) (lv' := [(4, .int 0), (0, .ref (E.2.2 12 0)), (1, .int x1), (2, .int x2), (3, .int x3)]) C dX6_greatestBut_36 (by decide) rfl rfl ?_
        refine z_iload (pc' := 40) C dX6_greatestBut_38 0 rfl rfl ?_
        refine z_if_eq (tgt := 66) (pc' := 43) C dX6_greatestBut_40 (by decide) rfl (fun _ => ?_) (fun c4 => absurd c4 (by decide))
        refine z_iinc (j := 4) (v := x3 + 1) (pc' := 69) (lv' := [(3, .int (x3 + 1)), (4, .int 0), (0, .ref (E.2.2 12 0)), (1, .int x1), (2, .int x2)]) C dX6_greatestBut_66 rfl rfl (by decide) rfl rfl ?_
        refine z_goto (tgt := 5) C dX6_greatestBut_69 (by decide) ?_
        refine z_sub (lv' := [(0, .ref (E.2.2 12 0)), (1, .int x1), (2, .int x2), (3, .int (x3 + 1))]) [2, 3, 4, 0] rfl ?_
        exact ih _ _ _ h
      · have h := hf c3
        refine z_aload_n (pc' := 19) C dX6_greatestBut_18 rfl 0 rfl rfl ?_
        refine zgX6_9 (pc' := 22) C zo12 dX6_greatestBut_19 rfl ?_
        refine z_iload_n (pc' := 23) C dX6_greatestBut_22 rfl 3 rfl rfl ?_
        obtain ⟨hv5, h⟩ := h
        refine z_iald (n := 10) (pc' := 24) C (zL_mem (by decide) zo13) (fun _ => rfl) hv5 dX6_greatestBut_23 rfl ?_
        refine z_aload_n (pc' := 25) C dX6_greatestBut_24 rfl 0 rfl rfl ?_
        refine zgX6_29 (pc' := 28) C zo12 dX6_greatestBut_25 rfl ?_
        obtain ⟨ht, hf⟩ := h
        refine z_icmp_lt (tgt := 35) (pc' := 31) C dX6_greatestBut_28 (by decide) rfl (fun c6 => ?_) (fun c6 => ?_)
        · have h := ht c6
          refine z_iconst (v := 0) (pc' := 36) C dX6_greatestBut_35 (by decide) rfl ?_
          refine z_istore (pc' := 38) (lv' := [(4, .int 0), (0, .ref (E.2.2 12 0)), (1, .int x1), (2, .int x2), (3, .int x3)]) C dX6_greatestBut_36 (by decide) rfl rfl ?_
          refine z_iload (pc' := 40) C dX6_greatestBut_38 0 rfl rfl ?_
          refine z_if_eq (tgt := 66) (pc' := 43) C dX6_greatestBut_40 (by decide) rfl (fun _ => ?_) (fun c7 => absurd c7 (by decide))
          refine z_iinc (j := 4) (v := x3 + 1) (pc' := 69) (lv' := [(3, .int (x3 + 1)), (4, .int 0), (0, .ref (E.2.2 12 0)), (1, .int x1), (2, .int x2)]) C dX6_greatestBut_66 rfl rfl (by decide) rfl rfl ?_
          refine z_goto (tgt := 5) C dX6_greatestBut_69 (by decide) ?_
          refine z_sub (lv' := [(0, .ref (E.2.2 12 0)), (1, .int x1), (2, .int x2), (3, .int (x3 + 1))]) [2, 3, 4, 0] rfl ?_
          exact ih _ _ _ h
        · have h := hf c6
          refine z_iconst (v := 1) (pc' := 32) C dX6_greatestBut_31 (by decide) rfl ?_
          refine z_goto (tgt := 36) C dX6_greatestBut_32 (by decide) ?_
          refine z_istore (pc' := 38) (lv' := [(4, .int 1), (0, .ref (E.2.2 12 0)), (1, .int x1), (2, .int x2), (3, .int x3)]) C dX6_greatestBut_36 (by decide) rfl rfl ?_
          refine z_iload (pc' := 40) C dX6_greatestBut_38 0 rfl rfl ?_
          refine z_if_eq (tgt := 66) (pc' := 43) C dX6_greatestBut_40 (by decide) rfl (fun c8 => absurd c8 (by decide)) (fun _ => ?_)
          refine z_iload_n (pc' := 44) C dX6_greatestBut_43 rfl 3 rfl rfl ?_
          refine z_bipush (v := (-2)) (pc' := 46) C dX6_greatestBut_44 (by decide) rfl ?_
          obtain ⟨ht, hf⟩ := h
          refine z_icmp_eq (tgt := 64) (pc' := 49) C dX6_greatestBut_46 (by decide) rfl (fun c9 => ?_) (fun c9 => ?_)
          · have h := ht c9
            refine z_iload_n (pc' := 65) C dX6_greatestBut_64 rfl 4 rfl rfl ?_
            refine z_istore_n (pc' := 66) (lv' := [(2, .int x3), (4, .int 1), (0, .ref (E.2.2 12 0)), (1, .int x1), (3, .int x3)]) C dX6_greatestBut_65 rfl (by decide) rfl rfl ?_
            refine z_iinc (j := 4) (v := x3 + 1) (pc' := 69) (lv' := [(3, .int (x3 + 1)), (2, .int x3), (4, .int 1), (0, .ref (E.2.2 12 0)), (1, .int x1)]) C dX6_greatestBut_66 rfl rfl (by decide) rfl rfl ?_
            refine z_goto (tgt := 5) C dX6_greatestBut_69 (by decide) ?_
            refine z_sub (lv' := [(0, .ref (E.2.2 12 0)), (1, .int x1), (2, .int x3), (3, .int (x3 + 1))]) [3, 4, 1, 0] rfl ?_
            exact ih _ _ _ h
          · have h := hf c9
            refine z_aload_n (pc' := 50) C dX6_greatestBut_49 rfl 1 rfl rfl ?_
            refine zgX6_9 (pc' := 53) C zo12 dX6_greatestBut_50 rfl ?_
            refine z_iload_n (pc' := 54) C dX6_greatestBut_53 rfl 4 rfl rfl ?_
            obtain ⟨hv10, h⟩ := h
            refine z_iald (n := 10) (pc' := 55) C (zL_mem (by decide) zo13) (fun _ => rfl) hv10 dX6_greatestBut_54 rfl ?_
            refine z_aload_n (pc' := 56) C dX6_greatestBut_55 rfl 1 rfl rfl ?_
            refine zgX6_9 (pc' := 59) C zo12 dX6_greatestBut_56 rfl ?_
            refine z_iload_n (pc' := 60) C dX6_greatestBut_59 rfl 3 rfl rfl ?_
            obtain ⟨hv11, h⟩ := h
            refine z_iald (n := 10) (pc' := 61) C (zL_mem (by decide) zo13) (fun _ => rfl) hv11 dX6_greatestBut_60 rfl ?_
            obtain ⟨ht, hf⟩ := h
            refine z_icmp_le (tgt := 66) (pc' := 64) C dX6_greatestBut_61 (by decide) rfl (fun c12 => ?_) (fun c12 => ?_)
            · have h := ht c12
              refine z_iinc (j := 4) (v := x3 + 1) (pc' := 69) (lv' := [(3, .int (x3 + 1)), (4, .int 1), (0, .ref (E.2.2 12 0)), (1, .int x1), (2, .int x2)]) C dX6_greatestBut_66 rfl rfl (by decide) rfl rfl ?_
              refine z_goto (tgt := 5) C dX6_greatestBut_69 (by decide) ?_
              refine z_sub (lv' := [(0, .ref (E.2.2 12 0)), (1, .int x1), (2, .int x2), (3, .int (x3 + 1))]) [2, 3, 4, 0] rfl ?_
              exact ih _ _ _ h
            · have h := hf c12
              refine z_iload_n (pc' := 65) C dX6_greatestBut_64 rfl 4 rfl rfl ?_
              refine z_istore_n (pc' := 66) (lv' := [(2, .int x3), (4, .int 1), (0, .ref (E.2.2 12 0)), (1, .int x1), (3, .int x3)]) C dX6_greatestBut_65 rfl (by decide) rfl rfl ?_
              refine z_iinc (j := 4) (v := x3 + 1) (pc' := 69) (lv' := [(3, .int (x3 + 1)), (2, .int x3), (4, .int 1), (0, .ref (E.2.2 12 0)), (1, .int x1)]) C dX6_greatestBut_66 rfl rfl (by decide) rfl rfl ?_
              refine z_goto (tgt := 5) C dX6_greatestBut_69 (by decide) ?_
              refine z_sub (lv' := [(0, .ref (E.2.2 12 0)), (1, .int x1), (2, .int x3), (3, .int (x3 + 1))]) [3, 4, 1, 0] rfl ?_
              exact ih _ _ _ h
set_option maxHeartbeats 4000000 in
set_option maxRecDepth 100000 in
theorem sc_X6_greatestBut (l : Launch) (E : zE) (σ : zMem) (a0 : Int32) (Q : Int32 → zMem → Prop) (h : vc_X6_greatestBut σ a0 Q) : zMi l yX6_greatestBut cX6_greatestBut 5 .int 0 0 E [.ref (E.2.2 12 0), .int a0] σ Q := by
  refine zMi_of (by decide) (Nat.le_of_ble_eq_true rfl) ?_
  intro p e s m args below meth c C
  unfold vc_X6_greatestBut at h
  have fin : zG p l e (zRm 0 0) s m args below meth c 5 E 0 0 (MQ below (va_Qi Q (zPost E) (zA E s.heap.size)) args s 0 0 (zA E s.heap.size)) σ 0 [(0, .ref (E.2.2 12 0)), (1, .int a0)] [] := by
    refine z_bipush (v := (-2)) (pc' := 2) C dX6_greatestBut_0 (by decide) rfl ?_
    refine z_istore_n (pc' := 3) (lv' := [(2, .int ((-2))), (0, .ref (E.2.2 12 0)), (1, .int a0)]) C dX6_greatestBut_2 rfl (by decide) rfl rfl ?_
    refine z_iconst (v := 0) (pc' := 4) C dX6_greatestBut_3 (by decide) rfl ?_
    refine z_istore_n (pc' := 5) (lv' := [(3, .int 0), (2, .int ((-2))), (0, .ref (E.2.2 12 0)), (1, .int a0)]) C dX6_greatestBut_4 rfl (by decide) rfl rfl ?_
    obtain ⟨n1, h⟩ := h
    refine z_sub (lv' := [(0, .ref (E.2.2 12 0)), (1, .int a0), (2, .int ((-2))), (3, .int 0)]) [2, 3, 1, 0] rfl ?_
    exact sl_X6_greatestBut_5 C a0 Q n1 _ _ _ h
  exact fin
def vc_X6_lotTaker (σ : zMem) (Q : Int32 → zMem → Prop) : Prop := vc_X6_greatestBut σ ((-2)) (fun r2 σ1 => Q r2 σ1)
set_option maxHeartbeats 4000000 in
set_option maxRecDepth 100000 in
theorem sc_X6_lotTaker (l : Launch) (E : zE) (σ : zMem) (Q : Int32 → zMem → Prop) (h : vc_X6_lotTaker σ Q) : zMi l yX6_lotTaker cX6_lotTaker 1 .int 1 24 E [.ref (E.2.2 12 0)] σ Q := by
  refine zMi_of (by decide) (Nat.le_of_ble_eq_true rfl) ?_
  intro p e s m args below meth c C
  unfold vc_X6_lotTaker at h
  have fin : zG p l e (zRm 1 24) s m args below meth c 1 E 0 0 (MQ below (va_Qi Q (zPost E) (zA E s.heap.size)) args s 0 0 (zA E s.heap.size)) σ 0 [(0, .ref (E.2.2 12 0))] [] := by
    refine z_aload_n (pc' := 1) C dX6_lotTaker_0 rfl 0 rfl rfl ?_
    refine z_bipush (v := (-2)) (pc' := 3) C dX6_lotTaker_1 (by decide) rfl ?_
    refine z_callVi (q := 12) (i := 0) (w9 := (RX6, TX6, 6)) (pc' := 6) (st := []) (As := [.int ((-2))]) C (sc_X6_greatestBut l E σ ((-2)) _ h) zwX6_32_X6_greatestBut zvX6_32_X6_greatestBut.1 zvX6_32_X6_greatestBut.2 (zL_mem (by decide) zo12) rfl rfl ⟨(Nat.le_of_ble_eq_true rfl), (Nat.le_of_ble_eq_true rfl)⟩ ⟨Nat.zero_le _, Nat.zero_le _⟩ rfl rfl (Nat.le_of_ble_eq_true rfl) dX6_lotTaker_3 rfl (fun r2 σ1 h => ?_)
    exact z_iret C dX6_lotTaker_6 h
  exact fin
def vc_X6_lotPrice (σ : zMem) (a0 : Int32) (Q : Int32 → zMem → Prop) : Prop := ((¬ a0 = ((-2))) → vc_X6_greatestBut σ a0 (fun r3 σ2 => ((¬ r3 = ((-2))) → vp_in a0 10 ∧ vp_in r3 10 ∧ Q ((if ((σ2 13 0 r3.toNatClampNeg) + (σ2 12 0 3)) < (σ2 13 0 a0.toNatClampNeg) then (σ2 13 0 r3.toNatClampNeg) + (σ2 12 0 3) else σ2 13 0 a0.toNatClampNeg)) σ2) ∧ ((r3 = ((-2))) → Q (σ2 12 0 3) σ2))) ∧ ((a0 = ((-2))) → Q 0 σ)
set_option maxHeartbeats 4000000 in
set_option maxRecDepth 100000 in
theorem sc_X6_lotPrice (l : Launch) (E : zE) (σ : zMem) (a0 : Int32) (Q : Int32 → zMem → Prop) (h : vc_X6_lotPrice σ a0 Q) : zMi l yX6_lotPrice cX6_lotPrice 3 .int 1 24 E [.ref (E.2.2 12 0), .int a0] σ Q := by
  refine zMi_of (by decide) (Nat.le_of_ble_eq_true rfl) ?_
  intro p e s m args below meth c C
  unfold vc_X6_lotPrice at h
  have fin : zG p l e (zRm 1 24) s m args below meth c 3 E 0 0 (MQ below (va_Qi Q (zPost E) (zA E s.heap.size)) args s 0 0 (zA E s.heap.size)) σ 0 [(0, .ref (E.2.2 12 0)), (1, .int a0)] [] := by
    refine z_iload_n (pc' := 1) C dX6_lotPrice_0 rfl 1 rfl rfl ?_
    refine z_bipush (v := (-2)) (pc' := 3) C dX6_lotPrice_1 (by decide) rfl ?_
    obtain ⟨ht, hf⟩ := h
    refine z_icmp_ne (tgt := 8) (pc' := 6) C dX6_lotPrice_3 (by decide) rfl (fun c1 => ?_) (fun c1 => ?_)
    · have h := ht c1
      refine z_aload_n (pc' := 9) C dX6_lotPrice_8 rfl 0 rfl rfl ?_
      refine z_iload_n (pc' := 10) C dX6_lotPrice_9 rfl 1 rfl rfl ?_
      refine z_callVi (q := 12) (i := 0) (w9 := (RX6, TX6, 6)) (pc' := 13) (st := []) (As := [.int a0]) C (sc_X6_greatestBut l E σ a0 _ h) zwX6_32_X6_greatestBut zvX6_32_X6_greatestBut.1 zvX6_32_X6_greatestBut.2 (zL_mem (by decide) zo12) rfl rfl ⟨(Nat.le_of_ble_eq_true rfl), (Nat.le_of_ble_eq_true rfl)⟩ ⟨Nat.zero_le _, Nat.zero_le _⟩ rfl rfl (Nat.le_of_ble_eq_true rfl) dX6_lotPrice_10 rfl (fun r3 σ2 h => ?_)
      refine z_istore_n (pc' := 14) (lv' := [(2, .int r3), (0, .ref (E.2.2 12 0)), (1, .int a0)]) C dX6_lotPrice_13 rfl (by decide) rfl rfl ?_
      refine z_iload_n (pc' := 15) C dX6_lotPrice_14 rfl 0 rfl rfl ?_
      refine z_bipush (v := (-2)) (pc' := 17) C dX6_lotPrice_15 (by decide) rfl ?_
      obtain ⟨ht, hf⟩ := h
      refine z_icmp_ne (tgt := 27) (pc' := 20) C dX6_lotPrice_17 (by decide) rfl (fun c4 => ?_) (fun c4 => ?_)
      · have h := ht c4
        refine z_aload_n (pc' := 28) C dX6_lotPrice_27 rfl 1 rfl rfl ?_
        refine zgX6_9 (pc' := 31) C zo12 dX6_lotPrice_28 rfl ?_
        refine z_iload_n (pc' := 32) C dX6_lotPrice_31 rfl 2 rfl rfl ?_
        obtain ⟨hv5, h⟩ := h
        refine z_iald (n := 10) (pc' := 33) C (zL_mem (by decide) zo13) (fun _ => rfl) hv5 dX6_lotPrice_32 rfl ?_
        refine z_aload_n (pc' := 34) C dX6_lotPrice_33 rfl 1 rfl rfl ?_
        refine zgX6_9 (pc' := 37) C zo12 dX6_lotPrice_34 rfl ?_
        refine z_iload_n (pc' := 38) C dX6_lotPrice_37 rfl 0 rfl rfl ?_
        obtain ⟨hv6, h⟩ := h
        refine z_iald (n := 10) (pc' := 39) C (zL_mem (by decide) zo13) (fun _ => rfl) hv6 dX6_lotPrice_38 rfl ?_
        refine z_aload_n (pc' := 40) C dX6_lotPrice_39 rfl 1 rfl rfl ?_
        refine zgX6_29 (pc' := 43) C zo12 dX6_lotPrice_40 rfl ?_
        refine z_iadd (pc' := 44) C dX6_lotPrice_43 rfl ?_
        refine z_mmin (pc' := 47) C zmX6_36 (Nat.le_of_ble_eq_true rfl) (Nat.le_of_ble_eq_true rfl) (Nat.zero_le _) (Nat.zero_le _) dX6_lotPrice_44 rfl ?_
        exact z_iret C dX6_lotPrice_47 h
      · have h := hf c4
        refine z_aload_n (pc' := 21) C dX6_lotPrice_20 rfl 1 rfl rfl ?_
        refine zgX6_29 (pc' := 24) C zo12 dX6_lotPrice_21 rfl ?_
        refine z_goto (tgt := 47) C dX6_lotPrice_24 (by decide) ?_
        exact z_iret C dX6_lotPrice_47 h
    · have h := hf c1
      refine z_iconst (v := 0) (pc' := 7) C dX6_lotPrice_6 (by decide) rfl ?_
      exact z_iret C dX6_lotPrice_7 h
  exact fin
def vc_X7_isRow (σ : zMem) (i : Nat) (Q : Int32 → zMem → Prop) : Prop := (((σ 8 i 0) = 3) → Q 1 σ) ∧ ((¬ (σ 8 i 0) = 3) → ((¬ (σ 8 i 0) = 4) → Q 0 σ) ∧ (((σ 8 i 0) = 4) → Q 1 σ))
set_option maxHeartbeats 4000000 in
set_option maxRecDepth 100000 in
theorem sc_X7_isRow (l : Launch) (E : zE) (σ : zMem) (i : Nat) (Q : Int32 → zMem → Prop) (hi : i < zcnt 8) (h : vc_X7_isRow σ i Q) : zMi l yX7_isRow cX7_isRow 1 .boolean 0 0 E [.ref (E.2.2 8 i)] σ Q := by
  refine zMi_of (by decide) (Nat.le_of_ble_eq_true rfl) ?_
  intro p e s m args below meth c C
  unfold vc_X7_isRow at h
  have fin : zG p l e (zRm 0 0) s m args below meth c 1 E 0 0 (MQ below (va_Qi Q (zPost E) (zA E s.heap.size)) args s 0 0 (zA E s.heap.size)) σ 0 [(0, .ref (E.2.2 8 i))] [] := by
    refine z_aload_n (pc' := 1) C dX7_isRow_0 rfl 0 rfl rfl ?_
    refine zgX7_9 (pc' := 4) C hi dX7_isRow_1 rfl ?_
    refine z_iconst (v := 3) (pc' := 5) C dX7_isRow_4 (by decide) rfl ?_
    obtain ⟨ht, hf⟩ := h
    refine z_icmp_eq (tgt := 16) (pc' := 8) C dX7_isRow_5 (by decide) rfl (fun c1 => ?_) (fun c1 => ?_)
    · have h := ht c1
      refine z_iconst (v := 1) (pc' := 17) C dX7_isRow_16 (by decide) rfl ?_
      refine z_goto (tgt := 21) C dX7_isRow_17 (by decide) ?_
      exact z_zret C rfl dX7_isRow_21 h
    · have h := hf c1
      refine z_aload_n (pc' := 9) C dX7_isRow_8 rfl 0 rfl rfl ?_
      refine zgX7_9 (pc' := 12) C hi dX7_isRow_9 rfl ?_
      refine z_iconst (v := 4) (pc' := 13) C dX7_isRow_12 (by decide) rfl ?_
      obtain ⟨ht, hf⟩ := h
      refine z_icmp_ne (tgt := 20) (pc' := 16) C dX7_isRow_13 (by decide) rfl (fun c2 => ?_) (fun c2 => ?_)
      · have h := ht c2
        refine z_iconst (v := 0) (pc' := 21) C dX7_isRow_20 (by decide) rfl ?_
        exact z_zret C rfl dX7_isRow_21 h
      · have h := hf c2
        refine z_iconst (v := 1) (pc' := 17) C dX7_isRow_16 (by decide) rfl ?_
        refine z_goto (tgt := 21) C dX7_isRow_17 (by decide) ?_
        exact z_zret C rfl dX7_isRow_21 h
  exact fin
def vc_J7_fill_53178_5 (i_0 : Nat) (x1 : Int32) (x3 : Int32) (Q : zMem → Prop) : Nat → zMem → Int32 → Prop
  | 0, _, _ => False
  | n + 1, σ, x2 => ((x3 ≤ x2) → Q σ) ∧ ((¬ x3 ≤ x2) → vp_in x2 60 ∧ vc_J7_fill_53178_5 i_0 x1 x3 Q n (um σ 9 i_0 x2.toNatClampNeg x1) (x2 + 1))
def vc_J7_fill_53178 (σ : zMem) (i0 : Nat) (a1 : Int32) (Q : zMem → Prop) : Prop := ∃ n1, vc_J7_fill_53178_5 i0 a1 60 Q n1 σ 0
set_option maxHeartbeats 4000000 in
set_option maxRecDepth 100000 in
theorem sl_J7_fill_53178_5 {p : Program} {l : Launch} {e : Env} {s : State} {m : MethodId} {args : Array Value} {below : List Frame} {meth : Method} {c : Code} {E : zE} (C : zX p s m args meth c cJ7_fill_53178 4 RJ7 none E) (i_0 : Nat) (x1 : Int32) (x3 : Int32) (Q : zMem → Prop) (hi_0 : i_0 < zcnt 9) : ∀ (n : Nat) (σ : zMem) (x2 : Int32), vc_J7_fill_53178_5 i_0 x1 x3 Q n σ x2 → zG p l e (zRm 0 0) s m args below meth c 4 E 0 0 (MQ below (va_Qv Q (zPost E) (zA E s.heap.size)) args s 0 0 (zA E s.heap.size)) σ 5 [(0, .ref (E.2.2 9 i_0)), (1, .int x1), (2, .int x2), (3, .int x3)] [] := by
  intro n
  induction n with
  | zero =>
    intro σ x2 h
    exact False.elim h
  | succ n ih =>
    intro σ x2 h
    rw [vc_J7_fill_53178_5] at h
    refine z_iload_n (pc' := 6) C dJ7_fill_53178_5 rfl 2 rfl rfl ?_
    refine z_iload_n (pc' := 7) C dJ7_fill_53178_6 rfl 3 rfl rfl ?_
    obtain ⟨ht, hf⟩ := h
    refine z_icmp_ge (tgt := 20) (pc' := 10) C dJ7_fill_53178_7 (by decide) rfl (fun c2 => ?_) (fun c2 => ?_)
    · have h := ht c2
      exact z_vret C dJ7_fill_53178_20 h
    · have h := hf c2
      refine z_aload_n (pc' := 11) C dJ7_fill_53178_10 rfl 0 rfl rfl ?_
      refine z_iload_n (pc' := 12) C dJ7_fill_53178_11 rfl 2 rfl rfl ?_
      refine z_iload_n (pc' := 13) C dJ7_fill_53178_12 rfl 1 rfl rfl ?_
      obtain ⟨hv3, h⟩ := h
      refine z_iast (n := 60) (pc' := 14) C (zL_mem (by decide) hi_0) (fun _ => rfl) hv3 dJ7_fill_53178_13 rfl ?_
      refine z_iinc (j := 2) (v := x2 + 1) (pc' := 17) (lv' := [(2, .int (x2 + 1)), (0, .ref (E.2.2 9 i_0)), (1, .int x1), (3, .int x3)]) C dJ7_fill_53178_14 rfl rfl (by decide) rfl rfl ?_
      refine z_goto (tgt := 5) C dJ7_fill_53178_17 (by decide) ?_
      refine z_sub (lv' := [(0, .ref (E.2.2 9 i_0)), (1, .int x1), (2, .int (x2 + 1)), (3, .int x3)]) [1, 2, 0, 3] rfl ?_
      exact ih _ _ h
set_option maxHeartbeats 4000000 in
set_option maxRecDepth 100000 in
theorem sc_J7_fill_53178 (l : Launch) (E : zE) (σ : zMem) (i0 : Nat) (a1 : Int32) (Q : zMem → Prop) (hi0 : i0 < zcnt 9) (h : vc_J7_fill_53178 σ i0 a1 Q) : zMv l yJ7_fill_53178 cJ7_fill_53178 4 0 0 E [.ref (E.2.2 9 i0), .int a1] σ Q := by
  refine zMv_of (by decide) (Nat.le_of_ble_eq_true rfl) ?_
  intro p e s m args below meth c C
  unfold vc_J7_fill_53178 at h
  have fin : zG p l e (zRm 0 0) s m args below meth c 4 E 0 0 (MQ below (va_Qv Q (zPost E) (zA E s.heap.size)) args s 0 0 (zA E s.heap.size)) σ 0 [(0, .ref (E.2.2 9 i0)), (1, .int a1)] [] := by
    refine z_iconst (v := 0) (pc' := 1) C dJ7_fill_53178_0 (by decide) rfl ?_
    refine z_istore_n (pc' := 2) (lv' := [(2, .int 0), (0, .ref (E.2.2 9 i0)), (1, .int a1)]) C dJ7_fill_53178_1 rfl (by decide) rfl rfl ?_
    refine z_aload_n (pc' := 3) C dJ7_fill_53178_2 rfl 1 rfl rfl ?_
    refine z_alen (n := 60) (t0 := 0) (v := 60) (pc' := 4) C (zL_mem (by decide) hi0) rfl rfl (by decide) dJ7_fill_53178_3 rfl ?_
    refine z_istore_n (pc' := 5) (lv' := [(3, .int 60), (2, .int 0), (0, .ref (E.2.2 9 i0)), (1, .int a1)]) C dJ7_fill_53178_4 rfl (by decide) rfl rfl ?_
    obtain ⟨n1, h⟩ := h
    refine z_sub (lv' := [(0, .ref (E.2.2 9 i0)), (1, .int a1), (2, .int 0), (3, .int 60)]) [2, 3, 1, 0] rfl ?_
    exact sl_J7_fill_53178_5 C i0 a1 60 Q hi0 n1 _ _ h
  exact fin
def vc_J7_fill_53178_17_5 (x1 : Int32) (x3 : Int32) (Q : zMem → Prop) : Nat → zMem → Int32 → Prop
  | 0, _, _ => False
  | n + 1, σ, x2 => ((x3 ≤ x2) → Q σ) ∧ ((¬ x3 ≤ x2) → vp_in x2 24 ∧ vc_J7_fill_53178_17_5 x1 x3 Q n (um σ 17 0 x2.toNatClampNeg x1) (x2 + 1))
def vc_J7_fill_53178_17 (σ : zMem) (a1 : Int32) (Q : zMem → Prop) : Prop := ∃ n1, vc_J7_fill_53178_17_5 a1 24 Q n1 σ 0
set_option maxHeartbeats 4000000 in
set_option maxRecDepth 100000 in
theorem sl_J7_fill_53178_17_5 {p : Program} {l : Launch} {e : Env} {s : State} {m : MethodId} {args : Array Value} {below : List Frame} {meth : Method} {c : Code} {E : zE} (C : zX p s m args meth c cJ7_fill_53178 4 RJ7 none E) (x1 : Int32) (x3 : Int32) (Q : zMem → Prop) : ∀ (n : Nat) (σ : zMem) (x2 : Int32), vc_J7_fill_53178_17_5 x1 x3 Q n σ x2 → zG p l e (zRm 0 0) s m args below meth c 4 E 0 0 (MQ below (va_Qv Q (zPost E) (zA E s.heap.size)) args s 0 0 (zA E s.heap.size)) σ 5 [(0, .ref (E.2.2 17 0)), (1, .int x1), (2, .int x2), (3, .int x3)] [] := by
  intro n
  induction n with
  | zero =>
    intro σ x2 h
    exact False.elim h
  | succ n ih =>
    intro σ x2 h
    rw [vc_J7_fill_53178_17_5] at h
    refine z_iload_n (pc' := 6) C dJ7_fill_53178_5 rfl 2 rfl rfl ?_
    refine z_iload_n (pc' := 7) C dJ7_fill_53178_6 rfl 3 rfl rfl ?_
    obtain ⟨ht, hf⟩ := h
    refine z_icmp_ge (tgt := 20) (pc' := 10) C dJ7_fill_53178_7 (by decide) rfl (fun c2 => ?_) (fun c2 => ?_)
    · have h := ht c2
      exact z_vret C dJ7_fill_53178_20 h
    · have h := hf c2
      refine z_aload_n (pc' := 11) C dJ7_fill_53178_10 rfl 0 rfl rfl ?_
      refine z_iload_n (pc' := 12) C dJ7_fill_53178_11 rfl 2 rfl rfl ?_
      refine z_iload_n (pc' := 13) C dJ7_fill_53178_12 rfl 1 rfl rfl ?_
      obtain ⟨hv3, h⟩ := h
      refine z_iast (n := 24) (pc' := 14) C (zL_mem (by decide) zo17) (fun _ => rfl) hv3 dJ7_fill_53178_13 rfl ?_
      refine z_iinc (j := 2) (v := x2 + 1) (pc' := 17) (lv' := [(2, .int (x2 + 1)), (0, .ref (E.2.2 17 0)), (1, .int x1), (3, .int x3)]) C dJ7_fill_53178_14 rfl rfl (by decide) rfl rfl ?_
      refine z_goto (tgt := 5) C dJ7_fill_53178_17 (by decide) ?_
      refine z_sub (lv' := [(0, .ref (E.2.2 17 0)), (1, .int x1), (2, .int (x2 + 1)), (3, .int x3)]) [1, 2, 0, 3] rfl ?_
      exact ih _ _ h
set_option maxHeartbeats 4000000 in
set_option maxRecDepth 100000 in
theorem sc_J7_fill_53178_17 (l : Launch) (E : zE) (σ : zMem) (a1 : Int32) (Q : zMem → Prop) (h : vc_J7_fill_53178_17 σ a1 Q) : zMv l yJ7_fill_53178 cJ7_fill_53178 4 0 0 E [.ref (E.2.2 17 0), .int a1] σ Q := by
  refine zMv_of (by decide) (Nat.le_of_ble_eq_true rfl) ?_
  intro p e s m args below meth c C
  unfold vc_J7_fill_53178_17 at h
  have fin : zG p l e (zRm 0 0) s m args below meth c 4 E 0 0 (MQ below (va_Qv Q (zPost E) (zA E s.heap.size)) args s 0 0 (zA E s.heap.size)) σ 0 [(0, .ref (E.2.2 17 0)), (1, .int a1)] [] := by
    refine z_iconst (v := 0) (pc' := 1) C dJ7_fill_53178_0 (by decide) rfl ?_
    refine z_istore_n (pc' := 2) (lv' := [(2, .int 0), (0, .ref (E.2.2 17 0)), (1, .int a1)]) C dJ7_fill_53178_1 rfl (by decide) rfl rfl ?_
    refine z_aload_n (pc' := 3) C dJ7_fill_53178_2 rfl 1 rfl rfl ?_
    refine z_alen (n := 24) (t0 := 0) (v := 24) (pc' := 4) C (zL_mem (by decide) zo17) rfl rfl (by decide) dJ7_fill_53178_3 rfl ?_
    refine z_istore_n (pc' := 5) (lv' := [(3, .int 24), (2, .int 0), (0, .ref (E.2.2 17 0)), (1, .int a1)]) C dJ7_fill_53178_4 rfl (by decide) rfl rfl ?_
    obtain ⟨n1, h⟩ := h
    refine z_sub (lv' := [(0, .ref (E.2.2 17 0)), (1, .int a1), (2, .int 0), (3, .int 24)]) [2, 3, 1, 0] rfl ?_
    exact sl_J7_fill_53178_17_5 C a1 24 Q n1 _ _ h
  exact fin
def vc_J7_fill_031fb_5 (i_0 : Nat) (x1 : Int32) (x3 : Int32) (Q : zMem → Prop) : Nat → zMem → Int32 → Prop
  | 0, _, _ => False
  | n + 1, σ, x2 => ((x3 ≤ x2) → Q σ) ∧ ((¬ x3 ≤ x2) → vp_in x2 60 ∧ vc_J7_fill_031fb_5 i_0 x1 x3 Q n (um σ 10 i_0 x2.toNatClampNeg (vp_nar .byte x1)) (x2 + 1))
def vc_J7_fill_031fb (σ : zMem) (i0 : Nat) (a1 : Int32) (Q : zMem → Prop) : Prop := ∃ n1, vc_J7_fill_031fb_5 i0 a1 60 Q n1 σ 0
set_option maxHeartbeats 4000000 in
set_option maxRecDepth 100000 in
theorem sl_J7_fill_031fb_5 {p : Program} {l : Launch} {e : Env} {s : State} {m : MethodId} {args : Array Value} {below : List Frame} {meth : Method} {c : Code} {E : zE} (C : zX p s m args meth c cJ7_fill_031fb 4 RJ7 none E) (i_0 : Nat) (x1 : Int32) (x3 : Int32) (Q : zMem → Prop) (hi_0 : i_0 < zcnt 10) : ∀ (n : Nat) (σ : zMem) (x2 : Int32), vc_J7_fill_031fb_5 i_0 x1 x3 Q n σ x2 → zG p l e (zRm 0 0) s m args below meth c 4 E 0 0 (MQ below (va_Qv Q (zPost E) (zA E s.heap.size)) args s 0 0 (zA E s.heap.size)) σ 5 [(0, .ref (E.2.2 10 i_0)), (1, .int x1), (2, .int x2), (3, .int x3)] [] := by
  intro n
  induction n with
  | zero =>
    intro σ x2 h
    exact False.elim h
  | succ n ih =>
    intro σ x2 h
    rw [vc_J7_fill_031fb_5] at h
    refine z_iload_n (pc' := 6) C dJ7_fill_031fb_5 rfl 2 rfl rfl ?_
    refine z_iload_n (pc' := 7) C dJ7_fill_031fb_6 rfl 3 rfl rfl ?_
    obtain ⟨ht, hf⟩ := h
    refine z_icmp_ge (tgt := 20) (pc' := 10) C dJ7_fill_031fb_7 (by decide) rfl (fun c2 => ?_) (fun c2 => ?_)
    · have h := ht c2
      exact z_vret C dJ7_fill_031fb_20 h
    · have h := hf c2
      refine z_aload_n (pc' := 11) C dJ7_fill_031fb_10 rfl 0 rfl rfl ?_
      refine z_iload_n (pc' := 12) C dJ7_fill_031fb_11 rfl 2 rfl rfl ?_
      refine z_iload_n (pc' := 13) C dJ7_fill_031fb_12 rfl 1 rfl rfl ?_
      obtain ⟨hv3, h⟩ := h
      refine z_bast (n := 60) (pc' := 14) C (zL_mem (by decide) hi_0) (fun _ => rfl) hv3 dJ7_fill_031fb_13 rfl ?_
      refine z_iinc (j := 2) (v := x2 + 1) (pc' := 17) (lv' := [(2, .int (x2 + 1)), (0, .ref (E.2.2 10 i_0)), (1, .int x1), (3, .int x3)]) C dJ7_fill_031fb_14 rfl rfl (by decide) rfl rfl ?_
      refine z_goto (tgt := 5) C dJ7_fill_031fb_17 (by decide) ?_
      refine z_sub (lv' := [(0, .ref (E.2.2 10 i_0)), (1, .int x1), (2, .int (x2 + 1)), (3, .int x3)]) [1, 2, 0, 3] rfl ?_
      exact ih _ _ h
set_option maxHeartbeats 4000000 in
set_option maxRecDepth 100000 in
theorem sc_J7_fill_031fb (l : Launch) (E : zE) (σ : zMem) (i0 : Nat) (a1 : Int32) (Q : zMem → Prop) (hi0 : i0 < zcnt 10) (h : vc_J7_fill_031fb σ i0 a1 Q) : zMv l yJ7_fill_031fb cJ7_fill_031fb 4 0 0 E [.ref (E.2.2 10 i0), .int a1] σ Q := by
  refine zMv_of (by decide) (Nat.le_of_ble_eq_true rfl) ?_
  intro p e s m args below meth c C
  unfold vc_J7_fill_031fb at h
  have fin : zG p l e (zRm 0 0) s m args below meth c 4 E 0 0 (MQ below (va_Qv Q (zPost E) (zA E s.heap.size)) args s 0 0 (zA E s.heap.size)) σ 0 [(0, .ref (E.2.2 10 i0)), (1, .int a1)] [] := by
    refine z_iconst (v := 0) (pc' := 1) C dJ7_fill_031fb_0 (by decide) rfl ?_
    refine z_istore_n (pc' := 2) (lv' := [(2, .int 0), (0, .ref (E.2.2 10 i0)), (1, .int a1)]) C dJ7_fill_031fb_1 rfl (by decide) rfl rfl ?_
    refine z_aload_n (pc' := 3) C dJ7_fill_031fb_2 rfl 1 rfl rfl ?_
    refine z_alen (n := 60) (t0 := 2) (v := 60) (pc' := 4) C (zL_mem (by decide) hi0) rfl rfl (by decide) dJ7_fill_031fb_3 rfl ?_
    refine z_istore_n (pc' := 5) (lv' := [(3, .int 60), (2, .int 0), (0, .ref (E.2.2 10 i0)), (1, .int a1)]) C dJ7_fill_031fb_4 rfl (by decide) rfl rfl ?_
    obtain ⟨n1, h⟩ := h
    refine z_sub (lv' := [(0, .ref (E.2.2 10 i0)), (1, .int a1), (2, .int 0), (3, .int 60)]) [2, 3, 1, 0] rfl ?_
    exact sl_J7_fill_031fb_5 C i0 a1 60 Q hi0 n1 _ _ h
  exact fin
def vc_X7_takeRow (σ : zMem) (i : Nat) (a0 : Int32) (a1 : Int32) (Q : zMem → Prop) : Prop := vc_J7_fill_53178 (um (um σ 8 i 0 a0) 8 i 6 a1) i 0 (fun σ1 => vc_J7_fill_031fb σ1 i 0 (fun σ2 => Q σ2))
set_option maxHeartbeats 4000000 in
set_option maxRecDepth 100000 in
theorem sc_X7_takeRow (l : Launch) (E : zE) (σ : zMem) (i : Nat) (a0 : Int32) (a1 : Int32) (Q : zMem → Prop) (hi : i < zcnt 8) (h : vc_X7_takeRow σ i a0 a1 Q) : zMv l yX7_takeRow cX7_takeRow 3 1 23 E [.ref (E.2.2 8 i), .int a0, .int a1] σ Q := by
  refine zMv_of (by decide) (Nat.le_of_ble_eq_true rfl) ?_
  intro p e s m args below meth c C
  unfold vc_X7_takeRow at h
  have fin : zG p l e (zRm 1 23) s m args below meth c 3 E 0 0 (MQ below (va_Qv Q (zPost E) (zA E s.heap.size)) args s 0 0 (zA E s.heap.size)) σ 0 [(0, .ref (E.2.2 8 i)), (1, .int a0), (2, .int a1)] [] := by
    refine z_aload_n (pc' := 1) C dX7_takeRow_0 rfl 0 rfl rfl ?_
    refine z_iload_n (pc' := 2) C dX7_takeRow_1 rfl 1 rfl rfl ?_
    refine zpX7_9 (pc' := 5) C hi dX7_takeRow_2 rfl ?_
    refine z_aload_n (pc' := 6) C dX7_takeRow_5 rfl 0 rfl rfl ?_
    refine z_iload_n (pc' := 7) C dX7_takeRow_6 rfl 2 rfl rfl ?_
    refine zpX7_27 (pc' := 10) C hi dX7_takeRow_7 rfl ?_
    refine z_aload_n (pc' := 11) C dX7_takeRow_10 rfl 0 rfl rfl ?_
    refine zgX7_15 (pc' := 14) C hi dX7_takeRow_11 rfl ?_
    refine z_iconst (v := 0) (pc' := 15) C dX7_takeRow_14 (by decide) rfl ?_
    refine z_callSv (pc' := 18) (st := []) (As := [.ref (E.2.2 9 i), .int 0]) C (sc_J7_fill_53178 l E (um (um σ 8 i 0 a0) 8 i 6 a1) i 0 _ hi h) zwX7_30_J7_fill_53178 ztX7_30_J7_fill_53178 ⟨(Nat.le_of_ble_eq_true rfl), (Nat.le_of_ble_eq_true rfl)⟩ ⟨Nat.zero_le _, Nat.zero_le _⟩ rfl rfl (Nat.le_of_ble_eq_true rfl) dX7_takeRow_15 rfl (fun σ1 h => ?_)
    refine z_aload_n (pc' := 19) C dX7_takeRow_18 rfl 0 rfl rfl ?_
    refine zgX7_19 (pc' := 22) C hi dX7_takeRow_19 rfl ?_
    refine z_iconst (v := 0) (pc' := 23) C dX7_takeRow_22 (by decide) rfl ?_
    refine z_callSv (pc' := 26) (st := []) (As := [.ref (E.2.2 10 i), .int 0]) C (sc_J7_fill_031fb l E σ1 i 0 _ hi h) zwX7_36_J7_fill_031fb ztX7_36_J7_fill_031fb ⟨(Nat.le_of_ble_eq_true rfl), (Nat.le_of_ble_eq_true rfl)⟩ ⟨Nat.zero_le _, Nat.zero_le _⟩ rfl rfl (Nat.le_of_ble_eq_true rfl) dX7_takeRow_23 rfl (fun σ2 h => ?_)
    exact z_vret C dX7_takeRow_26 h
  exact fin
end
