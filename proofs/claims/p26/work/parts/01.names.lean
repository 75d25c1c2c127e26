-- ===== PART A: goes FIRST, ahead of the names: the tables' words, and 'selects' of the private methods out of them =====
/-- a private method of a class that the tables say can be made, by its rows of tables_1 -/
def lw_okq (q : MethodName × Nat) : Prop := (q.1.cls ≠ "java/lang/invoke/MethodHandle" ∧ q.1.cls ≠ "java/lang/invoke/VarHandle") ∧ Cond.instantiable q.1.cls q.2 ∈ tables_1 ∧ Cond.privateMethod q.1 ∈ tables_1 ∧ Cond.instanceMethod q.1 ∈ tables_1
theorem lw_p0 : lw_okq (⟨"IslandBridges", "isCell", "(I)Z"⟩, 9) := ⟨⟨by decide +kernel, by decide +kernel⟩, List.mem_of_getElem? (i := 15) (by decide +kernel), List.mem_of_getElem? (i := 333) (by decide +kernel), List.mem_of_getElem? (i := 334) (by decide +kernel)⟩
theorem lw_p1 : lw_okq (⟨"IslandBridges$Sums", "addWay", "(II)V"⟩, 6) := ⟨⟨by decide +kernel, by decide +kernel⟩, List.mem_of_getElem? (i := 130) (by decide +kernel), List.mem_of_getElem? (i := 357) (by decide +kernel), List.mem_of_getElem? (i := 358) (by decide +kernel)⟩
theorem lw_p2 : lw_okq (⟨"IslandBridges$Groups", "join", "(II)V"⟩, 2) := ⟨⟨by decide +kernel, by decide +kernel⟩, List.mem_of_getElem? (i := 159) (by decide +kernel), List.mem_of_getElem? (i := 386) (by decide +kernel), List.mem_of_getElem? (i := 387) (by decide +kernel)⟩
theorem lw_p3 : lw_okq (⟨"IslandBridges$Groups", "leadersAheadOf", "(I)I"⟩, 2) := ⟨⟨by decide +kernel, by decide +kernel⟩, List.mem_of_getElem? (i := 159) (by decide +kernel), List.mem_of_getElem? (i := 400) (by decide +kernel), List.mem_of_getElem? (i := 401) (by decide +kernel)⟩
theorem lw_p4 : lw_okq (⟨"IslandBridges", "isWay", "(I)Z"⟩, 9) := ⟨⟨by decide +kernel, by decide +kernel⟩, List.mem_of_getElem? (i := 15) (by decide +kernel), List.mem_of_getElem? (i := 408) (by decide +kernel), List.mem_of_getElem? (i := 409) (by decide +kernel)⟩
theorem lw_p5 : lw_okq (⟨"IslandBridges", "reasonAgainst", "(I)I"⟩, 9) := ⟨⟨by decide +kernel, by decide +kernel⟩, List.mem_of_getElem? (i := 15) (by decide +kernel), List.mem_of_getElem? (i := 440) (by decide +kernel), List.mem_of_getElem? (i := 441) (by decide +kernel)⟩
theorem lw_p6 : lw_okq (⟨"IslandBridges", "allBridges", "()I"⟩, 9) := ⟨⟨by decide +kernel, by decide +kernel⟩, List.mem_of_getElem? (i := 15) (by decide +kernel), List.mem_of_getElem? (i := 459) (by decide +kernel), List.mem_of_getElem? (i := 460) (by decide +kernel)⟩
theorem lw_p7 : lw_okq (⟨"IslandBridges", "completeIslands", "()I"⟩, 9) := ⟨⟨by decide +kernel, by decide +kernel⟩, List.mem_of_getElem? (i := 15) (by decide +kernel), List.mem_of_getElem? (i := 463) (by decide +kernel), List.mem_of_getElem? (i := 464) (by decide +kernel)⟩
theorem lw_p8 : lw_okq (⟨"IslandBridges", "groupsInAll", "()I"⟩, 9) := ⟨⟨by decide +kernel, by decide +kernel⟩, List.mem_of_getElem? (i := 15) (by decide +kernel), List.mem_of_getElem? (i := 467) (by decide +kernel), List.mem_of_getElem? (i := 468) (by decide +kernel)⟩
theorem lw_p9 : lw_okq (⟨"IslandBridges", "isSolved", "()Z"⟩, 9) := ⟨⟨by decide +kernel, by decide +kernel⟩, List.mem_of_getElem? (i := 15) (by decide +kernel), List.mem_of_getElem? (i := 475) (by decide +kernel), List.mem_of_getElem? (i := 476) (by decide +kernel)⟩
theorem lw_p10 : lw_okq (⟨"IslandBridges", "isBroken", "()Z"⟩, 9) := ⟨⟨by decide +kernel, by decide +kernel⟩, List.mem_of_getElem? (i := 15) (by decide +kernel), List.mem_of_getElem? (i := 479) (by decide +kernel), List.mem_of_getElem? (i := 480) (by decide +kernel)⟩
theorem lw_p11 : lw_okq (⟨"IslandBridges", "allNumbers", "()I"⟩, 9) := ⟨⟨by decide +kernel, by decide +kernel⟩, List.mem_of_getElem? (i := 15) (by decide +kernel), List.mem_of_getElem? (i := 487) (by decide +kernel), List.mem_of_getElem? (i := 488) (by decide +kernel)⟩
theorem lw_p12 : lw_okq (⟨"IslandBridges$Reasoner", "isPossible", "(II)Z"⟩, 5) := ⟨⟨by decide +kernel, by decide +kernel⟩, List.mem_of_getElem? (i := 172) (by decide +kernel), List.mem_of_getElem? (i := 503) (by decide +kernel), List.mem_of_getElem? (i := 504) (by decide +kernel)⟩
theorem lw_p13 : lw_okq (⟨"IslandBridges$Sums", "leastBridgesFor", "(II)I"⟩, 6) := ⟨⟨by decide +kernel, by decide +kernel⟩, List.mem_of_getElem? (i := 130) (by decide +kernel), List.mem_of_getElem? (i := 514) (by decide +kernel), List.mem_of_getElem? (i := 515) (by decide +kernel)⟩
theorem lw_p14 : lw_okq (⟨"IslandBridges$Reasoner", "wouldCutOff", "(II)Z"⟩, 5) := ⟨⟨by decide +kernel, by decide +kernel⟩, List.mem_of_getElem? (i := 172) (by decide +kernel), List.mem_of_getElem? (i := 519) (by decide +kernel), List.mem_of_getElem? (i := 520) (by decide +kernel)⟩
theorem lw_p15 : lw_okq (⟨"IslandBridges$History", "stateAt", "(I)LIslandBridges$State;"⟩, 2) := ⟨⟨by decide +kernel, by decide +kernel⟩, List.mem_of_getElem? (i := 259) (by decide +kernel), List.mem_of_getElem? (i := 534) (by decide +kernel), List.mem_of_getElem? (i := 535) (by decide +kernel)⟩
def lw_privs_1 : List (MethodName × Nat) := [(⟨"IslandBridges", "isCell", "(I)Z"⟩, 9), (⟨"IslandBridges$Sums", "addWay", "(II)V"⟩, 6), (⟨"IslandBridges$Groups", "join", "(II)V"⟩, 2), (⟨"IslandBridges$Groups", "leadersAheadOf", "(I)I"⟩, 2), (⟨"IslandBridges", "isWay", "(I)Z"⟩, 9), (⟨"IslandBridges", "reasonAgainst", "(I)I"⟩, 9), (⟨"IslandBridges", "allBridges", "()I"⟩, 9), (⟨"IslandBridges", "completeIslands", "()I"⟩, 9), (⟨"IslandBridges", "groupsInAll", "()I"⟩, 9), (⟨"IslandBridges", "isSolved", "()Z"⟩, 9), (⟨"IslandBridges", "isBroken", "()Z"⟩, 9), (⟨"IslandBridges", "allNumbers", "()I"⟩, 9), (⟨"IslandBridges$Reasoner", "isPossible", "(II)Z"⟩, 5), (⟨"IslandBridges$Sums", "leastBridgesFor", "(II)I"⟩, 6), (⟨"IslandBridges$Reasoner", "wouldCutOff", "(II)Z"⟩, 5), (⟨"IslandBridges$History", "stateAt", "(I)LIslandBridges$State;"⟩, 2)]
theorem lw_r1 : ∀ q ∈ lw_privs_1, lw_okq q := List.forall_mem_cons.mpr ⟨lw_p0, List.forall_mem_cons.mpr ⟨lw_p1, List.forall_mem_cons.mpr ⟨lw_p2, List.forall_mem_cons.mpr ⟨lw_p3, List.forall_mem_cons.mpr ⟨lw_p4, List.forall_mem_cons.mpr ⟨lw_p5, List.forall_mem_cons.mpr ⟨lw_p6, List.forall_mem_cons.mpr ⟨lw_p7, List.forall_mem_cons.mpr ⟨lw_p8, List.forall_mem_cons.mpr ⟨lw_p9, List.forall_mem_cons.mpr ⟨lw_p10, List.forall_mem_cons.mpr ⟨lw_p11, List.forall_mem_cons.mpr ⟨lw_p12, List.forall_mem_cons.mpr ⟨lw_p13, List.forall_mem_cons.mpr ⟨lw_p14, List.forall_mem_cons.mpr ⟨lw_p15, fun _ h => absurd h List.not_mem_nil⟩⟩⟩⟩⟩⟩⟩⟩⟩⟩⟩⟩⟩⟩⟩⟩
theorem lw_p16 : lw_okq (⟨"IslandBridges$Layout", "readIslands", "(LIslandBridges$State;)V"⟩, 11) := ⟨⟨by decide +kernel, by decide +kernel⟩, List.mem_of_getElem? (i := 80) (by decide +kernel), List.mem_of_getElem? (i := 549) (by decide +kernel), List.mem_of_getElem? (i := 550) (by decide +kernel)⟩
theorem lw_p17 : lw_okq (⟨"IslandBridges$Layout", "readWays", "(II)V"⟩, 11) := ⟨⟨by decide +kernel, by decide +kernel⟩, List.mem_of_getElem? (i := 80) (by decide +kernel), List.mem_of_getElem? (i := 555) (by decide +kernel), List.mem_of_getElem? (i := 556) (by decide +kernel)⟩
theorem lw_p18 : lw_okq (⟨"IslandBridges$Layout", "nextIsland", "(III)I"⟩, 11) := ⟨⟨by decide +kernel, by decide +kernel⟩, List.mem_of_getElem? (i := 80) (by decide +kernel), List.mem_of_getElem? (i := 560) (by decide +kernel), List.mem_of_getElem? (i := 561) (by decide +kernel)⟩
theorem lw_p19 : lw_okq (⟨"IslandBridges$Layout", "addWay", "(III)V"⟩, 11) := ⟨⟨by decide +kernel, by decide +kernel⟩, List.mem_of_getElem? (i := 80) (by decide +kernel), List.mem_of_getElem? (i := 565) (by decide +kernel), List.mem_of_getElem? (i := 566) (by decide +kernel)⟩
theorem lw_p20 : lw_okq (⟨"IslandBridges$Layout", "readCrossings", "(I)V"⟩, 11) := ⟨⟨by decide +kernel, by decide +kernel⟩, List.mem_of_getElem? (i := 80) (by decide +kernel), List.mem_of_getElem? (i := 570) (by decide +kernel), List.mem_of_getElem? (i := 571) (by decide +kernel)⟩
theorem lw_p21 : lw_okq (⟨"IslandBridges$Layout", "doCross", "(III)Z"⟩, 11) := ⟨⟨by decide +kernel, by decide +kernel⟩, List.mem_of_getElem? (i := 80) (by decide +kernel), List.mem_of_getElem? (i := 574) (by decide +kernel), List.mem_of_getElem? (i := 575) (by decide +kernel)⟩
theorem lw_p22 : lw_okq (⟨"IslandBridges$History", "dropOldest", "()V"⟩, 2) := ⟨⟨by decide +kernel, by decide +kernel⟩, List.mem_of_getElem? (i := 259) (by decide +kernel), List.mem_of_getElem? (i := 619) (by decide +kernel), List.mem_of_getElem? (i := 620) (by decide +kernel)⟩
theorem lw_p23 : lw_okq (⟨"IslandBridges$History", "putState", "(ILIslandBridges$State;)V"⟩, 2) := ⟨⟨by decide +kernel, by decide +kernel⟩, List.mem_of_getElem? (i := 259) (by decide +kernel), List.mem_of_getElem? (i := 623) (by decide +kernel), List.mem_of_getElem? (i := 624) (by decide +kernel)⟩
theorem lw_p24 : lw_okq (⟨"IslandBridges", "renewWays", "()V"⟩, 9) := ⟨⟨by decide +kernel, by decide +kernel⟩, List.mem_of_getElem? (i := 15) (by decide +kernel), List.mem_of_getElem? (i := 628) (by decide +kernel), List.mem_of_getElem? (i := 629) (by decide +kernel)⟩
theorem lw_p25 : lw_okq (⟨"IslandBridges$Maker", "draw", "(I)I"⟩, 7) := ⟨⟨by decide +kernel, by decide +kernel⟩, List.mem_of_getElem? (i := 231) (by decide +kernel), List.mem_of_getElem? (i := 683) (by decide +kernel), List.mem_of_getElem? (i := 684) (by decide +kernel)⟩
theorem lw_p26 : lw_okq (⟨"IslandBridges$Maker", "addIsland", "(I)V"⟩, 7) := ⟨⟨by decide +kernel, by decide +kernel⟩, List.mem_of_getElem? (i := 231) (by decide +kernel), List.mem_of_getElem? (i := 688) (by decide +kernel), List.mem_of_getElem? (i := 689) (by decide +kernel)⟩
theorem lw_p27 : lw_okq (⟨"IslandBridges$Maker", "tryIsland", "()V"⟩, 7) := ⟨⟨by decide +kernel, by decide +kernel⟩, List.mem_of_getElem? (i := 231) (by decide +kernel), List.mem_of_getElem? (i := 693) (by decide +kernel), List.mem_of_getElem? (i := 694) (by decide +kernel)⟩
theorem lw_p28 : lw_okq (⟨"IslandBridges$Maker", "isOnBoard", "(IZI)Z"⟩, 7) := ⟨⟨by decide +kernel, by decide +kernel⟩, List.mem_of_getElem? (i := 231) (by decide +kernel), List.mem_of_getElem? (i := 697) (by decide +kernel), List.mem_of_getElem? (i := 698) (by decide +kernel)⟩
def lw_privs_2 : List (MethodName × Nat) := [(⟨"IslandBridges$Layout", "readIslands", "(LIslandBridges$State;)V"⟩, 11), (⟨"IslandBridges$Layout", "readWays", "(II)V"⟩, 11), (⟨"IslandBridges$Layout", "nextIsland", "(III)I"⟩, 11), (⟨"IslandBridges$Layout", "addWay", "(III)V"⟩, 11), (⟨"IslandBridges$Layout", "readCrossings", "(I)V"⟩, 11), (⟨"IslandBridges$Layout", "doCross", "(III)Z"⟩, 11), (⟨"IslandBridges$History", "dropOldest", "()V"⟩, 2), (⟨"IslandBridges$History", "putState", "(ILIslandBridges$State;)V"⟩, 2), (⟨"IslandBridges", "renewWays", "()V"⟩, 9), (⟨"IslandBridges$Maker", "draw", "(I)I"⟩, 7), (⟨"IslandBridges$Maker", "addIsland", "(I)V"⟩, 7), (⟨"IslandBridges$Maker", "tryIsland", "()V"⟩, 7), (⟨"IslandBridges$Maker", "isOnBoard", "(IZI)Z"⟩, 7)]
theorem lw_r2 : ∀ q ∈ lw_privs_2, lw_okq q := List.forall_mem_cons.mpr ⟨lw_p16, List.forall_mem_cons.mpr ⟨lw_p17, List.forall_mem_cons.mpr ⟨lw_p18, List.forall_mem_cons.mpr ⟨lw_p19, List.forall_mem_cons.mpr ⟨lw_p20, List.forall_mem_cons.mpr ⟨lw_p21, List.forall_mem_cons.mpr ⟨lw_p22, List.forall_mem_cons.mpr ⟨lw_p23, List.forall_mem_cons.mpr ⟨lw_p24, List.forall_mem_cons.mpr ⟨lw_p25, List.forall_mem_cons.mpr ⟨lw_p26, List.forall_mem_cons.mpr ⟨lw_p27, List.forall_mem_cons.mpr ⟨lw_p28, fun _ h => absurd h List.not_mem_nil⟩⟩⟩⟩⟩⟩⟩⟩⟩⟩⟩⟩⟩
def lw_privs : List (MethodName × Nat) := lw_privs_1 ++ (lw_privs_2)
def lw_tbl : List Cond := k2_sels lw_privs ++ tables_1
theorem lw_privs_ok : ∀ q ∈ lw_privs, lw_okq q := by
  show ∀ q ∈ lw_privs_1 ++ (lw_privs_2), lw_okq q
  exact List.forall_mem_append.mpr ⟨lw_r1, lw_r2⟩
/-! ===== BEGIN words of one list among another's, by their places ===== -/
theorem goodIn_r {big : List Cond} (ws : List Cond) (ps : List Nat) (hp : ws = ps.filterMap (fun i => big[i]?)) (h : ws.all goodWord = true) : GoodIn big ws := by
  intro w hw
  have h1 := List.all_eq_true.mp h w hw
  rw [hp] at hw
  obtain ⟨i, -, hi⟩ := List.mem_filterMap.mp hw
  have hm : w ∈ big := by first | exact List.mem_of_getElem? hi | exact List.getElem?_mem hi
  exact ⟨hm, good_of_word h1⟩
theorem goodIn_app {big a b : List Cond} (ha : GoodIn big a) (hb : GoodIn big b) : GoodIn big (a ++ b) := fun w h => (List.mem_append.mp h).elim (ha w) (hb w)
theorem goodIn_ca {big a b : List Cond} {c : Cond} (ha : GoodIn big (c :: a)) (hb : GoodIn big b) : GoodIn big (c :: (a ++ b)) := fun w h => (List.mem_cons.mp h).elim (fun e => ha w (List.mem_cons.mpr (Or.inl e))) (fun h => (List.mem_append.mp h).elim (fun h => ha w (List.mem_cons.mpr (Or.inr h))) (hb w))
theorem goodIn_sub {big ws : List Cond} (hm : ∀ w ∈ ws, w ∈ big) (h : ws.all goodWord = true) : GoodIn big ws := fun w hw => ⟨hm w hw, good_of_word (List.all_eq_true.mp h w hw)⟩
/-! ===== END ===== -/
/-! ===== BEGIN printed: names, fields, word lists, decode rows ===== -/
def RX0 : String := "IslandBridges$Groups"
def TX0 : u_T := fun k => match k with
  | 0 => ("IslandBridges$Groups", "layout", "LIslandBridges$Layout;", true)
  | _ => ("IslandBridges$Groups", "leaders", "[I", true)
def tyX0 : Nat → FieldType := fun k => match k with
  | 0 => .object "IslandBridges$Layout"
  | _ => .array .int
abbrev wsX00 : List Cond := u_ws RX0 TX0 2
theorem nmX0 : ∀ a, a < 2 → ∀ b, b < 2 → a ≠ b → (TX0 a).2.1 ≠ (TX0 b).2.1 := by decide +kernel
theorem tyX0_ok : ∀ k, k < 2 → parseFieldDescriptor (TX0 k).2.2.1 = some (tyX0 k) := by decide +kernel
abbrev cX0_init : ByteArray := prog_2_method_1_code
def yX0_init : MethodName := ⟨RX0, "<init>", "(LIslandBridges$Layout;)V"⟩
abbrev cX0_read : ByteArray := prog_2_method_2_code
def yX0_read : MethodName := ⟨RX0, "read", "([I)V"⟩
abbrev cX0_leader : ByteArray := prog_2_method_3_code
def yX0_leader : MethodName := ⟨RX0, "leader", "(I)I"⟩
abbrev cX0_join : ByteArray := prog_2_method_4_code
def yX0_join : MethodName := ⟨RX0, "join", "(II)V"⟩
abbrev cX0_total : ByteArray := prog_2_method_5_code
def yX0_total : MethodName := ⟨RX0, "total", "()I"⟩
abbrev cX0_numberOf : ByteArray := prog_2_method_6_code
def yX0_numberOf : MethodName := ⟨RX0, "numberOf", "(I)I"⟩
abbrev cX0_leadersAheadOf : ByteArray := prog_2_method_7_code
def yX0_leadersAheadOf : MethodName := ⟨RX0, "leadersAheadOf", "(I)I"⟩
def RX1 : String := "IslandBridges$History"
def TX1 : u_T := fun k => match k with
  | 0 => ("IslandBridges$History", "states", "[LIslandBridges$State;", true)
  | _ => ("IslandBridges$History", "size", "I", false)
def tyX1 : Nat → FieldType := fun k => match k with
  | 0 => .array (.object "IslandBridges$State")
  | _ => .int
abbrev wsX10 : List Cond := u_ws RX1 TX1 2
theorem nmX1 : ∀ a, a < 2 → ∀ b, b < 2 → a ≠ b → (TX1 a).2.1 ≠ (TX1 b).2.1 := by decide +kernel
theorem tyX1_ok : ∀ k, k < 2 → parseFieldDescriptor (TX1 k).2.2.1 = some (tyX1 k) := by decide +kernel
abbrev cX1_init : ByteArray := prog_3_method_1_code
def yX1_init : MethodName := ⟨RX1, "<init>", "()V"⟩
abbrev cX1_record : ByteArray := prog_3_method_2_code
def yX1_record : MethodName := ⟨RX1, "record", "(LIslandBridges$State;)V"⟩
abbrev cX1_restore : ByteArray := prog_3_method_3_code
def yX1_restore : MethodName := ⟨RX1, "restore", "(LIslandBridges$State;)V"⟩
abbrev cX1_stateAt : ByteArray := prog_3_method_4_code
def yX1_stateAt : MethodName := ⟨RX1, "stateAt", "(I)LIslandBridges$State;"⟩
abbrev cX1_putState : ByteArray := prog_3_method_5_code
def yX1_putState : MethodName := ⟨RX1, "putState", "(ILIslandBridges$State;)V"⟩
abbrev cX1_dropOldest : ByteArray := prog_3_method_6_code
def yX1_dropOldest : MethodName := ⟨RX1, "dropOldest", "()V"⟩
def RX2 : String := "IslandBridges$Layout"
def TX2 : u_T := fun k => match k with
  | 0 => ("IslandBridges$Layout", "cellOf", "[I", true)
  | 1 => ("IslandBridges$Layout", "islandAfter", "[I", true)
  | 2 => ("IslandBridges$Layout", "firstOf", "[I", true)
  | 3 => ("IslandBridges$Layout", "secondOf", "[I", true)
  | 4 => ("IslandBridges$Layout", "firstCellOf", "[I", true)
  | 5 => ("IslandBridges$Layout", "secondCellOf", "[I", true)
  | 6 => ("IslandBridges$Layout", "strideOf", "[I", true)
  | 7 => ("IslandBridges$Layout", "waysOf", "[I", true)
  | 8 => ("IslandBridges$Layout", "crossings", "[J", true)
  | 9 => ("IslandBridges$Layout", "islands", "I", false)
  | _ => ("IslandBridges$Layout", "ways", "I", false)
def tyX2 : Nat → FieldType := fun k => match k with
  | 0 => .array .int
  | 1 => .array .int
  | 2 => .array .int
  | 3 => .array .int
  | 4 => .array .int
  | 5 => .array .int
  | 6 => .array .int
  | 7 => .array .int
  | 8 => .array .long
  | 9 => .int
  | _ => .int
abbrev wsX20 : List Cond := u_ws RX2 TX2 11
theorem nmX2 : ∀ a, a < 11 → ∀ b, b < 11 → a ≠ b → (TX2 a).2.1 ≠ (TX2 b).2.1 := by decide +kernel
theorem tyX2_ok : ∀ k, k < 11 → parseFieldDescriptor (TX2 k).2.2.1 = some (tyX2 k) := by decide +kernel
abbrev cX2_init : ByteArray := prog_4_method_1_code
def yX2_init : MethodName := ⟨RX2, "<init>", "()V"⟩
abbrev cX2_read : ByteArray := prog_4_method_2_code
def yX2_read : MethodName := ⟨RX2, "read", "(LIslandBridges$State;)V"⟩
abbrev cX2_cellOf : ByteArray := prog_4_method_3_code
def yX2_cellOf : MethodName := ⟨RX2, "cellOf", "(I)I"⟩
abbrev cX2_islandOn : ByteArray := prog_4_method_4_code
def yX2_islandOn : MethodName := ⟨RX2, "islandOn", "(I)I"⟩
abbrev cX2_first : ByteArray := prog_4_method_5_code
def yX2_first : MethodName := ⟨RX2, "first", "(I)I"⟩
abbrev cX2_second : ByteArray := prog_4_method_6_code
def yX2_second : MethodName := ⟨RX2, "second", "(I)I"⟩
abbrev cX2_firstCell : ByteArray := prog_4_method_7_code
def yX2_firstCell : MethodName := ⟨RX2, "firstCell", "(I)I"⟩
abbrev cX2_secondCell : ByteArray := prog_4_method_8_code
def yX2_secondCell : MethodName := ⟨RX2, "secondCell", "(I)I"⟩
abbrev cX2_isAlongRow : ByteArray := prog_4_method_9_code
def yX2_isAlongRow : MethodName := ⟨RX2, "isAlongRow", "(I)Z"⟩
abbrev cX2_cellsBetween : ByteArray := prog_4_method_10_code
def yX2_cellsBetween : MethodName := ⟨RX2, "cellsBetween", "(I)I"⟩
abbrev cX2_isOver : ByteArray := prog_4_method_11_code
def yX2_isOver : MethodName := ⟨RX2, "isOver", "(II)Z"⟩
abbrev cX2_crossingsOf : ByteArray := prog_4_method_12_code
def yX2_crossingsOf : MethodName := ⟨RX2, "crossingsOf", "(I)J"⟩
abbrev cX2_waysWith : ByteArray := prog_4_method_13_code
def yX2_waysWith : MethodName := ⟨RX2, "waysWith", "([I)J"⟩
abbrev cX2_readIslands : ByteArray := prog_4_method_14_code
def yX2_readIslands : MethodName := ⟨RX2, "readIslands", "(LIslandBridges$State;)V"⟩
abbrev cX2_readWays : ByteArray := prog_4_method_15_code
def yX2_readWays : MethodName := ⟨RX2, "readWays", "(II)V"⟩
abbrev cX2_nextIsland : ByteArray := prog_4_method_16_code
def yX2_nextIsland : MethodName := ⟨RX2, "nextIsland", "(III)I"⟩
abbrev cX2_addWay : ByteArray := prog_4_method_17_code
def yX2_addWay : MethodName := ⟨RX2, "addWay", "(III)V"⟩
abbrev cX2_readCrossings : ByteArray := prog_4_method_18_code
def yX2_readCrossings : MethodName := ⟨RX2, "readCrossings", "(I)V"⟩
abbrev cX2_doCross : ByteArray := prog_4_method_19_code
def yX2_doCross : MethodName := ⟨RX2, "doCross", "(III)Z"⟩
def RX3 : String := "IslandBridges$Maker"
def TX3 : u_T := fun k => match k with
  | 0 => ("IslandBridges$Maker", "taken", "[I", true)
  | 1 => ("IslandBridges$Maker", "numbers", "[I", true)
  | 2 => ("IslandBridges$Maker", "cellOf", "[I", true)
  | 3 => ("IslandBridges$Maker", "columns", "I", false)
  | 4 => ("IslandBridges$Maker", "rows", "I", false)
  | 5 => ("IslandBridges$Maker", "islands", "I", false)
  | _ => ("IslandBridges$Maker", "z", "I", false)
def tyX3 : Nat → FieldType := fun k => match k with
  | 0 => .array .int
  | 1 => .array .int
  | 2 => .array .int
  | 3 => .int
  | 4 => .int
  | 5 => .int
  | _ => .int
abbrev wsX30 : List Cond := u_ws RX3 TX3 7
theorem nmX3 : ∀ a, a < 7 → ∀ b, b < 7 → a ≠ b → (TX3 a).2.1 ≠ (TX3 b).2.1 := by decide +kernel
theorem tyX3_ok : ∀ k, k < 7 → parseFieldDescriptor (TX3 k).2.2.1 = some (tyX3 k) := by decide +kernel
abbrev cX3_init : ByteArray := prog_5_method_1_code
def yX3_init : MethodName := ⟨RX3, "<init>", "()V"⟩
abbrev cX3_run : ByteArray := prog_5_method_2_code
def yX3_run : MethodName := ⟨RX3, "run", "(IIII)V"⟩
abbrev cX3_giveNumbersTo : ByteArray := prog_5_method_3_code
def yX3_giveNumbersTo : MethodName := ⟨RX3, "giveNumbersTo", "(LIslandBridges$State;)V"⟩
abbrev cX3_draw : ByteArray := prog_5_method_4_code
def yX3_draw : MethodName := ⟨RX3, "draw", "(I)I"⟩
abbrev cX3_tryIsland : ByteArray := prog_5_method_5_code
def yX3_tryIsland : MethodName := ⟨RX3, "tryIsland", "()V"⟩
abbrev cX3_isOnBoard : ByteArray := prog_5_method_6_code
def yX3_isOnBoard : MethodName := ⟨RX3, "isOnBoard", "(IZI)Z"⟩
abbrev cX3_addIsland : ByteArray := prog_5_method_7_code
def yX3_addIsland : MethodName := ⟨RX3, "addIsland", "(I)V"⟩
def RX4 : String := "IslandBridges$Reasoner"
def TX4 : u_T := fun k => match k with
  | 0 => ("IslandBridges$Reasoner", "state", "LIslandBridges$State;", true)
  | 1 => ("IslandBridges$Reasoner", "layout", "LIslandBridges$Layout;", true)
  | 2 => ("IslandBridges$Reasoner", "sums", "LIslandBridges$Sums;", true)
  | 3 => ("IslandBridges$Reasoner", "groups", "LIslandBridges$Groups;", true)
  | _ => ("IslandBridges$Reasoner", "built", "J", false)
def tyX4 : Nat → FieldType := fun k => match k with
  | 0 => .object "IslandBridges$State"
  | 1 => .object "IslandBridges$Layout"
  | 2 => .object "IslandBridges$Sums"
  | 3 => .object "IslandBridges$Groups"
  | _ => .long
abbrev wsX40 : List Cond := u_ws RX4 TX4 5
theorem nmX4 : ∀ a, a < 5 → ∀ b, b < 5 → a ≠ b → (TX4 a).2.1 ≠ (TX4 b).2.1 := by decide +kernel
theorem tyX4_ok : ∀ k, k < 5 → parseFieldDescriptor (TX4 k).2.2.1 = some (tyX4 k) := by decide +kernel
abbrev cX4_init : ByteArray := prog_6_method_1_code
def yX4_init : MethodName := ⟨RX4, "<init>", "(LIslandBridges$State;LIslandBridges$Layout;LIslandBridges$Sums;LIslandBridges$Groups;)V"⟩
abbrev cX4_find : ByteArray := prog_6_method_2_code
def yX4_find : MethodName := ⟨RX4, "find", "()I"⟩
abbrev cX4_carryOut : ByteArray := prog_6_method_3_code
def yX4_carryOut : MethodName := ⟨RX4, "carryOut", "(I)V"⟩
abbrev cX4_isPossible : ByteArray := prog_6_method_4_code
def yX4_isPossible : MethodName := ⟨RX4, "isPossible", "(II)Z"⟩
abbrev cX4_wouldCutOff : ByteArray := prog_6_method_5_code
def yX4_wouldCutOff : MethodName := ⟨RX4, "wouldCutOff", "(II)Z"⟩
def RX5 : String := "IslandBridges$Search"
def TX5 : u_T := fun k => match k with
  | 0 => ("IslandBridges$Search", "state", "LIslandBridges$State;", true)
  | 1 => ("IslandBridges$Search", "layout", "LIslandBridges$Layout;", true)
  | 2 => ("IslandBridges$Search", "groups", "LIslandBridges$Groups;", true)
  | 3 => ("IslandBridges$Search", "bridges", "[I", true)
  | 4 => ("IslandBridges$Search", "lacks", "[I", true)
  | 5 => ("IslandBridges$Search", "open", "[I", true)
  | 6 => ("IslandBridges$Search", "built", "J", false)
  | 7 => ("IslandBridges$Search", "most", "I", false)
  | 8 => ("IslandBridges$Search", "watched", "I", false)
  | 9 => ("IslandBridges$Search", "found", "I", false)
  | 10 => ("IslandBridges$Search", "common", "I", false)
  | _ => ("IslandBridges$Search", "differs", "Z", false)
def tyX5 : Nat → FieldType := fun k => match k with
  | 0 => .object "IslandBridges$State"
  | 1 => .object "IslandBridges$Layout"
  | 2 => .object "IslandBridges$Groups"
  | 3 => .array .int
  | 4 => .array .int
  | 5 => .array .int
  | 6 => .long
  | 7 => .int
  | 8 => .int
  | 9 => .int
  | 10 => .int
  | _ => .boolean
abbrev wsX50 : List Cond := u_ws RX5 TX5 12
theorem nmX5 : ∀ a, a < 12 → ∀ b, b < 12 → a ≠ b → (TX5 a).2.1 ≠ (TX5 b).2.1 := by decide +kernel
theorem tyX5_ok : ∀ k, k < 12 → parseFieldDescriptor (TX5 k).2.2.1 = some (tyX5 k) := by decide +kernel
abbrev cX5_init : ByteArray := prog_7_method_1_code
def yX5_init : MethodName := ⟨RX5, "<init>", "(LIslandBridges$State;LIslandBridges$Layout;LIslandBridges$Groups;)V"⟩
def RX6 : String := "IslandBridges$State"
def TX6 : u_T := fun k => match k with
  | 0 => ("IslandBridges$State", "numbers", "[I", true)
  | 1 => ("IslandBridges$State", "bridges", "[I", true)
  | 2 => ("IslandBridges$State", "caps", "[I", true)
  | 3 => ("IslandBridges$State", "columns", "I", false)
  | 4 => ("IslandBridges$State", "rows", "I", false)
  | 5 => ("IslandBridges$State", "grade", "I", false)
  | _ => ("IslandBridges$State", "stepsMade", "I", false)
def tyX6 : Nat → FieldType := fun k => match k with
  | 0 => .array .int
  | 1 => .array .int
  | 2 => .array .int
  | 3 => .int
  | 4 => .int
  | 5 => .int
  | _ => .int
abbrev wsX60 : List Cond := u_ws RX6 TX6 7
theorem nmX6 : ∀ a, a < 7 → ∀ b, b < 7 → a ≠ b → (TX6 a).2.1 ≠ (TX6 b).2.1 := by decide +kernel
theorem tyX6_ok : ∀ k, k < 7 → parseFieldDescriptor (TX6 k).2.2.1 = some (tyX6 k) := by decide +kernel
abbrev cX6_init : ByteArray := prog_8_method_1_code
def yX6_init : MethodName := ⟨RX6, "<init>", "()V"⟩
abbrev cX6_cells : ByteArray := prog_8_method_2_code
def yX6_cells : MethodName := ⟨RX6, "cells", "()I"⟩
abbrev cX6_empty : ByteArray := prog_8_method_3_code
def yX6_empty : MethodName := ⟨RX6, "empty", "(II)V"⟩
abbrev cX6_takeAllBridges : ByteArray := prog_8_method_4_code
def yX6_takeAllBridges : MethodName := ⟨RX6, "takeAllBridges", "()V"⟩
abbrev cX6_becomeLike : ByteArray := prog_8_method_5_code
def yX6_becomeLike : MethodName := ⟨RX6, "becomeLike", "(LIslandBridges$State;)V"⟩
def RX7 : String := "IslandBridges$Sums"
def TX7 : u_T := fun k => match k with
  | 0 => ("IslandBridges$Sums", "state", "LIslandBridges$State;", true)
  | 1 => ("IslandBridges$Sums", "layout", "LIslandBridges$Layout;", true)
  | 2 => ("IslandBridges$Sums", "numbers", "[I", true)
  | 3 => ("IslandBridges$Sums", "bridges", "[I", true)
  | 4 => ("IslandBridges$Sums", "caps", "[I", true)
  | _ => ("IslandBridges$Sums", "lacks", "[I", true)
def tyX7 : Nat → FieldType := fun k => match k with
  | 0 => .object "IslandBridges$State"
  | 1 => .object "IslandBridges$Layout"
  | 2 => .array .int
  | 3 => .array .int
  | 4 => .array .int
  | _ => .array .int
abbrev wsX70 : List Cond := u_ws RX7 TX7 6
theorem nmX7 : ∀ a, a < 6 → ∀ b, b < 6 → a ≠ b → (TX7 a).2.1 ≠ (TX7 b).2.1 := by decide +kernel
theorem tyX7_ok : ∀ k, k < 6 → parseFieldDescriptor (TX7 k).2.2.1 = some (tyX7 k) := by decide +kernel
abbrev cX7_init : ByteArray := prog_9_method_1_code
def yX7_init : MethodName := ⟨RX7, "<init>", "(LIslandBridges$State;LIslandBridges$Layout;)V"⟩
abbrev cX7_read : ByteArray := prog_9_method_2_code
def yX7_read : MethodName := ⟨RX7, "read", "()V"⟩
abbrev cX7_addWay : ByteArray := prog_9_method_3_code
def yX7_addWay : MethodName := ⟨RX7, "addWay", "(II)V"⟩
abbrev cX7_areBroken : ByteArray := prog_9_method_4_code
def yX7_areBroken : MethodName := ⟨RX7, "areBroken", "()Z"⟩
abbrev cX7_lesserLack : ByteArray := prog_9_method_5_code
def yX7_lesserLack : MethodName := ⟨RX7, "lesserLack", "(I)I"⟩
abbrev cX7_leastBridges : ByteArray := prog_9_method_6_code
def yX7_leastBridges : MethodName := ⟨RX7, "leastBridges", "(I)I"⟩
abbrev cX7_leastBridgesFor : ByteArray := prog_9_method_7_code
def yX7_leastBridgesFor : MethodName := ⟨RX7, "leastBridgesFor", "(II)I"⟩
def RX8 : String := "IslandBridges$Text"
def TX8 : u_T := fun k => match k with
  | 0 => ("IslandBridges$Text", "characters", "[I", true)
  | 1 => ("IslandBridges$Text", "length", "I", false)
  | 2 => ("IslandBridges$Text", "columns", "I", false)
  | 3 => ("IslandBridges$Text", "rows", "I", false)
  | 4 => ("IslandBridges$Text", "inRow", "I", false)
  | 5 => ("IslandBridges$Text", "islands", "I", false)
  | 6 => ("IslandBridges$Text", "faultIndex", "I", false)
  | _ => ("IslandBridges$Text", "faultReason", "I", false)
def tyX8 : Nat → FieldType := fun k => match k with
  | 0 => .array .int
  | 1 => .int
  | 2 => .int
  | 3 => .int
  | 4 => .int
  | 5 => .int
  | 6 => .int
  | _ => .int
abbrev wsX80 : List Cond := u_ws RX8 TX8 8
theorem nmX8 : ∀ a, a < 8 → ∀ b, b < 8 → a ≠ b → (TX8 a).2.1 ≠ (TX8 b).2.1 := by decide +kernel
theorem tyX8_ok : ∀ k, k < 8 → parseFieldDescriptor (TX8 k).2.2.1 = some (tyX8 k) := by decide +kernel
abbrev cX8_init : ByteArray := prog_10_method_1_code
def yX8_init : MethodName := ⟨RX8, "<init>", "()V"⟩
def RX9 : String := "IslandBridges"
def TX9 : u_T := fun k => match k with
  | 0 => ("IslandBridges", "state", "LIslandBridges$State;", true)
  | 1 => ("IslandBridges", "layout", "LIslandBridges$Layout;", true)
  | 2 => ("IslandBridges", "sums", "LIslandBridges$Sums;", true)
  | 3 => ("IslandBridges", "groups", "LIslandBridges$Groups;", true)
  | 4 => ("IslandBridges", "reasoner", "LIslandBridges$Reasoner;", true)
  | 5 => ("IslandBridges", "search", "LIslandBridges$Search;", true)
  | 6 => ("IslandBridges", "maker", "LIslandBridges$Maker;", true)
  | 7 => ("IslandBridges", "history", "LIslandBridges$History;", true)
  | _ => ("IslandBridges", "text", "LIslandBridges$Text;", true)
def tyX9 : Nat → FieldType := fun k => match k with
  | 0 => .object "IslandBridges$State"
  | 1 => .object "IslandBridges$Layout"
  | 2 => .object "IslandBridges$Sums"
  | 3 => .object "IslandBridges$Groups"
  | 4 => .object "IslandBridges$Reasoner"
  | 5 => .object "IslandBridges$Search"
  | 6 => .object "IslandBridges$Maker"
  | 7 => .object "IslandBridges$History"
  | _ => .object "IslandBridges$Text"
abbrev wsX90 : List Cond := u_ws RX9 TX9 9
theorem nmX9 : ∀ a, a < 9 → ∀ b, b < 9 → a ≠ b → (TX9 a).2.1 ≠ (TX9 b).2.1 := by decide +kernel
theorem tyX9_ok : ∀ k, k < 9 → parseFieldDescriptor (TX9 k).2.2.1 = some (tyX9 k) := by decide +kernel
abbrev cX9_init : ByteArray := prog_1_method_1_code
def yX9_init : MethodName := ⟨RX9, "<init>", "()V"⟩
abbrev cX9_begin : ByteArray := prog_1_method_2_code
def yX9_begin : MethodName := ⟨RX9, "begin", "(II)I"⟩
abbrev cX9_island : ByteArray := prog_1_method_3_code
def yX9_island : MethodName := ⟨RX9, "island", "(II)I"⟩
abbrev cX9_removeIsland : ByteArray := prog_1_method_4_code
def yX9_removeIsland : MethodName := ⟨RX9, "removeIsland", "(I)I"⟩
abbrev cX9_at : ByteArray := prog_1_method_5_code
def yX9_at : MethodName := ⟨RX9, "at", "(I)I"⟩
abbrev cX9_islandInfo : ByteArray := prog_1_method_6_code
def yX9_islandInfo : MethodName := ⟨RX9, "islandInfo", "(II)I"⟩
abbrev cX9_way : ByteArray := prog_1_method_7_code
def yX9_way : MethodName := ⟨RX9, "way", "(II)I"⟩
abbrev cX9_between : ByteArray := prog_1_method_8_code
def yX9_between : MethodName := ⟨RX9, "between", "(II)I"⟩
abbrev cX9_count : ByteArray := prog_1_method_9_code
def yX9_count : MethodName := ⟨RX9, "count", "(I)I"⟩
abbrev cX9_build : ByteArray := prog_1_method_10_code
def yX9_build : MethodName := ⟨RX9, "build", "(I)I"⟩
abbrev cX9_take : ByteArray := prog_1_method_11_code
def yX9_take : MethodName := ⟨RX9, "take", "(I)I"⟩
abbrev cX9_cap : ByteArray := prog_1_method_12_code
def yX9_cap : MethodName := ⟨RX9, "cap", "(II)I"⟩
abbrev cX9_clear : ByteArray := prog_1_method_13_code
def yX9_clear : MethodName := ⟨RX9, "clear", "()I"⟩
abbrev cX9_step : ByteArray := prog_1_method_14_code
def yX9_step : MethodName := ⟨RX9, "step", "()I"⟩
abbrev cX9_hint : ByteArray := prog_1_method_15_code
def yX9_hint : MethodName := ⟨RX9, "hint", "()I"⟩
abbrev cX9_steps : ByteArray := prog_1_method_16_code
def yX9_steps : MethodName := ⟨RX9, "steps", "(I)I"⟩
abbrev cX9_make : ByteArray := prog_1_method_19_code
def yX9_make : MethodName := ⟨RX9, "make", "(II)I"⟩
abbrev cX9_undo : ByteArray := prog_1_method_20_code
def yX9_undo : MethodName := ⟨RX9, "undo", "()I"⟩
abbrev cX9_renewWays : ByteArray := prog_1_method_25_code
def yX9_renewWays : MethodName := ⟨RX9, "renewWays", "()V"⟩
abbrev cX9_isSide : ByteArray := prog_1_method_26_code
def yX9_isSide : MethodName := ⟨RX9, "isSide", "(I)Z"⟩
abbrev cX9_isCell : ByteArray := prog_1_method_27_code
def yX9_isCell : MethodName := ⟨RX9, "isCell", "(I)Z"⟩
abbrev cX9_isWay : ByteArray := prog_1_method_28_code
def yX9_isWay : MethodName := ⟨RX9, "isWay", "(I)Z"⟩
abbrev cX9_reasonAgainst : ByteArray := prog_1_method_29_code
def yX9_reasonAgainst : MethodName := ⟨RX9, "reasonAgainst", "(I)I"⟩
abbrev cX9_allBridges : ByteArray := prog_1_method_30_code
def yX9_allBridges : MethodName := ⟨RX9, "allBridges", "()I"⟩
abbrev cX9_allNumbers : ByteArray := prog_1_method_31_code
def yX9_allNumbers : MethodName := ⟨RX9, "allNumbers", "()I"⟩
abbrev cX9_completeIslands : ByteArray := prog_1_method_32_code
def yX9_completeIslands : MethodName := ⟨RX9, "completeIslands", "()I"⟩
abbrev cX9_groupsInAll : ByteArray := prog_1_method_33_code
def yX9_groupsInAll : MethodName := ⟨RX9, "groupsInAll", "()I"⟩
abbrev cX9_isSolved : ByteArray := prog_1_method_34_code
def yX9_isSolved : MethodName := ⟨RX9, "isSolved", "()Z"⟩
abbrev cX9_isBroken : ByteArray := prog_1_method_35_code
def yX9_isBroken : MethodName := ⟨RX9, "isBroken", "()Z"⟩
abbrev cX9_valueAt : ByteArray := prog_1_method_36_code
def yX9_valueAt : MethodName := ⟨RX9, "valueAt", "([II)I"⟩
abbrev cX9_put : ByteArray := prog_1_method_37_code
def yX9_put : MethodName := ⟨RX9, "put", "([III)V"⟩
abbrev cX9_add : ByteArray := prog_1_method_38_code
def yX9_add : MethodName := ⟨RX9, "add", "([III)V"⟩
def RX10 : String := "IslandBridgesModel"
def TX10 : u_T := fun k => match k with
  | _ => ("", "", "", false)
def tyX10 : Nat → FieldType := fun k => match k with
  | _ => .int
abbrev wsX100 : List Cond := u_ws RX10 TX10 0
theorem nmX10 : ∀ a, a < 0 → ∀ b, b < 0 → a ≠ b → (TX10 a).2.1 ≠ (TX10 b).2.1 := by decide +kernel
theorem tyX10_ok : ∀ k, k < 0 → parseFieldDescriptor (TX10 k).2.2.1 = some (tyX10 k) := by decide +kernel
def RJ13 : String := "java/lang/Long"
def TJ13 : u_T := fun k => match k with
  | _ => ("", "", "", false)
def tyJ13 : Nat → FieldType := fun k => match k with
  | _ => .int
abbrev wsJ130 : List Cond := u_ws RJ13 TJ13 0
theorem nmJ13 : ∀ a, a < 0 → ∀ b, b < 0 → a ≠ b → (TJ13 a).2.1 ≠ (TJ13 b).2.1 := by decide +kernel
theorem tyJ13_ok : ∀ k, k < 0 → parseFieldDescriptor (TJ13 k).2.2.1 = some (tyJ13 k) := by decide +kernel
abbrev cJ13_bitCount_95d88 : ByteArray := prog_13_method_50_code
def yJ13_bitCount_95d88 : MethodName := ⟨RJ13, "bitCount", "(J)I"⟩
def RJ9 : String := "java/lang/Math"
def TJ9 : u_T := fun k => match k with
  | _ => ("", "", "", false)
def tyJ9 : Nat → FieldType := fun k => match k with
  | _ => .int
abbrev wsJ90 : List Cond := u_ws RJ9 TJ9 0
theorem nmJ9 : ∀ a, a < 0 → ∀ b, b < 0 → a ≠ b → (TJ9 a).2.1 ≠ (TJ9 b).2.1 := by decide +kernel
theorem tyJ9_ok : ∀ k, k < 0 → parseFieldDescriptor (TJ9 k).2.2.1 = some (tyJ9 k) := by decide +kernel
abbrev cJ9_max_7cf53 : ByteArray := prog_14_method_65_code
def yJ9_max_7cf53 : MethodName := ⟨RJ9, "max", "(II)I"⟩
abbrev cJ9_min_7cf53 : ByteArray := prog_14_method_69_code
def yJ9_min_7cf53 : MethodName := ⟨RJ9, "min", "(II)I"⟩
def RJ10 : String := "java/lang/System"
def TJ10 : u_T := fun k => match k with
  | _ => ("", "", "", false)
def tyJ10 : Nat → FieldType := fun k => match k with
  | _ => .int
abbrev wsJ100 : List Cond := u_ws RJ10 TJ10 0
theorem nmJ10 : ∀ a, a < 0 → ∀ b, b < 0 → a ≠ b → (TJ10 a).2.1 ≠ (TJ10 b).2.1 := by decide +kernel
theorem tyJ10_ok : ∀ k, k < 0 → parseFieldDescriptor (TJ10 k).2.2.1 = some (tyJ10 k) := by decide +kernel
def RL : String := "IslandBridgesLaw"
abbrev cL_cell : ByteArray := method_2_code
def yL_cell : MethodName := ⟨RL, "cell", "([II)I"⟩
abbrev cL_low : ByteArray := method_3_code
def yL_low : MethodName := ⟨RL, "low", "(II)I"⟩
abbrev cL_tale : ByteArray := method_4_code
def yL_tale : MethodName := ⟨RL, "tale", "(LIslandBridges;)J"⟩
abbrev cL_does : ByteArray := method_5_code
def yL_does : MethodName := ⟨RL, "does", "(LIslandBridges;I)I"⟩
abbrev cL_law : ByteArray := code
def yL_law : MethodName := ⟨RL, "law", "([I)Z"⟩
def wsX0_init : List Cond := .code yX0_init cX0_init 2 none :: ([.methodLink RX0 3 objectInit, .instanceMethod objectInit, .code objectInit ⟨#[0xb1]⟩ 1 none, .arrayClass .int, .fieldLink RX0 9 "IslandBridges$Groups" "leaders" "[I", .fieldLink RX0 15 "IslandBridges$Groups" "layout" "LIslandBridges$Layout;"] ++ wsX00)
def wsX9_put : List Cond := .code yX9_put cX9_put 3 none :: ([])
def wsX9_valueAt : List Cond := .code yX9_valueAt cX9_valueAt 2 (some .int) :: ([])
def wsX2_first : List Cond := .code yX2_first cX2_first 2 (some .int) :: ([.fieldLink RX2 18 "IslandBridges$Layout" "firstOf" "[I", .static yX9_valueAt, .initialized RX9, .code yX9_valueAt cX9_valueAt 2 (some .int)] ++ wsX20)
def wsX0_leader : List Cond := .code yX0_leader cX0_leader 2 (some .int) :: ([.fieldLink RX0 9 "IslandBridges$Groups" "leaders" "[I", .static yX9_valueAt, .initialized RX9, .code yX9_valueAt cX9_valueAt 2 (some .int)] ++ wsX00)
def wsX2_second : List Cond := .code yX2_second cX2_second 2 (some .int) :: ([.fieldLink RX2 21 "IslandBridges$Layout" "secondOf" "[I", .static yX9_valueAt, .initialized RX9, .code yX9_valueAt cX9_valueAt 2 (some .int)] ++ wsX20)
def wsX0_join : List Cond := .code yX0_join cX0_join 6 none :: ([.methodLink RX0 47 Lib.Math.min.name, .static Lib.Math.min.name, .initialized "java/lang/Math", .code Lib.Math.min.name Lib.Math.min.code 2 (some .int), .methodLink RX0 53 Lib.Math.max.name, .static Lib.Math.max.name, .code Lib.Math.max.name Lib.Math.max.code 2 (some .int), .fieldLink RX0 15 "IslandBridges$Groups" "layout" "LIslandBridges$Layout;", .fieldLink RX0 56 "IslandBridges$Layout" "islands" "I", .fieldLink RX0 9 "IslandBridges$Groups" "leaders" "[I", .static yX9_valueAt, .initialized RX9, .code yX9_valueAt cX9_valueAt 2 (some .int), .static yX9_put, .code yX9_put cX9_put 3 none] ++ wsX00 ++ wsX20)
def wsX0_read_r1 : List Cond := [Cond.fieldLink RX0 9 "IslandBridges$Groups" "leaders" "[I", Cond.fieldLink RX0 15 "IslandBridges$Groups" "layout" "LIslandBridges$Layout;", Cond.fieldLink RX0 23 "IslandBridges$Layout" "ways" "I", Cond.static yX9_put, Cond.initialized RX9, Cond.code yX9_put cX9_put 3 none, Cond.static yX9_valueAt, Cond.code yX9_valueAt cX9_valueAt 2 (some .int), Cond.methodLink RX0 33 yX2_first, Cond.instanceMethod yX2_first, Cond.selects RX2 yX2_first yX2_first, Cond.initialized RX2, Cond.code yX2_first cX2_first 2 (some .int), Cond.fieldLink RX2 18 "IslandBridges$Layout" "firstOf" "[I", Cond.methodLink RX0 37 yX0_leader, Cond.instanceMethod yX0_leader, Cond.selects RX0 yX0_leader yX0_leader, Cond.initialized RX0, Cond.code yX0_leader cX0_leader 2 (some .int), Cond.methodLink RX0 40 yX2_second, Cond.instanceMethod yX2_second, Cond.selects RX2 yX2_second yX2_second, Cond.code yX2_second cX2_second 2 (some .int), Cond.fieldLink RX2 21 "IslandBridges$Layout" "secondOf" "[I"]
def wsX0_read_r2 : List Cond := [Cond.methodLink RX0 43 yX0_join, Cond.instanceMethod yX0_join, Cond.selects RX0 yX0_join yX0_join, Cond.code yX0_join cX0_join 6 none, Cond.methodLink RX0 47 Lib.Math.min.name, Cond.static Lib.Math.min.name, Cond.initialized "java/lang/Math", Cond.code Lib.Math.min.name Lib.Math.min.code 2 (some .int), Cond.methodLink RX0 53 Lib.Math.max.name, Cond.static Lib.Math.max.name, Cond.code Lib.Math.max.name Lib.Math.max.code 2 (some .int), Cond.fieldLink RX0 56 "IslandBridges$Layout" "islands" "I"]
def wsX0_read : List Cond := .code yX0_read cX0_read 3 none :: ((wsX0_read_r1 ++ wsX0_read_r2) ++ wsX00 ++ wsX20)
def wsX0_leadersAheadOf : List Cond := .code yX0_leadersAheadOf cX0_leadersAheadOf 4 (some .int) :: ([.fieldLink RX0 9 "IslandBridges$Groups" "leaders" "[I", .static yX9_valueAt, .initialized RX9, .code yX9_valueAt cX9_valueAt 2 (some .int)] ++ wsX00)
def wsX0_total : List Cond := .code yX0_total cX0_total 1 (some .int) :: ([.fieldLink RX0 15 "IslandBridges$Groups" "layout" "LIslandBridges$Layout;", .fieldLink RX0 56 "IslandBridges$Layout" "islands" "I", .methodLink RX0 59 yX0_leadersAheadOf, .instanceMethod yX0_leadersAheadOf, .selects RX0 yX0_leadersAheadOf yX0_leadersAheadOf, .initialized RX0, .code yX0_leadersAheadOf cX0_leadersAheadOf 4 (some .int), .fieldLink RX0 9 "IslandBridges$Groups" "leaders" "[I", .static yX9_valueAt, .initialized RX9, .code yX9_valueAt cX9_valueAt 2 (some .int)] ++ wsX00 ++ wsX20)
def wsX0_numberOf : List Cond := .code yX0_numberOf cX0_numberOf 2 (some .int) :: ([.methodLink RX0 37 yX0_leader, .instanceMethod yX0_leader, .selects RX0 yX0_leader yX0_leader, .initialized RX0, .code yX0_leader cX0_leader 2 (some .int), .fieldLink RX0 9 "IslandBridges$Groups" "leaders" "[I", .static yX9_valueAt, .initialized RX9, .code yX9_valueAt cX9_valueAt 2 (some .int), .methodLink RX0 59 yX0_leadersAheadOf, .instanceMethod yX0_leadersAheadOf, .selects RX0 yX0_leadersAheadOf yX0_leadersAheadOf, .code yX0_leadersAheadOf cX0_leadersAheadOf 4 (some .int)] ++ wsX00)
def wsX6_takeAllBridges : List Cond := .code yX6_takeAllBridges cX6_takeAllBridges 2 none :: ([.fieldLink RX6 15 "IslandBridges$State" "bridges" "[I", .fieldLink RX6 18 "IslandBridges$State" "caps" "[I", .fieldLink RX6 39 "IslandBridges$State" "grade" "I", .fieldLink RX6 42 "IslandBridges$State" "stepsMade" "I", .static yX9_put, .initialized RX9, .code yX9_put cX9_put 3 none] ++ wsX60)
def wsX6_empty : List Cond := .code yX6_empty cX6_empty 4 none :: ([.fieldLink RX6 25 "IslandBridges$State" "columns" "I", .fieldLink RX6 29 "IslandBridges$State" "rows" "I", .fieldLink RX6 9 "IslandBridges$State" "numbers" "[I", .static yX9_put, .initialized RX9, .code yX9_put cX9_put 3 none, .methodLink RX6 36 yX6_takeAllBridges, .instanceMethod yX6_takeAllBridges, .selects RX6 yX6_takeAllBridges yX6_takeAllBridges, .initialized RX6, .code yX6_takeAllBridges cX6_takeAllBridges 2 none, .fieldLink RX6 15 "IslandBridges$State" "bridges" "[I", .fieldLink RX6 18 "IslandBridges$State" "caps" "[I", .fieldLink RX6 39 "IslandBridges$State" "grade" "I", .fieldLink RX6 42 "IslandBridges$State" "stepsMade" "I"] ++ wsX60)
def wsX6_init : List Cond := .code yX6_init cX6_init 1 none :: ([.methodLink RX6 3 objectInit, .instanceMethod objectInit, .code objectInit ⟨#[0xb1]⟩ 1 none, .arrayClass .int, .fieldLink RX6 9 "IslandBridges$State" "numbers" "[I", .fieldLink RX6 15 "IslandBridges$State" "bridges" "[I", .fieldLink RX6 18 "IslandBridges$State" "caps" "[I", .methodLink RX6 21 yX6_empty, .instanceMethod yX6_empty, .selects RX6 yX6_empty yX6_empty, .initialized RX6, .code yX6_empty cX6_empty 4 none, .fieldLink RX6 25 "IslandBridges$State" "columns" "I", .fieldLink RX6 29 "IslandBridges$State" "rows" "I", .static yX9_put, .initialized RX9, .code yX9_put cX9_put 3 none, .methodLink RX6 36 yX6_takeAllBridges, .instanceMethod yX6_takeAllBridges, .selects RX6 yX6_takeAllBridges yX6_takeAllBridges, .code yX6_takeAllBridges cX6_takeAllBridges 2 none, .fieldLink RX6 39 "IslandBridges$State" "grade" "I", .fieldLink RX6 42 "IslandBridges$State" "stepsMade" "I"] ++ wsX60)
def wsX1_init_r1 : List Cond := [Cond.methodLink RX1 3 objectInit, Cond.instanceMethod objectInit, Cond.code objectInit ⟨#[0xb1]⟩ 1 none, Cond.classLink RX1 9 RX6, Cond.fieldLink RX1 11 "IslandBridges$History" "states" "[LIslandBridges$State;", Cond.instantiable RX6 7, Cond.initialized RX6, Cond.methodLink RX1 17 yX6_init, Cond.instanceMethod yX6_init, Cond.code yX6_init cX6_init 1 none, Cond.methodLink RX6 3 objectInit, Cond.arrayClass .int, Cond.fieldLink RX6 9 "IslandBridges$State" "numbers" "[I", Cond.fieldLink RX6 15 "IslandBridges$State" "bridges" "[I", Cond.fieldLink RX6 18 "IslandBridges$State" "caps" "[I", Cond.methodLink RX6 21 yX6_empty, Cond.instanceMethod yX6_empty, Cond.selects RX6 yX6_empty yX6_empty, Cond.code yX6_empty cX6_empty 4 none, Cond.fieldLink RX6 25 "IslandBridges$State" "columns" "I", Cond.fieldLink RX6 29 "IslandBridges$State" "rows" "I", Cond.static yX9_put, Cond.initialized RX9, Cond.code yX9_put cX9_put 3 none]
def wsX1_init_r2 : List Cond := [Cond.methodLink RX6 36 yX6_takeAllBridges, Cond.instanceMethod yX6_takeAllBridges, Cond.selects RX6 yX6_takeAllBridges yX6_takeAllBridges, Cond.code yX6_takeAllBridges cX6_takeAllBridges 2 none, Cond.fieldLink RX6 39 "IslandBridges$State" "grade" "I", Cond.fieldLink RX6 42 "IslandBridges$State" "stepsMade" "I"]
def wsX1_init : List Cond := .code yX1_init cX1_init 2 none :: ((wsX1_init_r1 ++ wsX1_init_r2) ++ wsX10 ++ wsX60)
def wsX1_stateAt : List Cond := .code yX1_stateAt cX1_stateAt 2 (some (.object "IslandBridges$State")) :: ([.fieldLink RX1 11 "IslandBridges$History" "states" "[LIslandBridges$State;"] ++ wsX10)
def wsX1_putState : List Cond := .code yX1_putState cX1_putState 3 none :: ([.fieldLink RX1 11 "IslandBridges$History" "states" "[LIslandBridges$State;"] ++ wsX10)
def wsX1_dropOldest : List Cond := .code yX1_dropOldest cX1_dropOldest 4 none :: ([.fieldLink RX1 11 "IslandBridges$History" "states" "[LIslandBridges$State;", .fieldLink RX1 18 "IslandBridges$History" "size" "I", .methodLink RX1 25 yX1_stateAt, .instanceMethod yX1_stateAt, .selects RX1 yX1_stateAt yX1_stateAt, .initialized RX1, .code yX1_stateAt cX1_stateAt 2 (some (.object "IslandBridges$State")), .methodLink RX1 33 yX1_putState, .instanceMethod yX1_putState, .selects RX1 yX1_putState yX1_putState, .code yX1_putState cX1_putState 3 none] ++ wsX10)
def wsX6_becomeLike : List Cond := .code yX6_becomeLike cX6_becomeLike 2 none :: ([.fieldLink RX6 25 "IslandBridges$State" "columns" "I", .fieldLink RX6 29 "IslandBridges$State" "rows" "I", .fieldLink RX6 39 "IslandBridges$State" "grade" "I", .fieldLink RX6 42 "IslandBridges$State" "stepsMade" "I", .fieldLink RX6 9 "IslandBridges$State" "numbers" "[I", .methodLink RX6 45 arraycopyName, .native arraycopyName, .static arraycopyName, .initialized "java/lang/System", .fieldLink RX6 15 "IslandBridges$State" "bridges" "[I", .fieldLink RX6 18 "IslandBridges$State" "caps" "[I"] ++ wsX60)
def wsX1_record_r1 : List Cond := [Cond.fieldLink RX1 18 "IslandBridges$History" "size" "I", Cond.methodLink RX1 22 yX1_dropOldest, Cond.instanceMethod yX1_dropOldest, Cond.selects RX1 yX1_dropOldest yX1_dropOldest, Cond.initialized RX1, Cond.code yX1_dropOldest cX1_dropOldest 4 none, Cond.fieldLink RX1 11 "IslandBridges$History" "states" "[LIslandBridges$State;", Cond.methodLink RX1 25 yX1_stateAt, Cond.instanceMethod yX1_stateAt, Cond.selects RX1 yX1_stateAt yX1_stateAt, Cond.code yX1_stateAt cX1_stateAt 2 (some (.object "IslandBridges$State")), Cond.methodLink RX1 33 yX1_putState, Cond.instanceMethod yX1_putState, Cond.selects RX1 yX1_putState yX1_putState, Cond.code yX1_putState cX1_putState 3 none, Cond.methodLink RX1 29 yX6_becomeLike, Cond.instanceMethod yX6_becomeLike, Cond.selects RX6 yX6_becomeLike yX6_becomeLike, Cond.initialized RX6, Cond.code yX6_becomeLike cX6_becomeLike 2 none, Cond.fieldLink RX6 25 "IslandBridges$State" "columns" "I", Cond.fieldLink RX6 29 "IslandBridges$State" "rows" "I", Cond.fieldLink RX6 39 "IslandBridges$State" "grade" "I", Cond.fieldLink RX6 42 "IslandBridges$State" "stepsMade" "I"]
def wsX1_record_r2 : List Cond := [Cond.fieldLink RX6 9 "IslandBridges$State" "numbers" "[I", Cond.methodLink RX6 45 arraycopyName, Cond.native arraycopyName, Cond.static arraycopyName, Cond.initialized "java/lang/System", Cond.fieldLink RX6 15 "IslandBridges$State" "bridges" "[I", Cond.fieldLink RX6 18 "IslandBridges$State" "caps" "[I"]
def wsX1_record : List Cond := .code yX1_record cX1_record 3 none :: ((wsX1_record_r1 ++ wsX1_record_r2) ++ wsX10 ++ wsX60)
def wsX1_restore : List Cond := .code yX1_restore cX1_restore 3 none :: ([.fieldLink RX1 18 "IslandBridges$History" "size" "I", .methodLink RX1 25 yX1_stateAt, .instanceMethod yX1_stateAt, .selects RX1 yX1_stateAt yX1_stateAt, .initialized RX1, .code yX1_stateAt cX1_stateAt 2 (some (.object "IslandBridges$State")), .fieldLink RX1 11 "IslandBridges$History" "states" "[LIslandBridges$State;", .methodLink RX1 29 yX6_becomeLike, .instanceMethod yX6_becomeLike, .selects RX6 yX6_becomeLike yX6_becomeLike, .initialized RX6, .code yX6_becomeLike cX6_becomeLike 2 none, .fieldLink RX6 25 "IslandBridges$State" "columns" "I", .fieldLink RX6 29 "IslandBridges$State" "rows" "I", .fieldLink RX6 39 "IslandBridges$State" "grade" "I", .fieldLink RX6 42 "IslandBridges$State" "stepsMade" "I", .fieldLink RX6 9 "IslandBridges$State" "numbers" "[I", .methodLink RX6 45 arraycopyName, .native arraycopyName, .static arraycopyName, .initialized "java/lang/System", .fieldLink RX6 15 "IslandBridges$State" "bridges" "[I", .fieldLink RX6 18 "IslandBridges$State" "caps" "[I"] ++ wsX10 ++ wsX60)
def wsX2_init : List Cond := .code yX2_init cX2_init 1 none :: ([.methodLink RX2 3 objectInit, .instanceMethod objectInit, .code objectInit ⟨#[0xb1]⟩ 1 none, .arrayClass .int, .fieldLink RX2 9 "IslandBridges$Layout" "cellOf" "[I", .fieldLink RX2 15 "IslandBridges$Layout" "islandAfter" "[I", .fieldLink RX2 18 "IslandBridges$Layout" "firstOf" "[I", .fieldLink RX2 21 "IslandBridges$Layout" "secondOf" "[I", .fieldLink RX2 24 "IslandBridges$Layout" "firstCellOf" "[I", .fieldLink RX2 27 "IslandBridges$Layout" "secondCellOf" "[I", .fieldLink RX2 30 "IslandBridges$Layout" "strideOf" "[I", .fieldLink RX2 33 "IslandBridges$Layout" "waysOf" "[I", .arrayClass .long, .fieldLink RX2 36 "IslandBridges$Layout" "crossings" "[J"] ++ wsX20)
def wsX6_cells : List Cond := .code yX6_cells cX6_cells 1 (some .int) :: ([.fieldLink RX6 25 "IslandBridges$State" "columns" "I", .fieldLink RX6 29 "IslandBridges$State" "rows" "I"] ++ wsX60)
def wsX2_readIslands : List Cond := .code yX2_readIslands cX2_readIslands 5 none :: ([.fieldLink RX2 76 "IslandBridges$Layout" "islands" "I", .fieldLink RX2 79 "IslandBridges$State" "numbers" "[I", .fieldLink RX2 9 "IslandBridges$Layout" "cellOf" "[I", .fieldLink RX2 33 "IslandBridges$Layout" "waysOf" "[I", .fieldLink RX2 15 "IslandBridges$Layout" "islandAfter" "[I", .methodLink RX2 50 yX6_cells, .instanceMethod yX6_cells, .selects RX6 yX6_cells yX6_cells, .initialized RX6, .code yX6_cells cX6_cells 1 (some .int), .fieldLink RX6 25 "IslandBridges$State" "columns" "I", .fieldLink RX6 29 "IslandBridges$State" "rows" "I", .static yX9_valueAt, .initialized RX9, .code yX9_valueAt cX9_valueAt 2 (some .int), .static yX9_put, .code yX9_put cX9_put 3 none] ++ wsX20 ++ wsX60)
def wsX2_cellOf : List Cond := .code yX2_cellOf cX2_cellOf 2 (some .int) :: ([.fieldLink RX2 9 "IslandBridges$Layout" "cellOf" "[I", .static yX9_valueAt, .initialized RX9, .code yX9_valueAt cX9_valueAt 2 (some .int)] ++ wsX20)
def wsX2_islandOn : List Cond := .code yX2_islandOn cX2_islandOn 2 (some .int) :: ([.fieldLink RX2 15 "IslandBridges$Layout" "islandAfter" "[I", .static yX9_valueAt, .initialized RX9, .code yX9_valueAt cX9_valueAt 2 (some .int)] ++ wsX20)
def wsX2_nextIsland : List Cond := .code yX2_nextIsland cX2_nextIsland 6 (some .int) :: ([.methodLink RX2 96 yX2_islandOn, .instanceMethod yX2_islandOn, .selects RX2 yX2_islandOn yX2_islandOn, .initialized RX2, .code yX2_islandOn cX2_islandOn 2 (some .int), .fieldLink RX2 15 "IslandBridges$Layout" "islandAfter" "[I", .static yX9_valueAt, .initialized RX9, .code yX9_valueAt cX9_valueAt 2 (some .int)] ++ wsX20)
def wsX9_add : List Cond := .code yX9_add cX9_add 3 none :: ([])
def wsX2_addWay : List Cond := .code yX2_addWay cX2_addWay 4 none :: ([.fieldLink RX2 73 "IslandBridges$Layout" "ways" "I", .fieldLink RX2 18 "IslandBridges$Layout" "firstOf" "[I", .fieldLink RX2 21 "IslandBridges$Layout" "secondOf" "[I", .fieldLink RX2 24 "IslandBridges$Layout" "firstCellOf" "[I", .fieldLink RX2 27 "IslandBridges$Layout" "secondCellOf" "[I", .fieldLink RX2 30 "IslandBridges$Layout" "strideOf" "[I", .fieldLink RX2 33 "IslandBridges$Layout" "waysOf" "[I", .static yX9_put, .initialized RX9, .code yX9_put cX9_put 3 none, .methodLink RX2 86 yX2_cellOf, .instanceMethod yX2_cellOf, .selects RX2 yX2_cellOf yX2_cellOf, .initialized RX2, .code yX2_cellOf cX2_cellOf 2 (some .int), .fieldLink RX2 9 "IslandBridges$Layout" "cellOf" "[I", .static yX9_valueAt, .code yX9_valueAt cX9_valueAt 2 (some .int), .static yX9_add, .code yX9_add cX9_add 3 none] ++ wsX20)
def wsX2_readWays_r1 : List Cond := [Cond.fieldLink RX2 73 "IslandBridges$Layout" "ways" "I", Cond.fieldLink RX2 76 "IslandBridges$Layout" "islands" "I", Cond.methodLink RX2 86 yX2_cellOf, Cond.instanceMethod yX2_cellOf, Cond.selects RX2 yX2_cellOf yX2_cellOf, Cond.initialized RX2, Cond.code yX2_cellOf cX2_cellOf 2 (some .int), Cond.fieldLink RX2 9 "IslandBridges$Layout" "cellOf" "[I", Cond.static yX9_valueAt, Cond.initialized RX9, Cond.code yX9_valueAt cX9_valueAt 2 (some .int), Cond.methodLink RX2 88 yX2_nextIsland, Cond.instanceMethod yX2_nextIsland, Cond.selects RX2 yX2_nextIsland yX2_nextIsland, Cond.code yX2_nextIsland cX2_nextIsland 6 (some .int), Cond.methodLink RX2 96 yX2_islandOn, Cond.instanceMethod yX2_islandOn, Cond.selects RX2 yX2_islandOn yX2_islandOn, Cond.code yX2_islandOn cX2_islandOn 2 (some .int), Cond.fieldLink RX2 15 "IslandBridges$Layout" "islandAfter" "[I", Cond.methodLink RX2 92 yX2_addWay, Cond.instanceMethod yX2_addWay, Cond.selects RX2 yX2_addWay yX2_addWay, Cond.code yX2_addWay cX2_addWay 4 none]
def wsX2_readWays_r2 : List Cond := [Cond.fieldLink RX2 18 "IslandBridges$Layout" "firstOf" "[I", Cond.fieldLink RX2 21 "IslandBridges$Layout" "secondOf" "[I", Cond.fieldLink RX2 24 "IslandBridges$Layout" "firstCellOf" "[I", Cond.fieldLink RX2 27 "IslandBridges$Layout" "secondCellOf" "[I", Cond.fieldLink RX2 30 "IslandBridges$Layout" "strideOf" "[I", Cond.fieldLink RX2 33 "IslandBridges$Layout" "waysOf" "[I", Cond.static yX9_put, Cond.code yX9_put cX9_put 3 none, Cond.static yX9_add, Cond.code yX9_add cX9_add 3 none]
def wsX2_readWays : List Cond := .code yX2_readWays cX2_readWays 5 none :: ((wsX2_readWays_r1 ++ wsX2_readWays_r2) ++ wsX20)
def wsX2_isAlongRow : List Cond := .code yX2_isAlongRow cX2_isAlongRow 2 (some .boolean) :: ([.fieldLink RX2 30 "IslandBridges$Layout" "strideOf" "[I", .static yX9_valueAt, .initialized RX9, .code yX9_valueAt cX9_valueAt 2 (some .int)] ++ wsX20)
def wsX2_firstCell : List Cond := .code yX2_firstCell cX2_firstCell 2 (some .int) :: ([.fieldLink RX2 24 "IslandBridges$Layout" "firstCellOf" "[I", .static yX9_valueAt, .initialized RX9, .code yX9_valueAt cX9_valueAt 2 (some .int)] ++ wsX20)
def wsX2_isOver : List Cond := .code yX2_isOver cX2_isOver 6 (some .boolean) :: ([.fieldLink RX2 30 "IslandBridges$Layout" "strideOf" "[I", .fieldLink RX2 24 "IslandBridges$Layout" "firstCellOf" "[I", .fieldLink RX2 27 "IslandBridges$Layout" "secondCellOf" "[I", .static yX9_valueAt, .initialized RX9, .code yX9_valueAt cX9_valueAt 2 (some .int)] ++ wsX20)
def wsX2_doCross : List Cond := .code yX2_doCross cX2_doCross 7 (some .boolean) :: ([.methodLink RX2 106 yX2_isAlongRow, .instanceMethod yX2_isAlongRow, .selects RX2 yX2_isAlongRow yX2_isAlongRow, .initialized RX2, .code yX2_isAlongRow cX2_isAlongRow 2 (some .boolean), .fieldLink RX2 30 "IslandBridges$Layout" "strideOf" "[I", .static yX9_valueAt, .initialized RX9, .code yX9_valueAt cX9_valueAt 2 (some .int), .methodLink RX2 70 yX2_firstCell, .instanceMethod yX2_firstCell, .selects RX2 yX2_firstCell yX2_firstCell, .code yX2_firstCell cX2_firstCell 2 (some .int), .fieldLink RX2 24 "IslandBridges$Layout" "firstCellOf" "[I", .methodLink RX2 110 yX2_isOver, .instanceMethod yX2_isOver, .selects RX2 yX2_isOver yX2_isOver, .code yX2_isOver cX2_isOver 6 (some .boolean), .fieldLink RX2 27 "IslandBridges$Layout" "secondCellOf" "[I"] ++ wsX20)
def wsX2_readCrossings_r1 : List Cond := [Cond.fieldLink RX2 73 "IslandBridges$Layout" "ways" "I", Cond.fieldLink RX2 36 "IslandBridges$Layout" "crossings" "[J", Cond.methodLink RX2 102 yX2_doCross, Cond.instanceMethod yX2_doCross, Cond.selects RX2 yX2_doCross yX2_doCross, Cond.initialized RX2, Cond.code yX2_doCross cX2_doCross 7 (some .boolean), Cond.methodLink RX2 106 yX2_isAlongRow, Cond.instanceMethod yX2_isAlongRow, Cond.selects RX2 yX2_isAlongRow yX2_isAlongRow, Cond.code yX2_isAlongRow cX2_isAlongRow 2 (some .boolean), Cond.fieldLink RX2 30 "IslandBridges$Layout" "strideOf" "[I", Cond.static yX9_valueAt, Cond.initialized RX9, Cond.code yX9_valueAt cX9_valueAt 2 (some .int), Cond.methodLink RX2 70 yX2_firstCell, Cond.instanceMethod yX2_firstCell, Cond.selects RX2 yX2_firstCell yX2_firstCell, Cond.code yX2_firstCell cX2_firstCell 2 (some .int), Cond.fieldLink RX2 24 "IslandBridges$Layout" "firstCellOf" "[I", Cond.methodLink RX2 110 yX2_isOver, Cond.instanceMethod yX2_isOver, Cond.selects RX2 yX2_isOver yX2_isOver, Cond.code yX2_isOver cX2_isOver 6 (some .boolean)]
def wsX2_readCrossings_r2 : List Cond := [Cond.fieldLink RX2 27 "IslandBridges$Layout" "secondCellOf" "[I"]
def wsX2_readCrossings : List Cond := .code yX2_readCrossings cX2_readCrossings 6 none :: ((wsX2_readCrossings_r1 ++ wsX2_readCrossings_r2) ++ wsX20)
def wsX2_read_r1 : List Cond := [Cond.fieldLink RX2 44 "IslandBridges$State" "columns" "I", Cond.methodLink RX2 40 yX2_readIslands, Cond.instanceMethod yX2_readIslands, Cond.selects RX2 yX2_readIslands yX2_readIslands, Cond.initialized RX2, Cond.code yX2_readIslands cX2_readIslands 5 none, Cond.fieldLink RX2 76 "IslandBridges$Layout" "islands" "I", Cond.fieldLink RX2 79 "IslandBridges$State" "numbers" "[I", Cond.fieldLink RX2 9 "IslandBridges$Layout" "cellOf" "[I", Cond.fieldLink RX2 33 "IslandBridges$Layout" "waysOf" "[I", Cond.fieldLink RX2 15 "IslandBridges$Layout" "islandAfter" "[I", Cond.methodLink RX2 50 yX6_cells, Cond.instanceMethod yX6_cells, Cond.selects RX6 yX6_cells yX6_cells, Cond.initialized RX6, Cond.code yX6_cells cX6_cells 1 (some .int), Cond.fieldLink RX6 25 "IslandBridges$State" "columns" "I", Cond.fieldLink RX6 29 "IslandBridges$State" "rows" "I", Cond.static yX9_valueAt, Cond.initialized RX9, Cond.code yX9_valueAt cX9_valueAt 2 (some .int), Cond.static yX9_put, Cond.code yX9_put cX9_put 3 none, Cond.methodLink RX2 54 yX2_readWays]
def wsX2_read_r2 : List Cond := [Cond.instanceMethod yX2_readWays, Cond.selects RX2 yX2_readWays yX2_readWays, Cond.code yX2_readWays cX2_readWays 5 none, Cond.fieldLink RX2 73 "IslandBridges$Layout" "ways" "I", Cond.methodLink RX2 86 yX2_cellOf, Cond.instanceMethod yX2_cellOf, Cond.selects RX2 yX2_cellOf yX2_cellOf, Cond.code yX2_cellOf cX2_cellOf 2 (some .int), Cond.methodLink RX2 88 yX2_nextIsland, Cond.instanceMethod yX2_nextIsland, Cond.selects RX2 yX2_nextIsland yX2_nextIsland, Cond.code yX2_nextIsland cX2_nextIsland 6 (some .int), Cond.methodLink RX2 96 yX2_islandOn, Cond.instanceMethod yX2_islandOn, Cond.selects RX2 yX2_islandOn yX2_islandOn, Cond.code yX2_islandOn cX2_islandOn 2 (some .int), Cond.methodLink RX2 92 yX2_addWay, Cond.instanceMethod yX2_addWay, Cond.selects RX2 yX2_addWay yX2_addWay, Cond.code yX2_addWay cX2_addWay 4 none, Cond.fieldLink RX2 18 "IslandBridges$Layout" "firstOf" "[I", Cond.fieldLink RX2 21 "IslandBridges$Layout" "secondOf" "[I", Cond.fieldLink RX2 24 "IslandBridges$Layout" "firstCellOf" "[I", Cond.fieldLink RX2 27 "IslandBridges$Layout" "secondCellOf" "[I"]
def wsX2_read_r3 : List Cond := [Cond.fieldLink RX2 30 "IslandBridges$Layout" "strideOf" "[I", Cond.static yX9_add, Cond.code yX9_add cX9_add 3 none, Cond.methodLink RX2 58 yX2_readCrossings, Cond.instanceMethod yX2_readCrossings, Cond.selects RX2 yX2_readCrossings yX2_readCrossings, Cond.code yX2_readCrossings cX2_readCrossings 6 none, Cond.fieldLink RX2 36 "IslandBridges$Layout" "crossings" "[J", Cond.methodLink RX2 102 yX2_doCross, Cond.instanceMethod yX2_doCross, Cond.selects RX2 yX2_doCross yX2_doCross, Cond.code yX2_doCross cX2_doCross 7 (some .boolean), Cond.methodLink RX2 106 yX2_isAlongRow, Cond.instanceMethod yX2_isAlongRow, Cond.selects RX2 yX2_isAlongRow yX2_isAlongRow, Cond.code yX2_isAlongRow cX2_isAlongRow 2 (some .boolean), Cond.methodLink RX2 70 yX2_firstCell, Cond.instanceMethod yX2_firstCell, Cond.selects RX2 yX2_firstCell yX2_firstCell, Cond.code yX2_firstCell cX2_firstCell 2 (some .int), Cond.methodLink RX2 110 yX2_isOver, Cond.instanceMethod yX2_isOver, Cond.selects RX2 yX2_isOver yX2_isOver, Cond.code yX2_isOver cX2_isOver 6 (some .boolean)]
def wsX2_read : List Cond := .code yX2_read cX2_read 2 none :: ((wsX2_read_r1 ++ (wsX2_read_r2 ++ wsX2_read_r3)) ++ wsX60 ++ wsX20)
def wsX2_secondCell : List Cond := .code yX2_secondCell cX2_secondCell 2 (some .int) :: ([.fieldLink RX2 27 "IslandBridges$Layout" "secondCellOf" "[I", .static yX9_valueAt, .initialized RX9, .code yX9_valueAt cX9_valueAt 2 (some .int)] ++ wsX20)
def wsX2_cellsBetween : List Cond := .code yX2_cellsBetween cX2_cellsBetween 3 (some .int) :: ([.fieldLink RX2 30 "IslandBridges$Layout" "strideOf" "[I", .static yX9_valueAt, .initialized RX9, .code yX9_valueAt cX9_valueAt 2 (some .int), .methodLink RX2 66 yX2_secondCell, .instanceMethod yX2_secondCell, .selects RX2 yX2_secondCell yX2_secondCell, .initialized RX2, .code yX2_secondCell cX2_secondCell 2 (some .int), .fieldLink RX2 27 "IslandBridges$Layout" "secondCellOf" "[I", .methodLink RX2 70 yX2_firstCell, .instanceMethod yX2_firstCell, .selects RX2 yX2_firstCell yX2_firstCell, .code yX2_firstCell cX2_firstCell 2 (some .int), .fieldLink RX2 24 "IslandBridges$Layout" "firstCellOf" "[I"] ++ wsX20)
def wsX2_crossingsOf : List Cond := .code yX2_crossingsOf cX2_crossingsOf 2 (some .long) :: ([.fieldLink RX2 36 "IslandBridges$Layout" "crossings" "[J"] ++ wsX20)
def wsX2_waysWith : List Cond := .code yX2_waysWith cX2_waysWith 5 (some .long) :: ([.fieldLink RX2 73 "IslandBridges$Layout" "ways" "I", .static yX9_valueAt, .initialized RX9, .code yX9_valueAt cX9_valueAt 2 (some .int)] ++ wsX20)
def wsX3_init : List Cond := .code yX3_init cX3_init 1 none :: ([.methodLink RX3 3 objectInit, .instanceMethod objectInit, .code objectInit ⟨#[0xb1]⟩ 1 none, .arrayClass .int, .fieldLink RX3 9 "IslandBridges$Maker" "taken" "[I", .fieldLink RX3 15 "IslandBridges$Maker" "numbers" "[I", .fieldLink RX3 18 "IslandBridges$Maker" "cellOf" "[I"] ++ wsX30)
def wsX3_draw : List Cond := .code yX3_draw cX3_draw 2 (some .int) :: ([.fieldLink RX3 31 "IslandBridges$Maker" "z" "I", .constant RX3 56 (65537)] ++ wsX30)
def wsX3_addIsland : List Cond := .code yX3_addIsland cX3_addIsland 4 none :: ([.fieldLink RX3 28 "IslandBridges$Maker" "islands" "I", .fieldLink RX3 18 "IslandBridges$Maker" "cellOf" "[I", .fieldLink RX3 9 "IslandBridges$Maker" "taken" "[I", .static yX9_valueAt, .initialized RX9, .code yX9_valueAt cX9_valueAt 2 (some .int), .static yX9_put, .code yX9_put cX9_put 3 none] ++ wsX30)
def wsX3_isOnBoard : List Cond := .code yX3_isOnBoard cX3_isOnBoard 5 (some .boolean) :: ([.fieldLink RX3 21 "IslandBridges$Maker" "columns" "I", .fieldLink RX3 25 "IslandBridges$Maker" "rows" "I"] ++ wsX30)
def wsX3_tryIsland_r1 : List Cond := [Cond.fieldLink RX3 18 "IslandBridges$Maker" "cellOf" "[I", Cond.fieldLink RX3 28 "IslandBridges$Maker" "islands" "I", Cond.fieldLink RX3 21 "IslandBridges$Maker" "columns" "I", Cond.fieldLink RX3 9 "IslandBridges$Maker" "taken" "[I", Cond.fieldLink RX3 15 "IslandBridges$Maker" "numbers" "[I", Cond.methodLink RX3 38 yX3_draw, Cond.instanceMethod yX3_draw, Cond.selects RX3 yX3_draw yX3_draw, Cond.initialized RX3, Cond.code yX3_draw cX3_draw 2 (some .int), Cond.fieldLink RX3 31 "IslandBridges$Maker" "z" "I", Cond.constant RX3 56 (65537), Cond.static yX9_valueAt, Cond.initialized RX9, Cond.code yX9_valueAt cX9_valueAt 2 (some .int), Cond.methodLink RX3 57 yX3_isOnBoard, Cond.instanceMethod yX3_isOnBoard, Cond.selects RX3 yX3_isOnBoard yX3_isOnBoard, Cond.code yX3_isOnBoard cX3_isOnBoard 5 (some .boolean), Cond.fieldLink RX3 25 "IslandBridges$Maker" "rows" "I", Cond.static yX9_put, Cond.code yX9_put cX9_put 3 none, Cond.methodLink RX3 42 yX3_addIsland, Cond.instanceMethod yX3_addIsland]
def wsX3_tryIsland_r2 : List Cond := [Cond.selects RX3 yX3_addIsland yX3_addIsland, Cond.code yX3_addIsland cX3_addIsland 4 none, Cond.static yX9_add, Cond.code yX9_add cX9_add 3 none]
def wsX3_tryIsland : List Cond := .code yX3_tryIsland cX3_tryIsland 9 none :: ((wsX3_tryIsland_r1 ++ wsX3_tryIsland_r2) ++ wsX30)
def wsX3_run_r1 : List Cond := [Cond.fieldLink RX3 21 "IslandBridges$Maker" "columns" "I", Cond.fieldLink RX3 25 "IslandBridges$Maker" "rows" "I", Cond.fieldLink RX3 28 "IslandBridges$Maker" "islands" "I", Cond.fieldLink RX3 31 "IslandBridges$Maker" "z" "I", Cond.fieldLink RX3 9 "IslandBridges$Maker" "taken" "[I", Cond.fieldLink RX3 15 "IslandBridges$Maker" "numbers" "[I", Cond.static yX9_put, Cond.initialized RX9, Cond.code yX9_put cX9_put 3 none, Cond.methodLink RX3 38 yX3_draw, Cond.instanceMethod yX3_draw, Cond.selects RX3 yX3_draw yX3_draw, Cond.initialized RX3, Cond.code yX3_draw cX3_draw 2 (some .int), Cond.constant RX3 56 (65537), Cond.methodLink RX3 42 yX3_addIsland, Cond.instanceMethod yX3_addIsland, Cond.selects RX3 yX3_addIsland yX3_addIsland, Cond.code yX3_addIsland cX3_addIsland 4 none, Cond.fieldLink RX3 18 "IslandBridges$Maker" "cellOf" "[I", Cond.static yX9_valueAt, Cond.code yX9_valueAt cX9_valueAt 2 (some .int), Cond.methodLink RX3 46 yX3_tryIsland, Cond.instanceMethod yX3_tryIsland]
def wsX3_run_r2 : List Cond := [Cond.selects RX3 yX3_tryIsland yX3_tryIsland, Cond.code yX3_tryIsland cX3_tryIsland 9 none, Cond.methodLink RX3 57 yX3_isOnBoard, Cond.instanceMethod yX3_isOnBoard, Cond.selects RX3 yX3_isOnBoard yX3_isOnBoard, Cond.code yX3_isOnBoard cX3_isOnBoard 5 (some .boolean), Cond.static yX9_add, Cond.code yX9_add cX9_add 3 none]
def wsX3_run : List Cond := .code yX3_run cX3_run 6 none :: ((wsX3_run_r1 ++ wsX3_run_r2) ++ wsX30)
def wsX3_giveNumbersTo : List Cond := .code yX3_giveNumbersTo cX3_giveNumbersTo 3 none :: ([.fieldLink RX3 49 "IslandBridges$State" "numbers" "[I", .fieldLink RX3 15 "IslandBridges$Maker" "numbers" "[I", .fieldLink RX3 28 "IslandBridges$Maker" "islands" "I", .fieldLink RX3 18 "IslandBridges$Maker" "cellOf" "[I", .static yX9_valueAt, .initialized RX9, .code yX9_valueAt cX9_valueAt 2 (some .int), .static yX9_put, .code yX9_put cX9_put 3 none] ++ wsX60 ++ wsX30)
def wsX4_init : List Cond := .code yX4_init cX4_init 5 none :: ([.methodLink RX4 3 objectInit, .instanceMethod objectInit, .code objectInit ⟨#[0xb1]⟩ 1 none, .fieldLink RX4 9 "IslandBridges$Reasoner" "state" "LIslandBridges$State;", .fieldLink RX4 15 "IslandBridges$Reasoner" "layout" "LIslandBridges$Layout;", .fieldLink RX4 19 "IslandBridges$Reasoner" "sums" "LIslandBridges$Sums;", .fieldLink RX4 23 "IslandBridges$Reasoner" "groups" "LIslandBridges$Groups;"] ++ wsX40)
def wsX7_addWay : List Cond := .code yX7_addWay cX7_addWay 3 none :: ([.fieldLink RX7 15 "IslandBridges$Sums" "bridges" "[I", .fieldLink RX7 24 "IslandBridges$Sums" "state" "LIslandBridges$State;", .fieldLink RX7 66 "IslandBridges$State" "bridges" "[I", .fieldLink RX7 18 "IslandBridges$Sums" "caps" "[I", .fieldLink RX7 70 "IslandBridges$State" "caps" "[I", .static yX9_valueAt, .initialized RX9, .code yX9_valueAt cX9_valueAt 2 (some .int), .static yX9_add, .code yX9_add cX9_add 3 none] ++ wsX70 ++ wsX60)
def wsX7_read_r1 : List Cond := [Cond.fieldLink RX7 15 "IslandBridges$Sums" "bridges" "[I", Cond.fieldLink RX7 18 "IslandBridges$Sums" "caps" "[I", Cond.fieldLink RX7 28 "IslandBridges$Sums" "layout" "LIslandBridges$Layout;", Cond.fieldLink RX7 36 "IslandBridges$Layout" "ways" "I", Cond.fieldLink RX7 53 "IslandBridges$Layout" "islands" "I", Cond.fieldLink RX7 24 "IslandBridges$Sums" "state" "LIslandBridges$State;", Cond.fieldLink RX7 56 "IslandBridges$State" "numbers" "[I", Cond.fieldLink RX7 9 "IslandBridges$Sums" "numbers" "[I", Cond.fieldLink RX7 21 "IslandBridges$Sums" "lacks" "[I", Cond.static yX9_put, Cond.initialized RX9, Cond.code yX9_put cX9_put 3 none, Cond.methodLink RX7 42 yX2_first, Cond.instanceMethod yX2_first, Cond.selects RX2 yX2_first yX2_first, Cond.initialized RX2, Cond.code yX2_first cX2_first 2 (some .int), Cond.fieldLink RX2 18 "IslandBridges$Layout" "firstOf" "[I", Cond.static yX9_valueAt, Cond.code yX9_valueAt cX9_valueAt 2 (some .int), Cond.methodLink RX7 46 yX7_addWay, Cond.instanceMethod yX7_addWay, Cond.selects RX7 yX7_addWay yX7_addWay, Cond.initialized RX7]
def wsX7_read_r2 : List Cond := [Cond.code yX7_addWay cX7_addWay 3 none, Cond.fieldLink RX7 66 "IslandBridges$State" "bridges" "[I", Cond.fieldLink RX7 70 "IslandBridges$State" "caps" "[I", Cond.static yX9_add, Cond.code yX9_add cX9_add 3 none, Cond.methodLink RX7 50 yX2_second, Cond.instanceMethod yX2_second, Cond.selects RX2 yX2_second yX2_second, Cond.code yX2_second cX2_second 2 (some .int), Cond.fieldLink RX2 21 "IslandBridges$Layout" "secondOf" "[I", Cond.methodLink RX7 59 yX2_cellOf, Cond.instanceMethod yX2_cellOf, Cond.selects RX2 yX2_cellOf yX2_cellOf, Cond.code yX2_cellOf cX2_cellOf 2 (some .int), Cond.fieldLink RX2 9 "IslandBridges$Layout" "cellOf" "[I"]
def wsX7_read : List Cond := .code yX7_read cX7_read 3 none :: ((wsX7_read_r1 ++ wsX7_read_r2) ++ wsX70 ++ wsX20 ++ wsX60)
def wsX7_areBroken : List Cond := .code yX7_areBroken cX7_areBroken 2 (some .boolean) :: ([.fieldLink RX7 28 "IslandBridges$Sums" "layout" "LIslandBridges$Layout;", .fieldLink RX7 53 "IslandBridges$Layout" "islands" "I", .fieldLink RX7 18 "IslandBridges$Sums" "caps" "[I", .fieldLink RX7 9 "IslandBridges$Sums" "numbers" "[I", .fieldLink RX7 21 "IslandBridges$Sums" "lacks" "[I", .static yX9_valueAt, .initialized RX9, .code yX9_valueAt cX9_valueAt 2 (some .int)] ++ wsX70 ++ wsX20)
def wsX7_lesserLack : List Cond := .code yX7_lesserLack cX7_lesserLack 2 (some .int) :: ([.fieldLink RX7 21 "IslandBridges$Sums" "lacks" "[I", .fieldLink RX7 28 "IslandBridges$Sums" "layout" "LIslandBridges$Layout;", .methodLink RX7 71 Lib.Math.min.name, .static Lib.Math.min.name, .initialized "java/lang/Math", .code Lib.Math.min.name Lib.Math.min.code 2 (some .int), .methodLink RX7 42 yX2_first, .instanceMethod yX2_first, .selects RX2 yX2_first yX2_first, .initialized RX2, .code yX2_first cX2_first 2 (some .int), .fieldLink RX2 18 "IslandBridges$Layout" "firstOf" "[I", .static yX9_valueAt, .initialized RX9, .code yX9_valueAt cX9_valueAt 2 (some .int), .methodLink RX7 50 yX2_second, .instanceMethod yX2_second, .selects RX2 yX2_second yX2_second, .code yX2_second cX2_second 2 (some .int), .fieldLink RX2 21 "IslandBridges$Layout" "secondOf" "[I"] ++ wsX70 ++ wsX20)
def wsX7_leastBridgesFor : List Cond := .code yX7_leastBridgesFor cX7_leastBridgesFor 3 (some .int) :: ([.fieldLink RX7 9 "IslandBridges$Sums" "numbers" "[I", .fieldLink RX7 18 "IslandBridges$Sums" "caps" "[I", .fieldLink RX7 24 "IslandBridges$Sums" "state" "LIslandBridges$State;", .fieldLink RX7 70 "IslandBridges$State" "caps" "[I", .static yX9_valueAt, .initialized RX9, .code yX9_valueAt cX9_valueAt 2 (some .int)] ++ wsX70 ++ wsX60)
def wsX7_leastBridges_r1 : List Cond := [Cond.fieldLink RX7 28 "IslandBridges$Sums" "layout" "LIslandBridges$Layout;", Cond.methodLink RX7 80 Lib.Math.max.name, Cond.static Lib.Math.max.name, Cond.initialized "java/lang/Math", Cond.code Lib.Math.max.name Lib.Math.max.code 2 (some .int), Cond.methodLink RX7 42 yX2_first, Cond.instanceMethod yX2_first, Cond.selects RX2 yX2_first yX2_first, Cond.initialized RX2, Cond.code yX2_first cX2_first 2 (some .int), Cond.fieldLink RX2 18 "IslandBridges$Layout" "firstOf" "[I", Cond.static yX9_valueAt, Cond.initialized RX9, Cond.code yX9_valueAt cX9_valueAt 2 (some .int), Cond.methodLink RX7 77 yX7_leastBridgesFor, Cond.instanceMethod yX7_leastBridgesFor, Cond.selects RX7 yX7_leastBridgesFor yX7_leastBridgesFor, Cond.initialized RX7, Cond.code yX7_leastBridgesFor cX7_leastBridgesFor 3 (some .int), Cond.fieldLink RX7 9 "IslandBridges$Sums" "numbers" "[I", Cond.fieldLink RX7 18 "IslandBridges$Sums" "caps" "[I", Cond.fieldLink RX7 24 "IslandBridges$Sums" "state" "LIslandBridges$State;", Cond.fieldLink RX7 70 "IslandBridges$State" "caps" "[I", Cond.methodLink RX7 50 yX2_second]
def wsX7_leastBridges_r2 : List Cond := [Cond.instanceMethod yX2_second, Cond.selects RX2 yX2_second yX2_second, Cond.code yX2_second cX2_second 2 (some .int), Cond.fieldLink RX2 21 "IslandBridges$Layout" "secondOf" "[I"]
def wsX7_leastBridges : List Cond := .code yX7_leastBridges cX7_leastBridges 2 (some .int) :: ((wsX7_leastBridges_r1 ++ wsX7_leastBridges_r2) ++ wsX70 ++ wsX20 ++ wsX60)
def wsX4_wouldCutOff_r1 : List Cond := [Cond.fieldLink RX4 15 "IslandBridges$Reasoner" "layout" "LIslandBridges$Layout;", Cond.fieldLink RX4 111 "IslandBridges$Layout" "islands" "I", Cond.fieldLink RX4 23 "IslandBridges$Reasoner" "groups" "LIslandBridges$Groups;", Cond.fieldLink RX4 19 "IslandBridges$Reasoner" "sums" "LIslandBridges$Sums;", Cond.fieldLink RX4 117 "IslandBridges$Sums" "lacks" "[I", Cond.methodLink RX4 105 yX2_first, Cond.instanceMethod yX2_first, Cond.selects RX2 yX2_first yX2_first, Cond.initialized RX2, Cond.code yX2_first cX2_first 2 (some .int), Cond.fieldLink RX2 18 "IslandBridges$Layout" "firstOf" "[I", Cond.static yX9_valueAt, Cond.initialized RX9, Cond.code yX9_valueAt cX9_valueAt 2 (some .int), Cond.methodLink RX4 108 yX2_second, Cond.instanceMethod yX2_second, Cond.selects RX2 yX2_second yX2_second, Cond.code yX2_second cX2_second 2 (some .int), Cond.fieldLink RX2 21 "IslandBridges$Layout" "secondOf" "[I", Cond.methodLink RX4 114 yX0_leader, Cond.instanceMethod yX0_leader, Cond.selects RX0 yX0_leader yX0_leader, Cond.initialized RX0, Cond.code yX0_leader cX0_leader 2 (some .int)]
def wsX4_wouldCutOff_r2 : List Cond := [Cond.fieldLink RX0 9 "IslandBridges$Groups" "leaders" "[I"]
def wsX4_wouldCutOff : List Cond := .code yX4_wouldCutOff cX4_wouldCutOff 9 (some .boolean) :: ((wsX4_wouldCutOff_r1 ++ wsX4_wouldCutOff_r2) ++ wsX40 ++ wsX20 ++ wsX70 ++ wsX00)
def wsX4_isPossible_r1 : List Cond := [Cond.fieldLink RX4 9 "IslandBridges$Reasoner" "state" "LIslandBridges$State;", Cond.fieldLink RX4 36 "IslandBridges$State" "bridges" "[I", Cond.fieldLink RX4 65 "IslandBridges$State" "caps" "[I", Cond.fieldLink RX4 15 "IslandBridges$Reasoner" "layout" "LIslandBridges$Layout;", Cond.fieldLink RX4 53 "IslandBridges$Reasoner" "built" "J", Cond.fieldLink RX4 19 "IslandBridges$Reasoner" "sums" "LIslandBridges$Sums;", Cond.static yX9_valueAt, Cond.initialized RX9, Cond.code yX9_valueAt cX9_valueAt 2 (some .int), Cond.methodLink RX4 98 yX2_crossingsOf, Cond.instanceMethod yX2_crossingsOf, Cond.selects RX2 yX2_crossingsOf yX2_crossingsOf, Cond.initialized RX2, Cond.code yX2_crossingsOf cX2_crossingsOf 2 (some .long), Cond.fieldLink RX2 36 "IslandBridges$Layout" "crossings" "[J", Cond.methodLink RX4 76 yX7_lesserLack, Cond.instanceMethod yX7_lesserLack, Cond.selects RX7 yX7_lesserLack yX7_lesserLack, Cond.initialized RX7, Cond.code yX7_lesserLack cX7_lesserLack 2 (some .int), Cond.fieldLink RX7 21 "IslandBridges$Sums" "lacks" "[I", Cond.fieldLink RX7 28 "IslandBridges$Sums" "layout" "LIslandBridges$Layout;", Cond.methodLink RX7 71 Lib.Math.min.name, Cond.static Lib.Math.min.name]
def wsX4_isPossible_r2 : List Cond := [Cond.initialized "java/lang/Math", Cond.code Lib.Math.min.name Lib.Math.min.code 2 (some .int), Cond.methodLink RX7 42 yX2_first, Cond.instanceMethod yX2_first, Cond.selects RX2 yX2_first yX2_first, Cond.code yX2_first cX2_first 2 (some .int), Cond.fieldLink RX2 18 "IslandBridges$Layout" "firstOf" "[I", Cond.methodLink RX7 50 yX2_second, Cond.instanceMethod yX2_second, Cond.selects RX2 yX2_second yX2_second, Cond.code yX2_second cX2_second 2 (some .int), Cond.fieldLink RX2 21 "IslandBridges$Layout" "secondOf" "[I", Cond.methodLink RX4 80 yX7_leastBridges, Cond.instanceMethod yX7_leastBridges, Cond.selects RX7 yX7_leastBridges yX7_leastBridges, Cond.code yX7_leastBridges cX7_leastBridges 2 (some .int), Cond.methodLink RX7 80 Lib.Math.max.name, Cond.static Lib.Math.max.name, Cond.code Lib.Math.max.name Lib.Math.max.code 2 (some .int), Cond.methodLink RX7 77 yX7_leastBridgesFor, Cond.instanceMethod yX7_leastBridgesFor, Cond.selects RX7 yX7_leastBridgesFor yX7_leastBridgesFor, Cond.code yX7_leastBridgesFor cX7_leastBridgesFor 3 (some .int), Cond.fieldLink RX7 9 "IslandBridges$Sums" "numbers" "[I"]
def wsX4_isPossible_r3 : List Cond := [Cond.fieldLink RX7 18 "IslandBridges$Sums" "caps" "[I", Cond.fieldLink RX7 24 "IslandBridges$Sums" "state" "LIslandBridges$State;", Cond.fieldLink RX7 70 "IslandBridges$State" "caps" "[I", Cond.methodLink RX4 102 yX4_wouldCutOff, Cond.instanceMethod yX4_wouldCutOff, Cond.selects RX4 yX4_wouldCutOff yX4_wouldCutOff, Cond.initialized RX4, Cond.code yX4_wouldCutOff cX4_wouldCutOff 9 (some .boolean), Cond.fieldLink RX4 111 "IslandBridges$Layout" "islands" "I", Cond.fieldLink RX4 23 "IslandBridges$Reasoner" "groups" "LIslandBridges$Groups;", Cond.fieldLink RX4 117 "IslandBridges$Sums" "lacks" "[I", Cond.methodLink RX4 105 yX2_first, Cond.methodLink RX4 108 yX2_second, Cond.methodLink RX4 114 yX0_leader, Cond.instanceMethod yX0_leader, Cond.selects RX0 yX0_leader yX0_leader, Cond.initialized RX0, Cond.code yX0_leader cX0_leader 2 (some .int), Cond.fieldLink RX0 9 "IslandBridges$Groups" "leaders" "[I"]
def wsX4_isPossible : List Cond := .code yX4_isPossible cX4_isPossible 5 (some .boolean) :: ((wsX4_isPossible_r1 ++ (wsX4_isPossible_r2 ++ wsX4_isPossible_r3)) ++ wsX40 ++ wsX60 ++ wsX20 ++ wsX70 ++ wsX00)
def wsX4_find_r1 : List Cond := [Cond.fieldLink RX4 19 "IslandBridges$Reasoner" "sums" "LIslandBridges$Sums;", Cond.fieldLink RX4 23 "IslandBridges$Reasoner" "groups" "LIslandBridges$Groups;", Cond.fieldLink RX4 9 "IslandBridges$Reasoner" "state" "LIslandBridges$State;", Cond.fieldLink RX4 36 "IslandBridges$State" "bridges" "[I", Cond.fieldLink RX4 15 "IslandBridges$Reasoner" "layout" "LIslandBridges$Layout;", Cond.fieldLink RX4 53 "IslandBridges$Reasoner" "built" "J", Cond.fieldLink RX4 57 "IslandBridges$Layout" "ways" "I", Cond.methodLink RX4 27 yX7_read, Cond.instanceMethod yX7_read, Cond.selects RX7 yX7_read yX7_read, Cond.initialized RX7, Cond.code yX7_read cX7_read 3 none, Cond.fieldLink RX7 15 "IslandBridges$Sums" "bridges" "[I", Cond.fieldLink RX7 18 "IslandBridges$Sums" "caps" "[I", Cond.fieldLink RX7 28 "IslandBridges$Sums" "layout" "LIslandBridges$Layout;", Cond.fieldLink RX7 36 "IslandBridges$Layout" "ways" "I", Cond.fieldLink RX7 53 "IslandBridges$Layout" "islands" "I", Cond.fieldLink RX7 24 "IslandBridges$Sums" "state" "LIslandBridges$State;", Cond.fieldLink RX7 56 "IslandBridges$State" "numbers" "[I", Cond.fieldLink RX7 9 "IslandBridges$Sums" "numbers" "[I", Cond.fieldLink RX7 21 "IslandBridges$Sums" "lacks" "[I", Cond.static yX9_put, Cond.initialized RX9, Cond.code yX9_put cX9_put 3 none]
def wsX4_find_r2 : List Cond := [Cond.methodLink RX7 42 yX2_first, Cond.instanceMethod yX2_first, Cond.selects RX2 yX2_first yX2_first, Cond.initialized RX2, Cond.code yX2_first cX2_first 2 (some .int), Cond.fieldLink RX2 18 "IslandBridges$Layout" "firstOf" "[I", Cond.static yX9_valueAt, Cond.code yX9_valueAt cX9_valueAt 2 (some .int), Cond.methodLink RX7 46 yX7_addWay, Cond.instanceMethod yX7_addWay, Cond.selects RX7 yX7_addWay yX7_addWay, Cond.code yX7_addWay cX7_addWay 3 none, Cond.fieldLink RX7 66 "IslandBridges$State" "bridges" "[I", Cond.fieldLink RX7 70 "IslandBridges$State" "caps" "[I", Cond.static yX9_add, Cond.code yX9_add cX9_add 3 none, Cond.methodLink RX7 50 yX2_second, Cond.instanceMethod yX2_second, Cond.selects RX2 yX2_second yX2_second, Cond.code yX2_second cX2_second 2 (some .int), Cond.fieldLink RX2 21 "IslandBridges$Layout" "secondOf" "[I", Cond.methodLink RX7 59 yX2_cellOf, Cond.instanceMethod yX2_cellOf, Cond.selects RX2 yX2_cellOf yX2_cellOf]
def wsX4_find_r3 : List Cond := [Cond.code yX2_cellOf cX2_cellOf 2 (some .int), Cond.fieldLink RX2 9 "IslandBridges$Layout" "cellOf" "[I", Cond.methodLink RX4 32 yX7_areBroken, Cond.instanceMethod yX7_areBroken, Cond.selects RX7 yX7_areBroken yX7_areBroken, Cond.code yX7_areBroken cX7_areBroken 2 (some .boolean), Cond.methodLink RX4 42 yX0_read, Cond.instanceMethod yX0_read, Cond.selects RX0 yX0_read yX0_read, Cond.initialized RX0, Cond.code yX0_read cX0_read 3 none, Cond.fieldLink RX0 9 "IslandBridges$Groups" "leaders" "[I", Cond.fieldLink RX0 15 "IslandBridges$Groups" "layout" "LIslandBridges$Layout;", Cond.fieldLink RX0 23 "IslandBridges$Layout" "ways" "I", Cond.methodLink RX0 33 yX2_first, Cond.methodLink RX0 37 yX0_leader, Cond.instanceMethod yX0_leader, Cond.selects RX0 yX0_leader yX0_leader, Cond.code yX0_leader cX0_leader 2 (some .int), Cond.methodLink RX0 40 yX2_second, Cond.methodLink RX0 43 yX0_join, Cond.instanceMethod yX0_join, Cond.selects RX0 yX0_join yX0_join, Cond.code yX0_join cX0_join 6 none]
def wsX4_find_r4 : List Cond := [Cond.methodLink RX0 47 Lib.Math.min.name, Cond.static Lib.Math.min.name, Cond.initialized "java/lang/Math", Cond.code Lib.Math.min.name Lib.Math.min.code 2 (some .int), Cond.methodLink RX0 53 Lib.Math.max.name, Cond.static Lib.Math.max.name, Cond.code Lib.Math.max.name Lib.Math.max.code 2 (some .int), Cond.fieldLink RX0 56 "IslandBridges$Layout" "islands" "I", Cond.methodLink RX4 47 yX2_waysWith, Cond.instanceMethod yX2_waysWith, Cond.selects RX2 yX2_waysWith yX2_waysWith, Cond.code yX2_waysWith cX2_waysWith 5 (some .long), Cond.fieldLink RX2 73 "IslandBridges$Layout" "ways" "I", Cond.methodLink RX4 61 yX4_isPossible, Cond.instanceMethod yX4_isPossible, Cond.selects RX4 yX4_isPossible yX4_isPossible, Cond.initialized RX4, Cond.code yX4_isPossible cX4_isPossible 5 (some .boolean), Cond.fieldLink RX4 65 "IslandBridges$State" "caps" "[I", Cond.methodLink RX4 98 yX2_crossingsOf, Cond.instanceMethod yX2_crossingsOf, Cond.selects RX2 yX2_crossingsOf yX2_crossingsOf, Cond.code yX2_crossingsOf cX2_crossingsOf 2 (some .long), Cond.fieldLink RX2 36 "IslandBridges$Layout" "crossings" "[J"]
def wsX4_find_r5 : List Cond := [Cond.methodLink RX4 76 yX7_lesserLack, Cond.instanceMethod yX7_lesserLack, Cond.selects RX7 yX7_lesserLack yX7_lesserLack, Cond.code yX7_lesserLack cX7_lesserLack 2 (some .int), Cond.methodLink RX7 71 Lib.Math.min.name, Cond.methodLink RX4 80 yX7_leastBridges, Cond.instanceMethod yX7_leastBridges, Cond.selects RX7 yX7_leastBridges yX7_leastBridges, Cond.code yX7_leastBridges cX7_leastBridges 2 (some .int), Cond.methodLink RX7 80 Lib.Math.max.name, Cond.methodLink RX7 77 yX7_leastBridgesFor, Cond.instanceMethod yX7_leastBridgesFor, Cond.selects RX7 yX7_leastBridgesFor yX7_leastBridgesFor, Cond.code yX7_leastBridgesFor cX7_leastBridgesFor 3 (some .int), Cond.methodLink RX4 102 yX4_wouldCutOff, Cond.instanceMethod yX4_wouldCutOff, Cond.selects RX4 yX4_wouldCutOff yX4_wouldCutOff, Cond.code yX4_wouldCutOff cX4_wouldCutOff 9 (some .boolean), Cond.fieldLink RX4 111 "IslandBridges$Layout" "islands" "I", Cond.fieldLink RX4 117 "IslandBridges$Sums" "lacks" "[I", Cond.methodLink RX4 105 yX2_first, Cond.methodLink RX4 108 yX2_second, Cond.methodLink RX4 114 yX0_leader]
def wsX4_find : List Cond := .code yX4_find cX4_find 3 (some .int) :: ((wsX4_find_r1 ++ (wsX4_find_r2 ++ (wsX4_find_r3 ++ (wsX4_find_r4 ++ wsX4_find_r5)))) ++ wsX40 ++ wsX60 ++ wsX20 ++ wsX70 ++ wsX00)
def wsX4_carryOut_r1 : List Cond := [Cond.fieldLink RX4 9 "IslandBridges$Reasoner" "state" "LIslandBridges$State;", Cond.fieldLink RX4 65 "IslandBridges$State" "caps" "[I", Cond.fieldLink RX4 36 "IslandBridges$State" "bridges" "[I", Cond.fieldLink RX4 19 "IslandBridges$Reasoner" "sums" "LIslandBridges$Sums;", Cond.fieldLink RX4 86 "IslandBridges$State" "grade" "I", Cond.methodLink RX4 89 Lib.Math.max.name, Cond.static Lib.Math.max.name, Cond.initialized "java/lang/Math", Cond.code Lib.Math.max.name Lib.Math.max.code 2 (some .int), Cond.fieldLink RX4 95 "IslandBridges$State" "stepsMade" "I", Cond.static yX9_put, Cond.initialized RX9, Cond.code yX9_put cX9_put 3 none, Cond.static yX9_valueAt, Cond.code yX9_valueAt cX9_valueAt 2 (some .int), Cond.methodLink RX4 76 yX7_lesserLack, Cond.instanceMethod yX7_lesserLack, Cond.selects RX7 yX7_lesserLack yX7_lesserLack, Cond.initialized RX7, Cond.code yX7_lesserLack cX7_lesserLack 2 (some .int), Cond.fieldLink RX7 21 "IslandBridges$Sums" "lacks" "[I", Cond.fieldLink RX7 28 "IslandBridges$Sums" "layout" "LIslandBridges$Layout;", Cond.methodLink RX7 71 Lib.Math.min.name, Cond.static Lib.Math.min.name]
def wsX4_carryOut_r2 : List Cond := [Cond.code Lib.Math.min.name Lib.Math.min.code 2 (some .int), Cond.methodLink RX7 42 yX2_first, Cond.instanceMethod yX2_first, Cond.selects RX2 yX2_first yX2_first, Cond.initialized RX2, Cond.code yX2_first cX2_first 2 (some .int), Cond.fieldLink RX2 18 "IslandBridges$Layout" "firstOf" "[I", Cond.methodLink RX7 50 yX2_second, Cond.instanceMethod yX2_second, Cond.selects RX2 yX2_second yX2_second, Cond.code yX2_second cX2_second 2 (some .int), Cond.fieldLink RX2 21 "IslandBridges$Layout" "secondOf" "[I", Cond.methodLink RX4 80 yX7_leastBridges, Cond.instanceMethod yX7_leastBridges, Cond.selects RX7 yX7_leastBridges yX7_leastBridges, Cond.code yX7_leastBridges cX7_leastBridges 2 (some .int), Cond.methodLink RX7 80 Lib.Math.max.name, Cond.methodLink RX7 77 yX7_leastBridgesFor, Cond.instanceMethod yX7_leastBridgesFor, Cond.selects RX7 yX7_leastBridgesFor yX7_leastBridgesFor, Cond.code yX7_leastBridgesFor cX7_leastBridgesFor 3 (some .int), Cond.fieldLink RX7 9 "IslandBridges$Sums" "numbers" "[I", Cond.fieldLink RX7 18 "IslandBridges$Sums" "caps" "[I", Cond.fieldLink RX7 24 "IslandBridges$Sums" "state" "LIslandBridges$State;"]
def wsX4_carryOut_r3 : List Cond := [Cond.fieldLink RX7 70 "IslandBridges$State" "caps" "[I", Cond.static yX9_add, Cond.code yX9_add cX9_add 3 none]
def wsX4_carryOut : List Cond := .code yX4_carryOut cX4_carryOut 4 none :: ((wsX4_carryOut_r1 ++ (wsX4_carryOut_r2 ++ wsX4_carryOut_r3)) ++ wsX40 ++ wsX60 ++ wsX70 ++ wsX20)
def wsX5_init : List Cond := .code yX5_init cX5_init 4 none :: ([.methodLink RX5 3 objectInit, .instanceMethod objectInit, .code objectInit ⟨#[0xb1]⟩ 1 none, .arrayClass .int, .fieldLink RX5 9 "IslandBridges$Search" "bridges" "[I", .fieldLink RX5 15 "IslandBridges$Search" "lacks" "[I", .fieldLink RX5 18 "IslandBridges$Search" "open" "[I", .fieldLink RX5 21 "IslandBridges$Search" "state" "LIslandBridges$State;", .fieldLink RX5 25 "IslandBridges$Search" "layout" "LIslandBridges$Layout;", .fieldLink RX5 29 "IslandBridges$Search" "groups" "LIslandBridges$Groups;"] ++ wsX50)
def wsX7_init : List Cond := .code yX7_init cX7_init 3 none :: ([.methodLink RX7 3 objectInit, .instanceMethod objectInit, .code objectInit ⟨#[0xb1]⟩ 1 none, .arrayClass .int, .fieldLink RX7 9 "IslandBridges$Sums" "numbers" "[I", .fieldLink RX7 15 "IslandBridges$Sums" "bridges" "[I", .fieldLink RX7 18 "IslandBridges$Sums" "caps" "[I", .fieldLink RX7 21 "IslandBridges$Sums" "lacks" "[I", .fieldLink RX7 24 "IslandBridges$Sums" "state" "LIslandBridges$State;", .fieldLink RX7 28 "IslandBridges$Sums" "layout" "LIslandBridges$Layout;"] ++ wsX70)
def wsX8_init : List Cond := .code yX8_init cX8_init 1 none :: ([.methodLink RX8 3 objectInit, .instanceMethod objectInit, .code objectInit ⟨#[0xb1]⟩ 1 none, .arrayClass .int, .fieldLink RX8 9 "IslandBridges$Text" "characters" "[I"] ++ wsX80)
def wsX9_init_r1 : List Cond := [Cond.methodLink RX9 1 objectInit, Cond.instanceMethod objectInit, Cond.code objectInit ⟨#[0xb1]⟩ 1 none, Cond.classLink RX9 7 RX6, Cond.instantiable RX6 7, Cond.initialized RX6, Cond.fieldLink RX9 10 "IslandBridges" "state" "LIslandBridges$State;", Cond.classLink RX9 16 RX2, Cond.instantiable RX2 11, Cond.initialized RX2, Cond.fieldLink RX9 19 "IslandBridges" "layout" "LIslandBridges$Layout;", Cond.classLink RX9 23 RX7, Cond.instantiable RX7 6, Cond.initialized RX7, Cond.fieldLink RX9 28 "IslandBridges" "sums" "LIslandBridges$Sums;", Cond.classLink RX9 32 RX0, Cond.instantiable RX0 2, Cond.initialized RX0, Cond.fieldLink RX9 37 "IslandBridges" "groups" "LIslandBridges$Groups;", Cond.classLink RX9 41 RX4, Cond.instantiable RX4 5, Cond.initialized RX4, Cond.fieldLink RX9 46 "IslandBridges" "reasoner" "LIslandBridges$Reasoner;", Cond.classLink RX9 50 RX5]
def wsX9_init_r2 : List Cond := [Cond.instantiable RX5 12, Cond.initialized RX5, Cond.fieldLink RX9 55 "IslandBridges" "search" "LIslandBridges$Search;", Cond.classLink RX9 59 RX3, Cond.instantiable RX3 7, Cond.initialized RX3, Cond.fieldLink RX9 62 "IslandBridges" "maker" "LIslandBridges$Maker;", Cond.classLink RX9 66 RX1, Cond.instantiable RX1 2, Cond.initialized RX1, Cond.fieldLink RX9 69 "IslandBridges" "history" "LIslandBridges$History;", Cond.classLink RX9 73 RX8, Cond.instantiable RX8 8, Cond.initialized RX8, Cond.fieldLink RX9 76 "IslandBridges" "text" "LIslandBridges$Text;", Cond.methodLink RX9 9 yX6_init, Cond.instanceMethod yX6_init, Cond.code yX6_init cX6_init 1 none, Cond.methodLink RX6 3 objectInit, Cond.arrayClass .int, Cond.fieldLink RX6 9 "IslandBridges$State" "numbers" "[I", Cond.fieldLink RX6 15 "IslandBridges$State" "bridges" "[I", Cond.fieldLink RX6 18 "IslandBridges$State" "caps" "[I", Cond.methodLink RX6 21 yX6_empty]
def wsX9_init_r3 : List Cond := [Cond.instanceMethod yX6_empty, Cond.selects RX6 yX6_empty yX6_empty, Cond.code yX6_empty cX6_empty 4 none, Cond.fieldLink RX6 25 "IslandBridges$State" "columns" "I", Cond.fieldLink RX6 29 "IslandBridges$State" "rows" "I", Cond.static yX9_put, Cond.initialized RX9, Cond.code yX9_put cX9_put 3 none, Cond.methodLink RX6 36 yX6_takeAllBridges, Cond.instanceMethod yX6_takeAllBridges, Cond.selects RX6 yX6_takeAllBridges yX6_takeAllBridges, Cond.code yX6_takeAllBridges cX6_takeAllBridges 2 none, Cond.fieldLink RX6 39 "IslandBridges$State" "grade" "I", Cond.fieldLink RX6 42 "IslandBridges$State" "stepsMade" "I", Cond.instanceMethod yX2_init, Cond.code yX2_init cX2_init 1 none, Cond.methodLink RX2 3 objectInit, Cond.fieldLink RX2 9 "IslandBridges$Layout" "cellOf" "[I", Cond.fieldLink RX2 15 "IslandBridges$Layout" "islandAfter" "[I", Cond.fieldLink RX2 18 "IslandBridges$Layout" "firstOf" "[I", Cond.fieldLink RX2 21 "IslandBridges$Layout" "secondOf" "[I", Cond.fieldLink RX2 24 "IslandBridges$Layout" "firstCellOf" "[I", Cond.fieldLink RX2 27 "IslandBridges$Layout" "secondCellOf" "[I", Cond.fieldLink RX2 30 "IslandBridges$Layout" "strideOf" "[I"]
def wsX9_init_r4 : List Cond := [Cond.fieldLink RX2 33 "IslandBridges$Layout" "waysOf" "[I", Cond.arrayClass .long, Cond.fieldLink RX2 36 "IslandBridges$Layout" "crossings" "[J", Cond.methodLink RX9 25 yX7_init, Cond.instanceMethod yX7_init, Cond.code yX7_init cX7_init 3 none, Cond.methodLink RX7 3 objectInit, Cond.fieldLink RX7 9 "IslandBridges$Sums" "numbers" "[I", Cond.fieldLink RX7 15 "IslandBridges$Sums" "bridges" "[I", Cond.fieldLink RX7 18 "IslandBridges$Sums" "caps" "[I", Cond.fieldLink RX7 21 "IslandBridges$Sums" "lacks" "[I", Cond.fieldLink RX7 24 "IslandBridges$Sums" "state" "LIslandBridges$State;", Cond.fieldLink RX7 28 "IslandBridges$Sums" "layout" "LIslandBridges$Layout;", Cond.methodLink RX9 34 yX0_init, Cond.instanceMethod yX0_init, Cond.code yX0_init cX0_init 2 none, Cond.methodLink RX0 3 objectInit, Cond.fieldLink RX0 9 "IslandBridges$Groups" "leaders" "[I", Cond.fieldLink RX0 15 "IslandBridges$Groups" "layout" "LIslandBridges$Layout;", Cond.methodLink RX9 43 yX4_init, Cond.instanceMethod yX4_init, Cond.code yX4_init cX4_init 5 none, Cond.methodLink RX4 3 objectInit, Cond.fieldLink RX4 9 "IslandBridges$Reasoner" "state" "LIslandBridges$State;"]
def wsX9_init_r5 : List Cond := [Cond.fieldLink RX4 15 "IslandBridges$Reasoner" "layout" "LIslandBridges$Layout;", Cond.fieldLink RX4 19 "IslandBridges$Reasoner" "sums" "LIslandBridges$Sums;", Cond.fieldLink RX4 23 "IslandBridges$Reasoner" "groups" "LIslandBridges$Groups;", Cond.methodLink RX9 52 yX5_init, Cond.instanceMethod yX5_init, Cond.code yX5_init cX5_init 4 none, Cond.methodLink RX5 3 objectInit, Cond.fieldLink RX5 9 "IslandBridges$Search" "bridges" "[I", Cond.fieldLink RX5 15 "IslandBridges$Search" "lacks" "[I", Cond.fieldLink RX5 18 "IslandBridges$Search" "open" "[I", Cond.fieldLink RX5 21 "IslandBridges$Search" "state" "LIslandBridges$State;", Cond.fieldLink RX5 25 "IslandBridges$Search" "layout" "LIslandBridges$Layout;", Cond.fieldLink RX5 29 "IslandBridges$Search" "groups" "LIslandBridges$Groups;", Cond.instanceMethod yX3_init, Cond.code yX3_init cX3_init 1 none, Cond.methodLink RX3 3 objectInit, Cond.fieldLink RX3 9 "IslandBridges$Maker" "taken" "[I", Cond.fieldLink RX3 15 "IslandBridges$Maker" "numbers" "[I", Cond.fieldLink RX3 18 "IslandBridges$Maker" "cellOf" "[I", Cond.methodLink RX9 68 yX1_init, Cond.instanceMethod yX1_init, Cond.code yX1_init cX1_init 2 none, Cond.methodLink RX1 3 objectInit, Cond.classLink RX1 9 RX6]
def wsX9_init_r6 : List Cond := [Cond.fieldLink RX1 11 "IslandBridges$History" "states" "[LIslandBridges$State;", Cond.methodLink RX1 17 yX6_init, Cond.instanceMethod yX8_init, Cond.code yX8_init cX8_init 1 none, Cond.methodLink RX8 3 objectInit, Cond.fieldLink RX8 9 "IslandBridges$Text" "characters" "[I"]
def wsX9_init : List Cond := .code yX9_init cX9_init 1 none :: ((wsX9_init_r1 ++ (wsX9_init_r2 ++ (wsX9_init_r3 ++ (wsX9_init_r4 ++ (wsX9_init_r5 ++ wsX9_init_r6))))) ++ wsX60 ++ wsX90 ++ wsX20 ++ wsX70 ++ wsX00 ++ wsX40 ++ wsX50 ++ wsX30 ++ wsX10 ++ wsX80)
def wsX9_isSide : List Cond := .code yX9_isSide cX9_isSide 1 (some .boolean) :: ([])
def wsX9_renewWays_r1 : List Cond := [Cond.fieldLink RX9 10 "IslandBridges" "state" "LIslandBridges$State;", Cond.fieldLink RX9 19 "IslandBridges" "layout" "LIslandBridges$Layout;", Cond.methodLink RX9 227 yX6_takeAllBridges, Cond.instanceMethod yX6_takeAllBridges, Cond.selects RX6 yX6_takeAllBridges yX6_takeAllBridges, Cond.initialized RX6, Cond.code yX6_takeAllBridges cX6_takeAllBridges 2 none, Cond.fieldLink RX6 15 "IslandBridges$State" "bridges" "[I", Cond.fieldLink RX6 18 "IslandBridges$State" "caps" "[I", Cond.fieldLink RX6 39 "IslandBridges$State" "grade" "I", Cond.fieldLink RX6 42 "IslandBridges$State" "stepsMade" "I", Cond.static yX9_put, Cond.initialized RX9, Cond.code yX9_put cX9_put 3 none, Cond.methodLink RX9 261 yX2_read, Cond.instanceMethod yX2_read, Cond.selects RX2 yX2_read yX2_read, Cond.initialized RX2, Cond.code yX2_read cX2_read 2 none, Cond.fieldLink RX2 44 "IslandBridges$State" "columns" "I", Cond.methodLink RX2 40 yX2_readIslands, Cond.instanceMethod yX2_readIslands, Cond.selects RX2 yX2_readIslands yX2_readIslands, Cond.code yX2_readIslands cX2_readIslands 5 none]
def wsX9_renewWays_r2 : List Cond := [Cond.fieldLink RX2 76 "IslandBridges$Layout" "islands" "I", Cond.fieldLink RX2 79 "IslandBridges$State" "numbers" "[I", Cond.fieldLink RX2 9 "IslandBridges$Layout" "cellOf" "[I", Cond.fieldLink RX2 33 "IslandBridges$Layout" "waysOf" "[I", Cond.fieldLink RX2 15 "IslandBridges$Layout" "islandAfter" "[I", Cond.methodLink RX2 50 yX6_cells, Cond.instanceMethod yX6_cells, Cond.selects RX6 yX6_cells yX6_cells, Cond.code yX6_cells cX6_cells 1 (some .int), Cond.fieldLink RX6 25 "IslandBridges$State" "columns" "I", Cond.fieldLink RX6 29 "IslandBridges$State" "rows" "I", Cond.static yX9_valueAt, Cond.code yX9_valueAt cX9_valueAt 2 (some .int), Cond.methodLink RX2 54 yX2_readWays, Cond.instanceMethod yX2_readWays, Cond.selects RX2 yX2_readWays yX2_readWays, Cond.code yX2_readWays cX2_readWays 5 none, Cond.fieldLink RX2 73 "IslandBridges$Layout" "ways" "I", Cond.methodLink RX2 86 yX2_cellOf, Cond.instanceMethod yX2_cellOf, Cond.selects RX2 yX2_cellOf yX2_cellOf, Cond.code yX2_cellOf cX2_cellOf 2 (some .int), Cond.methodLink RX2 88 yX2_nextIsland, Cond.instanceMethod yX2_nextIsland]
def wsX9_renewWays_r3 : List Cond := [Cond.selects RX2 yX2_nextIsland yX2_nextIsland, Cond.code yX2_nextIsland cX2_nextIsland 6 (some .int), Cond.methodLink RX2 96 yX2_islandOn, Cond.instanceMethod yX2_islandOn, Cond.selects RX2 yX2_islandOn yX2_islandOn, Cond.code yX2_islandOn cX2_islandOn 2 (some .int), Cond.methodLink RX2 92 yX2_addWay, Cond.instanceMethod yX2_addWay, Cond.selects RX2 yX2_addWay yX2_addWay, Cond.code yX2_addWay cX2_addWay 4 none, Cond.fieldLink RX2 18 "IslandBridges$Layout" "firstOf" "[I", Cond.fieldLink RX2 21 "IslandBridges$Layout" "secondOf" "[I", Cond.fieldLink RX2 24 "IslandBridges$Layout" "firstCellOf" "[I", Cond.fieldLink RX2 27 "IslandBridges$Layout" "secondCellOf" "[I", Cond.fieldLink RX2 30 "IslandBridges$Layout" "strideOf" "[I", Cond.static yX9_add, Cond.code yX9_add cX9_add 3 none, Cond.methodLink RX2 58 yX2_readCrossings, Cond.instanceMethod yX2_readCrossings, Cond.selects RX2 yX2_readCrossings yX2_readCrossings, Cond.code yX2_readCrossings cX2_readCrossings 6 none, Cond.fieldLink RX2 36 "IslandBridges$Layout" "crossings" "[J", Cond.methodLink RX2 102 yX2_doCross, Cond.instanceMethod yX2_doCross]
def wsX9_renewWays_r4 : List Cond := [Cond.selects RX2 yX2_doCross yX2_doCross, Cond.code yX2_doCross cX2_doCross 7 (some .boolean), Cond.methodLink RX2 106 yX2_isAlongRow, Cond.instanceMethod yX2_isAlongRow, Cond.selects RX2 yX2_isAlongRow yX2_isAlongRow, Cond.code yX2_isAlongRow cX2_isAlongRow 2 (some .boolean), Cond.methodLink RX2 70 yX2_firstCell, Cond.instanceMethod yX2_firstCell, Cond.selects RX2 yX2_firstCell yX2_firstCell, Cond.code yX2_firstCell cX2_firstCell 2 (some .int), Cond.methodLink RX2 110 yX2_isOver, Cond.instanceMethod yX2_isOver, Cond.selects RX2 yX2_isOver yX2_isOver, Cond.code yX2_isOver cX2_isOver 6 (some .boolean)]
def wsX9_renewWays : List Cond := .code yX9_renewWays cX9_renewWays 1 none :: ((wsX9_renewWays_r1 ++ (wsX9_renewWays_r2 ++ (wsX9_renewWays_r3 ++ wsX9_renewWays_r4))) ++ wsX90 ++ wsX60 ++ wsX20)
def wsX9_begin_r1 : List Cond := [Cond.fieldLink RX9 19 "IslandBridges" "layout" "LIslandBridges$Layout;", Cond.fieldLink RX9 84 "IslandBridges$Layout" "islands" "I", Cond.fieldLink RX9 69 "IslandBridges" "history" "LIslandBridges$History;", Cond.fieldLink RX9 10 "IslandBridges" "state" "LIslandBridges$State;", Cond.methodLink RX9 80 yX9_isSide, Cond.static yX9_isSide, Cond.initialized RX9, Cond.code yX9_isSide cX9_isSide 1 (some .boolean), Cond.methodLink RX9 88 yX1_record, Cond.instanceMethod yX1_record, Cond.selects RX1 yX1_record yX1_record, Cond.initialized RX1, Cond.code yX1_record cX1_record 3 none, Cond.fieldLink RX1 18 "IslandBridges$History" "size" "I", Cond.methodLink RX1 22 yX1_dropOldest, Cond.instanceMethod yX1_dropOldest, Cond.selects RX1 yX1_dropOldest yX1_dropOldest, Cond.code yX1_dropOldest cX1_dropOldest 4 none, Cond.fieldLink RX1 11 "IslandBridges$History" "states" "[LIslandBridges$State;", Cond.methodLink RX1 25 yX1_stateAt, Cond.instanceMethod yX1_stateAt, Cond.selects RX1 yX1_stateAt yX1_stateAt, Cond.code yX1_stateAt cX1_stateAt 2 (some (.object "IslandBridges$State")), Cond.methodLink RX1 33 yX1_putState]
def wsX9_begin_r2 : List Cond := [Cond.instanceMethod yX1_putState, Cond.selects RX1 yX1_putState yX1_putState, Cond.code yX1_putState cX1_putState 3 none, Cond.methodLink RX1 29 yX6_becomeLike, Cond.instanceMethod yX6_becomeLike, Cond.selects RX6 yX6_becomeLike yX6_becomeLike, Cond.initialized RX6, Cond.code yX6_becomeLike cX6_becomeLike 2 none, Cond.fieldLink RX6 25 "IslandBridges$State" "columns" "I", Cond.fieldLink RX6 29 "IslandBridges$State" "rows" "I", Cond.fieldLink RX6 39 "IslandBridges$State" "grade" "I", Cond.fieldLink RX6 42 "IslandBridges$State" "stepsMade" "I", Cond.fieldLink RX6 9 "IslandBridges$State" "numbers" "[I", Cond.methodLink RX6 45 arraycopyName, Cond.native arraycopyName, Cond.static arraycopyName, Cond.initialized "java/lang/System", Cond.fieldLink RX6 15 "IslandBridges$State" "bridges" "[I", Cond.fieldLink RX6 18 "IslandBridges$State" "caps" "[I", Cond.methodLink RX9 92 yX6_empty, Cond.instanceMethod yX6_empty, Cond.selects RX6 yX6_empty yX6_empty, Cond.code yX6_empty cX6_empty 4 none, Cond.static yX9_put]
def wsX9_begin_r3 : List Cond := [Cond.code yX9_put cX9_put 3 none, Cond.methodLink RX6 36 yX6_takeAllBridges, Cond.instanceMethod yX6_takeAllBridges, Cond.selects RX6 yX6_takeAllBridges yX6_takeAllBridges, Cond.code yX6_takeAllBridges cX6_takeAllBridges 2 none, Cond.methodLink RX9 96 yX9_renewWays, Cond.instanceMethod yX9_renewWays, Cond.selects RX9 yX9_renewWays yX9_renewWays, Cond.code yX9_renewWays cX9_renewWays 1 none, Cond.methodLink RX9 227 yX6_takeAllBridges, Cond.methodLink RX9 261 yX2_read, Cond.instanceMethod yX2_read, Cond.selects RX2 yX2_read yX2_read, Cond.initialized RX2, Cond.code yX2_read cX2_read 2 none, Cond.fieldLink RX2 44 "IslandBridges$State" "columns" "I", Cond.methodLink RX2 40 yX2_readIslands, Cond.instanceMethod yX2_readIslands, Cond.selects RX2 yX2_readIslands yX2_readIslands, Cond.code yX2_readIslands cX2_readIslands 5 none, Cond.fieldLink RX2 76 "IslandBridges$Layout" "islands" "I", Cond.fieldLink RX2 79 "IslandBridges$State" "numbers" "[I", Cond.fieldLink RX2 9 "IslandBridges$Layout" "cellOf" "[I", Cond.fieldLink RX2 33 "IslandBridges$Layout" "waysOf" "[I"]
def wsX9_begin_r4 : List Cond := [Cond.fieldLink RX2 15 "IslandBridges$Layout" "islandAfter" "[I", Cond.methodLink RX2 50 yX6_cells, Cond.instanceMethod yX6_cells, Cond.selects RX6 yX6_cells yX6_cells, Cond.code yX6_cells cX6_cells 1 (some .int), Cond.static yX9_valueAt, Cond.code yX9_valueAt cX9_valueAt 2 (some .int), Cond.methodLink RX2 54 yX2_readWays, Cond.instanceMethod yX2_readWays, Cond.selects RX2 yX2_readWays yX2_readWays, Cond.code yX2_readWays cX2_readWays 5 none, Cond.fieldLink RX2 73 "IslandBridges$Layout" "ways" "I", Cond.methodLink RX2 86 yX2_cellOf, Cond.instanceMethod yX2_cellOf, Cond.selects RX2 yX2_cellOf yX2_cellOf, Cond.code yX2_cellOf cX2_cellOf 2 (some .int), Cond.methodLink RX2 88 yX2_nextIsland, Cond.instanceMethod yX2_nextIsland, Cond.selects RX2 yX2_nextIsland yX2_nextIsland, Cond.code yX2_nextIsland cX2_nextIsland 6 (some .int), Cond.methodLink RX2 96 yX2_islandOn, Cond.instanceMethod yX2_islandOn, Cond.selects RX2 yX2_islandOn yX2_islandOn, Cond.code yX2_islandOn cX2_islandOn 2 (some .int)]
def wsX9_begin_r5 : List Cond := [Cond.methodLink RX2 92 yX2_addWay, Cond.instanceMethod yX2_addWay, Cond.selects RX2 yX2_addWay yX2_addWay, Cond.code yX2_addWay cX2_addWay 4 none, Cond.fieldLink RX2 18 "IslandBridges$Layout" "firstOf" "[I", Cond.fieldLink RX2 21 "IslandBridges$Layout" "secondOf" "[I", Cond.fieldLink RX2 24 "IslandBridges$Layout" "firstCellOf" "[I", Cond.fieldLink RX2 27 "IslandBridges$Layout" "secondCellOf" "[I", Cond.fieldLink RX2 30 "IslandBridges$Layout" "strideOf" "[I", Cond.static yX9_add, Cond.code yX9_add cX9_add 3 none, Cond.methodLink RX2 58 yX2_readCrossings, Cond.instanceMethod yX2_readCrossings, Cond.selects RX2 yX2_readCrossings yX2_readCrossings, Cond.code yX2_readCrossings cX2_readCrossings 6 none, Cond.fieldLink RX2 36 "IslandBridges$Layout" "crossings" "[J", Cond.methodLink RX2 102 yX2_doCross, Cond.instanceMethod yX2_doCross, Cond.selects RX2 yX2_doCross yX2_doCross, Cond.code yX2_doCross cX2_doCross 7 (some .boolean), Cond.methodLink RX2 106 yX2_isAlongRow, Cond.instanceMethod yX2_isAlongRow, Cond.selects RX2 yX2_isAlongRow yX2_isAlongRow, Cond.code yX2_isAlongRow cX2_isAlongRow 2 (some .boolean)]
def wsX9_begin_r6 : List Cond := [Cond.methodLink RX2 70 yX2_firstCell, Cond.instanceMethod yX2_firstCell, Cond.selects RX2 yX2_firstCell yX2_firstCell, Cond.code yX2_firstCell cX2_firstCell 2 (some .int), Cond.methodLink RX2 110 yX2_isOver, Cond.instanceMethod yX2_isOver, Cond.selects RX2 yX2_isOver yX2_isOver, Cond.code yX2_isOver cX2_isOver 6 (some .boolean)]
def wsX9_begin : List Cond := .code yX9_begin cX9_begin 4 (some .int) :: ((wsX9_begin_r1 ++ (wsX9_begin_r2 ++ (wsX9_begin_r3 ++ (wsX9_begin_r4 ++ (wsX9_begin_r5 ++ wsX9_begin_r6))))) ++ wsX90 ++ wsX20 ++ wsX10 ++ wsX60)
def wsX9_isCell : List Cond := .code yX9_isCell cX9_isCell 2 (some .boolean) :: ([.fieldLink RX9 10 "IslandBridges" "state" "LIslandBridges$State;", .methodLink RX9 278 yX6_cells, .instanceMethod yX6_cells, .selects RX6 yX6_cells yX6_cells, .initialized RX6, .code yX6_cells cX6_cells 1 (some .int), .fieldLink RX6 25 "IslandBridges$State" "columns" "I", .fieldLink RX6 29 "IslandBridges$State" "rows" "I"] ++ wsX90 ++ wsX60)
def wsX9_island_r1 : List Cond := [Cond.fieldLink RX9 10 "IslandBridges" "state" "LIslandBridges$State;", Cond.fieldLink RX9 102 "IslandBridges$State" "numbers" "[I", Cond.fieldLink RX9 19 "IslandBridges" "layout" "LIslandBridges$Layout;", Cond.fieldLink RX9 84 "IslandBridges$Layout" "islands" "I", Cond.fieldLink RX9 69 "IslandBridges" "history" "LIslandBridges$History;", Cond.fieldLink RX9 114 "IslandBridges$Layout" "ways" "I", Cond.methodLink RX9 99 yX9_isCell, Cond.instanceMethod yX9_isCell, Cond.selects RX9 yX9_isCell yX9_isCell, Cond.initialized RX9, Cond.code yX9_isCell cX9_isCell 2 (some .boolean), Cond.methodLink RX9 278 yX6_cells, Cond.instanceMethod yX6_cells, Cond.selects RX6 yX6_cells yX6_cells, Cond.initialized RX6, Cond.code yX6_cells cX6_cells 1 (some .int), Cond.fieldLink RX6 25 "IslandBridges$State" "columns" "I", Cond.fieldLink RX6 29 "IslandBridges$State" "rows" "I", Cond.methodLink RX9 106 yX9_valueAt, Cond.static yX9_valueAt, Cond.code yX9_valueAt cX9_valueAt 2 (some .int), Cond.methodLink RX9 88 yX1_record, Cond.instanceMethod yX1_record, Cond.selects RX1 yX1_record yX1_record]
def wsX9_island_r2 : List Cond := [Cond.initialized RX1, Cond.code yX1_record cX1_record 3 none, Cond.fieldLink RX1 18 "IslandBridges$History" "size" "I", Cond.methodLink RX1 22 yX1_dropOldest, Cond.instanceMethod yX1_dropOldest, Cond.selects RX1 yX1_dropOldest yX1_dropOldest, Cond.code yX1_dropOldest cX1_dropOldest 4 none, Cond.fieldLink RX1 11 "IslandBridges$History" "states" "[LIslandBridges$State;", Cond.methodLink RX1 25 yX1_stateAt, Cond.instanceMethod yX1_stateAt, Cond.selects RX1 yX1_stateAt yX1_stateAt, Cond.code yX1_stateAt cX1_stateAt 2 (some (.object "IslandBridges$State")), Cond.methodLink RX1 33 yX1_putState, Cond.instanceMethod yX1_putState, Cond.selects RX1 yX1_putState yX1_putState, Cond.code yX1_putState cX1_putState 3 none, Cond.methodLink RX1 29 yX6_becomeLike, Cond.instanceMethod yX6_becomeLike, Cond.selects RX6 yX6_becomeLike yX6_becomeLike, Cond.code yX6_becomeLike cX6_becomeLike 2 none, Cond.fieldLink RX6 39 "IslandBridges$State" "grade" "I", Cond.fieldLink RX6 42 "IslandBridges$State" "stepsMade" "I", Cond.fieldLink RX6 9 "IslandBridges$State" "numbers" "[I", Cond.methodLink RX6 45 arraycopyName]
def wsX9_island_r3 : List Cond := [Cond.native arraycopyName, Cond.static arraycopyName, Cond.initialized "java/lang/System", Cond.fieldLink RX6 15 "IslandBridges$State" "bridges" "[I", Cond.fieldLink RX6 18 "IslandBridges$State" "caps" "[I", Cond.methodLink RX9 110 yX9_put, Cond.static yX9_put, Cond.code yX9_put cX9_put 3 none, Cond.methodLink RX9 96 yX9_renewWays, Cond.instanceMethod yX9_renewWays, Cond.selects RX9 yX9_renewWays yX9_renewWays, Cond.code yX9_renewWays cX9_renewWays 1 none, Cond.methodLink RX9 227 yX6_takeAllBridges, Cond.instanceMethod yX6_takeAllBridges, Cond.selects RX6 yX6_takeAllBridges yX6_takeAllBridges, Cond.code yX6_takeAllBridges cX6_takeAllBridges 2 none, Cond.methodLink RX9 261 yX2_read, Cond.instanceMethod yX2_read, Cond.selects RX2 yX2_read yX2_read, Cond.initialized RX2, Cond.code yX2_read cX2_read 2 none, Cond.fieldLink RX2 44 "IslandBridges$State" "columns" "I", Cond.methodLink RX2 40 yX2_readIslands, Cond.instanceMethod yX2_readIslands]
def wsX9_island_r4 : List Cond := [Cond.selects RX2 yX2_readIslands yX2_readIslands, Cond.code yX2_readIslands cX2_readIslands 5 none, Cond.fieldLink RX2 76 "IslandBridges$Layout" "islands" "I", Cond.fieldLink RX2 79 "IslandBridges$State" "numbers" "[I", Cond.fieldLink RX2 9 "IslandBridges$Layout" "cellOf" "[I", Cond.fieldLink RX2 33 "IslandBridges$Layout" "waysOf" "[I", Cond.fieldLink RX2 15 "IslandBridges$Layout" "islandAfter" "[I", Cond.methodLink RX2 50 yX6_cells, Cond.methodLink RX2 54 yX2_readWays, Cond.instanceMethod yX2_readWays, Cond.selects RX2 yX2_readWays yX2_readWays, Cond.code yX2_readWays cX2_readWays 5 none, Cond.fieldLink RX2 73 "IslandBridges$Layout" "ways" "I", Cond.methodLink RX2 86 yX2_cellOf, Cond.instanceMethod yX2_cellOf, Cond.selects RX2 yX2_cellOf yX2_cellOf, Cond.code yX2_cellOf cX2_cellOf 2 (some .int), Cond.methodLink RX2 88 yX2_nextIsland, Cond.instanceMethod yX2_nextIsland, Cond.selects RX2 yX2_nextIsland yX2_nextIsland, Cond.code yX2_nextIsland cX2_nextIsland 6 (some .int), Cond.methodLink RX2 96 yX2_islandOn, Cond.instanceMethod yX2_islandOn, Cond.selects RX2 yX2_islandOn yX2_islandOn]
def wsX9_island_r5 : List Cond := [Cond.code yX2_islandOn cX2_islandOn 2 (some .int), Cond.methodLink RX2 92 yX2_addWay, Cond.instanceMethod yX2_addWay, Cond.selects RX2 yX2_addWay yX2_addWay, Cond.code yX2_addWay cX2_addWay 4 none, Cond.fieldLink RX2 18 "IslandBridges$Layout" "firstOf" "[I", Cond.fieldLink RX2 21 "IslandBridges$Layout" "secondOf" "[I", Cond.fieldLink RX2 24 "IslandBridges$Layout" "firstCellOf" "[I", Cond.fieldLink RX2 27 "IslandBridges$Layout" "secondCellOf" "[I", Cond.fieldLink RX2 30 "IslandBridges$Layout" "strideOf" "[I", Cond.static yX9_add, Cond.code yX9_add cX9_add 3 none, Cond.methodLink RX2 58 yX2_readCrossings, Cond.instanceMethod yX2_readCrossings, Cond.selects RX2 yX2_readCrossings yX2_readCrossings, Cond.code yX2_readCrossings cX2_readCrossings 6 none, Cond.fieldLink RX2 36 "IslandBridges$Layout" "crossings" "[J", Cond.methodLink RX2 102 yX2_doCross, Cond.instanceMethod yX2_doCross, Cond.selects RX2 yX2_doCross yX2_doCross, Cond.code yX2_doCross cX2_doCross 7 (some .boolean), Cond.methodLink RX2 106 yX2_isAlongRow, Cond.instanceMethod yX2_isAlongRow, Cond.selects RX2 yX2_isAlongRow yX2_isAlongRow]
def wsX9_island_r6 : List Cond := [Cond.code yX2_isAlongRow cX2_isAlongRow 2 (some .boolean), Cond.methodLink RX2 70 yX2_firstCell, Cond.instanceMethod yX2_firstCell, Cond.selects RX2 yX2_firstCell yX2_firstCell, Cond.code yX2_firstCell cX2_firstCell 2 (some .int), Cond.methodLink RX2 110 yX2_isOver, Cond.instanceMethod yX2_isOver, Cond.selects RX2 yX2_isOver yX2_isOver, Cond.code yX2_isOver cX2_isOver 6 (some .boolean)]
def wsX9_island : List Cond := .code yX9_island cX9_island 3 (some .int) :: ((wsX9_island_r1 ++ (wsX9_island_r2 ++ (wsX9_island_r3 ++ (wsX9_island_r4 ++ (wsX9_island_r5 ++ wsX9_island_r6))))) ++ wsX90 ++ wsX60 ++ wsX20 ++ wsX10)
def wsX9_removeIsland_r1 : List Cond := [Cond.fieldLink RX9 10 "IslandBridges" "state" "LIslandBridges$State;", Cond.fieldLink RX9 102 "IslandBridges$State" "numbers" "[I", Cond.fieldLink RX9 69 "IslandBridges" "history" "LIslandBridges$History;", Cond.methodLink RX9 99 yX9_isCell, Cond.instanceMethod yX9_isCell, Cond.selects RX9 yX9_isCell yX9_isCell, Cond.initialized RX9, Cond.code yX9_isCell cX9_isCell 2 (some .boolean), Cond.methodLink RX9 278 yX6_cells, Cond.instanceMethod yX6_cells, Cond.selects RX6 yX6_cells yX6_cells, Cond.initialized RX6, Cond.code yX6_cells cX6_cells 1 (some .int), Cond.fieldLink RX6 25 "IslandBridges$State" "columns" "I", Cond.fieldLink RX6 29 "IslandBridges$State" "rows" "I", Cond.methodLink RX9 106 yX9_valueAt, Cond.static yX9_valueAt, Cond.code yX9_valueAt cX9_valueAt 2 (some .int), Cond.methodLink RX9 88 yX1_record, Cond.instanceMethod yX1_record, Cond.selects RX1 yX1_record yX1_record, Cond.initialized RX1, Cond.code yX1_record cX1_record 3 none, Cond.fieldLink RX1 18 "IslandBridges$History" "size" "I"]
def wsX9_removeIsland_r2 : List Cond := [Cond.methodLink RX1 22 yX1_dropOldest, Cond.instanceMethod yX1_dropOldest, Cond.selects RX1 yX1_dropOldest yX1_dropOldest, Cond.code yX1_dropOldest cX1_dropOldest 4 none, Cond.fieldLink RX1 11 "IslandBridges$History" "states" "[LIslandBridges$State;", Cond.methodLink RX1 25 yX1_stateAt, Cond.instanceMethod yX1_stateAt, Cond.selects RX1 yX1_stateAt yX1_stateAt, Cond.code yX1_stateAt cX1_stateAt 2 (some (.object "IslandBridges$State")), Cond.methodLink RX1 33 yX1_putState, Cond.instanceMethod yX1_putState, Cond.selects RX1 yX1_putState yX1_putState, Cond.code yX1_putState cX1_putState 3 none, Cond.methodLink RX1 29 yX6_becomeLike, Cond.instanceMethod yX6_becomeLike, Cond.selects RX6 yX6_becomeLike yX6_becomeLike, Cond.code yX6_becomeLike cX6_becomeLike 2 none, Cond.fieldLink RX6 39 "IslandBridges$State" "grade" "I", Cond.fieldLink RX6 42 "IslandBridges$State" "stepsMade" "I", Cond.fieldLink RX6 9 "IslandBridges$State" "numbers" "[I", Cond.methodLink RX6 45 arraycopyName, Cond.native arraycopyName, Cond.static arraycopyName, Cond.initialized "java/lang/System"]
def wsX9_removeIsland_r3 : List Cond := [Cond.fieldLink RX6 15 "IslandBridges$State" "bridges" "[I", Cond.fieldLink RX6 18 "IslandBridges$State" "caps" "[I", Cond.methodLink RX9 110 yX9_put, Cond.static yX9_put, Cond.code yX9_put cX9_put 3 none, Cond.methodLink RX9 96 yX9_renewWays, Cond.instanceMethod yX9_renewWays, Cond.selects RX9 yX9_renewWays yX9_renewWays, Cond.code yX9_renewWays cX9_renewWays 1 none, Cond.fieldLink RX9 19 "IslandBridges" "layout" "LIslandBridges$Layout;", Cond.methodLink RX9 227 yX6_takeAllBridges, Cond.instanceMethod yX6_takeAllBridges, Cond.selects RX6 yX6_takeAllBridges yX6_takeAllBridges, Cond.code yX6_takeAllBridges cX6_takeAllBridges 2 none, Cond.methodLink RX9 261 yX2_read, Cond.instanceMethod yX2_read, Cond.selects RX2 yX2_read yX2_read, Cond.initialized RX2, Cond.code yX2_read cX2_read 2 none, Cond.fieldLink RX2 44 "IslandBridges$State" "columns" "I", Cond.methodLink RX2 40 yX2_readIslands, Cond.instanceMethod yX2_readIslands, Cond.selects RX2 yX2_readIslands yX2_readIslands, Cond.code yX2_readIslands cX2_readIslands 5 none]
def wsX9_removeIsland_r4 : List Cond := [Cond.fieldLink RX2 76 "IslandBridges$Layout" "islands" "I", Cond.fieldLink RX2 79 "IslandBridges$State" "numbers" "[I", Cond.fieldLink RX2 9 "IslandBridges$Layout" "cellOf" "[I", Cond.fieldLink RX2 33 "IslandBridges$Layout" "waysOf" "[I", Cond.fieldLink RX2 15 "IslandBridges$Layout" "islandAfter" "[I", Cond.methodLink RX2 50 yX6_cells, Cond.methodLink RX2 54 yX2_readWays, Cond.instanceMethod yX2_readWays, Cond.selects RX2 yX2_readWays yX2_readWays, Cond.code yX2_readWays cX2_readWays 5 none, Cond.fieldLink RX2 73 "IslandBridges$Layout" "ways" "I", Cond.methodLink RX2 86 yX2_cellOf, Cond.instanceMethod yX2_cellOf, Cond.selects RX2 yX2_cellOf yX2_cellOf, Cond.code yX2_cellOf cX2_cellOf 2 (some .int), Cond.methodLink RX2 88 yX2_nextIsland, Cond.instanceMethod yX2_nextIsland, Cond.selects RX2 yX2_nextIsland yX2_nextIsland, Cond.code yX2_nextIsland cX2_nextIsland 6 (some .int), Cond.methodLink RX2 96 yX2_islandOn, Cond.instanceMethod yX2_islandOn, Cond.selects RX2 yX2_islandOn yX2_islandOn, Cond.code yX2_islandOn cX2_islandOn 2 (some .int), Cond.methodLink RX2 92 yX2_addWay]
def wsX9_removeIsland_r5 : List Cond := [Cond.instanceMethod yX2_addWay, Cond.selects RX2 yX2_addWay yX2_addWay, Cond.code yX2_addWay cX2_addWay 4 none, Cond.fieldLink RX2 18 "IslandBridges$Layout" "firstOf" "[I", Cond.fieldLink RX2 21 "IslandBridges$Layout" "secondOf" "[I", Cond.fieldLink RX2 24 "IslandBridges$Layout" "firstCellOf" "[I", Cond.fieldLink RX2 27 "IslandBridges$Layout" "secondCellOf" "[I", Cond.fieldLink RX2 30 "IslandBridges$Layout" "strideOf" "[I", Cond.static yX9_add, Cond.code yX9_add cX9_add 3 none, Cond.methodLink RX2 58 yX2_readCrossings, Cond.instanceMethod yX2_readCrossings, Cond.selects RX2 yX2_readCrossings yX2_readCrossings, Cond.code yX2_readCrossings cX2_readCrossings 6 none, Cond.fieldLink RX2 36 "IslandBridges$Layout" "crossings" "[J", Cond.methodLink RX2 102 yX2_doCross, Cond.instanceMethod yX2_doCross, Cond.selects RX2 yX2_doCross yX2_doCross, Cond.code yX2_doCross cX2_doCross 7 (some .boolean), Cond.methodLink RX2 106 yX2_isAlongRow, Cond.instanceMethod yX2_isAlongRow, Cond.selects RX2 yX2_isAlongRow yX2_isAlongRow, Cond.code yX2_isAlongRow cX2_isAlongRow 2 (some .boolean), Cond.methodLink RX2 70 yX2_firstCell]
def wsX9_removeIsland_r6 : List Cond := [Cond.instanceMethod yX2_firstCell, Cond.selects RX2 yX2_firstCell yX2_firstCell, Cond.code yX2_firstCell cX2_firstCell 2 (some .int), Cond.methodLink RX2 110 yX2_isOver, Cond.instanceMethod yX2_isOver, Cond.selects RX2 yX2_isOver yX2_isOver, Cond.code yX2_isOver cX2_isOver 6 (some .boolean)]
def wsX9_removeIsland : List Cond := .code yX9_removeIsland cX9_removeIsland 3 (some .int) :: ((wsX9_removeIsland_r1 ++ (wsX9_removeIsland_r2 ++ (wsX9_removeIsland_r3 ++ (wsX9_removeIsland_r4 ++ (wsX9_removeIsland_r5 ++ wsX9_removeIsland_r6))))) ++ wsX90 ++ wsX60 ++ wsX10 ++ wsX20)
def wsX9_at_r1 : List Cond := [Cond.fieldLink RX9 10 "IslandBridges" "state" "LIslandBridges$State;", Cond.fieldLink RX9 102 "IslandBridges$State" "numbers" "[I", Cond.fieldLink RX9 19 "IslandBridges" "layout" "LIslandBridges$Layout;", Cond.fieldLink RX9 114 "IslandBridges$Layout" "ways" "I", Cond.fieldLink RX9 117 "IslandBridges$State" "bridges" "[I", Cond.methodLink RX9 99 yX9_isCell, Cond.instanceMethod yX9_isCell, Cond.selects RX9 yX9_isCell yX9_isCell, Cond.initialized RX9, Cond.code yX9_isCell cX9_isCell 2 (some .boolean), Cond.methodLink RX9 278 yX6_cells, Cond.instanceMethod yX6_cells, Cond.selects RX6 yX6_cells yX6_cells, Cond.initialized RX6, Cond.code yX6_cells cX6_cells 1 (some .int), Cond.fieldLink RX6 25 "IslandBridges$State" "columns" "I", Cond.fieldLink RX6 29 "IslandBridges$State" "rows" "I", Cond.methodLink RX9 106 yX9_valueAt, Cond.static yX9_valueAt, Cond.code yX9_valueAt cX9_valueAt 2 (some .int), Cond.methodLink RX9 120 yX2_isOver, Cond.instanceMethod yX2_isOver, Cond.selects RX2 yX2_isOver yX2_isOver, Cond.initialized RX2]
def wsX9_at_r2 : List Cond := [Cond.code yX2_isOver cX2_isOver 6 (some .boolean), Cond.fieldLink RX2 30 "IslandBridges$Layout" "strideOf" "[I", Cond.fieldLink RX2 24 "IslandBridges$Layout" "firstCellOf" "[I", Cond.fieldLink RX2 27 "IslandBridges$Layout" "secondCellOf" "[I", Cond.methodLink RX9 124 yX2_isAlongRow, Cond.instanceMethod yX2_isAlongRow, Cond.selects RX2 yX2_isAlongRow yX2_isAlongRow, Cond.code yX2_isAlongRow cX2_isAlongRow 2 (some .boolean)]
def wsX9_at : List Cond := .code yX9_at cX9_at 5 (some .int) :: ((wsX9_at_r1 ++ wsX9_at_r2) ++ wsX90 ++ wsX60 ++ wsX20)
def wsX9_islandInfo_r1 : List Cond := [Cond.fieldLink RX9 19 "IslandBridges" "layout" "LIslandBridges$Layout;", Cond.fieldLink RX9 28 "IslandBridges" "sums" "LIslandBridges$Sums;", Cond.fieldLink RX9 10 "IslandBridges" "state" "LIslandBridges$State;", Cond.fieldLink RX9 102 "IslandBridges$State" "numbers" "[I", Cond.fieldLink RX9 134 "IslandBridges$Sums" "bridges" "[I", Cond.fieldLink RX9 135 "IslandBridges$Sums" "lacks" "[I", Cond.fieldLink RX9 138 "IslandBridges$Layout" "waysOf" "[I", Cond.fieldLink RX9 141 "IslandBridges$Sums" "caps" "[I", Cond.fieldLink RX9 37 "IslandBridges" "groups" "LIslandBridges$Groups;", Cond.fieldLink RX9 117 "IslandBridges$State" "bridges" "[I", Cond.methodLink RX9 99 yX9_isCell, Cond.instanceMethod yX9_isCell, Cond.selects RX9 yX9_isCell yX9_isCell, Cond.initialized RX9, Cond.code yX9_isCell cX9_isCell 2 (some .boolean), Cond.methodLink RX9 278 yX6_cells, Cond.instanceMethod yX6_cells, Cond.selects RX6 yX6_cells yX6_cells, Cond.initialized RX6, Cond.code yX6_cells cX6_cells 1 (some .int), Cond.fieldLink RX6 25 "IslandBridges$State" "columns" "I", Cond.fieldLink RX6 29 "IslandBridges$State" "rows" "I", Cond.methodLink RX9 127 yX2_islandOn, Cond.instanceMethod yX2_islandOn]
def wsX9_islandInfo_r2 : List Cond := [Cond.selects RX2 yX2_islandOn yX2_islandOn, Cond.initialized RX2, Cond.code yX2_islandOn cX2_islandOn 2 (some .int), Cond.fieldLink RX2 15 "IslandBridges$Layout" "islandAfter" "[I", Cond.static yX9_valueAt, Cond.code yX9_valueAt cX9_valueAt 2 (some .int), Cond.methodLink RX9 131 yX7_read, Cond.instanceMethod yX7_read, Cond.selects RX7 yX7_read yX7_read, Cond.initialized RX7, Cond.code yX7_read cX7_read 3 none, Cond.fieldLink RX7 15 "IslandBridges$Sums" "bridges" "[I", Cond.fieldLink RX7 18 "IslandBridges$Sums" "caps" "[I", Cond.fieldLink RX7 28 "IslandBridges$Sums" "layout" "LIslandBridges$Layout;", Cond.fieldLink RX7 36 "IslandBridges$Layout" "ways" "I", Cond.fieldLink RX7 53 "IslandBridges$Layout" "islands" "I", Cond.fieldLink RX7 24 "IslandBridges$Sums" "state" "LIslandBridges$State;", Cond.fieldLink RX7 56 "IslandBridges$State" "numbers" "[I", Cond.fieldLink RX7 9 "IslandBridges$Sums" "numbers" "[I", Cond.fieldLink RX7 21 "IslandBridges$Sums" "lacks" "[I", Cond.static yX9_put, Cond.code yX9_put cX9_put 3 none, Cond.methodLink RX7 42 yX2_first, Cond.instanceMethod yX2_first]
def wsX9_islandInfo_r3 : List Cond := [Cond.selects RX2 yX2_first yX2_first, Cond.code yX2_first cX2_first 2 (some .int), Cond.fieldLink RX2 18 "IslandBridges$Layout" "firstOf" "[I", Cond.methodLink RX7 46 yX7_addWay, Cond.instanceMethod yX7_addWay, Cond.selects RX7 yX7_addWay yX7_addWay, Cond.code yX7_addWay cX7_addWay 3 none, Cond.fieldLink RX7 66 "IslandBridges$State" "bridges" "[I", Cond.fieldLink RX7 70 "IslandBridges$State" "caps" "[I", Cond.static yX9_add, Cond.code yX9_add cX9_add 3 none, Cond.methodLink RX7 50 yX2_second, Cond.instanceMethod yX2_second, Cond.selects RX2 yX2_second yX2_second, Cond.code yX2_second cX2_second 2 (some .int), Cond.fieldLink RX2 21 "IslandBridges$Layout" "secondOf" "[I", Cond.methodLink RX7 59 yX2_cellOf, Cond.instanceMethod yX2_cellOf, Cond.selects RX2 yX2_cellOf yX2_cellOf, Cond.code yX2_cellOf cX2_cellOf 2 (some .int), Cond.fieldLink RX2 9 "IslandBridges$Layout" "cellOf" "[I", Cond.methodLink RX9 106 yX9_valueAt, Cond.methodLink RX9 144 yX0_read, Cond.instanceMethod yX0_read]
def wsX9_islandInfo_r4 : List Cond := [Cond.selects RX0 yX0_read yX0_read, Cond.initialized RX0, Cond.code yX0_read cX0_read 3 none, Cond.fieldLink RX0 9 "IslandBridges$Groups" "leaders" "[I", Cond.fieldLink RX0 15 "IslandBridges$Groups" "layout" "LIslandBridges$Layout;", Cond.fieldLink RX0 23 "IslandBridges$Layout" "ways" "I", Cond.methodLink RX0 33 yX2_first, Cond.methodLink RX0 37 yX0_leader, Cond.instanceMethod yX0_leader, Cond.selects RX0 yX0_leader yX0_leader, Cond.code yX0_leader cX0_leader 2 (some .int), Cond.methodLink RX0 40 yX2_second, Cond.methodLink RX0 43 yX0_join, Cond.instanceMethod yX0_join, Cond.selects RX0 yX0_join yX0_join, Cond.code yX0_join cX0_join 6 none, Cond.methodLink RX0 47 Lib.Math.min.name, Cond.static Lib.Math.min.name, Cond.initialized "java/lang/Math", Cond.code Lib.Math.min.name Lib.Math.min.code 2 (some .int), Cond.methodLink RX0 53 Lib.Math.max.name, Cond.static Lib.Math.max.name, Cond.code Lib.Math.max.name Lib.Math.max.code 2 (some .int), Cond.fieldLink RX0 56 "IslandBridges$Layout" "islands" "I"]
def wsX9_islandInfo_r5 : List Cond := [Cond.methodLink RX9 147 yX0_numberOf, Cond.instanceMethod yX0_numberOf, Cond.selects RX0 yX0_numberOf yX0_numberOf, Cond.code yX0_numberOf cX0_numberOf 2 (some .int), Cond.methodLink RX0 59 yX0_leadersAheadOf, Cond.instanceMethod yX0_leadersAheadOf, Cond.selects RX0 yX0_leadersAheadOf yX0_leadersAheadOf, Cond.code yX0_leadersAheadOf cX0_leadersAheadOf 4 (some .int)]
def wsX9_islandInfo : List Cond := .code yX9_islandInfo cX9_islandInfo 4 (some .int) :: ((wsX9_islandInfo_r1 ++ (wsX9_islandInfo_r2 ++ (wsX9_islandInfo_r3 ++ (wsX9_islandInfo_r4 ++ wsX9_islandInfo_r5)))) ++ wsX90 ++ wsX60 ++ wsX70 ++ wsX20 ++ wsX00)
def wsX9_isWay : List Cond := .code yX9_isWay cX9_isWay 2 (some .boolean) :: ([.fieldLink RX9 19 "IslandBridges" "layout" "LIslandBridges$Layout;", .fieldLink RX9 114 "IslandBridges$Layout" "ways" "I"] ++ wsX90 ++ wsX20)
def wsJ13_bitCount_95d88 : List Cond := .code yJ13_bitCount_95d88 cJ13_bitCount_95d88 2 (some .int) :: ([.constantLong RJ13 314 (6148914691236517205), .constantLong RJ13 316 (3689348814741910323), .constantLong RJ13 318 (1085102592571150095)])
def wsX9_reasonAgainst_r1 : List Cond := [Cond.fieldLink RX9 10 "IslandBridges" "state" "LIslandBridges$State;", Cond.fieldLink RX9 117 "IslandBridges$State" "bridges" "[I", Cond.fieldLink RX9 159 "IslandBridges$State" "caps" "[I", Cond.fieldLink RX9 19 "IslandBridges" "layout" "LIslandBridges$Layout;", Cond.fieldLink RX9 28 "IslandBridges" "sums" "LIslandBridges$Sums;", Cond.methodLink RX9 106 yX9_valueAt, Cond.static yX9_valueAt, Cond.initialized RX9, Cond.code yX9_valueAt cX9_valueAt 2 (some .int), Cond.methodLink RX9 163 yX2_crossingsOf, Cond.instanceMethod yX2_crossingsOf, Cond.selects RX2 yX2_crossingsOf yX2_crossingsOf, Cond.initialized RX2, Cond.code yX2_crossingsOf cX2_crossingsOf 2 (some .long), Cond.fieldLink RX2 36 "IslandBridges$Layout" "crossings" "[J", Cond.methodLink RX9 173 yX2_waysWith, Cond.instanceMethod yX2_waysWith, Cond.selects RX2 yX2_waysWith yX2_waysWith, Cond.code yX2_waysWith cX2_waysWith 5 (some .long), Cond.fieldLink RX2 73 "IslandBridges$Layout" "ways" "I", Cond.methodLink RX9 131 yX7_read, Cond.instanceMethod yX7_read, Cond.selects RX7 yX7_read yX7_read, Cond.initialized RX7]
def wsX9_reasonAgainst_r2 : List Cond := [Cond.code yX7_read cX7_read 3 none, Cond.fieldLink RX7 15 "IslandBridges$Sums" "bridges" "[I", Cond.fieldLink RX7 18 "IslandBridges$Sums" "caps" "[I", Cond.fieldLink RX7 28 "IslandBridges$Sums" "layout" "LIslandBridges$Layout;", Cond.fieldLink RX7 36 "IslandBridges$Layout" "ways" "I", Cond.fieldLink RX7 53 "IslandBridges$Layout" "islands" "I", Cond.fieldLink RX7 24 "IslandBridges$Sums" "state" "LIslandBridges$State;", Cond.fieldLink RX7 56 "IslandBridges$State" "numbers" "[I", Cond.fieldLink RX7 9 "IslandBridges$Sums" "numbers" "[I", Cond.fieldLink RX7 21 "IslandBridges$Sums" "lacks" "[I", Cond.static yX9_put, Cond.code yX9_put cX9_put 3 none, Cond.methodLink RX7 42 yX2_first, Cond.instanceMethod yX2_first, Cond.selects RX2 yX2_first yX2_first, Cond.code yX2_first cX2_first 2 (some .int), Cond.fieldLink RX2 18 "IslandBridges$Layout" "firstOf" "[I", Cond.methodLink RX7 46 yX7_addWay, Cond.instanceMethod yX7_addWay, Cond.selects RX7 yX7_addWay yX7_addWay, Cond.code yX7_addWay cX7_addWay 3 none, Cond.fieldLink RX7 66 "IslandBridges$State" "bridges" "[I", Cond.fieldLink RX7 70 "IslandBridges$State" "caps" "[I", Cond.static yX9_add]
def wsX9_reasonAgainst_r3 : List Cond := [Cond.code yX9_add cX9_add 3 none, Cond.methodLink RX7 50 yX2_second, Cond.instanceMethod yX2_second, Cond.selects RX2 yX2_second yX2_second, Cond.code yX2_second cX2_second 2 (some .int), Cond.fieldLink RX2 21 "IslandBridges$Layout" "secondOf" "[I", Cond.methodLink RX7 59 yX2_cellOf, Cond.instanceMethod yX2_cellOf, Cond.selects RX2 yX2_cellOf yX2_cellOf, Cond.code yX2_cellOf cX2_cellOf 2 (some .int), Cond.fieldLink RX2 9 "IslandBridges$Layout" "cellOf" "[I", Cond.methodLink RX9 281 yX7_lesserLack, Cond.instanceMethod yX7_lesserLack, Cond.selects RX7 yX7_lesserLack yX7_lesserLack, Cond.code yX7_lesserLack cX7_lesserLack 2 (some .int), Cond.methodLink RX7 71 Lib.Math.min.name, Cond.static Lib.Math.min.name, Cond.initialized "java/lang/Math", Cond.code Lib.Math.min.name Lib.Math.min.code 2 (some .int)]
def wsX9_reasonAgainst : List Cond := .code yX9_reasonAgainst cX9_reasonAgainst 3 (some .int) :: ((wsX9_reasonAgainst_r1 ++ (wsX9_reasonAgainst_r2 ++ wsX9_reasonAgainst_r3)) ++ wsX90 ++ wsX60 ++ wsX20 ++ wsX70)
def wsX9_way_r1 : List Cond := [Cond.fieldLink RX9 19 "IslandBridges" "layout" "LIslandBridges$Layout;", Cond.fieldLink RX9 10 "IslandBridges" "state" "LIslandBridges$State;", Cond.fieldLink RX9 117 "IslandBridges$State" "bridges" "[I", Cond.fieldLink RX9 159 "IslandBridges$State" "caps" "[I", Cond.methodLink RX9 150 yX9_isWay, Cond.instanceMethod yX9_isWay, Cond.selects RX9 yX9_isWay yX9_isWay, Cond.initialized RX9, Cond.code yX9_isWay cX9_isWay 2 (some .boolean), Cond.fieldLink RX9 114 "IslandBridges$Layout" "ways" "I", Cond.methodLink RX9 153 yX2_firstCell, Cond.instanceMethod yX2_firstCell, Cond.selects RX2 yX2_firstCell yX2_firstCell, Cond.initialized RX2, Cond.code yX2_firstCell cX2_firstCell 2 (some .int), Cond.fieldLink RX2 24 "IslandBridges$Layout" "firstCellOf" "[I", Cond.static yX9_valueAt, Cond.code yX9_valueAt cX9_valueAt 2 (some .int), Cond.methodLink RX9 156 yX2_secondCell, Cond.instanceMethod yX2_secondCell, Cond.selects RX2 yX2_secondCell yX2_secondCell, Cond.code yX2_secondCell cX2_secondCell 2 (some .int), Cond.fieldLink RX2 27 "IslandBridges$Layout" "secondCellOf" "[I", Cond.methodLink RX9 106 yX9_valueAt]
def wsX9_way_r2 : List Cond := [Cond.methodLink RX9 160 yX2_cellsBetween, Cond.instanceMethod yX2_cellsBetween, Cond.selects RX2 yX2_cellsBetween yX2_cellsBetween, Cond.code yX2_cellsBetween cX2_cellsBetween 3 (some .int), Cond.fieldLink RX2 30 "IslandBridges$Layout" "strideOf" "[I", Cond.methodLink RX2 66 yX2_secondCell, Cond.methodLink RX2 70 yX2_firstCell, Cond.methodLink RX9 163 yX2_crossingsOf, Cond.instanceMethod yX2_crossingsOf, Cond.selects RX2 yX2_crossingsOf yX2_crossingsOf, Cond.code yX2_crossingsOf cX2_crossingsOf 2 (some .long), Cond.fieldLink RX2 36 "IslandBridges$Layout" "crossings" "[J", Cond.methodLink RX9 167 yJ13_bitCount_95d88, Cond.static yJ13_bitCount_95d88, Cond.initialized RJ13, Cond.code yJ13_bitCount_95d88 cJ13_bitCount_95d88 2 (some .int), Cond.constantLong RJ13 314 (6148914691236517205), Cond.constantLong RJ13 316 (3689348814741910323), Cond.constantLong RJ13 318 (1085102592571150095), Cond.methodLink RX9 173 yX2_waysWith, Cond.instanceMethod yX2_waysWith, Cond.selects RX2 yX2_waysWith yX2_waysWith, Cond.code yX2_waysWith cX2_waysWith 5 (some .long), Cond.fieldLink RX2 73 "IslandBridges$Layout" "ways" "I"]
def wsX9_way_r3 : List Cond := [Cond.methodLink RX9 177 yX9_reasonAgainst, Cond.instanceMethod yX9_reasonAgainst, Cond.selects RX9 yX9_reasonAgainst yX9_reasonAgainst, Cond.code yX9_reasonAgainst cX9_reasonAgainst 3 (some .int), Cond.fieldLink RX9 28 "IslandBridges" "sums" "LIslandBridges$Sums;", Cond.methodLink RX9 131 yX7_read, Cond.instanceMethod yX7_read, Cond.selects RX7 yX7_read yX7_read, Cond.initialized RX7, Cond.code yX7_read cX7_read 3 none, Cond.fieldLink RX7 15 "IslandBridges$Sums" "bridges" "[I", Cond.fieldLink RX7 18 "IslandBridges$Sums" "caps" "[I", Cond.fieldLink RX7 28 "IslandBridges$Sums" "layout" "LIslandBridges$Layout;", Cond.fieldLink RX7 36 "IslandBridges$Layout" "ways" "I", Cond.fieldLink RX7 53 "IslandBridges$Layout" "islands" "I", Cond.fieldLink RX7 24 "IslandBridges$Sums" "state" "LIslandBridges$State;", Cond.fieldLink RX7 56 "IslandBridges$State" "numbers" "[I", Cond.fieldLink RX7 9 "IslandBridges$Sums" "numbers" "[I", Cond.fieldLink RX7 21 "IslandBridges$Sums" "lacks" "[I", Cond.static yX9_put, Cond.code yX9_put cX9_put 3 none, Cond.methodLink RX7 42 yX2_first, Cond.instanceMethod yX2_first, Cond.selects RX2 yX2_first yX2_first]
def wsX9_way_r4 : List Cond := [Cond.code yX2_first cX2_first 2 (some .int), Cond.fieldLink RX2 18 "IslandBridges$Layout" "firstOf" "[I", Cond.methodLink RX7 46 yX7_addWay, Cond.instanceMethod yX7_addWay, Cond.selects RX7 yX7_addWay yX7_addWay, Cond.code yX7_addWay cX7_addWay 3 none, Cond.fieldLink RX7 66 "IslandBridges$State" "bridges" "[I", Cond.fieldLink RX7 70 "IslandBridges$State" "caps" "[I", Cond.static yX9_add, Cond.code yX9_add cX9_add 3 none, Cond.methodLink RX7 50 yX2_second, Cond.instanceMethod yX2_second, Cond.selects RX2 yX2_second yX2_second, Cond.code yX2_second cX2_second 2 (some .int), Cond.fieldLink RX2 21 "IslandBridges$Layout" "secondOf" "[I", Cond.methodLink RX7 59 yX2_cellOf, Cond.instanceMethod yX2_cellOf, Cond.selects RX2 yX2_cellOf yX2_cellOf, Cond.code yX2_cellOf cX2_cellOf 2 (some .int), Cond.fieldLink RX2 9 "IslandBridges$Layout" "cellOf" "[I", Cond.methodLink RX9 281 yX7_lesserLack, Cond.instanceMethod yX7_lesserLack, Cond.selects RX7 yX7_lesserLack yX7_lesserLack, Cond.code yX7_lesserLack cX7_lesserLack 2 (some .int)]
def wsX9_way_r5 : List Cond := [Cond.methodLink RX7 71 Lib.Math.min.name, Cond.static Lib.Math.min.name, Cond.initialized "java/lang/Math", Cond.code Lib.Math.min.name Lib.Math.min.code 2 (some .int)]
def wsX9_way : List Cond := .code yX9_way cX9_way 3 (some .int) :: ((wsX9_way_r1 ++ (wsX9_way_r2 ++ (wsX9_way_r3 ++ (wsX9_way_r4 ++ wsX9_way_r5)))) ++ wsX90 ++ wsX60 ++ wsX20 ++ wsX70)
def wsX9_between_r1 : List Cond := [Cond.methodLink RX9 180 Lib.Math.min.name, Cond.static Lib.Math.min.name, Cond.initialized "java/lang/Math", Cond.code Lib.Math.min.name Lib.Math.min.code 2 (some .int), Cond.methodLink RX9 186 Lib.Math.max.name, Cond.static Lib.Math.max.name, Cond.code Lib.Math.max.name Lib.Math.max.code 2 (some .int), Cond.fieldLink RX9 19 "IslandBridges" "layout" "LIslandBridges$Layout;", Cond.fieldLink RX9 114 "IslandBridges$Layout" "ways" "I", Cond.methodLink RX9 99 yX9_isCell, Cond.instanceMethod yX9_isCell, Cond.selects RX9 yX9_isCell yX9_isCell, Cond.initialized RX9, Cond.code yX9_isCell cX9_isCell 2 (some .boolean), Cond.fieldLink RX9 10 "IslandBridges" "state" "LIslandBridges$State;", Cond.methodLink RX9 278 yX6_cells, Cond.instanceMethod yX6_cells, Cond.selects RX6 yX6_cells yX6_cells, Cond.initialized RX6, Cond.code yX6_cells cX6_cells 1 (some .int), Cond.fieldLink RX6 25 "IslandBridges$State" "columns" "I", Cond.fieldLink RX6 29 "IslandBridges$State" "rows" "I", Cond.methodLink RX9 153 yX2_firstCell, Cond.instanceMethod yX2_firstCell]
def wsX9_between_r2 : List Cond := [Cond.selects RX2 yX2_firstCell yX2_firstCell, Cond.initialized RX2, Cond.code yX2_firstCell cX2_firstCell 2 (some .int), Cond.fieldLink RX2 24 "IslandBridges$Layout" "firstCellOf" "[I", Cond.static yX9_valueAt, Cond.code yX9_valueAt cX9_valueAt 2 (some .int), Cond.methodLink RX9 156 yX2_secondCell, Cond.instanceMethod yX2_secondCell, Cond.selects RX2 yX2_secondCell yX2_secondCell, Cond.code yX2_secondCell cX2_secondCell 2 (some .int), Cond.fieldLink RX2 27 "IslandBridges$Layout" "secondCellOf" "[I"]
def wsX9_between : List Cond := .code yX9_between cX9_between 6 (some .int) :: ((wsX9_between_r1 ++ wsX9_between_r2) ++ wsX90 ++ wsX20 ++ wsX60)
def wsX9_allBridges : List Cond := .code yX9_allBridges cX9_allBridges 3 (some .int) :: ([.fieldLink RX9 19 "IslandBridges" "layout" "LIslandBridges$Layout;", .fieldLink RX9 114 "IslandBridges$Layout" "ways" "I", .fieldLink RX9 10 "IslandBridges" "state" "LIslandBridges$State;", .fieldLink RX9 117 "IslandBridges$State" "bridges" "[I", .methodLink RX9 106 yX9_valueAt, .static yX9_valueAt, .initialized RX9, .code yX9_valueAt cX9_valueAt 2 (some .int)] ++ wsX90 ++ wsX20 ++ wsX60)
def wsX9_completeIslands_r1 : List Cond := [Cond.fieldLink RX9 28 "IslandBridges" "sums" "LIslandBridges$Sums;", Cond.fieldLink RX9 19 "IslandBridges" "layout" "LIslandBridges$Layout;", Cond.fieldLink RX9 84 "IslandBridges$Layout" "islands" "I", Cond.fieldLink RX9 135 "IslandBridges$Sums" "lacks" "[I", Cond.methodLink RX9 131 yX7_read, Cond.instanceMethod yX7_read, Cond.selects RX7 yX7_read yX7_read, Cond.initialized RX7, Cond.code yX7_read cX7_read 3 none, Cond.fieldLink RX7 15 "IslandBridges$Sums" "bridges" "[I", Cond.fieldLink RX7 18 "IslandBridges$Sums" "caps" "[I", Cond.fieldLink RX7 28 "IslandBridges$Sums" "layout" "LIslandBridges$Layout;", Cond.fieldLink RX7 36 "IslandBridges$Layout" "ways" "I", Cond.fieldLink RX7 53 "IslandBridges$Layout" "islands" "I", Cond.fieldLink RX7 24 "IslandBridges$Sums" "state" "LIslandBridges$State;", Cond.fieldLink RX7 56 "IslandBridges$State" "numbers" "[I", Cond.fieldLink RX7 9 "IslandBridges$Sums" "numbers" "[I", Cond.fieldLink RX7 21 "IslandBridges$Sums" "lacks" "[I", Cond.static yX9_put, Cond.initialized RX9, Cond.code yX9_put cX9_put 3 none, Cond.methodLink RX7 42 yX2_first, Cond.instanceMethod yX2_first, Cond.selects RX2 yX2_first yX2_first]
def wsX9_completeIslands_r2 : List Cond := [Cond.initialized RX2, Cond.code yX2_first cX2_first 2 (some .int), Cond.fieldLink RX2 18 "IslandBridges$Layout" "firstOf" "[I", Cond.static yX9_valueAt, Cond.code yX9_valueAt cX9_valueAt 2 (some .int), Cond.methodLink RX7 46 yX7_addWay, Cond.instanceMethod yX7_addWay, Cond.selects RX7 yX7_addWay yX7_addWay, Cond.code yX7_addWay cX7_addWay 3 none, Cond.fieldLink RX7 66 "IslandBridges$State" "bridges" "[I", Cond.fieldLink RX7 70 "IslandBridges$State" "caps" "[I", Cond.static yX9_add, Cond.code yX9_add cX9_add 3 none, Cond.methodLink RX7 50 yX2_second, Cond.instanceMethod yX2_second, Cond.selects RX2 yX2_second yX2_second, Cond.code yX2_second cX2_second 2 (some .int), Cond.fieldLink RX2 21 "IslandBridges$Layout" "secondOf" "[I", Cond.methodLink RX7 59 yX2_cellOf, Cond.instanceMethod yX2_cellOf, Cond.selects RX2 yX2_cellOf yX2_cellOf, Cond.code yX2_cellOf cX2_cellOf 2 (some .int), Cond.fieldLink RX2 9 "IslandBridges$Layout" "cellOf" "[I", Cond.methodLink RX9 106 yX9_valueAt]
def wsX9_completeIslands : List Cond := .code yX9_completeIslands cX9_completeIslands 3 (some .int) :: ((wsX9_completeIslands_r1 ++ wsX9_completeIslands_r2) ++ wsX90 ++ wsX20 ++ wsX70 ++ wsX60)
def wsX9_groupsInAll_r1 : List Cond := [Cond.fieldLink RX9 37 "IslandBridges" "groups" "LIslandBridges$Groups;", Cond.fieldLink RX9 10 "IslandBridges" "state" "LIslandBridges$State;", Cond.fieldLink RX9 117 "IslandBridges$State" "bridges" "[I", Cond.methodLink RX9 144 yX0_read, Cond.instanceMethod yX0_read, Cond.selects RX0 yX0_read yX0_read, Cond.initialized RX0, Cond.code yX0_read cX0_read 3 none, Cond.fieldLink RX0 9 "IslandBridges$Groups" "leaders" "[I", Cond.fieldLink RX0 15 "IslandBridges$Groups" "layout" "LIslandBridges$Layout;", Cond.fieldLink RX0 23 "IslandBridges$Layout" "ways" "I", Cond.static yX9_put, Cond.initialized RX9, Cond.code yX9_put cX9_put 3 none, Cond.static yX9_valueAt, Cond.code yX9_valueAt cX9_valueAt 2 (some .int), Cond.methodLink RX0 33 yX2_first, Cond.instanceMethod yX2_first, Cond.selects RX2 yX2_first yX2_first, Cond.initialized RX2, Cond.code yX2_first cX2_first 2 (some .int), Cond.fieldLink RX2 18 "IslandBridges$Layout" "firstOf" "[I", Cond.methodLink RX0 37 yX0_leader, Cond.instanceMethod yX0_leader]
def wsX9_groupsInAll_r2 : List Cond := [Cond.selects RX0 yX0_leader yX0_leader, Cond.code yX0_leader cX0_leader 2 (some .int), Cond.methodLink RX0 40 yX2_second, Cond.instanceMethod yX2_second, Cond.selects RX2 yX2_second yX2_second, Cond.code yX2_second cX2_second 2 (some .int), Cond.fieldLink RX2 21 "IslandBridges$Layout" "secondOf" "[I", Cond.methodLink RX0 43 yX0_join, Cond.instanceMethod yX0_join, Cond.selects RX0 yX0_join yX0_join, Cond.code yX0_join cX0_join 6 none, Cond.methodLink RX0 47 Lib.Math.min.name, Cond.static Lib.Math.min.name, Cond.initialized "java/lang/Math", Cond.code Lib.Math.min.name Lib.Math.min.code 2 (some .int), Cond.methodLink RX0 53 Lib.Math.max.name, Cond.static Lib.Math.max.name, Cond.code Lib.Math.max.name Lib.Math.max.code 2 (some .int), Cond.fieldLink RX0 56 "IslandBridges$Layout" "islands" "I", Cond.methodLink RX9 284 yX0_total, Cond.instanceMethod yX0_total, Cond.selects RX0 yX0_total yX0_total, Cond.code yX0_total cX0_total 1 (some .int), Cond.methodLink RX0 59 yX0_leadersAheadOf]
def wsX9_groupsInAll_r3 : List Cond := [Cond.instanceMethod yX0_leadersAheadOf, Cond.selects RX0 yX0_leadersAheadOf yX0_leadersAheadOf, Cond.code yX0_leadersAheadOf cX0_leadersAheadOf 4 (some .int)]
def wsX9_groupsInAll : List Cond := .code yX9_groupsInAll cX9_groupsInAll 1 (some .int) :: ((wsX9_groupsInAll_r1 ++ (wsX9_groupsInAll_r2 ++ wsX9_groupsInAll_r3)) ++ wsX90 ++ wsX60 ++ wsX00 ++ wsX20)
def wsX9_isSolved_r1 : List Cond := [Cond.fieldLink RX9 19 "IslandBridges" "layout" "LIslandBridges$Layout;", Cond.fieldLink RX9 84 "IslandBridges$Layout" "islands" "I", Cond.methodLink RX9 199 yX9_completeIslands, Cond.instanceMethod yX9_completeIslands, Cond.selects RX9 yX9_completeIslands yX9_completeIslands, Cond.initialized RX9, Cond.code yX9_completeIslands cX9_completeIslands 3 (some .int), Cond.fieldLink RX9 28 "IslandBridges" "sums" "LIslandBridges$Sums;", Cond.fieldLink RX9 135 "IslandBridges$Sums" "lacks" "[I", Cond.methodLink RX9 131 yX7_read, Cond.instanceMethod yX7_read, Cond.selects RX7 yX7_read yX7_read, Cond.initialized RX7, Cond.code yX7_read cX7_read 3 none, Cond.fieldLink RX7 15 "IslandBridges$Sums" "bridges" "[I", Cond.fieldLink RX7 18 "IslandBridges$Sums" "caps" "[I", Cond.fieldLink RX7 28 "IslandBridges$Sums" "layout" "LIslandBridges$Layout;", Cond.fieldLink RX7 36 "IslandBridges$Layout" "ways" "I", Cond.fieldLink RX7 53 "IslandBridges$Layout" "islands" "I", Cond.fieldLink RX7 24 "IslandBridges$Sums" "state" "LIslandBridges$State;", Cond.fieldLink RX7 56 "IslandBridges$State" "numbers" "[I", Cond.fieldLink RX7 9 "IslandBridges$Sums" "numbers" "[I", Cond.fieldLink RX7 21 "IslandBridges$Sums" "lacks" "[I", Cond.static yX9_put]
def wsX9_isSolved_r2 : List Cond := [Cond.code yX9_put cX9_put 3 none, Cond.methodLink RX7 42 yX2_first, Cond.instanceMethod yX2_first, Cond.selects RX2 yX2_first yX2_first, Cond.initialized RX2, Cond.code yX2_first cX2_first 2 (some .int), Cond.fieldLink RX2 18 "IslandBridges$Layout" "firstOf" "[I", Cond.static yX9_valueAt, Cond.code yX9_valueAt cX9_valueAt 2 (some .int), Cond.methodLink RX7 46 yX7_addWay, Cond.instanceMethod yX7_addWay, Cond.selects RX7 yX7_addWay yX7_addWay, Cond.code yX7_addWay cX7_addWay 3 none, Cond.fieldLink RX7 66 "IslandBridges$State" "bridges" "[I", Cond.fieldLink RX7 70 "IslandBridges$State" "caps" "[I", Cond.static yX9_add, Cond.code yX9_add cX9_add 3 none, Cond.methodLink RX7 50 yX2_second, Cond.instanceMethod yX2_second, Cond.selects RX2 yX2_second yX2_second, Cond.code yX2_second cX2_second 2 (some .int), Cond.fieldLink RX2 21 "IslandBridges$Layout" "secondOf" "[I", Cond.methodLink RX7 59 yX2_cellOf, Cond.instanceMethod yX2_cellOf]
def wsX9_isSolved_r3 : List Cond := [Cond.selects RX2 yX2_cellOf yX2_cellOf, Cond.code yX2_cellOf cX2_cellOf 2 (some .int), Cond.fieldLink RX2 9 "IslandBridges$Layout" "cellOf" "[I", Cond.methodLink RX9 106 yX9_valueAt, Cond.methodLink RX9 202 yX9_groupsInAll, Cond.instanceMethod yX9_groupsInAll, Cond.selects RX9 yX9_groupsInAll yX9_groupsInAll, Cond.code yX9_groupsInAll cX9_groupsInAll 1 (some .int), Cond.fieldLink RX9 37 "IslandBridges" "groups" "LIslandBridges$Groups;", Cond.fieldLink RX9 10 "IslandBridges" "state" "LIslandBridges$State;", Cond.fieldLink RX9 117 "IslandBridges$State" "bridges" "[I", Cond.methodLink RX9 144 yX0_read, Cond.instanceMethod yX0_read, Cond.selects RX0 yX0_read yX0_read, Cond.initialized RX0, Cond.code yX0_read cX0_read 3 none, Cond.fieldLink RX0 9 "IslandBridges$Groups" "leaders" "[I", Cond.fieldLink RX0 15 "IslandBridges$Groups" "layout" "LIslandBridges$Layout;", Cond.fieldLink RX0 23 "IslandBridges$Layout" "ways" "I", Cond.methodLink RX0 33 yX2_first, Cond.methodLink RX0 37 yX0_leader, Cond.instanceMethod yX0_leader, Cond.selects RX0 yX0_leader yX0_leader, Cond.code yX0_leader cX0_leader 2 (some .int)]
def wsX9_isSolved_r4 : List Cond := [Cond.methodLink RX0 40 yX2_second, Cond.methodLink RX0 43 yX0_join, Cond.instanceMethod yX0_join, Cond.selects RX0 yX0_join yX0_join, Cond.code yX0_join cX0_join 6 none, Cond.methodLink RX0 47 Lib.Math.min.name, Cond.static Lib.Math.min.name, Cond.initialized "java/lang/Math", Cond.code Lib.Math.min.name Lib.Math.min.code 2 (some .int), Cond.methodLink RX0 53 Lib.Math.max.name, Cond.static Lib.Math.max.name, Cond.code Lib.Math.max.name Lib.Math.max.code 2 (some .int), Cond.fieldLink RX0 56 "IslandBridges$Layout" "islands" "I", Cond.methodLink RX9 284 yX0_total, Cond.instanceMethod yX0_total, Cond.selects RX0 yX0_total yX0_total, Cond.code yX0_total cX0_total 1 (some .int), Cond.methodLink RX0 59 yX0_leadersAheadOf, Cond.instanceMethod yX0_leadersAheadOf, Cond.selects RX0 yX0_leadersAheadOf yX0_leadersAheadOf, Cond.code yX0_leadersAheadOf cX0_leadersAheadOf 4 (some .int)]
def wsX9_isSolved : List Cond := .code yX9_isSolved cX9_isSolved 1 (some .boolean) :: ((wsX9_isSolved_r1 ++ (wsX9_isSolved_r2 ++ (wsX9_isSolved_r3 ++ wsX9_isSolved_r4))) ++ wsX90 ++ wsX20 ++ wsX70 ++ wsX60 ++ wsX00)
def wsX9_isBroken_r1 : List Cond := [Cond.fieldLink RX9 28 "IslandBridges" "sums" "LIslandBridges$Sums;", Cond.methodLink RX9 131 yX7_read, Cond.instanceMethod yX7_read, Cond.selects RX7 yX7_read yX7_read, Cond.initialized RX7, Cond.code yX7_read cX7_read 3 none, Cond.fieldLink RX7 15 "IslandBridges$Sums" "bridges" "[I", Cond.fieldLink RX7 18 "IslandBridges$Sums" "caps" "[I", Cond.fieldLink RX7 28 "IslandBridges$Sums" "layout" "LIslandBridges$Layout;", Cond.fieldLink RX7 36 "IslandBridges$Layout" "ways" "I", Cond.fieldLink RX7 53 "IslandBridges$Layout" "islands" "I", Cond.fieldLink RX7 24 "IslandBridges$Sums" "state" "LIslandBridges$State;", Cond.fieldLink RX7 56 "IslandBridges$State" "numbers" "[I", Cond.fieldLink RX7 9 "IslandBridges$Sums" "numbers" "[I", Cond.fieldLink RX7 21 "IslandBridges$Sums" "lacks" "[I", Cond.static yX9_put, Cond.initialized RX9, Cond.code yX9_put cX9_put 3 none, Cond.methodLink RX7 42 yX2_first, Cond.instanceMethod yX2_first, Cond.selects RX2 yX2_first yX2_first, Cond.initialized RX2, Cond.code yX2_first cX2_first 2 (some .int), Cond.fieldLink RX2 18 "IslandBridges$Layout" "firstOf" "[I"]
def wsX9_isBroken_r2 : List Cond := [Cond.static yX9_valueAt, Cond.code yX9_valueAt cX9_valueAt 2 (some .int), Cond.methodLink RX7 46 yX7_addWay, Cond.instanceMethod yX7_addWay, Cond.selects RX7 yX7_addWay yX7_addWay, Cond.code yX7_addWay cX7_addWay 3 none, Cond.fieldLink RX7 66 "IslandBridges$State" "bridges" "[I", Cond.fieldLink RX7 70 "IslandBridges$State" "caps" "[I", Cond.static yX9_add, Cond.code yX9_add cX9_add 3 none, Cond.methodLink RX7 50 yX2_second, Cond.instanceMethod yX2_second, Cond.selects RX2 yX2_second yX2_second, Cond.code yX2_second cX2_second 2 (some .int), Cond.fieldLink RX2 21 "IslandBridges$Layout" "secondOf" "[I", Cond.methodLink RX7 59 yX2_cellOf, Cond.instanceMethod yX2_cellOf, Cond.selects RX2 yX2_cellOf yX2_cellOf, Cond.code yX2_cellOf cX2_cellOf 2 (some .int), Cond.fieldLink RX2 9 "IslandBridges$Layout" "cellOf" "[I", Cond.methodLink RX9 287 yX7_areBroken, Cond.instanceMethod yX7_areBroken, Cond.selects RX7 yX7_areBroken yX7_areBroken, Cond.code yX7_areBroken cX7_areBroken 2 (some .boolean)]
def wsX9_isBroken : List Cond := .code yX9_isBroken cX9_isBroken 1 (some .boolean) :: ((wsX9_isBroken_r1 ++ wsX9_isBroken_r2) ++ wsX90 ++ wsX70 ++ wsX20 ++ wsX60)
def wsX9_allNumbers : List Cond := .code yX9_allNumbers cX9_allNumbers 3 (some .int) :: ([.fieldLink RX9 10 "IslandBridges" "state" "LIslandBridges$State;", .fieldLink RX9 102 "IslandBridges$State" "numbers" "[I", .methodLink RX9 106 yX9_valueAt, .static yX9_valueAt, .initialized RX9, .code yX9_valueAt cX9_valueAt 2 (some .int)] ++ wsX90 ++ wsX60)
def wsX9_count_r1 : List Cond := [Cond.fieldLink RX9 10 "IslandBridges" "state" "LIslandBridges$State;", Cond.fieldLink RX9 189 "IslandBridges$State" "columns" "I", Cond.fieldLink RX9 192 "IslandBridges$State" "rows" "I", Cond.fieldLink RX9 19 "IslandBridges" "layout" "LIslandBridges$Layout;", Cond.fieldLink RX9 84 "IslandBridges$Layout" "islands" "I", Cond.fieldLink RX9 114 "IslandBridges$Layout" "ways" "I", Cond.fieldLink RX9 215 "IslandBridges$State" "grade" "I", Cond.fieldLink RX9 218 "IslandBridges$State" "stepsMade" "I", Cond.fieldLink RX9 69 "IslandBridges" "history" "LIslandBridges$History;", Cond.fieldLink RX9 221 "IslandBridges$History" "size" "I", Cond.fieldLink RX9 76 "IslandBridges" "text" "LIslandBridges$Text;", Cond.fieldLink RX9 224 "IslandBridges$Text" "length" "I", Cond.methodLink RX9 195 yX9_allBridges, Cond.instanceMethod yX9_allBridges, Cond.selects RX9 yX9_allBridges yX9_allBridges, Cond.initialized RX9, Cond.code yX9_allBridges cX9_allBridges 3 (some .int), Cond.fieldLink RX9 117 "IslandBridges$State" "bridges" "[I", Cond.methodLink RX9 106 yX9_valueAt, Cond.static yX9_valueAt, Cond.code yX9_valueAt cX9_valueAt 2 (some .int), Cond.methodLink RX9 199 yX9_completeIslands, Cond.instanceMethod yX9_completeIslands, Cond.selects RX9 yX9_completeIslands yX9_completeIslands]
def wsX9_count_r2 : List Cond := [Cond.code yX9_completeIslands cX9_completeIslands 3 (some .int), Cond.fieldLink RX9 28 "IslandBridges" "sums" "LIslandBridges$Sums;", Cond.fieldLink RX9 135 "IslandBridges$Sums" "lacks" "[I", Cond.methodLink RX9 131 yX7_read, Cond.instanceMethod yX7_read, Cond.selects RX7 yX7_read yX7_read, Cond.initialized RX7, Cond.code yX7_read cX7_read 3 none, Cond.fieldLink RX7 15 "IslandBridges$Sums" "bridges" "[I", Cond.fieldLink RX7 18 "IslandBridges$Sums" "caps" "[I", Cond.fieldLink RX7 28 "IslandBridges$Sums" "layout" "LIslandBridges$Layout;", Cond.fieldLink RX7 36 "IslandBridges$Layout" "ways" "I", Cond.fieldLink RX7 53 "IslandBridges$Layout" "islands" "I", Cond.fieldLink RX7 24 "IslandBridges$Sums" "state" "LIslandBridges$State;", Cond.fieldLink RX7 56 "IslandBridges$State" "numbers" "[I", Cond.fieldLink RX7 9 "IslandBridges$Sums" "numbers" "[I", Cond.fieldLink RX7 21 "IslandBridges$Sums" "lacks" "[I", Cond.static yX9_put, Cond.code yX9_put cX9_put 3 none, Cond.methodLink RX7 42 yX2_first, Cond.instanceMethod yX2_first, Cond.selects RX2 yX2_first yX2_first, Cond.initialized RX2, Cond.code yX2_first cX2_first 2 (some .int)]
def wsX9_count_r3 : List Cond := [Cond.fieldLink RX2 18 "IslandBridges$Layout" "firstOf" "[I", Cond.methodLink RX7 46 yX7_addWay, Cond.instanceMethod yX7_addWay, Cond.selects RX7 yX7_addWay yX7_addWay, Cond.code yX7_addWay cX7_addWay 3 none, Cond.fieldLink RX7 66 "IslandBridges$State" "bridges" "[I", Cond.fieldLink RX7 70 "IslandBridges$State" "caps" "[I", Cond.static yX9_add, Cond.code yX9_add cX9_add 3 none, Cond.methodLink RX7 50 yX2_second, Cond.instanceMethod yX2_second, Cond.selects RX2 yX2_second yX2_second, Cond.code yX2_second cX2_second 2 (some .int), Cond.fieldLink RX2 21 "IslandBridges$Layout" "secondOf" "[I", Cond.methodLink RX7 59 yX2_cellOf, Cond.instanceMethod yX2_cellOf, Cond.selects RX2 yX2_cellOf yX2_cellOf, Cond.code yX2_cellOf cX2_cellOf 2 (some .int), Cond.fieldLink RX2 9 "IslandBridges$Layout" "cellOf" "[I", Cond.methodLink RX9 202 yX9_groupsInAll, Cond.instanceMethod yX9_groupsInAll, Cond.selects RX9 yX9_groupsInAll yX9_groupsInAll, Cond.code yX9_groupsInAll cX9_groupsInAll 1 (some .int), Cond.fieldLink RX9 37 "IslandBridges" "groups" "LIslandBridges$Groups;"]
def wsX9_count_r4 : List Cond := [Cond.methodLink RX9 144 yX0_read, Cond.instanceMethod yX0_read, Cond.selects RX0 yX0_read yX0_read, Cond.initialized RX0, Cond.code yX0_read cX0_read 3 none, Cond.fieldLink RX0 9 "IslandBridges$Groups" "leaders" "[I", Cond.fieldLink RX0 15 "IslandBridges$Groups" "layout" "LIslandBridges$Layout;", Cond.fieldLink RX0 23 "IslandBridges$Layout" "ways" "I", Cond.methodLink RX0 33 yX2_first, Cond.methodLink RX0 37 yX0_leader, Cond.instanceMethod yX0_leader, Cond.selects RX0 yX0_leader yX0_leader, Cond.code yX0_leader cX0_leader 2 (some .int), Cond.methodLink RX0 40 yX2_second, Cond.methodLink RX0 43 yX0_join, Cond.instanceMethod yX0_join, Cond.selects RX0 yX0_join yX0_join, Cond.code yX0_join cX0_join 6 none, Cond.methodLink RX0 47 Lib.Math.min.name, Cond.static Lib.Math.min.name, Cond.initialized "java/lang/Math", Cond.code Lib.Math.min.name Lib.Math.min.code 2 (some .int), Cond.methodLink RX0 53 Lib.Math.max.name, Cond.static Lib.Math.max.name]
def wsX9_count_r5 : List Cond := [Cond.code Lib.Math.max.name Lib.Math.max.code 2 (some .int), Cond.fieldLink RX0 56 "IslandBridges$Layout" "islands" "I", Cond.methodLink RX9 284 yX0_total, Cond.instanceMethod yX0_total, Cond.selects RX0 yX0_total yX0_total, Cond.code yX0_total cX0_total 1 (some .int), Cond.methodLink RX0 59 yX0_leadersAheadOf, Cond.instanceMethod yX0_leadersAheadOf, Cond.selects RX0 yX0_leadersAheadOf yX0_leadersAheadOf, Cond.code yX0_leadersAheadOf cX0_leadersAheadOf 4 (some .int), Cond.methodLink RX9 205 yX9_isSolved, Cond.instanceMethod yX9_isSolved, Cond.selects RX9 yX9_isSolved yX9_isSolved, Cond.code yX9_isSolved cX9_isSolved 1 (some .boolean), Cond.methodLink RX9 209 yX9_isBroken, Cond.instanceMethod yX9_isBroken, Cond.selects RX9 yX9_isBroken yX9_isBroken, Cond.code yX9_isBroken cX9_isBroken 1 (some .boolean), Cond.methodLink RX9 287 yX7_areBroken, Cond.instanceMethod yX7_areBroken, Cond.selects RX7 yX7_areBroken yX7_areBroken, Cond.code yX7_areBroken cX7_areBroken 2 (some .boolean), Cond.methodLink RX9 212 yX9_allNumbers, Cond.instanceMethod yX9_allNumbers]
def wsX9_count_r6 : List Cond := [Cond.selects RX9 yX9_allNumbers yX9_allNumbers, Cond.code yX9_allNumbers cX9_allNumbers 3 (some .int), Cond.fieldLink RX9 102 "IslandBridges$State" "numbers" "[I"]
def wsX9_count : List Cond := .code yX9_count cX9_count 2 (some .int) :: ((wsX9_count_r1 ++ (wsX9_count_r2 ++ (wsX9_count_r3 ++ (wsX9_count_r4 ++ (wsX9_count_r5 ++ wsX9_count_r6))))) ++ wsX90 ++ wsX60 ++ wsX20 ++ wsX10 ++ wsX80 ++ wsX70 ++ wsX00)
def wsX9_build_r1 : List Cond := [Cond.fieldLink RX9 69 "IslandBridges" "history" "LIslandBridges$History;", Cond.fieldLink RX9 10 "IslandBridges" "state" "LIslandBridges$State;", Cond.fieldLink RX9 117 "IslandBridges$State" "bridges" "[I", Cond.methodLink RX9 150 yX9_isWay, Cond.instanceMethod yX9_isWay, Cond.selects RX9 yX9_isWay yX9_isWay, Cond.initialized RX9, Cond.code yX9_isWay cX9_isWay 2 (some .boolean), Cond.fieldLink RX9 19 "IslandBridges" "layout" "LIslandBridges$Layout;", Cond.fieldLink RX9 114 "IslandBridges$Layout" "ways" "I", Cond.methodLink RX9 177 yX9_reasonAgainst, Cond.instanceMethod yX9_reasonAgainst, Cond.selects RX9 yX9_reasonAgainst yX9_reasonAgainst, Cond.code yX9_reasonAgainst cX9_reasonAgainst 3 (some .int), Cond.fieldLink RX9 159 "IslandBridges$State" "caps" "[I", Cond.fieldLink RX9 28 "IslandBridges" "sums" "LIslandBridges$Sums;", Cond.methodLink RX9 106 yX9_valueAt, Cond.static yX9_valueAt, Cond.code yX9_valueAt cX9_valueAt 2 (some .int), Cond.methodLink RX9 163 yX2_crossingsOf, Cond.instanceMethod yX2_crossingsOf, Cond.selects RX2 yX2_crossingsOf yX2_crossingsOf, Cond.initialized RX2, Cond.code yX2_crossingsOf cX2_crossingsOf 2 (some .long)]
def wsX9_build_r2 : List Cond := [Cond.fieldLink RX2 36 "IslandBridges$Layout" "crossings" "[J", Cond.methodLink RX9 173 yX2_waysWith, Cond.instanceMethod yX2_waysWith, Cond.selects RX2 yX2_waysWith yX2_waysWith, Cond.code yX2_waysWith cX2_waysWith 5 (some .long), Cond.fieldLink RX2 73 "IslandBridges$Layout" "ways" "I", Cond.methodLink RX9 131 yX7_read, Cond.instanceMethod yX7_read, Cond.selects RX7 yX7_read yX7_read, Cond.initialized RX7, Cond.code yX7_read cX7_read 3 none, Cond.fieldLink RX7 15 "IslandBridges$Sums" "bridges" "[I", Cond.fieldLink RX7 18 "IslandBridges$Sums" "caps" "[I", Cond.fieldLink RX7 28 "IslandBridges$Sums" "layout" "LIslandBridges$Layout;", Cond.fieldLink RX7 36 "IslandBridges$Layout" "ways" "I", Cond.fieldLink RX7 53 "IslandBridges$Layout" "islands" "I", Cond.fieldLink RX7 24 "IslandBridges$Sums" "state" "LIslandBridges$State;", Cond.fieldLink RX7 56 "IslandBridges$State" "numbers" "[I", Cond.fieldLink RX7 9 "IslandBridges$Sums" "numbers" "[I", Cond.fieldLink RX7 21 "IslandBridges$Sums" "lacks" "[I", Cond.static yX9_put, Cond.code yX9_put cX9_put 3 none, Cond.methodLink RX7 42 yX2_first, Cond.instanceMethod yX2_first]
def wsX9_build_r3 : List Cond := [Cond.selects RX2 yX2_first yX2_first, Cond.code yX2_first cX2_first 2 (some .int), Cond.fieldLink RX2 18 "IslandBridges$Layout" "firstOf" "[I", Cond.methodLink RX7 46 yX7_addWay, Cond.instanceMethod yX7_addWay, Cond.selects RX7 yX7_addWay yX7_addWay, Cond.code yX7_addWay cX7_addWay 3 none, Cond.fieldLink RX7 66 "IslandBridges$State" "bridges" "[I", Cond.fieldLink RX7 70 "IslandBridges$State" "caps" "[I", Cond.static yX9_add, Cond.code yX9_add cX9_add 3 none, Cond.methodLink RX7 50 yX2_second, Cond.instanceMethod yX2_second, Cond.selects RX2 yX2_second yX2_second, Cond.code yX2_second cX2_second 2 (some .int), Cond.fieldLink RX2 21 "IslandBridges$Layout" "secondOf" "[I", Cond.methodLink RX7 59 yX2_cellOf, Cond.instanceMethod yX2_cellOf, Cond.selects RX2 yX2_cellOf yX2_cellOf, Cond.code yX2_cellOf cX2_cellOf 2 (some .int), Cond.fieldLink RX2 9 "IslandBridges$Layout" "cellOf" "[I", Cond.methodLink RX9 281 yX7_lesserLack, Cond.instanceMethod yX7_lesserLack, Cond.selects RX7 yX7_lesserLack yX7_lesserLack]
def wsX9_build_r4 : List Cond := [Cond.code yX7_lesserLack cX7_lesserLack 2 (some .int), Cond.methodLink RX7 71 Lib.Math.min.name, Cond.static Lib.Math.min.name, Cond.initialized "java/lang/Math", Cond.code Lib.Math.min.name Lib.Math.min.code 2 (some .int), Cond.methodLink RX9 88 yX1_record, Cond.instanceMethod yX1_record, Cond.selects RX1 yX1_record yX1_record, Cond.initialized RX1, Cond.code yX1_record cX1_record 3 none, Cond.fieldLink RX1 18 "IslandBridges$History" "size" "I", Cond.methodLink RX1 22 yX1_dropOldest, Cond.instanceMethod yX1_dropOldest, Cond.selects RX1 yX1_dropOldest yX1_dropOldest, Cond.code yX1_dropOldest cX1_dropOldest 4 none, Cond.fieldLink RX1 11 "IslandBridges$History" "states" "[LIslandBridges$State;", Cond.methodLink RX1 25 yX1_stateAt, Cond.instanceMethod yX1_stateAt, Cond.selects RX1 yX1_stateAt yX1_stateAt, Cond.code yX1_stateAt cX1_stateAt 2 (some (.object "IslandBridges$State")), Cond.methodLink RX1 33 yX1_putState, Cond.instanceMethod yX1_putState, Cond.selects RX1 yX1_putState yX1_putState, Cond.code yX1_putState cX1_putState 3 none]
def wsX9_build_r5 : List Cond := [Cond.methodLink RX1 29 yX6_becomeLike, Cond.instanceMethod yX6_becomeLike, Cond.selects RX6 yX6_becomeLike yX6_becomeLike, Cond.initialized RX6, Cond.code yX6_becomeLike cX6_becomeLike 2 none, Cond.fieldLink RX6 25 "IslandBridges$State" "columns" "I", Cond.fieldLink RX6 29 "IslandBridges$State" "rows" "I", Cond.fieldLink RX6 39 "IslandBridges$State" "grade" "I", Cond.fieldLink RX6 42 "IslandBridges$State" "stepsMade" "I", Cond.fieldLink RX6 9 "IslandBridges$State" "numbers" "[I", Cond.methodLink RX6 45 arraycopyName, Cond.native arraycopyName, Cond.static arraycopyName, Cond.initialized "java/lang/System", Cond.fieldLink RX6 15 "IslandBridges$State" "bridges" "[I", Cond.fieldLink RX6 18 "IslandBridges$State" "caps" "[I", Cond.methodLink RX9 110 yX9_put]
def wsX9_build : List Cond := .code yX9_build cX9_build 3 (some .int) :: ((wsX9_build_r1 ++ (wsX9_build_r2 ++ (wsX9_build_r3 ++ (wsX9_build_r4 ++ wsX9_build_r5)))) ++ wsX90 ++ wsX60 ++ wsX20 ++ wsX70 ++ wsX10)
def wsX9_take_r1 : List Cond := [Cond.fieldLink RX9 10 "IslandBridges" "state" "LIslandBridges$State;", Cond.fieldLink RX9 117 "IslandBridges$State" "bridges" "[I", Cond.fieldLink RX9 69 "IslandBridges" "history" "LIslandBridges$History;", Cond.methodLink RX9 150 yX9_isWay, Cond.instanceMethod yX9_isWay, Cond.selects RX9 yX9_isWay yX9_isWay, Cond.initialized RX9, Cond.code yX9_isWay cX9_isWay 2 (some .boolean), Cond.fieldLink RX9 19 "IslandBridges" "layout" "LIslandBridges$Layout;", Cond.fieldLink RX9 114 "IslandBridges$Layout" "ways" "I", Cond.methodLink RX9 106 yX9_valueAt, Cond.static yX9_valueAt, Cond.code yX9_valueAt cX9_valueAt 2 (some .int), Cond.methodLink RX9 88 yX1_record, Cond.instanceMethod yX1_record, Cond.selects RX1 yX1_record yX1_record, Cond.initialized RX1, Cond.code yX1_record cX1_record 3 none, Cond.fieldLink RX1 18 "IslandBridges$History" "size" "I", Cond.methodLink RX1 22 yX1_dropOldest, Cond.instanceMethod yX1_dropOldest, Cond.selects RX1 yX1_dropOldest yX1_dropOldest, Cond.code yX1_dropOldest cX1_dropOldest 4 none, Cond.fieldLink RX1 11 "IslandBridges$History" "states" "[LIslandBridges$State;"]
def wsX9_take_r2 : List Cond := [Cond.methodLink RX1 25 yX1_stateAt, Cond.instanceMethod yX1_stateAt, Cond.selects RX1 yX1_stateAt yX1_stateAt, Cond.code yX1_stateAt cX1_stateAt 2 (some (.object "IslandBridges$State")), Cond.methodLink RX1 33 yX1_putState, Cond.instanceMethod yX1_putState, Cond.selects RX1 yX1_putState yX1_putState, Cond.code yX1_putState cX1_putState 3 none, Cond.methodLink RX1 29 yX6_becomeLike, Cond.instanceMethod yX6_becomeLike, Cond.selects RX6 yX6_becomeLike yX6_becomeLike, Cond.initialized RX6, Cond.code yX6_becomeLike cX6_becomeLike 2 none, Cond.fieldLink RX6 25 "IslandBridges$State" "columns" "I", Cond.fieldLink RX6 29 "IslandBridges$State" "rows" "I", Cond.fieldLink RX6 39 "IslandBridges$State" "grade" "I", Cond.fieldLink RX6 42 "IslandBridges$State" "stepsMade" "I", Cond.fieldLink RX6 9 "IslandBridges$State" "numbers" "[I", Cond.methodLink RX6 45 arraycopyName, Cond.native arraycopyName, Cond.static arraycopyName, Cond.initialized "java/lang/System", Cond.fieldLink RX6 15 "IslandBridges$State" "bridges" "[I", Cond.fieldLink RX6 18 "IslandBridges$State" "caps" "[I"]
def wsX9_take_r3 : List Cond := [Cond.methodLink RX9 110 yX9_put, Cond.static yX9_put, Cond.code yX9_put cX9_put 3 none]
def wsX9_take : List Cond := .code yX9_take cX9_take 3 (some .int) :: ((wsX9_take_r1 ++ (wsX9_take_r2 ++ wsX9_take_r3)) ++ wsX90 ++ wsX60 ++ wsX20 ++ wsX10)
def wsX9_cap_r1 : List Cond := [Cond.fieldLink RX9 10 "IslandBridges" "state" "LIslandBridges$State;", Cond.fieldLink RX9 117 "IslandBridges$State" "bridges" "[I", Cond.fieldLink RX9 69 "IslandBridges" "history" "LIslandBridges$History;", Cond.fieldLink RX9 159 "IslandBridges$State" "caps" "[I", Cond.methodLink RX9 150 yX9_isWay, Cond.instanceMethod yX9_isWay, Cond.selects RX9 yX9_isWay yX9_isWay, Cond.initialized RX9, Cond.code yX9_isWay cX9_isWay 2 (some .boolean), Cond.fieldLink RX9 19 "IslandBridges" "layout" "LIslandBridges$Layout;", Cond.fieldLink RX9 114 "IslandBridges$Layout" "ways" "I", Cond.methodLink RX9 106 yX9_valueAt, Cond.static yX9_valueAt, Cond.code yX9_valueAt cX9_valueAt 2 (some .int), Cond.methodLink RX9 88 yX1_record, Cond.instanceMethod yX1_record, Cond.selects RX1 yX1_record yX1_record, Cond.initialized RX1, Cond.code yX1_record cX1_record 3 none, Cond.fieldLink RX1 18 "IslandBridges$History" "size" "I", Cond.methodLink RX1 22 yX1_dropOldest, Cond.instanceMethod yX1_dropOldest, Cond.selects RX1 yX1_dropOldest yX1_dropOldest, Cond.code yX1_dropOldest cX1_dropOldest 4 none]
def wsX9_cap_r2 : List Cond := [Cond.fieldLink RX1 11 "IslandBridges$History" "states" "[LIslandBridges$State;", Cond.methodLink RX1 25 yX1_stateAt, Cond.instanceMethod yX1_stateAt, Cond.selects RX1 yX1_stateAt yX1_stateAt, Cond.code yX1_stateAt cX1_stateAt 2 (some (.object "IslandBridges$State")), Cond.methodLink RX1 33 yX1_putState, Cond.instanceMethod yX1_putState, Cond.selects RX1 yX1_putState yX1_putState, Cond.code yX1_putState cX1_putState 3 none, Cond.methodLink RX1 29 yX6_becomeLike, Cond.instanceMethod yX6_becomeLike, Cond.selects RX6 yX6_becomeLike yX6_becomeLike, Cond.initialized RX6, Cond.code yX6_becomeLike cX6_becomeLike 2 none, Cond.fieldLink RX6 25 "IslandBridges$State" "columns" "I", Cond.fieldLink RX6 29 "IslandBridges$State" "rows" "I", Cond.fieldLink RX6 39 "IslandBridges$State" "grade" "I", Cond.fieldLink RX6 42 "IslandBridges$State" "stepsMade" "I", Cond.fieldLink RX6 9 "IslandBridges$State" "numbers" "[I", Cond.methodLink RX6 45 arraycopyName, Cond.native arraycopyName, Cond.static arraycopyName, Cond.initialized "java/lang/System", Cond.fieldLink RX6 15 "IslandBridges$State" "bridges" "[I"]
def wsX9_cap_r3 : List Cond := [Cond.fieldLink RX6 18 "IslandBridges$State" "caps" "[I", Cond.methodLink RX9 110 yX9_put, Cond.static yX9_put, Cond.code yX9_put cX9_put 3 none]
def wsX9_cap : List Cond := .code yX9_cap cX9_cap 4 (some .int) :: ((wsX9_cap_r1 ++ (wsX9_cap_r2 ++ wsX9_cap_r3)) ++ wsX90 ++ wsX60 ++ wsX20 ++ wsX10)
def wsX9_clear_r1 : List Cond := [Cond.fieldLink RX9 69 "IslandBridges" "history" "LIslandBridges$History;", Cond.fieldLink RX9 10 "IslandBridges" "state" "LIslandBridges$State;", Cond.methodLink RX9 195 yX9_allBridges, Cond.instanceMethod yX9_allBridges, Cond.selects RX9 yX9_allBridges yX9_allBridges, Cond.initialized RX9, Cond.code yX9_allBridges cX9_allBridges 3 (some .int), Cond.fieldLink RX9 19 "IslandBridges" "layout" "LIslandBridges$Layout;", Cond.fieldLink RX9 114 "IslandBridges$Layout" "ways" "I", Cond.fieldLink RX9 117 "IslandBridges$State" "bridges" "[I", Cond.methodLink RX9 106 yX9_valueAt, Cond.static yX9_valueAt, Cond.code yX9_valueAt cX9_valueAt 2 (some .int), Cond.methodLink RX9 88 yX1_record, Cond.instanceMethod yX1_record, Cond.selects RX1 yX1_record yX1_record, Cond.initialized RX1, Cond.code yX1_record cX1_record 3 none, Cond.fieldLink RX1 18 "IslandBridges$History" "size" "I", Cond.methodLink RX1 22 yX1_dropOldest, Cond.instanceMethod yX1_dropOldest, Cond.selects RX1 yX1_dropOldest yX1_dropOldest, Cond.code yX1_dropOldest cX1_dropOldest 4 none, Cond.fieldLink RX1 11 "IslandBridges$History" "states" "[LIslandBridges$State;"]
def wsX9_clear_r2 : List Cond := [Cond.methodLink RX1 25 yX1_stateAt, Cond.instanceMethod yX1_stateAt, Cond.selects RX1 yX1_stateAt yX1_stateAt, Cond.code yX1_stateAt cX1_stateAt 2 (some (.object "IslandBridges$State")), Cond.methodLink RX1 33 yX1_putState, Cond.instanceMethod yX1_putState, Cond.selects RX1 yX1_putState yX1_putState, Cond.code yX1_putState cX1_putState 3 none, Cond.methodLink RX1 29 yX6_becomeLike, Cond.instanceMethod yX6_becomeLike, Cond.selects RX6 yX6_becomeLike yX6_becomeLike, Cond.initialized RX6, Cond.code yX6_becomeLike cX6_becomeLike 2 none, Cond.fieldLink RX6 25 "IslandBridges$State" "columns" "I", Cond.fieldLink RX6 29 "IslandBridges$State" "rows" "I", Cond.fieldLink RX6 39 "IslandBridges$State" "grade" "I", Cond.fieldLink RX6 42 "IslandBridges$State" "stepsMade" "I", Cond.fieldLink RX6 9 "IslandBridges$State" "numbers" "[I", Cond.methodLink RX6 45 arraycopyName, Cond.native arraycopyName, Cond.static arraycopyName, Cond.initialized "java/lang/System", Cond.fieldLink RX6 15 "IslandBridges$State" "bridges" "[I", Cond.fieldLink RX6 18 "IslandBridges$State" "caps" "[I"]
def wsX9_clear_r3 : List Cond := [Cond.methodLink RX9 227 yX6_takeAllBridges, Cond.instanceMethod yX6_takeAllBridges, Cond.selects RX6 yX6_takeAllBridges yX6_takeAllBridges, Cond.code yX6_takeAllBridges cX6_takeAllBridges 2 none, Cond.static yX9_put, Cond.code yX9_put cX9_put 3 none]
def wsX9_clear : List Cond := .code yX9_clear cX9_clear 2 (some .int) :: ((wsX9_clear_r1 ++ (wsX9_clear_r2 ++ wsX9_clear_r3)) ++ wsX90 ++ wsX20 ++ wsX60 ++ wsX10)
def wsX9_step_r1 : List Cond := [Cond.fieldLink RX9 46 "IslandBridges" "reasoner" "LIslandBridges$Reasoner;", Cond.fieldLink RX9 69 "IslandBridges" "history" "LIslandBridges$History;", Cond.fieldLink RX9 10 "IslandBridges" "state" "LIslandBridges$State;", Cond.methodLink RX9 230 yX4_find, Cond.instanceMethod yX4_find, Cond.selects RX4 yX4_find yX4_find, Cond.initialized RX4, Cond.code yX4_find cX4_find 3 (some .int), Cond.fieldLink RX4 19 "IslandBridges$Reasoner" "sums" "LIslandBridges$Sums;", Cond.fieldLink RX4 23 "IslandBridges$Reasoner" "groups" "LIslandBridges$Groups;", Cond.fieldLink RX4 9 "IslandBridges$Reasoner" "state" "LIslandBridges$State;", Cond.fieldLink RX4 36 "IslandBridges$State" "bridges" "[I", Cond.fieldLink RX4 15 "IslandBridges$Reasoner" "layout" "LIslandBridges$Layout;", Cond.fieldLink RX4 53 "IslandBridges$Reasoner" "built" "J", Cond.fieldLink RX4 57 "IslandBridges$Layout" "ways" "I", Cond.methodLink RX4 27 yX7_read, Cond.instanceMethod yX7_read, Cond.selects RX7 yX7_read yX7_read, Cond.initialized RX7, Cond.code yX7_read cX7_read 3 none, Cond.fieldLink RX7 15 "IslandBridges$Sums" "bridges" "[I", Cond.fieldLink RX7 18 "IslandBridges$Sums" "caps" "[I", Cond.fieldLink RX7 28 "IslandBridges$Sums" "layout" "LIslandBridges$Layout;", Cond.fieldLink RX7 36 "IslandBridges$Layout" "ways" "I"]
def wsX9_step_r2 : List Cond := [Cond.fieldLink RX7 53 "IslandBridges$Layout" "islands" "I", Cond.fieldLink RX7 24 "IslandBridges$Sums" "state" "LIslandBridges$State;", Cond.fieldLink RX7 56 "IslandBridges$State" "numbers" "[I", Cond.fieldLink RX7 9 "IslandBridges$Sums" "numbers" "[I", Cond.fieldLink RX7 21 "IslandBridges$Sums" "lacks" "[I", Cond.static yX9_put, Cond.initialized RX9, Cond.code yX9_put cX9_put 3 none, Cond.methodLink RX7 42 yX2_first, Cond.instanceMethod yX2_first, Cond.selects RX2 yX2_first yX2_first, Cond.initialized RX2, Cond.code yX2_first cX2_first 2 (some .int), Cond.fieldLink RX2 18 "IslandBridges$Layout" "firstOf" "[I", Cond.static yX9_valueAt, Cond.code yX9_valueAt cX9_valueAt 2 (some .int), Cond.methodLink RX7 46 yX7_addWay, Cond.instanceMethod yX7_addWay, Cond.selects RX7 yX7_addWay yX7_addWay, Cond.code yX7_addWay cX7_addWay 3 none, Cond.fieldLink RX7 66 "IslandBridges$State" "bridges" "[I", Cond.fieldLink RX7 70 "IslandBridges$State" "caps" "[I", Cond.static yX9_add, Cond.code yX9_add cX9_add 3 none]
def wsX9_step_r3 : List Cond := [Cond.methodLink RX7 50 yX2_second, Cond.instanceMethod yX2_second, Cond.selects RX2 yX2_second yX2_second, Cond.code yX2_second cX2_second 2 (some .int), Cond.fieldLink RX2 21 "IslandBridges$Layout" "secondOf" "[I", Cond.methodLink RX7 59 yX2_cellOf, Cond.instanceMethod yX2_cellOf, Cond.selects RX2 yX2_cellOf yX2_cellOf, Cond.code yX2_cellOf cX2_cellOf 2 (some .int), Cond.fieldLink RX2 9 "IslandBridges$Layout" "cellOf" "[I", Cond.methodLink RX4 32 yX7_areBroken, Cond.instanceMethod yX7_areBroken, Cond.selects RX7 yX7_areBroken yX7_areBroken, Cond.code yX7_areBroken cX7_areBroken 2 (some .boolean), Cond.methodLink RX4 42 yX0_read, Cond.instanceMethod yX0_read, Cond.selects RX0 yX0_read yX0_read, Cond.initialized RX0, Cond.code yX0_read cX0_read 3 none, Cond.fieldLink RX0 9 "IslandBridges$Groups" "leaders" "[I", Cond.fieldLink RX0 15 "IslandBridges$Groups" "layout" "LIslandBridges$Layout;", Cond.fieldLink RX0 23 "IslandBridges$Layout" "ways" "I", Cond.methodLink RX0 33 yX2_first, Cond.methodLink RX0 37 yX0_leader]
def wsX9_step_r4 : List Cond := [Cond.instanceMethod yX0_leader, Cond.selects RX0 yX0_leader yX0_leader, Cond.code yX0_leader cX0_leader 2 (some .int), Cond.methodLink RX0 40 yX2_second, Cond.methodLink RX0 43 yX0_join, Cond.instanceMethod yX0_join, Cond.selects RX0 yX0_join yX0_join, Cond.code yX0_join cX0_join 6 none, Cond.methodLink RX0 47 Lib.Math.min.name, Cond.static Lib.Math.min.name, Cond.initialized "java/lang/Math", Cond.code Lib.Math.min.name Lib.Math.min.code 2 (some .int), Cond.methodLink RX0 53 Lib.Math.max.name, Cond.static Lib.Math.max.name, Cond.code Lib.Math.max.name Lib.Math.max.code 2 (some .int), Cond.fieldLink RX0 56 "IslandBridges$Layout" "islands" "I", Cond.methodLink RX4 47 yX2_waysWith, Cond.instanceMethod yX2_waysWith, Cond.selects RX2 yX2_waysWith yX2_waysWith, Cond.code yX2_waysWith cX2_waysWith 5 (some .long), Cond.fieldLink RX2 73 "IslandBridges$Layout" "ways" "I", Cond.methodLink RX4 61 yX4_isPossible, Cond.instanceMethod yX4_isPossible, Cond.selects RX4 yX4_isPossible yX4_isPossible]
def wsX9_step_r5 : List Cond := [Cond.code yX4_isPossible cX4_isPossible 5 (some .boolean), Cond.fieldLink RX4 65 "IslandBridges$State" "caps" "[I", Cond.methodLink RX4 98 yX2_crossingsOf, Cond.instanceMethod yX2_crossingsOf, Cond.selects RX2 yX2_crossingsOf yX2_crossingsOf, Cond.code yX2_crossingsOf cX2_crossingsOf 2 (some .long), Cond.fieldLink RX2 36 "IslandBridges$Layout" "crossings" "[J", Cond.methodLink RX4 76 yX7_lesserLack, Cond.instanceMethod yX7_lesserLack, Cond.selects RX7 yX7_lesserLack yX7_lesserLack, Cond.code yX7_lesserLack cX7_lesserLack 2 (some .int), Cond.methodLink RX7 71 Lib.Math.min.name, Cond.methodLink RX4 80 yX7_leastBridges, Cond.instanceMethod yX7_leastBridges, Cond.selects RX7 yX7_leastBridges yX7_leastBridges, Cond.code yX7_leastBridges cX7_leastBridges 2 (some .int), Cond.methodLink RX7 80 Lib.Math.max.name, Cond.methodLink RX7 77 yX7_leastBridgesFor, Cond.instanceMethod yX7_leastBridgesFor, Cond.selects RX7 yX7_leastBridgesFor yX7_leastBridgesFor, Cond.code yX7_leastBridgesFor cX7_leastBridgesFor 3 (some .int), Cond.methodLink RX4 102 yX4_wouldCutOff, Cond.instanceMethod yX4_wouldCutOff, Cond.selects RX4 yX4_wouldCutOff yX4_wouldCutOff]
def wsX9_step_r6 : List Cond := [Cond.code yX4_wouldCutOff cX4_wouldCutOff 9 (some .boolean), Cond.fieldLink RX4 111 "IslandBridges$Layout" "islands" "I", Cond.fieldLink RX4 117 "IslandBridges$Sums" "lacks" "[I", Cond.methodLink RX4 105 yX2_first, Cond.methodLink RX4 108 yX2_second, Cond.methodLink RX4 114 yX0_leader, Cond.methodLink RX9 88 yX1_record, Cond.instanceMethod yX1_record, Cond.selects RX1 yX1_record yX1_record, Cond.initialized RX1, Cond.code yX1_record cX1_record 3 none, Cond.fieldLink RX1 18 "IslandBridges$History" "size" "I", Cond.methodLink RX1 22 yX1_dropOldest, Cond.instanceMethod yX1_dropOldest, Cond.selects RX1 yX1_dropOldest yX1_dropOldest, Cond.code yX1_dropOldest cX1_dropOldest 4 none, Cond.fieldLink RX1 11 "IslandBridges$History" "states" "[LIslandBridges$State;", Cond.methodLink RX1 25 yX1_stateAt, Cond.instanceMethod yX1_stateAt, Cond.selects RX1 yX1_stateAt yX1_stateAt, Cond.code yX1_stateAt cX1_stateAt 2 (some (.object "IslandBridges$State")), Cond.methodLink RX1 33 yX1_putState, Cond.instanceMethod yX1_putState, Cond.selects RX1 yX1_putState yX1_putState]
def wsX9_step_r7 : List Cond := [Cond.code yX1_putState cX1_putState 3 none, Cond.methodLink RX1 29 yX6_becomeLike, Cond.instanceMethod yX6_becomeLike, Cond.selects RX6 yX6_becomeLike yX6_becomeLike, Cond.initialized RX6, Cond.code yX6_becomeLike cX6_becomeLike 2 none, Cond.fieldLink RX6 25 "IslandBridges$State" "columns" "I", Cond.fieldLink RX6 29 "IslandBridges$State" "rows" "I", Cond.fieldLink RX6 39 "IslandBridges$State" "grade" "I", Cond.fieldLink RX6 42 "IslandBridges$State" "stepsMade" "I", Cond.fieldLink RX6 9 "IslandBridges$State" "numbers" "[I", Cond.methodLink RX6 45 arraycopyName, Cond.native arraycopyName, Cond.static arraycopyName, Cond.initialized "java/lang/System", Cond.fieldLink RX6 15 "IslandBridges$State" "bridges" "[I", Cond.fieldLink RX6 18 "IslandBridges$State" "caps" "[I", Cond.methodLink RX9 233 yX4_carryOut, Cond.instanceMethod yX4_carryOut, Cond.selects RX4 yX4_carryOut yX4_carryOut, Cond.code yX4_carryOut cX4_carryOut 4 none, Cond.fieldLink RX4 86 "IslandBridges$State" "grade" "I", Cond.methodLink RX4 89 Lib.Math.max.name, Cond.fieldLink RX4 95 "IslandBridges$State" "stepsMade" "I"]
def wsX9_step : List Cond := .code yX9_step cX9_step 2 (some .int) :: ((wsX9_step_r1 ++ (wsX9_step_r2 ++ (wsX9_step_r3 ++ (wsX9_step_r4 ++ (wsX9_step_r5 ++ (wsX9_step_r6 ++ wsX9_step_r7)))))) ++ wsX90 ++ wsX40 ++ wsX60 ++ wsX20 ++ wsX70 ++ wsX00 ++ wsX10)
def wsX9_hint_r1 : List Cond := [Cond.fieldLink RX9 46 "IslandBridges" "reasoner" "LIslandBridges$Reasoner;", Cond.methodLink RX9 230 yX4_find, Cond.instanceMethod yX4_find, Cond.selects RX4 yX4_find yX4_find, Cond.initialized RX4, Cond.code yX4_find cX4_find 3 (some .int), Cond.fieldLink RX4 19 "IslandBridges$Reasoner" "sums" "LIslandBridges$Sums;", Cond.fieldLink RX4 23 "IslandBridges$Reasoner" "groups" "LIslandBridges$Groups;", Cond.fieldLink RX4 9 "IslandBridges$Reasoner" "state" "LIslandBridges$State;", Cond.fieldLink RX4 36 "IslandBridges$State" "bridges" "[I", Cond.fieldLink RX4 15 "IslandBridges$Reasoner" "layout" "LIslandBridges$Layout;", Cond.fieldLink RX4 53 "IslandBridges$Reasoner" "built" "J", Cond.fieldLink RX4 57 "IslandBridges$Layout" "ways" "I", Cond.methodLink RX4 27 yX7_read, Cond.instanceMethod yX7_read, Cond.selects RX7 yX7_read yX7_read, Cond.initialized RX7, Cond.code yX7_read cX7_read 3 none, Cond.fieldLink RX7 15 "IslandBridges$Sums" "bridges" "[I", Cond.fieldLink RX7 18 "IslandBridges$Sums" "caps" "[I", Cond.fieldLink RX7 28 "IslandBridges$Sums" "layout" "LIslandBridges$Layout;", Cond.fieldLink RX7 36 "IslandBridges$Layout" "ways" "I", Cond.fieldLink RX7 53 "IslandBridges$Layout" "islands" "I", Cond.fieldLink RX7 24 "IslandBridges$Sums" "state" "LIslandBridges$State;"]
def wsX9_hint_r2 : List Cond := [Cond.fieldLink RX7 56 "IslandBridges$State" "numbers" "[I", Cond.fieldLink RX7 9 "IslandBridges$Sums" "numbers" "[I", Cond.fieldLink RX7 21 "IslandBridges$Sums" "lacks" "[I", Cond.static yX9_put, Cond.initialized RX9, Cond.code yX9_put cX9_put 3 none, Cond.methodLink RX7 42 yX2_first, Cond.instanceMethod yX2_first, Cond.selects RX2 yX2_first yX2_first, Cond.initialized RX2, Cond.code yX2_first cX2_first 2 (some .int), Cond.fieldLink RX2 18 "IslandBridges$Layout" "firstOf" "[I", Cond.static yX9_valueAt, Cond.code yX9_valueAt cX9_valueAt 2 (some .int), Cond.methodLink RX7 46 yX7_addWay, Cond.instanceMethod yX7_addWay, Cond.selects RX7 yX7_addWay yX7_addWay, Cond.code yX7_addWay cX7_addWay 3 none, Cond.fieldLink RX7 66 "IslandBridges$State" "bridges" "[I", Cond.fieldLink RX7 70 "IslandBridges$State" "caps" "[I", Cond.static yX9_add, Cond.code yX9_add cX9_add 3 none, Cond.methodLink RX7 50 yX2_second, Cond.instanceMethod yX2_second]
def wsX9_hint_r3 : List Cond := [Cond.selects RX2 yX2_second yX2_second, Cond.code yX2_second cX2_second 2 (some .int), Cond.fieldLink RX2 21 "IslandBridges$Layout" "secondOf" "[I", Cond.methodLink RX7 59 yX2_cellOf, Cond.instanceMethod yX2_cellOf, Cond.selects RX2 yX2_cellOf yX2_cellOf, Cond.code yX2_cellOf cX2_cellOf 2 (some .int), Cond.fieldLink RX2 9 "IslandBridges$Layout" "cellOf" "[I", Cond.methodLink RX4 32 yX7_areBroken, Cond.instanceMethod yX7_areBroken, Cond.selects RX7 yX7_areBroken yX7_areBroken, Cond.code yX7_areBroken cX7_areBroken 2 (some .boolean), Cond.methodLink RX4 42 yX0_read, Cond.instanceMethod yX0_read, Cond.selects RX0 yX0_read yX0_read, Cond.initialized RX0, Cond.code yX0_read cX0_read 3 none, Cond.fieldLink RX0 9 "IslandBridges$Groups" "leaders" "[I", Cond.fieldLink RX0 15 "IslandBridges$Groups" "layout" "LIslandBridges$Layout;", Cond.fieldLink RX0 23 "IslandBridges$Layout" "ways" "I", Cond.methodLink RX0 33 yX2_first, Cond.methodLink RX0 37 yX0_leader, Cond.instanceMethod yX0_leader, Cond.selects RX0 yX0_leader yX0_leader]
def wsX9_hint_r4 : List Cond := [Cond.code yX0_leader cX0_leader 2 (some .int), Cond.methodLink RX0 40 yX2_second, Cond.methodLink RX0 43 yX0_join, Cond.instanceMethod yX0_join, Cond.selects RX0 yX0_join yX0_join, Cond.code yX0_join cX0_join 6 none, Cond.methodLink RX0 47 Lib.Math.min.name, Cond.static Lib.Math.min.name, Cond.initialized "java/lang/Math", Cond.code Lib.Math.min.name Lib.Math.min.code 2 (some .int), Cond.methodLink RX0 53 Lib.Math.max.name, Cond.static Lib.Math.max.name, Cond.code Lib.Math.max.name Lib.Math.max.code 2 (some .int), Cond.fieldLink RX0 56 "IslandBridges$Layout" "islands" "I", Cond.methodLink RX4 47 yX2_waysWith, Cond.instanceMethod yX2_waysWith, Cond.selects RX2 yX2_waysWith yX2_waysWith, Cond.code yX2_waysWith cX2_waysWith 5 (some .long), Cond.fieldLink RX2 73 "IslandBridges$Layout" "ways" "I", Cond.methodLink RX4 61 yX4_isPossible, Cond.instanceMethod yX4_isPossible, Cond.selects RX4 yX4_isPossible yX4_isPossible, Cond.code yX4_isPossible cX4_isPossible 5 (some .boolean), Cond.fieldLink RX4 65 "IslandBridges$State" "caps" "[I"]
def wsX9_hint_r5 : List Cond := [Cond.methodLink RX4 98 yX2_crossingsOf, Cond.instanceMethod yX2_crossingsOf, Cond.selects RX2 yX2_crossingsOf yX2_crossingsOf, Cond.code yX2_crossingsOf cX2_crossingsOf 2 (some .long), Cond.fieldLink RX2 36 "IslandBridges$Layout" "crossings" "[J", Cond.methodLink RX4 76 yX7_lesserLack, Cond.instanceMethod yX7_lesserLack, Cond.selects RX7 yX7_lesserLack yX7_lesserLack, Cond.code yX7_lesserLack cX7_lesserLack 2 (some .int), Cond.methodLink RX7 71 Lib.Math.min.name, Cond.methodLink RX4 80 yX7_leastBridges, Cond.instanceMethod yX7_leastBridges, Cond.selects RX7 yX7_leastBridges yX7_leastBridges, Cond.code yX7_leastBridges cX7_leastBridges 2 (some .int), Cond.methodLink RX7 80 Lib.Math.max.name, Cond.methodLink RX7 77 yX7_leastBridgesFor, Cond.instanceMethod yX7_leastBridgesFor, Cond.selects RX7 yX7_leastBridgesFor yX7_leastBridgesFor, Cond.code yX7_leastBridgesFor cX7_leastBridgesFor 3 (some .int), Cond.methodLink RX4 102 yX4_wouldCutOff, Cond.instanceMethod yX4_wouldCutOff, Cond.selects RX4 yX4_wouldCutOff yX4_wouldCutOff, Cond.code yX4_wouldCutOff cX4_wouldCutOff 9 (some .boolean), Cond.fieldLink RX4 111 "IslandBridges$Layout" "islands" "I"]
def wsX9_hint_r6 : List Cond := [Cond.fieldLink RX4 117 "IslandBridges$Sums" "lacks" "[I", Cond.methodLink RX4 105 yX2_first, Cond.methodLink RX4 108 yX2_second, Cond.methodLink RX4 114 yX0_leader]
def wsX9_hint : List Cond := .code yX9_hint cX9_hint 1 (some .int) :: ((wsX9_hint_r1 ++ (wsX9_hint_r2 ++ (wsX9_hint_r3 ++ (wsX9_hint_r4 ++ (wsX9_hint_r5 ++ wsX9_hint_r6))))) ++ wsX90 ++ wsX40 ++ wsX60 ++ wsX20 ++ wsX70 ++ wsX00)
def wsX9_steps_r1 : List Cond := [Cond.fieldLink RX9 69 "IslandBridges" "history" "LIslandBridges$History;", Cond.fieldLink RX9 10 "IslandBridges" "state" "LIslandBridges$State;", Cond.fieldLink RX9 46 "IslandBridges" "reasoner" "LIslandBridges$Reasoner;", Cond.methodLink RX9 88 yX1_record, Cond.instanceMethod yX1_record, Cond.selects RX1 yX1_record yX1_record, Cond.initialized RX1, Cond.code yX1_record cX1_record 3 none, Cond.fieldLink RX1 18 "IslandBridges$History" "size" "I", Cond.methodLink RX1 22 yX1_dropOldest, Cond.instanceMethod yX1_dropOldest, Cond.selects RX1 yX1_dropOldest yX1_dropOldest, Cond.code yX1_dropOldest cX1_dropOldest 4 none, Cond.fieldLink RX1 11 "IslandBridges$History" "states" "[LIslandBridges$State;", Cond.methodLink RX1 25 yX1_stateAt, Cond.instanceMethod yX1_stateAt, Cond.selects RX1 yX1_stateAt yX1_stateAt, Cond.code yX1_stateAt cX1_stateAt 2 (some (.object "IslandBridges$State")), Cond.methodLink RX1 33 yX1_putState, Cond.instanceMethod yX1_putState, Cond.selects RX1 yX1_putState yX1_putState, Cond.code yX1_putState cX1_putState 3 none, Cond.methodLink RX1 29 yX6_becomeLike, Cond.instanceMethod yX6_becomeLike]
def wsX9_steps_r2 : List Cond := [Cond.selects RX6 yX6_becomeLike yX6_becomeLike, Cond.initialized RX6, Cond.code yX6_becomeLike cX6_becomeLike 2 none, Cond.fieldLink RX6 25 "IslandBridges$State" "columns" "I", Cond.fieldLink RX6 29 "IslandBridges$State" "rows" "I", Cond.fieldLink RX6 39 "IslandBridges$State" "grade" "I", Cond.fieldLink RX6 42 "IslandBridges$State" "stepsMade" "I", Cond.fieldLink RX6 9 "IslandBridges$State" "numbers" "[I", Cond.methodLink RX6 45 arraycopyName, Cond.native arraycopyName, Cond.static arraycopyName, Cond.initialized "java/lang/System", Cond.fieldLink RX6 15 "IslandBridges$State" "bridges" "[I", Cond.fieldLink RX6 18 "IslandBridges$State" "caps" "[I", Cond.methodLink RX9 230 yX4_find, Cond.instanceMethod yX4_find, Cond.selects RX4 yX4_find yX4_find, Cond.initialized RX4, Cond.code yX4_find cX4_find 3 (some .int), Cond.fieldLink RX4 19 "IslandBridges$Reasoner" "sums" "LIslandBridges$Sums;", Cond.fieldLink RX4 23 "IslandBridges$Reasoner" "groups" "LIslandBridges$Groups;", Cond.fieldLink RX4 9 "IslandBridges$Reasoner" "state" "LIslandBridges$State;", Cond.fieldLink RX4 36 "IslandBridges$State" "bridges" "[I", Cond.fieldLink RX4 15 "IslandBridges$Reasoner" "layout" "LIslandBridges$Layout;"]
def wsX9_steps_r3 : List Cond := [Cond.fieldLink RX4 53 "IslandBridges$Reasoner" "built" "J", Cond.fieldLink RX4 57 "IslandBridges$Layout" "ways" "I", Cond.methodLink RX4 27 yX7_read, Cond.instanceMethod yX7_read, Cond.selects RX7 yX7_read yX7_read, Cond.initialized RX7, Cond.code yX7_read cX7_read 3 none, Cond.fieldLink RX7 15 "IslandBridges$Sums" "bridges" "[I", Cond.fieldLink RX7 18 "IslandBridges$Sums" "caps" "[I", Cond.fieldLink RX7 28 "IslandBridges$Sums" "layout" "LIslandBridges$Layout;", Cond.fieldLink RX7 36 "IslandBridges$Layout" "ways" "I", Cond.fieldLink RX7 53 "IslandBridges$Layout" "islands" "I", Cond.fieldLink RX7 24 "IslandBridges$Sums" "state" "LIslandBridges$State;", Cond.fieldLink RX7 56 "IslandBridges$State" "numbers" "[I", Cond.fieldLink RX7 9 "IslandBridges$Sums" "numbers" "[I", Cond.fieldLink RX7 21 "IslandBridges$Sums" "lacks" "[I", Cond.static yX9_put, Cond.initialized RX9, Cond.code yX9_put cX9_put 3 none, Cond.methodLink RX7 42 yX2_first, Cond.instanceMethod yX2_first, Cond.selects RX2 yX2_first yX2_first, Cond.initialized RX2, Cond.code yX2_first cX2_first 2 (some .int)]
def wsX9_steps_r4 : List Cond := [Cond.fieldLink RX2 18 "IslandBridges$Layout" "firstOf" "[I", Cond.static yX9_valueAt, Cond.code yX9_valueAt cX9_valueAt 2 (some .int), Cond.methodLink RX7 46 yX7_addWay, Cond.instanceMethod yX7_addWay, Cond.selects RX7 yX7_addWay yX7_addWay, Cond.code yX7_addWay cX7_addWay 3 none, Cond.fieldLink RX7 66 "IslandBridges$State" "bridges" "[I", Cond.fieldLink RX7 70 "IslandBridges$State" "caps" "[I", Cond.static yX9_add, Cond.code yX9_add cX9_add 3 none, Cond.methodLink RX7 50 yX2_second, Cond.instanceMethod yX2_second, Cond.selects RX2 yX2_second yX2_second, Cond.code yX2_second cX2_second 2 (some .int), Cond.fieldLink RX2 21 "IslandBridges$Layout" "secondOf" "[I", Cond.methodLink RX7 59 yX2_cellOf, Cond.instanceMethod yX2_cellOf, Cond.selects RX2 yX2_cellOf yX2_cellOf, Cond.code yX2_cellOf cX2_cellOf 2 (some .int), Cond.fieldLink RX2 9 "IslandBridges$Layout" "cellOf" "[I", Cond.methodLink RX4 32 yX7_areBroken, Cond.instanceMethod yX7_areBroken, Cond.selects RX7 yX7_areBroken yX7_areBroken]
def wsX9_steps_r5 : List Cond := [Cond.code yX7_areBroken cX7_areBroken 2 (some .boolean), Cond.methodLink RX4 42 yX0_read, Cond.instanceMethod yX0_read, Cond.selects RX0 yX0_read yX0_read, Cond.initialized RX0, Cond.code yX0_read cX0_read 3 none, Cond.fieldLink RX0 9 "IslandBridges$Groups" "leaders" "[I", Cond.fieldLink RX0 15 "IslandBridges$Groups" "layout" "LIslandBridges$Layout;", Cond.fieldLink RX0 23 "IslandBridges$Layout" "ways" "I", Cond.methodLink RX0 33 yX2_first, Cond.methodLink RX0 37 yX0_leader, Cond.instanceMethod yX0_leader, Cond.selects RX0 yX0_leader yX0_leader, Cond.code yX0_leader cX0_leader 2 (some .int), Cond.methodLink RX0 40 yX2_second, Cond.methodLink RX0 43 yX0_join, Cond.instanceMethod yX0_join, Cond.selects RX0 yX0_join yX0_join, Cond.code yX0_join cX0_join 6 none, Cond.methodLink RX0 47 Lib.Math.min.name, Cond.static Lib.Math.min.name, Cond.initialized "java/lang/Math", Cond.code Lib.Math.min.name Lib.Math.min.code 2 (some .int), Cond.methodLink RX0 53 Lib.Math.max.name]
def wsX9_steps_r6 : List Cond := [Cond.static Lib.Math.max.name, Cond.code Lib.Math.max.name Lib.Math.max.code 2 (some .int), Cond.fieldLink RX0 56 "IslandBridges$Layout" "islands" "I", Cond.methodLink RX4 47 yX2_waysWith, Cond.instanceMethod yX2_waysWith, Cond.selects RX2 yX2_waysWith yX2_waysWith, Cond.code yX2_waysWith cX2_waysWith 5 (some .long), Cond.fieldLink RX2 73 "IslandBridges$Layout" "ways" "I", Cond.methodLink RX4 61 yX4_isPossible, Cond.instanceMethod yX4_isPossible, Cond.selects RX4 yX4_isPossible yX4_isPossible, Cond.code yX4_isPossible cX4_isPossible 5 (some .boolean), Cond.fieldLink RX4 65 "IslandBridges$State" "caps" "[I", Cond.methodLink RX4 98 yX2_crossingsOf, Cond.instanceMethod yX2_crossingsOf, Cond.selects RX2 yX2_crossingsOf yX2_crossingsOf, Cond.code yX2_crossingsOf cX2_crossingsOf 2 (some .long), Cond.fieldLink RX2 36 "IslandBridges$Layout" "crossings" "[J", Cond.methodLink RX4 76 yX7_lesserLack, Cond.instanceMethod yX7_lesserLack, Cond.selects RX7 yX7_lesserLack yX7_lesserLack, Cond.code yX7_lesserLack cX7_lesserLack 2 (some .int), Cond.methodLink RX7 71 Lib.Math.min.name, Cond.methodLink RX4 80 yX7_leastBridges]
def wsX9_steps_r7 : List Cond := [Cond.instanceMethod yX7_leastBridges, Cond.selects RX7 yX7_leastBridges yX7_leastBridges, Cond.code yX7_leastBridges cX7_leastBridges 2 (some .int), Cond.methodLink RX7 80 Lib.Math.max.name, Cond.methodLink RX7 77 yX7_leastBridgesFor, Cond.instanceMethod yX7_leastBridgesFor, Cond.selects RX7 yX7_leastBridgesFor yX7_leastBridgesFor, Cond.code yX7_leastBridgesFor cX7_leastBridgesFor 3 (some .int), Cond.methodLink RX4 102 yX4_wouldCutOff, Cond.instanceMethod yX4_wouldCutOff, Cond.selects RX4 yX4_wouldCutOff yX4_wouldCutOff, Cond.code yX4_wouldCutOff cX4_wouldCutOff 9 (some .boolean), Cond.fieldLink RX4 111 "IslandBridges$Layout" "islands" "I", Cond.fieldLink RX4 117 "IslandBridges$Sums" "lacks" "[I", Cond.methodLink RX4 105 yX2_first, Cond.methodLink RX4 108 yX2_second, Cond.methodLink RX4 114 yX0_leader, Cond.methodLink RX9 233 yX4_carryOut, Cond.instanceMethod yX4_carryOut, Cond.selects RX4 yX4_carryOut yX4_carryOut, Cond.code yX4_carryOut cX4_carryOut 4 none, Cond.fieldLink RX4 86 "IslandBridges$State" "grade" "I", Cond.methodLink RX4 89 Lib.Math.max.name, Cond.fieldLink RX4 95 "IslandBridges$State" "stepsMade" "I"]
def wsX9_steps : List Cond := .code yX9_steps cX9_steps 4 (some .int) :: ((wsX9_steps_r1 ++ (wsX9_steps_r2 ++ (wsX9_steps_r3 ++ (wsX9_steps_r4 ++ (wsX9_steps_r5 ++ (wsX9_steps_r6 ++ wsX9_steps_r7)))))) ++ wsX90 ++ wsX10 ++ wsX60 ++ wsX40 ++ wsX20 ++ wsX70 ++ wsX00)
def wsX9_make_r1 : List Cond := [Cond.constant RX9 251 (65535), Cond.fieldLink RX9 69 "IslandBridges" "history" "LIslandBridges$History;", Cond.fieldLink RX9 10 "IslandBridges" "state" "LIslandBridges$State;", Cond.fieldLink RX9 62 "IslandBridges" "maker" "LIslandBridges$Maker;", Cond.fieldLink RX9 189 "IslandBridges$State" "columns" "I", Cond.fieldLink RX9 192 "IslandBridges$State" "rows" "I", Cond.fieldLink RX9 19 "IslandBridges" "layout" "LIslandBridges$Layout;", Cond.fieldLink RX9 84 "IslandBridges$Layout" "islands" "I", Cond.methodLink RX9 88 yX1_record, Cond.instanceMethod yX1_record, Cond.selects RX1 yX1_record yX1_record, Cond.initialized RX1, Cond.code yX1_record cX1_record 3 none, Cond.fieldLink RX1 18 "IslandBridges$History" "size" "I", Cond.methodLink RX1 22 yX1_dropOldest, Cond.instanceMethod yX1_dropOldest, Cond.selects RX1 yX1_dropOldest yX1_dropOldest, Cond.code yX1_dropOldest cX1_dropOldest 4 none, Cond.fieldLink RX1 11 "IslandBridges$History" "states" "[LIslandBridges$State;", Cond.methodLink RX1 25 yX1_stateAt, Cond.instanceMethod yX1_stateAt, Cond.selects RX1 yX1_stateAt yX1_stateAt, Cond.code yX1_stateAt cX1_stateAt 2 (some (.object "IslandBridges$State")), Cond.methodLink RX1 33 yX1_putState]
def wsX9_make_r2 : List Cond := [Cond.instanceMethod yX1_putState, Cond.selects RX1 yX1_putState yX1_putState, Cond.code yX1_putState cX1_putState 3 none, Cond.methodLink RX1 29 yX6_becomeLike, Cond.instanceMethod yX6_becomeLike, Cond.selects RX6 yX6_becomeLike yX6_becomeLike, Cond.initialized RX6, Cond.code yX6_becomeLike cX6_becomeLike 2 none, Cond.fieldLink RX6 25 "IslandBridges$State" "columns" "I", Cond.fieldLink RX6 29 "IslandBridges$State" "rows" "I", Cond.fieldLink RX6 39 "IslandBridges$State" "grade" "I", Cond.fieldLink RX6 42 "IslandBridges$State" "stepsMade" "I", Cond.fieldLink RX6 9 "IslandBridges$State" "numbers" "[I", Cond.methodLink RX6 45 arraycopyName, Cond.native arraycopyName, Cond.static arraycopyName, Cond.initialized "java/lang/System", Cond.fieldLink RX6 15 "IslandBridges$State" "bridges" "[I", Cond.fieldLink RX6 18 "IslandBridges$State" "caps" "[I", Cond.methodLink RX9 252 yX3_run, Cond.instanceMethod yX3_run, Cond.selects RX3 yX3_run yX3_run, Cond.initialized RX3, Cond.code yX3_run cX3_run 6 none]
def wsX9_make_r3 : List Cond := [Cond.fieldLink RX3 21 "IslandBridges$Maker" "columns" "I", Cond.fieldLink RX3 25 "IslandBridges$Maker" "rows" "I", Cond.fieldLink RX3 28 "IslandBridges$Maker" "islands" "I", Cond.fieldLink RX3 31 "IslandBridges$Maker" "z" "I", Cond.fieldLink RX3 9 "IslandBridges$Maker" "taken" "[I", Cond.fieldLink RX3 15 "IslandBridges$Maker" "numbers" "[I", Cond.static yX9_put, Cond.initialized RX9, Cond.code yX9_put cX9_put 3 none, Cond.methodLink RX3 38 yX3_draw, Cond.instanceMethod yX3_draw, Cond.selects RX3 yX3_draw yX3_draw, Cond.code yX3_draw cX3_draw 2 (some .int), Cond.constant RX3 56 (65537), Cond.methodLink RX3 42 yX3_addIsland, Cond.instanceMethod yX3_addIsland, Cond.selects RX3 yX3_addIsland yX3_addIsland, Cond.code yX3_addIsland cX3_addIsland 4 none, Cond.fieldLink RX3 18 "IslandBridges$Maker" "cellOf" "[I", Cond.static yX9_valueAt, Cond.code yX9_valueAt cX9_valueAt 2 (some .int), Cond.methodLink RX3 46 yX3_tryIsland, Cond.instanceMethod yX3_tryIsland, Cond.selects RX3 yX3_tryIsland yX3_tryIsland]
def wsX9_make_r4 : List Cond := [Cond.code yX3_tryIsland cX3_tryIsland 9 none, Cond.methodLink RX3 57 yX3_isOnBoard, Cond.instanceMethod yX3_isOnBoard, Cond.selects RX3 yX3_isOnBoard yX3_isOnBoard, Cond.code yX3_isOnBoard cX3_isOnBoard 5 (some .boolean), Cond.static yX9_add, Cond.code yX9_add cX9_add 3 none, Cond.methodLink RX9 255 yX3_giveNumbersTo, Cond.instanceMethod yX3_giveNumbersTo, Cond.selects RX3 yX3_giveNumbersTo yX3_giveNumbersTo, Cond.code yX3_giveNumbersTo cX3_giveNumbersTo 3 none, Cond.fieldLink RX3 49 "IslandBridges$State" "numbers" "[I", Cond.methodLink RX9 96 yX9_renewWays, Cond.instanceMethod yX9_renewWays, Cond.selects RX9 yX9_renewWays yX9_renewWays, Cond.code yX9_renewWays cX9_renewWays 1 none, Cond.methodLink RX9 227 yX6_takeAllBridges, Cond.instanceMethod yX6_takeAllBridges, Cond.selects RX6 yX6_takeAllBridges yX6_takeAllBridges, Cond.code yX6_takeAllBridges cX6_takeAllBridges 2 none, Cond.methodLink RX9 261 yX2_read, Cond.instanceMethod yX2_read, Cond.selects RX2 yX2_read yX2_read, Cond.initialized RX2]
def wsX9_make_r5 : List Cond := [Cond.code yX2_read cX2_read 2 none, Cond.fieldLink RX2 44 "IslandBridges$State" "columns" "I", Cond.methodLink RX2 40 yX2_readIslands, Cond.instanceMethod yX2_readIslands, Cond.selects RX2 yX2_readIslands yX2_readIslands, Cond.code yX2_readIslands cX2_readIslands 5 none, Cond.fieldLink RX2 76 "IslandBridges$Layout" "islands" "I", Cond.fieldLink RX2 79 "IslandBridges$State" "numbers" "[I", Cond.fieldLink RX2 9 "IslandBridges$Layout" "cellOf" "[I", Cond.fieldLink RX2 33 "IslandBridges$Layout" "waysOf" "[I", Cond.fieldLink RX2 15 "IslandBridges$Layout" "islandAfter" "[I", Cond.methodLink RX2 50 yX6_cells, Cond.instanceMethod yX6_cells, Cond.selects RX6 yX6_cells yX6_cells, Cond.code yX6_cells cX6_cells 1 (some .int), Cond.methodLink RX2 54 yX2_readWays, Cond.instanceMethod yX2_readWays, Cond.selects RX2 yX2_readWays yX2_readWays, Cond.code yX2_readWays cX2_readWays 5 none, Cond.fieldLink RX2 73 "IslandBridges$Layout" "ways" "I", Cond.methodLink RX2 86 yX2_cellOf, Cond.instanceMethod yX2_cellOf, Cond.selects RX2 yX2_cellOf yX2_cellOf, Cond.code yX2_cellOf cX2_cellOf 2 (some .int)]
def wsX9_make_r6 : List Cond := [Cond.methodLink RX2 88 yX2_nextIsland, Cond.instanceMethod yX2_nextIsland, Cond.selects RX2 yX2_nextIsland yX2_nextIsland, Cond.code yX2_nextIsland cX2_nextIsland 6 (some .int), Cond.methodLink RX2 96 yX2_islandOn, Cond.instanceMethod yX2_islandOn, Cond.selects RX2 yX2_islandOn yX2_islandOn, Cond.code yX2_islandOn cX2_islandOn 2 (some .int), Cond.methodLink RX2 92 yX2_addWay, Cond.instanceMethod yX2_addWay, Cond.selects RX2 yX2_addWay yX2_addWay, Cond.code yX2_addWay cX2_addWay 4 none, Cond.fieldLink RX2 18 "IslandBridges$Layout" "firstOf" "[I", Cond.fieldLink RX2 21 "IslandBridges$Layout" "secondOf" "[I", Cond.fieldLink RX2 24 "IslandBridges$Layout" "firstCellOf" "[I", Cond.fieldLink RX2 27 "IslandBridges$Layout" "secondCellOf" "[I", Cond.fieldLink RX2 30 "IslandBridges$Layout" "strideOf" "[I", Cond.methodLink RX2 58 yX2_readCrossings, Cond.instanceMethod yX2_readCrossings, Cond.selects RX2 yX2_readCrossings yX2_readCrossings, Cond.code yX2_readCrossings cX2_readCrossings 6 none, Cond.fieldLink RX2 36 "IslandBridges$Layout" "crossings" "[J", Cond.methodLink RX2 102 yX2_doCross, Cond.instanceMethod yX2_doCross]
def wsX9_make_r7 : List Cond := [Cond.selects RX2 yX2_doCross yX2_doCross, Cond.code yX2_doCross cX2_doCross 7 (some .boolean), Cond.methodLink RX2 106 yX2_isAlongRow, Cond.instanceMethod yX2_isAlongRow, Cond.selects RX2 yX2_isAlongRow yX2_isAlongRow, Cond.code yX2_isAlongRow cX2_isAlongRow 2 (some .boolean), Cond.methodLink RX2 70 yX2_firstCell, Cond.instanceMethod yX2_firstCell, Cond.selects RX2 yX2_firstCell yX2_firstCell, Cond.code yX2_firstCell cX2_firstCell 2 (some .int), Cond.methodLink RX2 110 yX2_isOver, Cond.instanceMethod yX2_isOver, Cond.selects RX2 yX2_isOver yX2_isOver, Cond.code yX2_isOver cX2_isOver 6 (some .boolean)]
def wsX9_make : List Cond := .code yX9_make cX9_make 3 (some .int) :: ((wsX9_make_r1 ++ (wsX9_make_r2 ++ (wsX9_make_r3 ++ (wsX9_make_r4 ++ (wsX9_make_r5 ++ (wsX9_make_r6 ++ wsX9_make_r7)))))) ++ wsX90 ++ wsX60 ++ wsX20 ++ wsX10 ++ wsX30)
def wsX9_undo_r1 : List Cond := [Cond.fieldLink RX9 69 "IslandBridges" "history" "LIslandBridges$History;", Cond.fieldLink RX9 221 "IslandBridges$History" "size" "I", Cond.fieldLink RX9 10 "IslandBridges" "state" "LIslandBridges$State;", Cond.fieldLink RX9 19 "IslandBridges" "layout" "LIslandBridges$Layout;", Cond.methodLink RX9 258 yX1_restore, Cond.instanceMethod yX1_restore, Cond.selects RX1 yX1_restore yX1_restore, Cond.initialized RX1, Cond.code yX1_restore cX1_restore 3 none, Cond.fieldLink RX1 18 "IslandBridges$History" "size" "I", Cond.methodLink RX1 25 yX1_stateAt, Cond.instanceMethod yX1_stateAt, Cond.selects RX1 yX1_stateAt yX1_stateAt, Cond.code yX1_stateAt cX1_stateAt 2 (some (.object "IslandBridges$State")), Cond.fieldLink RX1 11 "IslandBridges$History" "states" "[LIslandBridges$State;", Cond.methodLink RX1 29 yX6_becomeLike, Cond.instanceMethod yX6_becomeLike, Cond.selects RX6 yX6_becomeLike yX6_becomeLike, Cond.initialized RX6, Cond.code yX6_becomeLike cX6_becomeLike 2 none, Cond.fieldLink RX6 25 "IslandBridges$State" "columns" "I", Cond.fieldLink RX6 29 "IslandBridges$State" "rows" "I", Cond.fieldLink RX6 39 "IslandBridges$State" "grade" "I", Cond.fieldLink RX6 42 "IslandBridges$State" "stepsMade" "I"]
def wsX9_undo_r2 : List Cond := [Cond.fieldLink RX6 9 "IslandBridges$State" "numbers" "[I", Cond.methodLink RX6 45 arraycopyName, Cond.native arraycopyName, Cond.static arraycopyName, Cond.initialized "java/lang/System", Cond.fieldLink RX6 15 "IslandBridges$State" "bridges" "[I", Cond.fieldLink RX6 18 "IslandBridges$State" "caps" "[I", Cond.methodLink RX9 261 yX2_read, Cond.instanceMethod yX2_read, Cond.selects RX2 yX2_read yX2_read, Cond.initialized RX2, Cond.code yX2_read cX2_read 2 none, Cond.fieldLink RX2 44 "IslandBridges$State" "columns" "I", Cond.methodLink RX2 40 yX2_readIslands, Cond.instanceMethod yX2_readIslands, Cond.selects RX2 yX2_readIslands yX2_readIslands, Cond.code yX2_readIslands cX2_readIslands 5 none, Cond.fieldLink RX2 76 "IslandBridges$Layout" "islands" "I", Cond.fieldLink RX2 79 "IslandBridges$State" "numbers" "[I", Cond.fieldLink RX2 9 "IslandBridges$Layout" "cellOf" "[I", Cond.fieldLink RX2 33 "IslandBridges$Layout" "waysOf" "[I", Cond.fieldLink RX2 15 "IslandBridges$Layout" "islandAfter" "[I", Cond.methodLink RX2 50 yX6_cells, Cond.instanceMethod yX6_cells]
def wsX9_undo_r3 : List Cond := [Cond.selects RX6 yX6_cells yX6_cells, Cond.code yX6_cells cX6_cells 1 (some .int), Cond.static yX9_valueAt, Cond.initialized RX9, Cond.code yX9_valueAt cX9_valueAt 2 (some .int), Cond.static yX9_put, Cond.code yX9_put cX9_put 3 none, Cond.methodLink RX2 54 yX2_readWays, Cond.instanceMethod yX2_readWays, Cond.selects RX2 yX2_readWays yX2_readWays, Cond.code yX2_readWays cX2_readWays 5 none, Cond.fieldLink RX2 73 "IslandBridges$Layout" "ways" "I", Cond.methodLink RX2 86 yX2_cellOf, Cond.instanceMethod yX2_cellOf, Cond.selects RX2 yX2_cellOf yX2_cellOf, Cond.code yX2_cellOf cX2_cellOf 2 (some .int), Cond.methodLink RX2 88 yX2_nextIsland, Cond.instanceMethod yX2_nextIsland, Cond.selects RX2 yX2_nextIsland yX2_nextIsland, Cond.code yX2_nextIsland cX2_nextIsland 6 (some .int), Cond.methodLink RX2 96 yX2_islandOn, Cond.instanceMethod yX2_islandOn, Cond.selects RX2 yX2_islandOn yX2_islandOn, Cond.code yX2_islandOn cX2_islandOn 2 (some .int)]
def wsX9_undo_r4 : List Cond := [Cond.methodLink RX2 92 yX2_addWay, Cond.instanceMethod yX2_addWay, Cond.selects RX2 yX2_addWay yX2_addWay, Cond.code yX2_addWay cX2_addWay 4 none, Cond.fieldLink RX2 18 "IslandBridges$Layout" "firstOf" "[I", Cond.fieldLink RX2 21 "IslandBridges$Layout" "secondOf" "[I", Cond.fieldLink RX2 24 "IslandBridges$Layout" "firstCellOf" "[I", Cond.fieldLink RX2 27 "IslandBridges$Layout" "secondCellOf" "[I", Cond.fieldLink RX2 30 "IslandBridges$Layout" "strideOf" "[I", Cond.static yX9_add, Cond.code yX9_add cX9_add 3 none, Cond.methodLink RX2 58 yX2_readCrossings, Cond.instanceMethod yX2_readCrossings, Cond.selects RX2 yX2_readCrossings yX2_readCrossings, Cond.code yX2_readCrossings cX2_readCrossings 6 none, Cond.fieldLink RX2 36 "IslandBridges$Layout" "crossings" "[J", Cond.methodLink RX2 102 yX2_doCross, Cond.instanceMethod yX2_doCross, Cond.selects RX2 yX2_doCross yX2_doCross, Cond.code yX2_doCross cX2_doCross 7 (some .boolean), Cond.methodLink RX2 106 yX2_isAlongRow, Cond.instanceMethod yX2_isAlongRow, Cond.selects RX2 yX2_isAlongRow yX2_isAlongRow, Cond.code yX2_isAlongRow cX2_isAlongRow 2 (some .boolean)]
def wsX9_undo_r5 : List Cond := [Cond.methodLink RX2 70 yX2_firstCell, Cond.instanceMethod yX2_firstCell, Cond.selects RX2 yX2_firstCell yX2_firstCell, Cond.code yX2_firstCell cX2_firstCell 2 (some .int), Cond.methodLink RX2 110 yX2_isOver, Cond.instanceMethod yX2_isOver, Cond.selects RX2 yX2_isOver yX2_isOver, Cond.code yX2_isOver cX2_isOver 6 (some .boolean)]
def wsX9_undo : List Cond := .code yX9_undo cX9_undo 1 (some .int) :: ((wsX9_undo_r1 ++ (wsX9_undo_r2 ++ (wsX9_undo_r3 ++ (wsX9_undo_r4 ++ wsX9_undo_r5)))) ++ wsX90 ++ wsX10 ++ wsX60 ++ wsX20)
def wsJ9_max_7cf53 : List Cond := .code yJ9_max_7cf53 cJ9_max_7cf53 2 (some .int) :: ([])
def wsJ9_min_7cf53 : List Cond := .code yJ9_min_7cf53 cJ9_min_7cf53 2 (some .int) :: ([])
def wsL_cell : List Cond := .code yL_cell cL_cell 2 (some .int) :: ([])
def wsL_low : List Cond := .code yL_low cL_low 2 (some .int) :: ([.constant RL 7 (2147483647)])
def wsL_tale_r1 : List Cond := [Cond.constantLong RL 8 (3), Cond.constantLong RL 10 (31), Cond.constantLong RL 18 (37), Cond.constantLong RL 23 (41), Cond.constantLong RL 29 (5), Cond.constantLong RL 31 (7), Cond.methodLink RL 12 yX9_count, Cond.instanceMethod yX9_count, Cond.selects RX9 yX9_count yX9_count, Cond.initialized RX9, Cond.code yX9_count cX9_count 2 (some .int), Cond.fieldLink RX9 10 "IslandBridges" "state" "LIslandBridges$State;", Cond.fieldLink RX9 189 "IslandBridges$State" "columns" "I", Cond.fieldLink RX9 192 "IslandBridges$State" "rows" "I", Cond.fieldLink RX9 19 "IslandBridges" "layout" "LIslandBridges$Layout;", Cond.fieldLink RX9 84 "IslandBridges$Layout" "islands" "I", Cond.fieldLink RX9 114 "IslandBridges$Layout" "ways" "I", Cond.fieldLink RX9 215 "IslandBridges$State" "grade" "I", Cond.fieldLink RX9 218 "IslandBridges$State" "stepsMade" "I", Cond.fieldLink RX9 69 "IslandBridges" "history" "LIslandBridges$History;", Cond.fieldLink RX9 221 "IslandBridges$History" "size" "I", Cond.fieldLink RX9 76 "IslandBridges" "text" "LIslandBridges$Text;", Cond.fieldLink RX9 224 "IslandBridges$Text" "length" "I", Cond.methodLink RX9 195 yX9_allBridges]
def wsL_tale_r2 : List Cond := [Cond.instanceMethod yX9_allBridges, Cond.selects RX9 yX9_allBridges yX9_allBridges, Cond.code yX9_allBridges cX9_allBridges 3 (some .int), Cond.fieldLink RX9 117 "IslandBridges$State" "bridges" "[I", Cond.methodLink RX9 106 yX9_valueAt, Cond.static yX9_valueAt, Cond.code yX9_valueAt cX9_valueAt 2 (some .int), Cond.methodLink RX9 199 yX9_completeIslands, Cond.instanceMethod yX9_completeIslands, Cond.selects RX9 yX9_completeIslands yX9_completeIslands, Cond.code yX9_completeIslands cX9_completeIslands 3 (some .int), Cond.fieldLink RX9 28 "IslandBridges" "sums" "LIslandBridges$Sums;", Cond.fieldLink RX9 135 "IslandBridges$Sums" "lacks" "[I", Cond.methodLink RX9 131 yX7_read, Cond.instanceMethod yX7_read, Cond.selects RX7 yX7_read yX7_read, Cond.initialized RX7, Cond.code yX7_read cX7_read 3 none, Cond.fieldLink RX7 15 "IslandBridges$Sums" "bridges" "[I", Cond.fieldLink RX7 18 "IslandBridges$Sums" "caps" "[I", Cond.fieldLink RX7 28 "IslandBridges$Sums" "layout" "LIslandBridges$Layout;", Cond.fieldLink RX7 36 "IslandBridges$Layout" "ways" "I", Cond.fieldLink RX7 53 "IslandBridges$Layout" "islands" "I", Cond.fieldLink RX7 24 "IslandBridges$Sums" "state" "LIslandBridges$State;"]
def wsL_tale_r3 : List Cond := [Cond.fieldLink RX7 56 "IslandBridges$State" "numbers" "[I", Cond.fieldLink RX7 9 "IslandBridges$Sums" "numbers" "[I", Cond.fieldLink RX7 21 "IslandBridges$Sums" "lacks" "[I", Cond.static yX9_put, Cond.code yX9_put cX9_put 3 none, Cond.methodLink RX7 42 yX2_first, Cond.instanceMethod yX2_first, Cond.selects RX2 yX2_first yX2_first, Cond.initialized RX2, Cond.code yX2_first cX2_first 2 (some .int), Cond.fieldLink RX2 18 "IslandBridges$Layout" "firstOf" "[I", Cond.methodLink RX7 46 yX7_addWay, Cond.instanceMethod yX7_addWay, Cond.selects RX7 yX7_addWay yX7_addWay, Cond.code yX7_addWay cX7_addWay 3 none, Cond.fieldLink RX7 66 "IslandBridges$State" "bridges" "[I", Cond.fieldLink RX7 70 "IslandBridges$State" "caps" "[I", Cond.static yX9_add, Cond.code yX9_add cX9_add 3 none, Cond.methodLink RX7 50 yX2_second, Cond.instanceMethod yX2_second, Cond.selects RX2 yX2_second yX2_second, Cond.code yX2_second cX2_second 2 (some .int), Cond.fieldLink RX2 21 "IslandBridges$Layout" "secondOf" "[I"]
def wsL_tale_r4 : List Cond := [Cond.methodLink RX7 59 yX2_cellOf, Cond.instanceMethod yX2_cellOf, Cond.selects RX2 yX2_cellOf yX2_cellOf, Cond.code yX2_cellOf cX2_cellOf 2 (some .int), Cond.fieldLink RX2 9 "IslandBridges$Layout" "cellOf" "[I", Cond.methodLink RX9 202 yX9_groupsInAll, Cond.instanceMethod yX9_groupsInAll, Cond.selects RX9 yX9_groupsInAll yX9_groupsInAll, Cond.code yX9_groupsInAll cX9_groupsInAll 1 (some .int), Cond.fieldLink RX9 37 "IslandBridges" "groups" "LIslandBridges$Groups;", Cond.methodLink RX9 144 yX0_read, Cond.instanceMethod yX0_read, Cond.selects RX0 yX0_read yX0_read, Cond.initialized RX0, Cond.code yX0_read cX0_read 3 none, Cond.fieldLink RX0 9 "IslandBridges$Groups" "leaders" "[I", Cond.fieldLink RX0 15 "IslandBridges$Groups" "layout" "LIslandBridges$Layout;", Cond.fieldLink RX0 23 "IslandBridges$Layout" "ways" "I", Cond.methodLink RX0 33 yX2_first, Cond.methodLink RX0 37 yX0_leader, Cond.instanceMethod yX0_leader, Cond.selects RX0 yX0_leader yX0_leader, Cond.code yX0_leader cX0_leader 2 (some .int), Cond.methodLink RX0 40 yX2_second]
def wsL_tale_r5 : List Cond := [Cond.methodLink RX0 43 yX0_join, Cond.instanceMethod yX0_join, Cond.selects RX0 yX0_join yX0_join, Cond.code yX0_join cX0_join 6 none, Cond.methodLink RX0 47 Lib.Math.min.name, Cond.static Lib.Math.min.name, Cond.initialized "java/lang/Math", Cond.code Lib.Math.min.name Lib.Math.min.code 2 (some .int), Cond.methodLink RX0 53 Lib.Math.max.name, Cond.static Lib.Math.max.name, Cond.code Lib.Math.max.name Lib.Math.max.code 2 (some .int), Cond.fieldLink RX0 56 "IslandBridges$Layout" "islands" "I", Cond.methodLink RX9 284 yX0_total, Cond.instanceMethod yX0_total, Cond.selects RX0 yX0_total yX0_total, Cond.code yX0_total cX0_total 1 (some .int), Cond.methodLink RX0 59 yX0_leadersAheadOf, Cond.instanceMethod yX0_leadersAheadOf, Cond.selects RX0 yX0_leadersAheadOf yX0_leadersAheadOf, Cond.code yX0_leadersAheadOf cX0_leadersAheadOf 4 (some .int), Cond.methodLink RX9 205 yX9_isSolved, Cond.instanceMethod yX9_isSolved, Cond.selects RX9 yX9_isSolved yX9_isSolved, Cond.code yX9_isSolved cX9_isSolved 1 (some .boolean)]
def wsL_tale_r6 : List Cond := [Cond.methodLink RX9 209 yX9_isBroken, Cond.instanceMethod yX9_isBroken, Cond.selects RX9 yX9_isBroken yX9_isBroken, Cond.code yX9_isBroken cX9_isBroken 1 (some .boolean), Cond.methodLink RX9 287 yX7_areBroken, Cond.instanceMethod yX7_areBroken, Cond.selects RX7 yX7_areBroken yX7_areBroken, Cond.code yX7_areBroken cX7_areBroken 2 (some .boolean), Cond.methodLink RX9 212 yX9_allNumbers, Cond.instanceMethod yX9_allNumbers, Cond.selects RX9 yX9_allNumbers yX9_allNumbers, Cond.code yX9_allNumbers cX9_allNumbers 3 (some .int), Cond.fieldLink RX9 102 "IslandBridges$State" "numbers" "[I", Cond.methodLink RL 20 yX9_at, Cond.instanceMethod yX9_at, Cond.selects RX9 yX9_at yX9_at, Cond.code yX9_at cX9_at 5 (some .int), Cond.methodLink RX9 99 yX9_isCell, Cond.instanceMethod yX9_isCell, Cond.selects RX9 yX9_isCell yX9_isCell, Cond.code yX9_isCell cX9_isCell 2 (some .boolean), Cond.methodLink RX9 278 yX6_cells, Cond.instanceMethod yX6_cells, Cond.selects RX6 yX6_cells yX6_cells]
def wsL_tale_r7 : List Cond := [Cond.initialized RX6, Cond.code yX6_cells cX6_cells 1 (some .int), Cond.fieldLink RX6 25 "IslandBridges$State" "columns" "I", Cond.fieldLink RX6 29 "IslandBridges$State" "rows" "I", Cond.methodLink RX9 120 yX2_isOver, Cond.instanceMethod yX2_isOver, Cond.selects RX2 yX2_isOver yX2_isOver, Cond.code yX2_isOver cX2_isOver 6 (some .boolean), Cond.fieldLink RX2 30 "IslandBridges$Layout" "strideOf" "[I", Cond.fieldLink RX2 24 "IslandBridges$Layout" "firstCellOf" "[I", Cond.fieldLink RX2 27 "IslandBridges$Layout" "secondCellOf" "[I", Cond.methodLink RX9 124 yX2_isAlongRow, Cond.instanceMethod yX2_isAlongRow, Cond.selects RX2 yX2_isAlongRow yX2_isAlongRow, Cond.code yX2_isAlongRow cX2_isAlongRow 2 (some .boolean), Cond.methodLink RL 25 yX9_way, Cond.instanceMethod yX9_way, Cond.selects RX9 yX9_way yX9_way, Cond.code yX9_way cX9_way 3 (some .int), Cond.fieldLink RX9 159 "IslandBridges$State" "caps" "[I", Cond.methodLink RX9 150 yX9_isWay, Cond.instanceMethod yX9_isWay, Cond.selects RX9 yX9_isWay yX9_isWay, Cond.code yX9_isWay cX9_isWay 2 (some .boolean)]
def wsL_tale_r8 : List Cond := [Cond.methodLink RX9 153 yX2_firstCell, Cond.instanceMethod yX2_firstCell, Cond.selects RX2 yX2_firstCell yX2_firstCell, Cond.code yX2_firstCell cX2_firstCell 2 (some .int), Cond.methodLink RX9 156 yX2_secondCell, Cond.instanceMethod yX2_secondCell, Cond.selects RX2 yX2_secondCell yX2_secondCell, Cond.code yX2_secondCell cX2_secondCell 2 (some .int), Cond.methodLink RX9 160 yX2_cellsBetween, Cond.instanceMethod yX2_cellsBetween, Cond.selects RX2 yX2_cellsBetween yX2_cellsBetween, Cond.code yX2_cellsBetween cX2_cellsBetween 3 (some .int), Cond.methodLink RX2 66 yX2_secondCell, Cond.methodLink RX2 70 yX2_firstCell, Cond.methodLink RX9 163 yX2_crossingsOf, Cond.instanceMethod yX2_crossingsOf, Cond.selects RX2 yX2_crossingsOf yX2_crossingsOf, Cond.code yX2_crossingsOf cX2_crossingsOf 2 (some .long), Cond.fieldLink RX2 36 "IslandBridges$Layout" "crossings" "[J", Cond.methodLink RX9 167 yJ13_bitCount_95d88, Cond.static yJ13_bitCount_95d88, Cond.initialized RJ13, Cond.code yJ13_bitCount_95d88 cJ13_bitCount_95d88 2 (some .int), Cond.constantLong RJ13 314 (6148914691236517205)]
def wsL_tale_r9 : List Cond := [Cond.constantLong RJ13 316 (3689348814741910323), Cond.constantLong RJ13 318 (1085102592571150095), Cond.methodLink RX9 173 yX2_waysWith, Cond.instanceMethod yX2_waysWith, Cond.selects RX2 yX2_waysWith yX2_waysWith, Cond.code yX2_waysWith cX2_waysWith 5 (some .long), Cond.fieldLink RX2 73 "IslandBridges$Layout" "ways" "I", Cond.methodLink RX9 177 yX9_reasonAgainst, Cond.instanceMethod yX9_reasonAgainst, Cond.selects RX9 yX9_reasonAgainst yX9_reasonAgainst, Cond.code yX9_reasonAgainst cX9_reasonAgainst 3 (some .int), Cond.methodLink RX9 281 yX7_lesserLack, Cond.instanceMethod yX7_lesserLack, Cond.selects RX7 yX7_lesserLack yX7_lesserLack, Cond.code yX7_lesserLack cX7_lesserLack 2 (some .int), Cond.methodLink RX7 71 Lib.Math.min.name]
def wsL_tale : List Cond := .code yL_tale cL_tale 4 (some .long) :: ((wsL_tale_r1 ++ (wsL_tale_r2 ++ (wsL_tale_r3 ++ (wsL_tale_r4 ++ (wsL_tale_r5 ++ (wsL_tale_r6 ++ (wsL_tale_r7 ++ (wsL_tale_r8 ++ wsL_tale_r9)))))))) ++ wsX90 ++ wsX60 ++ wsX20 ++ wsX10 ++ wsX80 ++ wsX70 ++ wsX00)
def wsL_does_r1 : List Cond := [Cond.constant RL 63 (65535), Cond.methodLink RL 12 yX9_count, Cond.instanceMethod yX9_count, Cond.selects RX9 yX9_count yX9_count, Cond.initialized RX9, Cond.code yX9_count cX9_count 2 (some .int), Cond.fieldLink RX9 10 "IslandBridges" "state" "LIslandBridges$State;", Cond.fieldLink RX9 189 "IslandBridges$State" "columns" "I", Cond.fieldLink RX9 192 "IslandBridges$State" "rows" "I", Cond.fieldLink RX9 19 "IslandBridges" "layout" "LIslandBridges$Layout;", Cond.fieldLink RX9 84 "IslandBridges$Layout" "islands" "I", Cond.fieldLink RX9 114 "IslandBridges$Layout" "ways" "I", Cond.fieldLink RX9 215 "IslandBridges$State" "grade" "I", Cond.fieldLink RX9 218 "IslandBridges$State" "stepsMade" "I", Cond.fieldLink RX9 69 "IslandBridges" "history" "LIslandBridges$History;", Cond.fieldLink RX9 221 "IslandBridges$History" "size" "I", Cond.fieldLink RX9 76 "IslandBridges" "text" "LIslandBridges$Text;", Cond.fieldLink RX9 224 "IslandBridges$Text" "length" "I", Cond.methodLink RX9 195 yX9_allBridges, Cond.instanceMethod yX9_allBridges, Cond.selects RX9 yX9_allBridges yX9_allBridges, Cond.code yX9_allBridges cX9_allBridges 3 (some .int), Cond.fieldLink RX9 117 "IslandBridges$State" "bridges" "[I", Cond.methodLink RX9 106 yX9_valueAt]
def wsL_does_r2 : List Cond := [Cond.static yX9_valueAt, Cond.code yX9_valueAt cX9_valueAt 2 (some .int), Cond.methodLink RX9 199 yX9_completeIslands, Cond.instanceMethod yX9_completeIslands, Cond.selects RX9 yX9_completeIslands yX9_completeIslands, Cond.code yX9_completeIslands cX9_completeIslands 3 (some .int), Cond.fieldLink RX9 28 "IslandBridges" "sums" "LIslandBridges$Sums;", Cond.fieldLink RX9 135 "IslandBridges$Sums" "lacks" "[I", Cond.methodLink RX9 131 yX7_read, Cond.instanceMethod yX7_read, Cond.selects RX7 yX7_read yX7_read, Cond.initialized RX7, Cond.code yX7_read cX7_read 3 none, Cond.fieldLink RX7 15 "IslandBridges$Sums" "bridges" "[I", Cond.fieldLink RX7 18 "IslandBridges$Sums" "caps" "[I", Cond.fieldLink RX7 28 "IslandBridges$Sums" "layout" "LIslandBridges$Layout;", Cond.fieldLink RX7 36 "IslandBridges$Layout" "ways" "I", Cond.fieldLink RX7 53 "IslandBridges$Layout" "islands" "I", Cond.fieldLink RX7 24 "IslandBridges$Sums" "state" "LIslandBridges$State;", Cond.fieldLink RX7 56 "IslandBridges$State" "numbers" "[I", Cond.fieldLink RX7 9 "IslandBridges$Sums" "numbers" "[I", Cond.fieldLink RX7 21 "IslandBridges$Sums" "lacks" "[I", Cond.static yX9_put, Cond.code yX9_put cX9_put 3 none]
def wsL_does_r3 : List Cond := [Cond.methodLink RX7 42 yX2_first, Cond.instanceMethod yX2_first, Cond.selects RX2 yX2_first yX2_first, Cond.initialized RX2, Cond.code yX2_first cX2_first 2 (some .int), Cond.fieldLink RX2 18 "IslandBridges$Layout" "firstOf" "[I", Cond.methodLink RX7 46 yX7_addWay, Cond.instanceMethod yX7_addWay, Cond.selects RX7 yX7_addWay yX7_addWay, Cond.code yX7_addWay cX7_addWay 3 none, Cond.fieldLink RX7 66 "IslandBridges$State" "bridges" "[I", Cond.fieldLink RX7 70 "IslandBridges$State" "caps" "[I", Cond.static yX9_add, Cond.code yX9_add cX9_add 3 none, Cond.methodLink RX7 50 yX2_second, Cond.instanceMethod yX2_second, Cond.selects RX2 yX2_second yX2_second, Cond.code yX2_second cX2_second 2 (some .int), Cond.fieldLink RX2 21 "IslandBridges$Layout" "secondOf" "[I", Cond.methodLink RX7 59 yX2_cellOf, Cond.instanceMethod yX2_cellOf, Cond.selects RX2 yX2_cellOf yX2_cellOf, Cond.code yX2_cellOf cX2_cellOf 2 (some .int), Cond.fieldLink RX2 9 "IslandBridges$Layout" "cellOf" "[I"]
def wsL_does_r4 : List Cond := [Cond.methodLink RX9 202 yX9_groupsInAll, Cond.instanceMethod yX9_groupsInAll, Cond.selects RX9 yX9_groupsInAll yX9_groupsInAll, Cond.code yX9_groupsInAll cX9_groupsInAll 1 (some .int), Cond.fieldLink RX9 37 "IslandBridges" "groups" "LIslandBridges$Groups;", Cond.methodLink RX9 144 yX0_read, Cond.instanceMethod yX0_read, Cond.selects RX0 yX0_read yX0_read, Cond.initialized RX0, Cond.code yX0_read cX0_read 3 none, Cond.fieldLink RX0 9 "IslandBridges$Groups" "leaders" "[I", Cond.fieldLink RX0 15 "IslandBridges$Groups" "layout" "LIslandBridges$Layout;", Cond.fieldLink RX0 23 "IslandBridges$Layout" "ways" "I", Cond.methodLink RX0 33 yX2_first, Cond.methodLink RX0 37 yX0_leader, Cond.instanceMethod yX0_leader, Cond.selects RX0 yX0_leader yX0_leader, Cond.code yX0_leader cX0_leader 2 (some .int), Cond.methodLink RX0 40 yX2_second, Cond.methodLink RX0 43 yX0_join, Cond.instanceMethod yX0_join, Cond.selects RX0 yX0_join yX0_join, Cond.code yX0_join cX0_join 6 none, Cond.methodLink RX0 47 Lib.Math.min.name]
def wsL_does_r5 : List Cond := [Cond.static Lib.Math.min.name, Cond.initialized "java/lang/Math", Cond.code Lib.Math.min.name Lib.Math.min.code 2 (some .int), Cond.methodLink RX0 53 Lib.Math.max.name, Cond.static Lib.Math.max.name, Cond.code Lib.Math.max.name Lib.Math.max.code 2 (some .int), Cond.fieldLink RX0 56 "IslandBridges$Layout" "islands" "I", Cond.methodLink RX9 284 yX0_total, Cond.instanceMethod yX0_total, Cond.selects RX0 yX0_total yX0_total, Cond.code yX0_total cX0_total 1 (some .int), Cond.methodLink RX0 59 yX0_leadersAheadOf, Cond.instanceMethod yX0_leadersAheadOf, Cond.selects RX0 yX0_leadersAheadOf yX0_leadersAheadOf, Cond.code yX0_leadersAheadOf cX0_leadersAheadOf 4 (some .int), Cond.methodLink RX9 205 yX9_isSolved, Cond.instanceMethod yX9_isSolved, Cond.selects RX9 yX9_isSolved yX9_isSolved, Cond.code yX9_isSolved cX9_isSolved 1 (some .boolean), Cond.methodLink RX9 209 yX9_isBroken, Cond.instanceMethod yX9_isBroken, Cond.selects RX9 yX9_isBroken yX9_isBroken, Cond.code yX9_isBroken cX9_isBroken 1 (some .boolean), Cond.methodLink RX9 287 yX7_areBroken]
def wsL_does_r6 : List Cond := [Cond.instanceMethod yX7_areBroken, Cond.selects RX7 yX7_areBroken yX7_areBroken, Cond.code yX7_areBroken cX7_areBroken 2 (some .boolean), Cond.methodLink RX9 212 yX9_allNumbers, Cond.instanceMethod yX9_allNumbers, Cond.selects RX9 yX9_allNumbers yX9_allNumbers, Cond.code yX9_allNumbers cX9_allNumbers 3 (some .int), Cond.fieldLink RX9 102 "IslandBridges$State" "numbers" "[I", Cond.methodLink RL 33 yL_low, Cond.static yL_low, Cond.initialized RL, Cond.code yL_low cL_low 2 (some .int), Cond.constant RL 7 (2147483647), Cond.methodLink RL 38 yX9_island, Cond.instanceMethod yX9_island, Cond.selects RX9 yX9_island yX9_island, Cond.code yX9_island cX9_island 3 (some .int), Cond.methodLink RX9 99 yX9_isCell, Cond.instanceMethod yX9_isCell, Cond.selects RX9 yX9_isCell yX9_isCell, Cond.code yX9_isCell cX9_isCell 2 (some .boolean), Cond.methodLink RX9 278 yX6_cells, Cond.instanceMethod yX6_cells, Cond.selects RX6 yX6_cells yX6_cells]
def wsL_does_r7 : List Cond := [Cond.initialized RX6, Cond.code yX6_cells cX6_cells 1 (some .int), Cond.fieldLink RX6 25 "IslandBridges$State" "columns" "I", Cond.fieldLink RX6 29 "IslandBridges$State" "rows" "I", Cond.methodLink RX9 88 yX1_record, Cond.instanceMethod yX1_record, Cond.selects RX1 yX1_record yX1_record, Cond.initialized RX1, Cond.code yX1_record cX1_record 3 none, Cond.fieldLink RX1 18 "IslandBridges$History" "size" "I", Cond.methodLink RX1 22 yX1_dropOldest, Cond.instanceMethod yX1_dropOldest, Cond.selects RX1 yX1_dropOldest yX1_dropOldest, Cond.code yX1_dropOldest cX1_dropOldest 4 none, Cond.fieldLink RX1 11 "IslandBridges$History" "states" "[LIslandBridges$State;", Cond.methodLink RX1 25 yX1_stateAt, Cond.instanceMethod yX1_stateAt, Cond.selects RX1 yX1_stateAt yX1_stateAt, Cond.code yX1_stateAt cX1_stateAt 2 (some (.object "IslandBridges$State")), Cond.methodLink RX1 33 yX1_putState, Cond.instanceMethod yX1_putState, Cond.selects RX1 yX1_putState yX1_putState, Cond.code yX1_putState cX1_putState 3 none, Cond.methodLink RX1 29 yX6_becomeLike]
def wsL_does_r8 : List Cond := [Cond.instanceMethod yX6_becomeLike, Cond.selects RX6 yX6_becomeLike yX6_becomeLike, Cond.code yX6_becomeLike cX6_becomeLike 2 none, Cond.fieldLink RX6 39 "IslandBridges$State" "grade" "I", Cond.fieldLink RX6 42 "IslandBridges$State" "stepsMade" "I", Cond.fieldLink RX6 9 "IslandBridges$State" "numbers" "[I", Cond.methodLink RX6 45 arraycopyName, Cond.native arraycopyName, Cond.static arraycopyName, Cond.initialized "java/lang/System", Cond.fieldLink RX6 15 "IslandBridges$State" "bridges" "[I", Cond.fieldLink RX6 18 "IslandBridges$State" "caps" "[I", Cond.methodLink RX9 110 yX9_put, Cond.methodLink RX9 96 yX9_renewWays, Cond.instanceMethod yX9_renewWays, Cond.selects RX9 yX9_renewWays yX9_renewWays, Cond.code yX9_renewWays cX9_renewWays 1 none, Cond.methodLink RX9 227 yX6_takeAllBridges, Cond.instanceMethod yX6_takeAllBridges, Cond.selects RX6 yX6_takeAllBridges yX6_takeAllBridges, Cond.code yX6_takeAllBridges cX6_takeAllBridges 2 none, Cond.methodLink RX9 261 yX2_read, Cond.instanceMethod yX2_read, Cond.selects RX2 yX2_read yX2_read]
def wsL_does_r9 : List Cond := [Cond.code yX2_read cX2_read 2 none, Cond.fieldLink RX2 44 "IslandBridges$State" "columns" "I", Cond.methodLink RX2 40 yX2_readIslands, Cond.instanceMethod yX2_readIslands, Cond.selects RX2 yX2_readIslands yX2_readIslands, Cond.code yX2_readIslands cX2_readIslands 5 none, Cond.fieldLink RX2 76 "IslandBridges$Layout" "islands" "I", Cond.fieldLink RX2 79 "IslandBridges$State" "numbers" "[I", Cond.fieldLink RX2 33 "IslandBridges$Layout" "waysOf" "[I", Cond.fieldLink RX2 15 "IslandBridges$Layout" "islandAfter" "[I", Cond.methodLink RX2 50 yX6_cells, Cond.methodLink RX2 54 yX2_readWays, Cond.instanceMethod yX2_readWays, Cond.selects RX2 yX2_readWays yX2_readWays, Cond.code yX2_readWays cX2_readWays 5 none, Cond.fieldLink RX2 73 "IslandBridges$Layout" "ways" "I", Cond.methodLink RX2 86 yX2_cellOf, Cond.methodLink RX2 88 yX2_nextIsland, Cond.instanceMethod yX2_nextIsland, Cond.selects RX2 yX2_nextIsland yX2_nextIsland, Cond.code yX2_nextIsland cX2_nextIsland 6 (some .int), Cond.methodLink RX2 96 yX2_islandOn, Cond.instanceMethod yX2_islandOn, Cond.selects RX2 yX2_islandOn yX2_islandOn]
def wsL_does_r10 : List Cond := [Cond.code yX2_islandOn cX2_islandOn 2 (some .int), Cond.methodLink RX2 92 yX2_addWay, Cond.instanceMethod yX2_addWay, Cond.selects RX2 yX2_addWay yX2_addWay, Cond.code yX2_addWay cX2_addWay 4 none, Cond.fieldLink RX2 24 "IslandBridges$Layout" "firstCellOf" "[I", Cond.fieldLink RX2 27 "IslandBridges$Layout" "secondCellOf" "[I", Cond.fieldLink RX2 30 "IslandBridges$Layout" "strideOf" "[I", Cond.methodLink RX2 58 yX2_readCrossings, Cond.instanceMethod yX2_readCrossings, Cond.selects RX2 yX2_readCrossings yX2_readCrossings, Cond.code yX2_readCrossings cX2_readCrossings 6 none, Cond.fieldLink RX2 36 "IslandBridges$Layout" "crossings" "[J", Cond.methodLink RX2 102 yX2_doCross, Cond.instanceMethod yX2_doCross, Cond.selects RX2 yX2_doCross yX2_doCross, Cond.code yX2_doCross cX2_doCross 7 (some .boolean), Cond.methodLink RX2 106 yX2_isAlongRow, Cond.instanceMethod yX2_isAlongRow, Cond.selects RX2 yX2_isAlongRow yX2_isAlongRow, Cond.code yX2_isAlongRow cX2_isAlongRow 2 (some .boolean), Cond.methodLink RX2 70 yX2_firstCell, Cond.instanceMethod yX2_firstCell, Cond.selects RX2 yX2_firstCell yX2_firstCell]
def wsL_does_r11 : List Cond := [Cond.code yX2_firstCell cX2_firstCell 2 (some .int), Cond.methodLink RX2 110 yX2_isOver, Cond.instanceMethod yX2_isOver, Cond.selects RX2 yX2_isOver yX2_isOver, Cond.code yX2_isOver cX2_isOver 6 (some .boolean), Cond.methodLink RL 41 yX9_removeIsland, Cond.instanceMethod yX9_removeIsland, Cond.selects RX9 yX9_removeIsland yX9_removeIsland, Cond.code yX9_removeIsland cX9_removeIsland 3 (some .int), Cond.methodLink RL 44 yX9_begin, Cond.instanceMethod yX9_begin, Cond.selects RX9 yX9_begin yX9_begin, Cond.code yX9_begin cX9_begin 4 (some .int), Cond.methodLink RX9 80 yX9_isSide, Cond.static yX9_isSide, Cond.code yX9_isSide cX9_isSide 1 (some .boolean), Cond.methodLink RX9 92 yX6_empty, Cond.instanceMethod yX6_empty, Cond.selects RX6 yX6_empty yX6_empty, Cond.code yX6_empty cX6_empty 4 none, Cond.methodLink RX6 36 yX6_takeAllBridges, Cond.methodLink RL 47 yX9_clear, Cond.instanceMethod yX9_clear, Cond.selects RX9 yX9_clear yX9_clear]
def wsL_does_r12 : List Cond := [Cond.code yX9_clear cX9_clear 2 (some .int), Cond.methodLink RL 51 yX9_take, Cond.instanceMethod yX9_take, Cond.selects RX9 yX9_take yX9_take, Cond.code yX9_take cX9_take 3 (some .int), Cond.methodLink RX9 150 yX9_isWay, Cond.instanceMethod yX9_isWay, Cond.selects RX9 yX9_isWay yX9_isWay, Cond.code yX9_isWay cX9_isWay 2 (some .boolean), Cond.methodLink RL 54 yX9_cap, Cond.instanceMethod yX9_cap, Cond.selects RX9 yX9_cap yX9_cap, Cond.code yX9_cap cX9_cap 4 (some .int), Cond.fieldLink RX9 159 "IslandBridges$State" "caps" "[I", Cond.methodLink RL 57 yX9_steps, Cond.instanceMethod yX9_steps, Cond.selects RX9 yX9_steps yX9_steps, Cond.code yX9_steps cX9_steps 4 (some .int), Cond.fieldLink RX9 46 "IslandBridges" "reasoner" "LIslandBridges$Reasoner;", Cond.methodLink RX9 230 yX4_find, Cond.instanceMethod yX4_find, Cond.selects RX4 yX4_find yX4_find, Cond.initialized RX4, Cond.code yX4_find cX4_find 3 (some .int)]
def wsL_does_r13 : List Cond := [Cond.fieldLink RX4 19 "IslandBridges$Reasoner" "sums" "LIslandBridges$Sums;", Cond.fieldLink RX4 23 "IslandBridges$Reasoner" "groups" "LIslandBridges$Groups;", Cond.fieldLink RX4 9 "IslandBridges$Reasoner" "state" "LIslandBridges$State;", Cond.fieldLink RX4 36 "IslandBridges$State" "bridges" "[I", Cond.fieldLink RX4 15 "IslandBridges$Reasoner" "layout" "LIslandBridges$Layout;", Cond.fieldLink RX4 53 "IslandBridges$Reasoner" "built" "J", Cond.fieldLink RX4 57 "IslandBridges$Layout" "ways" "I", Cond.methodLink RX4 27 yX7_read, Cond.methodLink RX4 32 yX7_areBroken, Cond.methodLink RX4 42 yX0_read, Cond.methodLink RX4 47 yX2_waysWith, Cond.instanceMethod yX2_waysWith, Cond.selects RX2 yX2_waysWith yX2_waysWith, Cond.code yX2_waysWith cX2_waysWith 5 (some .long), Cond.methodLink RX4 61 yX4_isPossible, Cond.instanceMethod yX4_isPossible, Cond.selects RX4 yX4_isPossible yX4_isPossible, Cond.code yX4_isPossible cX4_isPossible 5 (some .boolean), Cond.fieldLink RX4 65 "IslandBridges$State" "caps" "[I", Cond.methodLink RX4 98 yX2_crossingsOf, Cond.instanceMethod yX2_crossingsOf, Cond.selects RX2 yX2_crossingsOf yX2_crossingsOf, Cond.code yX2_crossingsOf cX2_crossingsOf 2 (some .long), Cond.methodLink RX4 76 yX7_lesserLack]
def wsL_does_r14 : List Cond := [Cond.instanceMethod yX7_lesserLack, Cond.selects RX7 yX7_lesserLack yX7_lesserLack, Cond.code yX7_lesserLack cX7_lesserLack 2 (some .int), Cond.methodLink RX7 71 Lib.Math.min.name, Cond.methodLink RX4 80 yX7_leastBridges, Cond.instanceMethod yX7_leastBridges, Cond.selects RX7 yX7_leastBridges yX7_leastBridges, Cond.code yX7_leastBridges cX7_leastBridges 2 (some .int), Cond.methodLink RX7 80 Lib.Math.max.name, Cond.methodLink RX7 77 yX7_leastBridgesFor, Cond.instanceMethod yX7_leastBridgesFor, Cond.selects RX7 yX7_leastBridgesFor yX7_leastBridgesFor, Cond.code yX7_leastBridgesFor cX7_leastBridgesFor 3 (some .int), Cond.methodLink RX4 102 yX4_wouldCutOff, Cond.instanceMethod yX4_wouldCutOff, Cond.selects RX4 yX4_wouldCutOff yX4_wouldCutOff, Cond.code yX4_wouldCutOff cX4_wouldCutOff 9 (some .boolean), Cond.fieldLink RX4 111 "IslandBridges$Layout" "islands" "I", Cond.fieldLink RX4 117 "IslandBridges$Sums" "lacks" "[I", Cond.methodLink RX4 105 yX2_first, Cond.methodLink RX4 108 yX2_second, Cond.methodLink RX4 114 yX0_leader, Cond.methodLink RX9 233 yX4_carryOut, Cond.instanceMethod yX4_carryOut]
def wsL_does_r15 : List Cond := [Cond.selects RX4 yX4_carryOut yX4_carryOut, Cond.code yX4_carryOut cX4_carryOut 4 none, Cond.fieldLink RX4 86 "IslandBridges$State" "grade" "I", Cond.methodLink RX4 89 Lib.Math.max.name, Cond.fieldLink RX4 95 "IslandBridges$State" "stepsMade" "I", Cond.methodLink RL 60 yX9_step, Cond.instanceMethod yX9_step, Cond.selects RX9 yX9_step yX9_step, Cond.code yX9_step cX9_step 2 (some .int), Cond.methodLink RL 64 yX9_make, Cond.instanceMethod yX9_make, Cond.selects RX9 yX9_make yX9_make, Cond.code yX9_make cX9_make 3 (some .int), Cond.constant RX9 251 (65535), Cond.fieldLink RX9 62 "IslandBridges" "maker" "LIslandBridges$Maker;", Cond.methodLink RX9 252 yX3_run, Cond.instanceMethod yX3_run, Cond.selects RX3 yX3_run yX3_run, Cond.initialized RX3, Cond.code yX3_run cX3_run 6 none, Cond.fieldLink RX3 21 "IslandBridges$Maker" "columns" "I", Cond.fieldLink RX3 25 "IslandBridges$Maker" "rows" "I", Cond.fieldLink RX3 28 "IslandBridges$Maker" "islands" "I", Cond.fieldLink RX3 31 "IslandBridges$Maker" "z" "I"]
def wsL_does_r16 : List Cond := [Cond.fieldLink RX3 9 "IslandBridges$Maker" "taken" "[I", Cond.fieldLink RX3 15 "IslandBridges$Maker" "numbers" "[I", Cond.methodLink RX3 38 yX3_draw, Cond.instanceMethod yX3_draw, Cond.selects RX3 yX3_draw yX3_draw, Cond.code yX3_draw cX3_draw 2 (some .int), Cond.constant RX3 56 (65537), Cond.methodLink RX3 42 yX3_addIsland, Cond.instanceMethod yX3_addIsland, Cond.selects RX3 yX3_addIsland yX3_addIsland, Cond.code yX3_addIsland cX3_addIsland 4 none, Cond.fieldLink RX3 18 "IslandBridges$Maker" "cellOf" "[I", Cond.methodLink RX3 46 yX3_tryIsland, Cond.instanceMethod yX3_tryIsland, Cond.selects RX3 yX3_tryIsland yX3_tryIsland, Cond.code yX3_tryIsland cX3_tryIsland 9 none, Cond.methodLink RX3 57 yX3_isOnBoard, Cond.instanceMethod yX3_isOnBoard, Cond.selects RX3 yX3_isOnBoard yX3_isOnBoard, Cond.code yX3_isOnBoard cX3_isOnBoard 5 (some .boolean), Cond.methodLink RX9 255 yX3_giveNumbersTo, Cond.instanceMethod yX3_giveNumbersTo, Cond.selects RX3 yX3_giveNumbersTo yX3_giveNumbersTo, Cond.code yX3_giveNumbersTo cX3_giveNumbersTo 3 none]
def wsL_does_r17 : List Cond := [Cond.fieldLink RX3 49 "IslandBridges$State" "numbers" "[I", Cond.methodLink RL 67 yX9_build, Cond.instanceMethod yX9_build, Cond.selects RX9 yX9_build yX9_build, Cond.code yX9_build cX9_build 3 (some .int), Cond.methodLink RX9 177 yX9_reasonAgainst, Cond.instanceMethod yX9_reasonAgainst, Cond.selects RX9 yX9_reasonAgainst yX9_reasonAgainst, Cond.code yX9_reasonAgainst cX9_reasonAgainst 3 (some .int), Cond.methodLink RX9 163 yX2_crossingsOf, Cond.methodLink RX9 173 yX2_waysWith, Cond.methodLink RX9 281 yX7_lesserLack]
def wsL_does : List Cond := .code yL_does cL_does 3 (some .int) :: ((wsL_does_r1 ++ (wsL_does_r2 ++ (wsL_does_r3 ++ (wsL_does_r4 ++ (wsL_does_r5 ++ (wsL_does_r6 ++ (wsL_does_r7 ++ (wsL_does_r8 ++ (wsL_does_r9 ++ (wsL_does_r10 ++ (wsL_does_r11 ++ (wsL_does_r12 ++ (wsL_does_r13 ++ (wsL_does_r14 ++ (wsL_does_r15 ++ (wsL_does_r16 ++ wsL_does_r17)))))))))))))))) ++ wsX90 ++ wsX60 ++ wsX20 ++ wsX10 ++ wsX80 ++ wsX70 ++ wsX00 ++ wsX40 ++ wsX30)
def wsL_law_r1 : List Cond := [Cond.classLink RL 13 RX9, Cond.instantiable RX9 9, Cond.initialized RX9, Cond.methodLink RL 70 yX9_init, Cond.instanceMethod yX9_init, Cond.code yX9_init cX9_init 1 none, Cond.methodLink RX9 1 objectInit, Cond.instanceMethod objectInit, Cond.code objectInit ⟨#[0xb1]⟩ 1 none, Cond.classLink RX9 7 RX6, Cond.instantiable RX6 7, Cond.initialized RX6, Cond.fieldLink RX9 10 "IslandBridges" "state" "LIslandBridges$State;", Cond.classLink RX9 16 RX2, Cond.instantiable RX2 11, Cond.initialized RX2, Cond.fieldLink RX9 19 "IslandBridges" "layout" "LIslandBridges$Layout;", Cond.classLink RX9 23 RX7, Cond.instantiable RX7 6, Cond.initialized RX7, Cond.fieldLink RX9 28 "IslandBridges" "sums" "LIslandBridges$Sums;", Cond.classLink RX9 32 RX0, Cond.instantiable RX0 2, Cond.initialized RX0]
def wsL_law_r2 : List Cond := [Cond.fieldLink RX9 37 "IslandBridges" "groups" "LIslandBridges$Groups;", Cond.classLink RX9 41 RX4, Cond.instantiable RX4 5, Cond.initialized RX4, Cond.fieldLink RX9 46 "IslandBridges" "reasoner" "LIslandBridges$Reasoner;", Cond.classLink RX9 50 RX5, Cond.instantiable RX5 12, Cond.initialized RX5, Cond.fieldLink RX9 55 "IslandBridges" "search" "LIslandBridges$Search;", Cond.classLink RX9 59 RX3, Cond.instantiable RX3 7, Cond.initialized RX3, Cond.fieldLink RX9 62 "IslandBridges" "maker" "LIslandBridges$Maker;", Cond.classLink RX9 66 RX1, Cond.instantiable RX1 2, Cond.initialized RX1, Cond.fieldLink RX9 69 "IslandBridges" "history" "LIslandBridges$History;", Cond.classLink RX9 73 RX8, Cond.instantiable RX8 8, Cond.initialized RX8, Cond.fieldLink RX9 76 "IslandBridges" "text" "LIslandBridges$Text;", Cond.methodLink RX9 9 yX6_init, Cond.instanceMethod yX6_init, Cond.code yX6_init cX6_init 1 none]
def wsL_law_r3 : List Cond := [Cond.methodLink RX6 3 objectInit, Cond.arrayClass .int, Cond.fieldLink RX6 9 "IslandBridges$State" "numbers" "[I", Cond.fieldLink RX6 15 "IslandBridges$State" "bridges" "[I", Cond.fieldLink RX6 18 "IslandBridges$State" "caps" "[I", Cond.methodLink RX6 21 yX6_empty, Cond.instanceMethod yX6_empty, Cond.selects RX6 yX6_empty yX6_empty, Cond.code yX6_empty cX6_empty 4 none, Cond.fieldLink RX6 25 "IslandBridges$State" "columns" "I", Cond.fieldLink RX6 29 "IslandBridges$State" "rows" "I", Cond.static yX9_put, Cond.code yX9_put cX9_put 3 none, Cond.methodLink RX6 36 yX6_takeAllBridges, Cond.instanceMethod yX6_takeAllBridges, Cond.selects RX6 yX6_takeAllBridges yX6_takeAllBridges, Cond.code yX6_takeAllBridges cX6_takeAllBridges 2 none, Cond.fieldLink RX6 39 "IslandBridges$State" "grade" "I", Cond.fieldLink RX6 42 "IslandBridges$State" "stepsMade" "I", Cond.instanceMethod yX2_init, Cond.code yX2_init cX2_init 1 none, Cond.methodLink RX2 3 objectInit, Cond.fieldLink RX2 9 "IslandBridges$Layout" "cellOf" "[I", Cond.fieldLink RX2 15 "IslandBridges$Layout" "islandAfter" "[I"]
def wsL_law_r4 : List Cond := [Cond.fieldLink RX2 18 "IslandBridges$Layout" "firstOf" "[I", Cond.fieldLink RX2 21 "IslandBridges$Layout" "secondOf" "[I", Cond.fieldLink RX2 24 "IslandBridges$Layout" "firstCellOf" "[I", Cond.fieldLink RX2 27 "IslandBridges$Layout" "secondCellOf" "[I", Cond.fieldLink RX2 30 "IslandBridges$Layout" "strideOf" "[I", Cond.fieldLink RX2 33 "IslandBridges$Layout" "waysOf" "[I", Cond.arrayClass .long, Cond.fieldLink RX2 36 "IslandBridges$Layout" "crossings" "[J", Cond.methodLink RX9 25 yX7_init, Cond.instanceMethod yX7_init, Cond.code yX7_init cX7_init 3 none, Cond.methodLink RX7 3 objectInit, Cond.fieldLink RX7 9 "IslandBridges$Sums" "numbers" "[I", Cond.fieldLink RX7 15 "IslandBridges$Sums" "bridges" "[I", Cond.fieldLink RX7 18 "IslandBridges$Sums" "caps" "[I", Cond.fieldLink RX7 21 "IslandBridges$Sums" "lacks" "[I", Cond.fieldLink RX7 24 "IslandBridges$Sums" "state" "LIslandBridges$State;", Cond.fieldLink RX7 28 "IslandBridges$Sums" "layout" "LIslandBridges$Layout;", Cond.methodLink RX9 34 yX0_init, Cond.instanceMethod yX0_init, Cond.code yX0_init cX0_init 2 none, Cond.methodLink RX0 3 objectInit, Cond.fieldLink RX0 9 "IslandBridges$Groups" "leaders" "[I", Cond.fieldLink RX0 15 "IslandBridges$Groups" "layout" "LIslandBridges$Layout;"]
def wsL_law_r5 : List Cond := [Cond.methodLink RX9 43 yX4_init, Cond.instanceMethod yX4_init, Cond.code yX4_init cX4_init 5 none, Cond.methodLink RX4 3 objectInit, Cond.fieldLink RX4 9 "IslandBridges$Reasoner" "state" "LIslandBridges$State;", Cond.fieldLink RX4 15 "IslandBridges$Reasoner" "layout" "LIslandBridges$Layout;", Cond.fieldLink RX4 19 "IslandBridges$Reasoner" "sums" "LIslandBridges$Sums;", Cond.fieldLink RX4 23 "IslandBridges$Reasoner" "groups" "LIslandBridges$Groups;", Cond.methodLink RX9 52 yX5_init, Cond.instanceMethod yX5_init, Cond.code yX5_init cX5_init 4 none, Cond.methodLink RX5 3 objectInit, Cond.fieldLink RX5 9 "IslandBridges$Search" "bridges" "[I", Cond.fieldLink RX5 15 "IslandBridges$Search" "lacks" "[I", Cond.fieldLink RX5 18 "IslandBridges$Search" "open" "[I", Cond.fieldLink RX5 21 "IslandBridges$Search" "state" "LIslandBridges$State;", Cond.fieldLink RX5 25 "IslandBridges$Search" "layout" "LIslandBridges$Layout;", Cond.fieldLink RX5 29 "IslandBridges$Search" "groups" "LIslandBridges$Groups;", Cond.instanceMethod yX3_init, Cond.code yX3_init cX3_init 1 none, Cond.methodLink RX3 3 objectInit, Cond.fieldLink RX3 9 "IslandBridges$Maker" "taken" "[I", Cond.fieldLink RX3 15 "IslandBridges$Maker" "numbers" "[I", Cond.fieldLink RX3 18 "IslandBridges$Maker" "cellOf" "[I"]
def wsL_law_r6 : List Cond := [Cond.methodLink RX9 68 yX1_init, Cond.instanceMethod yX1_init, Cond.code yX1_init cX1_init 2 none, Cond.methodLink RX1 3 objectInit, Cond.classLink RX1 9 RX6, Cond.fieldLink RX1 11 "IslandBridges$History" "states" "[LIslandBridges$State;", Cond.methodLink RX1 17 yX6_init, Cond.instanceMethod yX8_init, Cond.code yX8_init cX8_init 1 none, Cond.methodLink RX8 3 objectInit, Cond.fieldLink RX8 9 "IslandBridges$Text" "characters" "[I", Cond.methodLink RL 71 yL_cell, Cond.static yL_cell, Cond.initialized RL, Cond.code yL_cell cL_cell 2 (some .int), Cond.methodLink RL 75 yL_tale, Cond.static yL_tale, Cond.code yL_tale cL_tale 4 (some .long), Cond.constantLong RL 8 (3), Cond.constantLong RL 10 (31), Cond.constantLong RL 18 (37), Cond.constantLong RL 23 (41), Cond.constantLong RL 29 (5), Cond.constantLong RL 31 (7)]
def wsL_law_r7 : List Cond := [Cond.methodLink RL 12 yX9_count, Cond.instanceMethod yX9_count, Cond.selects RX9 yX9_count yX9_count, Cond.code yX9_count cX9_count 2 (some .int), Cond.fieldLink RX9 189 "IslandBridges$State" "columns" "I", Cond.fieldLink RX9 192 "IslandBridges$State" "rows" "I", Cond.fieldLink RX9 84 "IslandBridges$Layout" "islands" "I", Cond.fieldLink RX9 114 "IslandBridges$Layout" "ways" "I", Cond.fieldLink RX9 215 "IslandBridges$State" "grade" "I", Cond.fieldLink RX9 218 "IslandBridges$State" "stepsMade" "I", Cond.fieldLink RX9 221 "IslandBridges$History" "size" "I", Cond.fieldLink RX9 224 "IslandBridges$Text" "length" "I", Cond.methodLink RX9 195 yX9_allBridges, Cond.instanceMethod yX9_allBridges, Cond.selects RX9 yX9_allBridges yX9_allBridges, Cond.code yX9_allBridges cX9_allBridges 3 (some .int), Cond.fieldLink RX9 117 "IslandBridges$State" "bridges" "[I", Cond.methodLink RX9 106 yX9_valueAt, Cond.static yX9_valueAt, Cond.code yX9_valueAt cX9_valueAt 2 (some .int), Cond.methodLink RX9 199 yX9_completeIslands, Cond.instanceMethod yX9_completeIslands, Cond.selects RX9 yX9_completeIslands yX9_completeIslands, Cond.code yX9_completeIslands cX9_completeIslands 3 (some .int)]
def wsL_law_r8 : List Cond := [Cond.fieldLink RX9 135 "IslandBridges$Sums" "lacks" "[I", Cond.methodLink RX9 131 yX7_read, Cond.instanceMethod yX7_read, Cond.selects RX7 yX7_read yX7_read, Cond.code yX7_read cX7_read 3 none, Cond.fieldLink RX7 36 "IslandBridges$Layout" "ways" "I", Cond.fieldLink RX7 53 "IslandBridges$Layout" "islands" "I", Cond.fieldLink RX7 56 "IslandBridges$State" "numbers" "[I", Cond.methodLink RX7 42 yX2_first, Cond.instanceMethod yX2_first, Cond.selects RX2 yX2_first yX2_first, Cond.code yX2_first cX2_first 2 (some .int), Cond.methodLink RX7 46 yX7_addWay, Cond.instanceMethod yX7_addWay, Cond.selects RX7 yX7_addWay yX7_addWay, Cond.code yX7_addWay cX7_addWay 3 none, Cond.fieldLink RX7 66 "IslandBridges$State" "bridges" "[I", Cond.fieldLink RX7 70 "IslandBridges$State" "caps" "[I", Cond.static yX9_add, Cond.code yX9_add cX9_add 3 none, Cond.methodLink RX7 50 yX2_second, Cond.instanceMethod yX2_second, Cond.selects RX2 yX2_second yX2_second, Cond.code yX2_second cX2_second 2 (some .int)]
def wsL_law_r9 : List Cond := [Cond.methodLink RX7 59 yX2_cellOf, Cond.instanceMethod yX2_cellOf, Cond.selects RX2 yX2_cellOf yX2_cellOf, Cond.code yX2_cellOf cX2_cellOf 2 (some .int), Cond.methodLink RX9 202 yX9_groupsInAll, Cond.instanceMethod yX9_groupsInAll, Cond.selects RX9 yX9_groupsInAll yX9_groupsInAll, Cond.code yX9_groupsInAll cX9_groupsInAll 1 (some .int), Cond.methodLink RX9 144 yX0_read, Cond.instanceMethod yX0_read, Cond.selects RX0 yX0_read yX0_read, Cond.code yX0_read cX0_read 3 none, Cond.fieldLink RX0 23 "IslandBridges$Layout" "ways" "I", Cond.methodLink RX0 33 yX2_first, Cond.methodLink RX0 37 yX0_leader, Cond.instanceMethod yX0_leader, Cond.selects RX0 yX0_leader yX0_leader, Cond.code yX0_leader cX0_leader 2 (some .int), Cond.methodLink RX0 40 yX2_second, Cond.methodLink RX0 43 yX0_join, Cond.instanceMethod yX0_join, Cond.selects RX0 yX0_join yX0_join, Cond.code yX0_join cX0_join 6 none, Cond.methodLink RX0 47 Lib.Math.min.name]
def wsL_law_r10 : List Cond := [Cond.static Lib.Math.min.name, Cond.initialized "java/lang/Math", Cond.code Lib.Math.min.name Lib.Math.min.code 2 (some .int), Cond.methodLink RX0 53 Lib.Math.max.name, Cond.static Lib.Math.max.name, Cond.code Lib.Math.max.name Lib.Math.max.code 2 (some .int), Cond.fieldLink RX0 56 "IslandBridges$Layout" "islands" "I", Cond.methodLink RX9 284 yX0_total, Cond.instanceMethod yX0_total, Cond.selects RX0 yX0_total yX0_total, Cond.code yX0_total cX0_total 1 (some .int), Cond.methodLink RX0 59 yX0_leadersAheadOf, Cond.instanceMethod yX0_leadersAheadOf, Cond.selects RX0 yX0_leadersAheadOf yX0_leadersAheadOf, Cond.code yX0_leadersAheadOf cX0_leadersAheadOf 4 (some .int), Cond.methodLink RX9 205 yX9_isSolved, Cond.instanceMethod yX9_isSolved, Cond.selects RX9 yX9_isSolved yX9_isSolved, Cond.code yX9_isSolved cX9_isSolved 1 (some .boolean), Cond.methodLink RX9 209 yX9_isBroken, Cond.instanceMethod yX9_isBroken, Cond.selects RX9 yX9_isBroken yX9_isBroken, Cond.code yX9_isBroken cX9_isBroken 1 (some .boolean), Cond.methodLink RX9 287 yX7_areBroken]
def wsL_law_r11 : List Cond := [Cond.instanceMethod yX7_areBroken, Cond.selects RX7 yX7_areBroken yX7_areBroken, Cond.code yX7_areBroken cX7_areBroken 2 (some .boolean), Cond.methodLink RX9 212 yX9_allNumbers, Cond.instanceMethod yX9_allNumbers, Cond.selects RX9 yX9_allNumbers yX9_allNumbers, Cond.code yX9_allNumbers cX9_allNumbers 3 (some .int), Cond.fieldLink RX9 102 "IslandBridges$State" "numbers" "[I", Cond.methodLink RL 20 yX9_at, Cond.instanceMethod yX9_at, Cond.selects RX9 yX9_at yX9_at, Cond.code yX9_at cX9_at 5 (some .int), Cond.methodLink RX9 99 yX9_isCell, Cond.instanceMethod yX9_isCell, Cond.selects RX9 yX9_isCell yX9_isCell, Cond.code yX9_isCell cX9_isCell 2 (some .boolean), Cond.methodLink RX9 278 yX6_cells, Cond.instanceMethod yX6_cells, Cond.selects RX6 yX6_cells yX6_cells, Cond.code yX6_cells cX6_cells 1 (some .int), Cond.methodLink RX9 120 yX2_isOver, Cond.instanceMethod yX2_isOver, Cond.selects RX2 yX2_isOver yX2_isOver, Cond.code yX2_isOver cX2_isOver 6 (some .boolean)]
def wsL_law_r12 : List Cond := [Cond.methodLink RX9 124 yX2_isAlongRow, Cond.instanceMethod yX2_isAlongRow, Cond.selects RX2 yX2_isAlongRow yX2_isAlongRow, Cond.code yX2_isAlongRow cX2_isAlongRow 2 (some .boolean), Cond.methodLink RL 25 yX9_way, Cond.instanceMethod yX9_way, Cond.selects RX9 yX9_way yX9_way, Cond.code yX9_way cX9_way 3 (some .int), Cond.fieldLink RX9 159 "IslandBridges$State" "caps" "[I", Cond.methodLink RX9 150 yX9_isWay, Cond.instanceMethod yX9_isWay, Cond.selects RX9 yX9_isWay yX9_isWay, Cond.code yX9_isWay cX9_isWay 2 (some .boolean), Cond.methodLink RX9 153 yX2_firstCell, Cond.instanceMethod yX2_firstCell, Cond.selects RX2 yX2_firstCell yX2_firstCell, Cond.code yX2_firstCell cX2_firstCell 2 (some .int), Cond.methodLink RX9 156 yX2_secondCell, Cond.instanceMethod yX2_secondCell, Cond.selects RX2 yX2_secondCell yX2_secondCell, Cond.code yX2_secondCell cX2_secondCell 2 (some .int), Cond.methodLink RX9 160 yX2_cellsBetween, Cond.instanceMethod yX2_cellsBetween, Cond.selects RX2 yX2_cellsBetween yX2_cellsBetween]
def wsL_law_r13 : List Cond := [Cond.code yX2_cellsBetween cX2_cellsBetween 3 (some .int), Cond.methodLink RX2 66 yX2_secondCell, Cond.methodLink RX2 70 yX2_firstCell, Cond.methodLink RX9 163 yX2_crossingsOf, Cond.instanceMethod yX2_crossingsOf, Cond.selects RX2 yX2_crossingsOf yX2_crossingsOf, Cond.code yX2_crossingsOf cX2_crossingsOf 2 (some .long), Cond.methodLink RX9 167 yJ13_bitCount_95d88, Cond.static yJ13_bitCount_95d88, Cond.initialized RJ13, Cond.code yJ13_bitCount_95d88 cJ13_bitCount_95d88 2 (some .int), Cond.constantLong RJ13 314 (6148914691236517205), Cond.constantLong RJ13 316 (3689348814741910323), Cond.constantLong RJ13 318 (1085102592571150095), Cond.methodLink RX9 173 yX2_waysWith, Cond.instanceMethod yX2_waysWith, Cond.selects RX2 yX2_waysWith yX2_waysWith, Cond.code yX2_waysWith cX2_waysWith 5 (some .long), Cond.fieldLink RX2 73 "IslandBridges$Layout" "ways" "I", Cond.methodLink RX9 177 yX9_reasonAgainst, Cond.instanceMethod yX9_reasonAgainst, Cond.selects RX9 yX9_reasonAgainst yX9_reasonAgainst, Cond.code yX9_reasonAgainst cX9_reasonAgainst 3 (some .int), Cond.methodLink RX9 281 yX7_lesserLack]
def wsL_law_r14 : List Cond := [Cond.instanceMethod yX7_lesserLack, Cond.selects RX7 yX7_lesserLack yX7_lesserLack, Cond.code yX7_lesserLack cX7_lesserLack 2 (some .int), Cond.methodLink RX7 71 Lib.Math.min.name, Cond.methodLink RL 79 yX9_hint, Cond.instanceMethod yX9_hint, Cond.selects RX9 yX9_hint yX9_hint, Cond.code yX9_hint cX9_hint 1 (some .int), Cond.methodLink RX9 230 yX4_find, Cond.instanceMethod yX4_find, Cond.selects RX4 yX4_find yX4_find, Cond.code yX4_find cX4_find 3 (some .int), Cond.fieldLink RX4 36 "IslandBridges$State" "bridges" "[I", Cond.fieldLink RX4 53 "IslandBridges$Reasoner" "built" "J", Cond.fieldLink RX4 57 "IslandBridges$Layout" "ways" "I", Cond.methodLink RX4 27 yX7_read, Cond.methodLink RX4 32 yX7_areBroken, Cond.methodLink RX4 42 yX0_read, Cond.methodLink RX4 47 yX2_waysWith, Cond.methodLink RX4 61 yX4_isPossible, Cond.instanceMethod yX4_isPossible, Cond.selects RX4 yX4_isPossible yX4_isPossible, Cond.code yX4_isPossible cX4_isPossible 5 (some .boolean), Cond.fieldLink RX4 65 "IslandBridges$State" "caps" "[I"]
def wsL_law_r15 : List Cond := [Cond.methodLink RX4 98 yX2_crossingsOf, Cond.methodLink RX4 76 yX7_lesserLack, Cond.methodLink RX4 80 yX7_leastBridges, Cond.instanceMethod yX7_leastBridges, Cond.selects RX7 yX7_leastBridges yX7_leastBridges, Cond.code yX7_leastBridges cX7_leastBridges 2 (some .int), Cond.methodLink RX7 80 Lib.Math.max.name, Cond.methodLink RX7 77 yX7_leastBridgesFor, Cond.instanceMethod yX7_leastBridgesFor, Cond.selects RX7 yX7_leastBridgesFor yX7_leastBridgesFor, Cond.code yX7_leastBridgesFor cX7_leastBridgesFor 3 (some .int), Cond.methodLink RX4 102 yX4_wouldCutOff, Cond.instanceMethod yX4_wouldCutOff, Cond.selects RX4 yX4_wouldCutOff yX4_wouldCutOff, Cond.code yX4_wouldCutOff cX4_wouldCutOff 9 (some .boolean), Cond.fieldLink RX4 111 "IslandBridges$Layout" "islands" "I", Cond.fieldLink RX4 117 "IslandBridges$Sums" "lacks" "[I", Cond.methodLink RX4 105 yX2_first, Cond.methodLink RX4 108 yX2_second, Cond.methodLink RX4 114 yX0_leader, Cond.methodLink RL 82 yL_does, Cond.static yL_does, Cond.code yL_does cL_does 3 (some .int), Cond.constant RL 63 (65535)]
def wsL_law_r16 : List Cond := [Cond.methodLink RL 33 yL_low, Cond.static yL_low, Cond.code yL_low cL_low 2 (some .int), Cond.constant RL 7 (2147483647), Cond.methodLink RL 38 yX9_island, Cond.instanceMethod yX9_island, Cond.selects RX9 yX9_island yX9_island, Cond.code yX9_island cX9_island 3 (some .int), Cond.methodLink RX9 88 yX1_record, Cond.instanceMethod yX1_record, Cond.selects RX1 yX1_record yX1_record, Cond.code yX1_record cX1_record 3 none, Cond.fieldLink RX1 18 "IslandBridges$History" "size" "I", Cond.methodLink RX1 22 yX1_dropOldest, Cond.instanceMethod yX1_dropOldest, Cond.selects RX1 yX1_dropOldest yX1_dropOldest, Cond.code yX1_dropOldest cX1_dropOldest 4 none, Cond.methodLink RX1 25 yX1_stateAt, Cond.instanceMethod yX1_stateAt, Cond.selects RX1 yX1_stateAt yX1_stateAt, Cond.code yX1_stateAt cX1_stateAt 2 (some (.object "IslandBridges$State")), Cond.methodLink RX1 33 yX1_putState, Cond.instanceMethod yX1_putState, Cond.selects RX1 yX1_putState yX1_putState]
def wsL_law_r17 : List Cond := [Cond.code yX1_putState cX1_putState 3 none, Cond.methodLink RX1 29 yX6_becomeLike, Cond.instanceMethod yX6_becomeLike, Cond.selects RX6 yX6_becomeLike yX6_becomeLike, Cond.code yX6_becomeLike cX6_becomeLike 2 none, Cond.methodLink RX6 45 arraycopyName, Cond.native arraycopyName, Cond.static arraycopyName, Cond.initialized "java/lang/System", Cond.methodLink RX9 110 yX9_put, Cond.methodLink RX9 96 yX9_renewWays, Cond.instanceMethod yX9_renewWays, Cond.selects RX9 yX9_renewWays yX9_renewWays, Cond.code yX9_renewWays cX9_renewWays 1 none, Cond.methodLink RX9 227 yX6_takeAllBridges, Cond.methodLink RX9 261 yX2_read, Cond.instanceMethod yX2_read, Cond.selects RX2 yX2_read yX2_read, Cond.code yX2_read cX2_read 2 none, Cond.fieldLink RX2 44 "IslandBridges$State" "columns" "I", Cond.methodLink RX2 40 yX2_readIslands, Cond.instanceMethod yX2_readIslands, Cond.selects RX2 yX2_readIslands yX2_readIslands, Cond.code yX2_readIslands cX2_readIslands 5 none]
def wsL_law_r18 : List Cond := [Cond.fieldLink RX2 76 "IslandBridges$Layout" "islands" "I", Cond.fieldLink RX2 79 "IslandBridges$State" "numbers" "[I", Cond.methodLink RX2 50 yX6_cells, Cond.methodLink RX2 54 yX2_readWays, Cond.instanceMethod yX2_readWays, Cond.selects RX2 yX2_readWays yX2_readWays, Cond.code yX2_readWays cX2_readWays 5 none, Cond.methodLink RX2 86 yX2_cellOf, Cond.methodLink RX2 88 yX2_nextIsland, Cond.instanceMethod yX2_nextIsland, Cond.selects RX2 yX2_nextIsland yX2_nextIsland, Cond.code yX2_nextIsland cX2_nextIsland 6 (some .int), Cond.methodLink RX2 96 yX2_islandOn, Cond.instanceMethod yX2_islandOn, Cond.selects RX2 yX2_islandOn yX2_islandOn, Cond.code yX2_islandOn cX2_islandOn 2 (some .int), Cond.methodLink RX2 92 yX2_addWay, Cond.instanceMethod yX2_addWay, Cond.selects RX2 yX2_addWay yX2_addWay, Cond.code yX2_addWay cX2_addWay 4 none, Cond.methodLink RX2 58 yX2_readCrossings, Cond.instanceMethod yX2_readCrossings, Cond.selects RX2 yX2_readCrossings yX2_readCrossings, Cond.code yX2_readCrossings cX2_readCrossings 6 none]
def wsL_law_r19 : List Cond := [Cond.methodLink RX2 102 yX2_doCross, Cond.instanceMethod yX2_doCross, Cond.selects RX2 yX2_doCross yX2_doCross, Cond.code yX2_doCross cX2_doCross 7 (some .boolean), Cond.methodLink RX2 106 yX2_isAlongRow, Cond.methodLink RX2 110 yX2_isOver, Cond.methodLink RL 41 yX9_removeIsland, Cond.instanceMethod yX9_removeIsland, Cond.selects RX9 yX9_removeIsland yX9_removeIsland, Cond.code yX9_removeIsland cX9_removeIsland 3 (some .int), Cond.methodLink RL 44 yX9_begin, Cond.instanceMethod yX9_begin, Cond.selects RX9 yX9_begin yX9_begin, Cond.code yX9_begin cX9_begin 4 (some .int), Cond.methodLink RX9 80 yX9_isSide, Cond.static yX9_isSide, Cond.code yX9_isSide cX9_isSide 1 (some .boolean), Cond.methodLink RX9 92 yX6_empty, Cond.methodLink RL 47 yX9_clear, Cond.instanceMethod yX9_clear, Cond.selects RX9 yX9_clear yX9_clear, Cond.code yX9_clear cX9_clear 2 (some .int), Cond.methodLink RL 51 yX9_take, Cond.instanceMethod yX9_take]
def wsL_law_r20 : List Cond := [Cond.selects RX9 yX9_take yX9_take, Cond.code yX9_take cX9_take 3 (some .int), Cond.methodLink RL 54 yX9_cap, Cond.instanceMethod yX9_cap, Cond.selects RX9 yX9_cap yX9_cap, Cond.code yX9_cap cX9_cap 4 (some .int), Cond.methodLink RL 57 yX9_steps, Cond.instanceMethod yX9_steps, Cond.selects RX9 yX9_steps yX9_steps, Cond.code yX9_steps cX9_steps 4 (some .int), Cond.methodLink RX9 233 yX4_carryOut, Cond.instanceMethod yX4_carryOut, Cond.selects RX4 yX4_carryOut yX4_carryOut, Cond.code yX4_carryOut cX4_carryOut 4 none, Cond.fieldLink RX4 86 "IslandBridges$State" "grade" "I", Cond.methodLink RX4 89 Lib.Math.max.name, Cond.fieldLink RX4 95 "IslandBridges$State" "stepsMade" "I", Cond.methodLink RL 60 yX9_step, Cond.instanceMethod yX9_step, Cond.selects RX9 yX9_step yX9_step, Cond.code yX9_step cX9_step 2 (some .int), Cond.methodLink RL 64 yX9_make, Cond.instanceMethod yX9_make, Cond.selects RX9 yX9_make yX9_make]
def wsL_law_r21 : List Cond := [Cond.code yX9_make cX9_make 3 (some .int), Cond.constant RX9 251 (65535), Cond.methodLink RX9 252 yX3_run, Cond.instanceMethod yX3_run, Cond.selects RX3 yX3_run yX3_run, Cond.code yX3_run cX3_run 6 none, Cond.fieldLink RX3 21 "IslandBridges$Maker" "columns" "I", Cond.fieldLink RX3 25 "IslandBridges$Maker" "rows" "I", Cond.fieldLink RX3 28 "IslandBridges$Maker" "islands" "I", Cond.fieldLink RX3 31 "IslandBridges$Maker" "z" "I", Cond.methodLink RX3 38 yX3_draw, Cond.instanceMethod yX3_draw, Cond.selects RX3 yX3_draw yX3_draw, Cond.code yX3_draw cX3_draw 2 (some .int), Cond.constant RX3 56 (65537), Cond.methodLink RX3 42 yX3_addIsland, Cond.instanceMethod yX3_addIsland, Cond.selects RX3 yX3_addIsland yX3_addIsland, Cond.code yX3_addIsland cX3_addIsland 4 none, Cond.methodLink RX3 46 yX3_tryIsland, Cond.instanceMethod yX3_tryIsland, Cond.selects RX3 yX3_tryIsland yX3_tryIsland, Cond.code yX3_tryIsland cX3_tryIsland 9 none, Cond.methodLink RX3 57 yX3_isOnBoard]
def wsL_law_r22 : List Cond := [Cond.instanceMethod yX3_isOnBoard, Cond.selects RX3 yX3_isOnBoard yX3_isOnBoard, Cond.code yX3_isOnBoard cX3_isOnBoard 5 (some .boolean), Cond.methodLink RX9 255 yX3_giveNumbersTo, Cond.instanceMethod yX3_giveNumbersTo, Cond.selects RX3 yX3_giveNumbersTo yX3_giveNumbersTo, Cond.code yX3_giveNumbersTo cX3_giveNumbersTo 3 none, Cond.fieldLink RX3 49 "IslandBridges$State" "numbers" "[I", Cond.methodLink RL 67 yX9_build, Cond.instanceMethod yX9_build, Cond.selects RX9 yX9_build yX9_build, Cond.code yX9_build cX9_build 3 (some .int), Cond.methodLink RL 86 yX9_undo, Cond.instanceMethod yX9_undo, Cond.selects RX9 yX9_undo yX9_undo, Cond.code yX9_undo cX9_undo 1 (some .int), Cond.methodLink RX9 258 yX1_restore, Cond.instanceMethod yX1_restore, Cond.selects RX1 yX1_restore yX1_restore, Cond.code yX1_restore cX1_restore 3 none, Cond.methodLink RL 89 yX9_between, Cond.instanceMethod yX9_between, Cond.selects RX9 yX9_between yX9_between, Cond.code yX9_between cX9_between 6 (some .int)]
def wsL_law_r23 : List Cond := [Cond.methodLink RX9 180 Lib.Math.min.name, Cond.methodLink RX9 186 Lib.Math.max.name, Cond.methodLink RL 92 yX9_islandInfo, Cond.instanceMethod yX9_islandInfo, Cond.selects RX9 yX9_islandInfo yX9_islandInfo, Cond.code yX9_islandInfo cX9_islandInfo 4 (some .int), Cond.fieldLink RX9 134 "IslandBridges$Sums" "bridges" "[I", Cond.fieldLink RX9 138 "IslandBridges$Layout" "waysOf" "[I", Cond.fieldLink RX9 141 "IslandBridges$Sums" "caps" "[I", Cond.methodLink RX9 127 yX2_islandOn, Cond.methodLink RX9 147 yX0_numberOf, Cond.instanceMethod yX0_numberOf, Cond.selects RX0 yX0_numberOf yX0_numberOf, Cond.code yX0_numberOf cX0_numberOf 2 (some .int)]
def wsL_law : List Cond := (wsL_law_r1 ++ (wsL_law_r2 ++ (wsL_law_r3 ++ (wsL_law_r4 ++ (wsL_law_r5 ++ (wsL_law_r6 ++ (wsL_law_r7 ++ (wsL_law_r8 ++ (wsL_law_r9 ++ (wsL_law_r10 ++ (wsL_law_r11 ++ (wsL_law_r12 ++ (wsL_law_r13 ++ (wsL_law_r14 ++ (wsL_law_r15 ++ (wsL_law_r16 ++ (wsL_law_r17 ++ (wsL_law_r18 ++ (wsL_law_r19 ++ (wsL_law_r20 ++ (wsL_law_r21 ++ (wsL_law_r22 ++ wsL_law_r23)))))))))))))))))))))) ++ wsX90 ++ wsX60 ++ wsX20 ++ wsX70 ++ wsX00 ++ wsX40 ++ wsX50 ++ wsX30 ++ wsX10 ++ wsX80 ++ ([] : List Cond)
theorem dX0_init_0 : decode cX0_init 0 = .ok (.aload_n 0, 1) := by decide +kernel
theorem dX0_init_1 : decode cX0_init 1 = .ok (.invokespecial 3, 3) := by decide +kernel
theorem dX0_init_4 : decode cX0_init 4 = .ok (.aload_n 0, 1) := by decide +kernel
theorem dX0_init_5 : decode cX0_init 5 = .ok (.bipush 24, 2) := by decide +kernel
theorem dX0_init_7 : decode cX0_init 7 = .ok (.newarray .int, 2) := by decide +kernel
theorem dX0_init_9 : decode cX0_init 9 = .ok (.putfield 9, 3) := by decide +kernel
theorem dX0_init_12 : decode cX0_init 12 = .ok (.aload_n 0, 1) := by decide +kernel
theorem dX0_init_13 : decode cX0_init 13 = .ok (.aload_n 1, 1) := by decide +kernel
theorem dX0_init_14 : decode cX0_init 14 = .ok (.putfield 15, 3) := by decide +kernel
theorem dX0_init_17 : decode cX0_init 17 = .ok (.return_, 1) := by decide +kernel
set_option maxRecDepth 20000 in
theorem ggX0_read_X9_put : GoodIn wsX0_read wsX9_put := goodIn_r _ [6] (by decide +kernel) (by decide +kernel)
set_option maxRecDepth 20000 in
theorem gX0_read_X9_put_n19 : GoodIn wsX0_read (wsX9_put) := ggX0_read_X9_put
set_option maxRecDepth 20000 in
theorem ggX0_read_X9_valueAt : GoodIn wsX0_read wsX9_valueAt := goodIn_r _ [8] (by decide +kernel) (by decide +kernel)
set_option maxRecDepth 20000 in
theorem gX0_read_X9_valueAt_n29 : GoodIn wsX0_read (wsX9_valueAt) := ggX0_read_X9_valueAt
set_option maxRecDepth 20000 in
theorem ggX0_read_X2_first : GoodIn wsX0_read wsX2_first := goodIn_r _ [13, 14, 7, 5, 8, 39, 40, 41, 42, 43, 44, 45, 46, 47, 48, 49] (by decide +kernel) (by decide +kernel)
set_option maxRecDepth 20000 in
theorem gX0_read_X2_first : GoodIn wsX0_read (wsV RX0 33 RX2 yX2_first wsX2_first) := goodIn_app (goodIn_of _ (by decide +kernel)) ggX0_read_X2_first
set_option maxRecDepth 20000 in
theorem ggX0_read_X0_leader : GoodIn wsX0_read wsX0_leader := goodIn_r _ [19, 1, 7, 5, 8, 37, 38] (by decide +kernel) (by decide +kernel)
set_option maxRecDepth 20000 in
theorem gX0_read_X0_leader : GoodIn wsX0_read (wsV RX0 37 RX0 yX0_leader wsX0_leader) := goodIn_app (goodIn_of _ (by decide +kernel)) ggX0_read_X0_leader
set_option maxRecDepth 20000 in
theorem ggX0_read_X2_second : GoodIn wsX0_read wsX2_second := goodIn_r _ [23, 24, 7, 5, 8, 39, 40, 41, 42, 43, 44, 45, 46, 47, 48, 49] (by decide +kernel) (by decide +kernel)
set_option maxRecDepth 20000 in
theorem gX0_read_X2_second : GoodIn wsX0_read (wsV RX0 40 RX2 yX2_second wsX2_second) := goodIn_app (goodIn_of _ (by decide +kernel)) ggX0_read_X2_second
set_option maxRecDepth 20000 in
theorem ggX0_read_X0_join : GoodIn wsX0_read wsX0_join := goodIn_r _ [28, 29, 30, 31, 32, 33, 34, 35, 2, 36, 1, 7, 5, 8, 4, 6, 37, 38, 39, 40, 41, 42, 43, 44, 45, 46, 47, 48, 49] (by decide +kernel) (by decide +kernel)
set_option maxRecDepth 20000 in
theorem gX0_read_X0_join : GoodIn wsX0_read (wsV RX0 43 RX0 yX0_join wsX0_join) := goodIn_app (goodIn_of _ (by decide +kernel)) ggX0_read_X0_join
theorem dX0_read_0 : decode cX0_read 0 = .ok (.iconst 0, 1) := by decide +kernel
theorem dX0_read_1 : decode cX0_read 1 = .ok (.istore_n 2, 1) := by decide +kernel
theorem dX0_read_2 : decode cX0_read 2 = .ok (.iload_n 2, 1) := by decide +kernel
theorem dX0_read_3 : decode cX0_read 3 = .ok (.bipush 24, 2) := by decide +kernel
theorem dX0_read_5 : decode cX0_read 5 = .ok (.if_icmp .ge 18, 3) := by decide +kernel
theorem dX0_read_8 : decode cX0_read 8 = .ok (.aload_n 0, 1) := by decide +kernel
theorem dX0_read_9 : decode cX0_read 9 = .ok (.getfield 9, 3) := by decide +kernel
theorem dX0_read_12 : decode cX0_read 12 = .ok (.iload_n 2, 1) := by decide +kernel
theorem dX0_read_13 : decode cX0_read 13 = .ok (.iload_n 2, 1) := by decide +kernel
theorem dX0_read_14 : decode cX0_read 14 = .ok (.invokestatic 19, 3) := by decide +kernel
theorem dX0_read_17 : decode cX0_read 17 = .ok (.iinc 2 1, 3) := by decide +kernel
theorem dX0_read_20 : decode cX0_read 20 = .ok (.goto (-18), 3) := by decide +kernel
theorem dX0_read_23 : decode cX0_read 23 = .ok (.iconst 0, 1) := by decide +kernel
theorem dX0_read_24 : decode cX0_read 24 = .ok (.istore_n 2, 1) := by decide +kernel
theorem dX0_read_25 : decode cX0_read 25 = .ok (.iload_n 2, 1) := by decide +kernel
theorem dX0_read_26 : decode cX0_read 26 = .ok (.aload_n 0, 1) := by decide +kernel
theorem dX0_read_27 : decode cX0_read 27 = .ok (.getfield 15, 3) := by decide +kernel
theorem dX0_read_30 : decode cX0_read 30 = .ok (.getfield 23, 3) := by decide +kernel
theorem dX0_read_33 : decode cX0_read 33 = .ok (.if_icmp .ge 45, 3) := by decide +kernel
theorem dX0_read_36 : decode cX0_read 36 = .ok (.aload_n 1, 1) := by decide +kernel
theorem dX0_read_37 : decode cX0_read 37 = .ok (.iload_n 2, 1) := by decide +kernel
theorem dX0_read_38 : decode cX0_read 38 = .ok (.invokestatic 29, 3) := by decide +kernel
theorem dX0_read_41 : decode cX0_read 41 = .ok (.ifCond .le 31, 3) := by decide +kernel
theorem dX0_read_44 : decode cX0_read 44 = .ok (.aload_n 0, 1) := by decide +kernel
theorem dX0_read_45 : decode cX0_read 45 = .ok (.aload_n 0, 1) := by decide +kernel
theorem dX0_read_46 : decode cX0_read 46 = .ok (.aload_n 0, 1) := by decide +kernel
theorem dX0_read_47 : decode cX0_read 47 = .ok (.getfield 15, 3) := by decide +kernel
theorem dX0_read_50 : decode cX0_read 50 = .ok (.iload_n 2, 1) := by decide +kernel
theorem dX0_read_51 : decode cX0_read 51 = .ok (.invokevirtual 33, 3) := by decide +kernel
theorem dX0_read_54 : decode cX0_read 54 = .ok (.invokevirtual 37, 3) := by decide +kernel
theorem dX0_read_57 : decode cX0_read 57 = .ok (.aload_n 0, 1) := by decide +kernel
theorem dX0_read_58 : decode cX0_read 58 = .ok (.aload_n 0, 1) := by decide +kernel
theorem dX0_read_59 : decode cX0_read 59 = .ok (.getfield 15, 3) := by decide +kernel
theorem dX0_read_62 : decode cX0_read 62 = .ok (.iload_n 2, 1) := by decide +kernel
theorem dX0_read_63 : decode cX0_read 63 = .ok (.invokevirtual 40, 3) := by decide +kernel
theorem dX0_read_66 : decode cX0_read 66 = .ok (.invokevirtual 37, 3) := by decide +kernel
theorem dX0_read_69 : decode cX0_read 69 = .ok (.invokevirtual 43, 3) := by decide +kernel
theorem dX0_read_72 : decode cX0_read 72 = .ok (.iinc 2 1, 3) := by decide +kernel
theorem dX0_read_75 : decode cX0_read 75 = .ok (.goto (-50), 3) := by decide +kernel
theorem dX0_read_78 : decode cX0_read 78 = .ok (.return_, 1) := by decide +kernel
set_option maxRecDepth 20000 in
theorem ggX0_leader_X9_valueAt : GoodIn wsX0_leader wsX9_valueAt := goodIn_r _ [4] (by decide +kernel) (by decide +kernel)
set_option maxRecDepth 20000 in
theorem gX0_leader_X9_valueAt_n29 : GoodIn wsX0_leader (wsX9_valueAt) := ggX0_leader_X9_valueAt
theorem dX0_leader_0 : decode cX0_leader 0 = .ok (.aload_n 0, 1) := by decide +kernel
theorem dX0_leader_1 : decode cX0_leader 1 = .ok (.getfield 9, 3) := by decide +kernel
theorem dX0_leader_4 : decode cX0_leader 4 = .ok (.iload_n 1, 1) := by decide +kernel
theorem dX0_leader_5 : decode cX0_leader 5 = .ok (.invokestatic 29, 3) := by decide +kernel
theorem dX0_leader_8 : decode cX0_leader 8 = .ok (.ireturn, 1) := by decide +kernel
set_option maxRecDepth 20000 in
theorem ggX0_join_X9_valueAt : GoodIn wsX0_join wsX9_valueAt := goodIn_r _ [13] (by decide +kernel) (by decide +kernel)
set_option maxRecDepth 20000 in
theorem gX0_join_X9_valueAt_n29 : GoodIn wsX0_join (wsX9_valueAt) := ggX0_join_X9_valueAt
set_option maxRecDepth 20000 in
theorem ggX0_join_X9_put : GoodIn wsX0_join wsX9_put := goodIn_r _ [15] (by decide +kernel) (by decide +kernel)
set_option maxRecDepth 20000 in
theorem gX0_join_X9_put_n19 : GoodIn wsX0_join (wsX9_put) := ggX0_join_X9_put
theorem dX0_join_0 : decode cX0_join 0 = .ok (.iload_n 1, 1) := by decide +kernel
theorem dX0_join_1 : decode cX0_join 1 = .ok (.iload_n 2, 1) := by decide +kernel
theorem dX0_join_2 : decode cX0_join 2 = .ok (.invokestatic 47, 3) := by decide +kernel
theorem dX0_join_5 : decode cX0_join 5 = .ok (.istore_n 3, 1) := by decide +kernel
theorem dX0_join_6 : decode cX0_join 6 = .ok (.iload_n 1, 1) := by decide +kernel
theorem dX0_join_7 : decode cX0_join 7 = .ok (.iload_n 2, 1) := by decide +kernel
theorem dX0_join_8 : decode cX0_join 8 = .ok (.invokestatic 53, 3) := by decide +kernel
theorem dX0_join_11 : decode cX0_join 11 = .ok (.istore 4, 2) := by decide +kernel
theorem dX0_join_13 : decode cX0_join 13 = .ok (.iconst 0, 1) := by decide +kernel
theorem dX0_join_14 : decode cX0_join 14 = .ok (.istore 5, 2) := by decide +kernel
theorem dX0_join_16 : decode cX0_join 16 = .ok (.iload 5, 2) := by decide +kernel
theorem dX0_join_18 : decode cX0_join 18 = .ok (.aload_n 0, 1) := by decide +kernel
theorem dX0_join_19 : decode cX0_join 19 = .ok (.getfield 15, 3) := by decide +kernel
theorem dX0_join_22 : decode cX0_join 22 = .ok (.getfield 56, 3) := by decide +kernel
theorem dX0_join_25 : decode cX0_join 25 = .ok (.if_icmp .ge 33, 3) := by decide +kernel
theorem dX0_join_28 : decode cX0_join 28 = .ok (.aload_n 0, 1) := by decide +kernel
theorem dX0_join_29 : decode cX0_join 29 = .ok (.getfield 9, 3) := by decide +kernel
theorem dX0_join_32 : decode cX0_join 32 = .ok (.iload 5, 2) := by decide +kernel
theorem dX0_join_34 : decode cX0_join 34 = .ok (.invokestatic 29, 3) := by decide +kernel
theorem dX0_join_37 : decode cX0_join 37 = .ok (.iload 4, 2) := by decide +kernel
theorem dX0_join_39 : decode cX0_join 39 = .ok (.if_icmp .ne 13, 3) := by decide +kernel
theorem dX0_join_42 : decode cX0_join 42 = .ok (.aload_n 0, 1) := by decide +kernel
theorem dX0_join_43 : decode cX0_join 43 = .ok (.getfield 9, 3) := by decide +kernel
theorem dX0_join_46 : decode cX0_join 46 = .ok (.iload 5, 2) := by decide +kernel
theorem dX0_join_48 : decode cX0_join 48 = .ok (.iload_n 3, 1) := by decide +kernel
theorem dX0_join_49 : decode cX0_join 49 = .ok (.invokestatic 19, 3) := by decide +kernel
theorem dX0_join_52 : decode cX0_join 52 = .ok (.iinc 5 1, 3) := by decide +kernel
theorem dX0_join_55 : decode cX0_join 55 = .ok (.goto (-39), 3) := by decide +kernel
theorem dX0_join_58 : decode cX0_join 58 = .ok (.return_, 1) := by decide +kernel
set_option maxRecDepth 20000 in
theorem ggX0_total_X0_leadersAheadOf : GoodIn wsX0_total wsX0_leadersAheadOf := goodIn_r _ [7, 8, 9, 10, 11, 12, 13] (by decide +kernel) (by decide +kernel)
set_option maxRecDepth 20000 in
theorem gX0_total_X0_leadersAheadOf : GoodIn wsX0_total (wsV RX0 59 RX0 yX0_leadersAheadOf wsX0_leadersAheadOf) := goodIn_app (goodIn_of _ (by decide +kernel)) ggX0_total_X0_leadersAheadOf
theorem dX0_total_0 : decode cX0_total 0 = .ok (.aload_n 0, 1) := by decide +kernel
theorem dX0_total_1 : decode cX0_total 1 = .ok (.aload_n 0, 1) := by decide +kernel
theorem dX0_total_2 : decode cX0_total 2 = .ok (.getfield 15, 3) := by decide +kernel
theorem dX0_total_5 : decode cX0_total 5 = .ok (.getfield 56, 3) := by decide +kernel
theorem dX0_total_8 : decode cX0_total 8 = .ok (.invokevirtual 59, 3) := by decide +kernel
theorem dX0_total_11 : decode cX0_total 11 = .ok (.ireturn, 1) := by decide +kernel
set_option maxRecDepth 20000 in
theorem ggX0_numberOf_X0_leader : GoodIn wsX0_numberOf wsX0_leader := goodIn_r _ [5, 6, 7, 8, 9, 14, 15] (by decide +kernel) (by decide +kernel)
set_option maxRecDepth 20000 in
theorem gX0_numberOf_X0_leader : GoodIn wsX0_numberOf (wsV RX0 37 RX0 yX0_leader wsX0_leader) := goodIn_app (goodIn_of _ (by decide +kernel)) ggX0_numberOf_X0_leader
set_option maxRecDepth 20000 in
theorem ggX0_numberOf_X0_leadersAheadOf : GoodIn wsX0_numberOf wsX0_leadersAheadOf := goodIn_r _ [13, 6, 7, 8, 9, 14, 15] (by decide +kernel) (by decide +kernel)
set_option maxRecDepth 20000 in
theorem gX0_numberOf_X0_leadersAheadOf : GoodIn wsX0_numberOf (wsV RX0 59 RX0 yX0_leadersAheadOf wsX0_leadersAheadOf) := goodIn_app (goodIn_of _ (by decide +kernel)) ggX0_numberOf_X0_leadersAheadOf
theorem dX0_numberOf_0 : decode cX0_numberOf 0 = .ok (.aload_n 0, 1) := by decide +kernel
theorem dX0_numberOf_1 : decode cX0_numberOf 1 = .ok (.aload_n 0, 1) := by decide +kernel
theorem dX0_numberOf_2 : decode cX0_numberOf 2 = .ok (.iload_n 1, 1) := by decide +kernel
theorem dX0_numberOf_3 : decode cX0_numberOf 3 = .ok (.invokevirtual 37, 3) := by decide +kernel
theorem dX0_numberOf_6 : decode cX0_numberOf 6 = .ok (.invokevirtual 59, 3) := by decide +kernel
theorem dX0_numberOf_9 : decode cX0_numberOf 9 = .ok (.ireturn, 1) := by decide +kernel
set_option maxRecDepth 20000 in
theorem ggX0_leadersAheadOf_X9_valueAt : GoodIn wsX0_leadersAheadOf wsX9_valueAt := goodIn_r _ [4] (by decide +kernel) (by decide +kernel)
set_option maxRecDepth 20000 in
theorem gX0_leadersAheadOf_X9_valueAt_n29 : GoodIn wsX0_leadersAheadOf (wsX9_valueAt) := ggX0_leadersAheadOf_X9_valueAt
theorem dX0_leadersAheadOf_0 : decode cX0_leadersAheadOf 0 = .ok (.iconst 0, 1) := by decide +kernel
theorem dX0_leadersAheadOf_1 : decode cX0_leadersAheadOf 1 = .ok (.istore_n 2, 1) := by decide +kernel
theorem dX0_leadersAheadOf_2 : decode cX0_leadersAheadOf 2 = .ok (.iconst 0, 1) := by decide +kernel
theorem dX0_leadersAheadOf_3 : decode cX0_leadersAheadOf 3 = .ok (.istore_n 3, 1) := by decide +kernel
theorem dX0_leadersAheadOf_4 : decode cX0_leadersAheadOf 4 = .ok (.iload_n 3, 1) := by decide +kernel
theorem dX0_leadersAheadOf_5 : decode cX0_leadersAheadOf 5 = .ok (.iload_n 1, 1) := by decide +kernel
theorem dX0_leadersAheadOf_6 : decode cX0_leadersAheadOf 6 = .ok (.if_icmp .ge 24, 3) := by decide +kernel
theorem dX0_leadersAheadOf_9 : decode cX0_leadersAheadOf 9 = .ok (.aload_n 0, 1) := by decide +kernel
theorem dX0_leadersAheadOf_10 : decode cX0_leadersAheadOf 10 = .ok (.getfield 9, 3) := by decide +kernel
theorem dX0_leadersAheadOf_13 : decode cX0_leadersAheadOf 13 = .ok (.iload_n 3, 1) := by decide +kernel
theorem dX0_leadersAheadOf_14 : decode cX0_leadersAheadOf 14 = .ok (.invokestatic 29, 3) := by decide +kernel
theorem dX0_leadersAheadOf_17 : decode cX0_leadersAheadOf 17 = .ok (.iload_n 3, 1) := by decide +kernel
theorem dX0_leadersAheadOf_18 : decode cX0_leadersAheadOf 18 = .ok (.if_icmp .ne 6, 3) := by decide +kernel
theorem dX0_leadersAheadOf_21 : decode cX0_leadersAheadOf 21 = .ok (.iinc 2 1, 3) := by decide +kernel
theorem dX0_leadersAheadOf_24 : decode cX0_leadersAheadOf 24 = .ok (.iinc 3 1, 3) := by decide +kernel
theorem dX0_leadersAheadOf_27 : decode cX0_leadersAheadOf 27 = .ok (.goto (-23), 3) := by decide +kernel
theorem dX0_leadersAheadOf_30 : decode cX0_leadersAheadOf 30 = .ok (.iload_n 2, 1) := by decide +kernel
theorem dX0_leadersAheadOf_31 : decode cX0_leadersAheadOf 31 = .ok (.ireturn, 1) := by decide +kernel
set_option maxRecDepth 20000 in
theorem ggX1_init_X6_init : GoodIn wsX1_init wsX6_init := goodIn_r _ [10, 11, 2, 3, 12, 13, 14, 15, 16, 17, 18, 7, 19, 20, 21, 22, 23, 24, 25, 26, 27, 28, 29, 30, 33, 34, 35, 36, 37, 38, 39] (by decide +kernel) (by decide +kernel)
set_option maxRecDepth 20000 in
theorem gX1_init_X6_init : GoodIn wsX1_init (wsX6_init) := ggX1_init_X6_init
theorem dX1_init_0 : decode cX1_init 0 = .ok (.aload_n 0, 1) := by decide +kernel
theorem dX1_init_1 : decode cX1_init 1 = .ok (.invokespecial 3, 3) := by decide +kernel
theorem dX1_init_4 : decode cX1_init 4 = .ok (.aload_n 0, 1) := by decide +kernel
theorem dX1_init_5 : decode cX1_init 5 = .ok (.iconst 4, 1) := by decide +kernel
theorem dX1_init_6 : decode cX1_init 6 = .ok (.anewarray 9, 3) := by decide +kernel
theorem dX1_init_9 : decode cX1_init 9 = .ok (.putfield 11, 3) := by decide +kernel
theorem dX1_init_12 : decode cX1_init 12 = .ok (.iconst 0, 1) := by decide +kernel
theorem dX1_init_13 : decode cX1_init 13 = .ok (.istore_n 1, 1) := by decide +kernel
theorem dX1_init_14 : decode cX1_init 14 = .ok (.iload_n 1, 1) := by decide +kernel
theorem dX1_init_15 : decode cX1_init 15 = .ok (.aload_n 0, 1) := by decide +kernel
theorem dX1_init_16 : decode cX1_init 16 = .ok (.getfield 11, 3) := by decide +kernel
theorem dX1_init_19 : decode cX1_init 19 = .ok (.arraylength, 1) := by decide +kernel
theorem dX1_init_20 : decode cX1_init 20 = .ok (.if_icmp .ge 22, 3) := by decide +kernel
theorem dX1_init_23 : decode cX1_init 23 = .ok (.aload_n 0, 1) := by decide +kernel
theorem dX1_init_24 : decode cX1_init 24 = .ok (.getfield 11, 3) := by decide +kernel
theorem dX1_init_27 : decode cX1_init 27 = .ok (.iload_n 1, 1) := by decide +kernel
theorem dX1_init_28 : decode cX1_init 28 = .ok (.new 9, 3) := by decide +kernel
theorem dX1_init_31 : decode cX1_init 31 = .ok (.dup, 1) := by decide +kernel
theorem dX1_init_32 : decode cX1_init 32 = .ok (.invokespecial 17, 3) := by decide +kernel
theorem dX1_init_35 : decode cX1_init 35 = .ok (.aastore, 1) := by decide +kernel
theorem dX1_init_36 : decode cX1_init 36 = .ok (.iinc 1 1, 3) := by decide +kernel
theorem dX1_init_39 : decode cX1_init 39 = .ok (.goto (-25), 3) := by decide +kernel
theorem dX1_init_42 : decode cX1_init 42 = .ok (.return_, 1) := by decide +kernel
set_option maxRecDepth 20000 in
theorem ggX1_record_X1_dropOldest : GoodIn wsX1_record wsX1_dropOldest := goodIn_r _ [6, 7, 1, 8, 9, 10, 5, 11, 12, 13, 14, 15, 32, 33] (by decide +kernel) (by decide +kernel)
set_option maxRecDepth 20000 in
theorem gX1_record_X1_dropOldest : GoodIn wsX1_record (wsV RX1 22 RX1 yX1_dropOldest wsX1_dropOldest) := goodIn_app (goodIn_of _ (by decide +kernel)) ggX1_record_X1_dropOldest
set_option maxRecDepth 20000 in
theorem ggX1_record_X1_stateAt : GoodIn wsX1_record wsX1_stateAt := goodIn_r _ [11, 7, 32, 33] (by decide +kernel) (by decide +kernel)
set_option maxRecDepth 20000 in
theorem gX1_record_X1_stateAt : GoodIn wsX1_record (wsV RX1 25 RX1 yX1_stateAt wsX1_stateAt) := goodIn_app (goodIn_of _ (by decide +kernel)) ggX1_record_X1_stateAt
set_option maxRecDepth 20000 in
theorem ggX1_record_X6_becomeLike : GoodIn wsX1_record wsX6_becomeLike := goodIn_r _ [20, 21, 22, 23, 24, 25, 26, 27, 28, 29, 30, 31, 34, 35, 36, 37, 38, 39, 40] (by decide +kernel) (by decide +kernel)
set_option maxRecDepth 20000 in
theorem gX1_record_X6_becomeLike : GoodIn wsX1_record (wsV RX1 29 RX6 yX6_becomeLike wsX6_becomeLike) := goodIn_app (goodIn_of _ (by decide +kernel)) ggX1_record_X6_becomeLike
theorem dX1_record_0 : decode cX1_record 0 = .ok (.aload_n 0, 1) := by decide +kernel
theorem dX1_record_1 : decode cX1_record 1 = .ok (.getfield 18, 3) := by decide +kernel
theorem dX1_record_4 : decode cX1_record 4 = .ok (.iconst 4, 1) := by decide +kernel
theorem dX1_record_5 : decode cX1_record 5 = .ok (.if_icmp .lt 7, 3) := by decide +kernel
theorem dX1_record_8 : decode cX1_record 8 = .ok (.aload_n 0, 1) := by decide +kernel
theorem dX1_record_9 : decode cX1_record 9 = .ok (.invokevirtual 22, 3) := by decide +kernel
theorem dX1_record_12 : decode cX1_record 12 = .ok (.aload_n 0, 1) := by decide +kernel
theorem dX1_record_13 : decode cX1_record 13 = .ok (.aload_n 0, 1) := by decide +kernel
theorem dX1_record_14 : decode cX1_record 14 = .ok (.getfield 18, 3) := by decide +kernel
theorem dX1_record_17 : decode cX1_record 17 = .ok (.invokevirtual 25, 3) := by decide +kernel
theorem dX1_record_20 : decode cX1_record 20 = .ok (.astore_n 2, 1) := by decide +kernel
theorem dX1_record_21 : decode cX1_record 21 = .ok (.aload_n 2, 1) := by decide +kernel
theorem dX1_record_22 : decode cX1_record 22 = .ok (.ifnull 18, 3) := by decide +kernel
theorem dX1_record_25 : decode cX1_record 25 = .ok (.aload_n 2, 1) := by decide +kernel
theorem dX1_record_26 : decode cX1_record 26 = .ok (.aload_n 1, 1) := by decide +kernel
theorem dX1_record_27 : decode cX1_record 27 = .ok (.invokevirtual 29, 3) := by decide +kernel
theorem dX1_record_30 : decode cX1_record 30 = .ok (.aload_n 0, 1) := by decide +kernel
theorem dX1_record_31 : decode cX1_record 31 = .ok (.dup, 1) := by decide +kernel
theorem dX1_record_32 : decode cX1_record 32 = .ok (.getfield 18, 3) := by decide +kernel
theorem dX1_record_35 : decode cX1_record 35 = .ok (.iconst 1, 1) := by decide +kernel
theorem dX1_record_36 : decode cX1_record 36 = .ok (.iadd, 1) := by decide +kernel
theorem dX1_record_37 : decode cX1_record 37 = .ok (.putfield 18, 3) := by decide +kernel
theorem dX1_record_40 : decode cX1_record 40 = .ok (.return_, 1) := by decide +kernel
set_option maxRecDepth 20000 in
theorem ggX1_restore_X1_stateAt : GoodIn wsX1_restore wsX1_stateAt := goodIn_r _ [6, 7, 24, 25] (by decide +kernel) (by decide +kernel)
set_option maxRecDepth 20000 in
theorem gX1_restore_X1_stateAt : GoodIn wsX1_restore (wsV RX1 25 RX1 yX1_stateAt wsX1_stateAt) := goodIn_app (goodIn_of _ (by decide +kernel)) ggX1_restore_X1_stateAt
set_option maxRecDepth 20000 in
theorem ggX1_restore_X6_becomeLike : GoodIn wsX1_restore wsX6_becomeLike := goodIn_r _ [12, 13, 14, 15, 16, 17, 18, 19, 20, 21, 22, 23, 26, 27, 28, 29, 30, 31, 32] (by decide +kernel) (by decide +kernel)
set_option maxRecDepth 20000 in
theorem gX1_restore_X6_becomeLike : GoodIn wsX1_restore (wsV RX1 29 RX6 yX6_becomeLike wsX6_becomeLike) := goodIn_app (goodIn_of _ (by decide +kernel)) ggX1_restore_X6_becomeLike
theorem dX1_restore_0 : decode cX1_restore 0 = .ok (.aload_n 0, 1) := by decide +kernel
theorem dX1_restore_1 : decode cX1_restore 1 = .ok (.aload_n 0, 1) := by decide +kernel
theorem dX1_restore_2 : decode cX1_restore 2 = .ok (.getfield 18, 3) := by decide +kernel
theorem dX1_restore_5 : decode cX1_restore 5 = .ok (.iconst 1, 1) := by decide +kernel
theorem dX1_restore_6 : decode cX1_restore 6 = .ok (.isub, 1) := by decide +kernel
theorem dX1_restore_7 : decode cX1_restore 7 = .ok (.invokevirtual 25, 3) := by decide +kernel
theorem dX1_restore_10 : decode cX1_restore 10 = .ok (.astore_n 2, 1) := by decide +kernel
theorem dX1_restore_11 : decode cX1_restore 11 = .ok (.aload_n 2, 1) := by decide +kernel
theorem dX1_restore_12 : decode cX1_restore 12 = .ok (.ifnull 18, 3) := by decide +kernel
theorem dX1_restore_15 : decode cX1_restore 15 = .ok (.aload_n 1, 1) := by decide +kernel
theorem dX1_restore_16 : decode cX1_restore 16 = .ok (.aload_n 2, 1) := by decide +kernel
theorem dX1_restore_17 : decode cX1_restore 17 = .ok (.invokevirtual 29, 3) := by decide +kernel
theorem dX1_restore_20 : decode cX1_restore 20 = .ok (.aload_n 0, 1) := by decide +kernel
theorem dX1_restore_21 : decode cX1_restore 21 = .ok (.dup, 1) := by decide +kernel
theorem dX1_restore_22 : decode cX1_restore 22 = .ok (.getfield 18, 3) := by decide +kernel
theorem dX1_restore_25 : decode cX1_restore 25 = .ok (.iconst 1, 1) := by decide +kernel
theorem dX1_restore_26 : decode cX1_restore 26 = .ok (.isub, 1) := by decide +kernel
theorem dX1_restore_27 : decode cX1_restore 27 = .ok (.putfield 18, 3) := by decide +kernel
theorem dX1_restore_30 : decode cX1_restore 30 = .ok (.return_, 1) := by decide +kernel
theorem dX1_stateAt_0 : decode cX1_stateAt 0 = .ok (.iload_n 1, 1) := by decide +kernel
theorem dX1_stateAt_1 : decode cX1_stateAt 1 = .ok (.ifCond .lt 21, 3) := by decide +kernel
theorem dX1_stateAt_4 : decode cX1_stateAt 4 = .ok (.iload_n 1, 1) := by decide +kernel
theorem dX1_stateAt_5 : decode cX1_stateAt 5 = .ok (.aload_n 0, 1) := by decide +kernel
theorem dX1_stateAt_6 : decode cX1_stateAt 6 = .ok (.getfield 11, 3) := by decide +kernel
theorem dX1_stateAt_9 : decode cX1_stateAt 9 = .ok (.arraylength, 1) := by decide +kernel
theorem dX1_stateAt_10 : decode cX1_stateAt 10 = .ok (.if_icmp .ge 12, 3) := by decide +kernel
theorem dX1_stateAt_13 : decode cX1_stateAt 13 = .ok (.aload_n 0, 1) := by decide +kernel
theorem dX1_stateAt_14 : decode cX1_stateAt 14 = .ok (.getfield 11, 3) := by decide +kernel
theorem dX1_stateAt_17 : decode cX1_stateAt 17 = .ok (.iload_n 1, 1) := by decide +kernel
theorem dX1_stateAt_18 : decode cX1_stateAt 18 = .ok (.aaload, 1) := by decide +kernel
theorem dX1_stateAt_19 : decode cX1_stateAt 19 = .ok (.goto 4, 3) := by decide +kernel
theorem dX1_stateAt_22 : decode cX1_stateAt 22 = .ok (.aconst_null, 1) := by decide +kernel
theorem dX1_stateAt_23 : decode cX1_stateAt 23 = .ok (.areturn, 1) := by decide +kernel
theorem dX1_putState_0 : decode cX1_putState 0 = .ok (.iload_n 1, 1) := by decide +kernel
theorem dX1_putState_1 : decode cX1_putState 1 = .ok (.ifCond .lt 19, 3) := by decide +kernel
theorem dX1_putState_4 : decode cX1_putState 4 = .ok (.iload_n 1, 1) := by decide +kernel
theorem dX1_putState_5 : decode cX1_putState 5 = .ok (.aload_n 0, 1) := by decide +kernel
theorem dX1_putState_6 : decode cX1_putState 6 = .ok (.getfield 11, 3) := by decide +kernel
theorem dX1_putState_9 : decode cX1_putState 9 = .ok (.arraylength, 1) := by decide +kernel
theorem dX1_putState_10 : decode cX1_putState 10 = .ok (.if_icmp .ge 10, 3) := by decide +kernel
theorem dX1_putState_13 : decode cX1_putState 13 = .ok (.aload_n 0, 1) := by decide +kernel
theorem dX1_putState_14 : decode cX1_putState 14 = .ok (.getfield 11, 3) := by decide +kernel
theorem dX1_putState_17 : decode cX1_putState 17 = .ok (.iload_n 1, 1) := by decide +kernel
theorem dX1_putState_18 : decode cX1_putState 18 = .ok (.aload_n 2, 1) := by decide +kernel
theorem dX1_putState_19 : decode cX1_putState 19 = .ok (.aastore, 1) := by decide +kernel
theorem dX1_putState_20 : decode cX1_putState 20 = .ok (.return_, 1) := by decide +kernel
set_option maxRecDepth 20000 in
theorem ggX1_dropOldest_X1_stateAt : GoodIn wsX1_dropOldest wsX1_stateAt := goodIn_r _ [7, 1, 12, 13] (by decide +kernel) (by decide +kernel)
set_option maxRecDepth 20000 in
theorem gX1_dropOldest_X1_stateAt : GoodIn wsX1_dropOldest (wsV RX1 25 RX1 yX1_stateAt wsX1_stateAt) := goodIn_app (goodIn_of _ (by decide +kernel)) ggX1_dropOldest_X1_stateAt
set_option maxRecDepth 20000 in
theorem ggX1_dropOldest_X1_putState : GoodIn wsX1_dropOldest wsX1_putState := goodIn_r _ [11, 1, 12, 13] (by decide +kernel) (by decide +kernel)
set_option maxRecDepth 20000 in
theorem gX1_dropOldest_X1_putState : GoodIn wsX1_dropOldest (wsV RX1 33 RX1 yX1_putState wsX1_putState) := goodIn_app (goodIn_of _ (by decide +kernel)) ggX1_dropOldest_X1_putState
theorem dX1_dropOldest_0 : decode cX1_dropOldest 0 = .ok (.aload_n 0, 1) := by decide +kernel
theorem dX1_dropOldest_1 : decode cX1_dropOldest 1 = .ok (.iconst 0, 1) := by decide +kernel
theorem dX1_dropOldest_2 : decode cX1_dropOldest 2 = .ok (.invokevirtual 25, 3) := by decide +kernel
theorem dX1_dropOldest_5 : decode cX1_dropOldest 5 = .ok (.astore_n 1, 1) := by decide +kernel
theorem dX1_dropOldest_6 : decode cX1_dropOldest 6 = .ok (.aload_n 0, 1) := by decide +kernel
theorem dX1_dropOldest_7 : decode cX1_dropOldest 7 = .ok (.getfield 11, 3) := by decide +kernel
theorem dX1_dropOldest_10 : decode cX1_dropOldest 10 = .ok (.arraylength, 1) := by decide +kernel
theorem dX1_dropOldest_11 : decode cX1_dropOldest 11 = .ok (.iconst 1, 1) := by decide +kernel
theorem dX1_dropOldest_12 : decode cX1_dropOldest 12 = .ok (.isub, 1) := by decide +kernel
theorem dX1_dropOldest_13 : decode cX1_dropOldest 13 = .ok (.istore_n 2, 1) := by decide +kernel
theorem dX1_dropOldest_14 : decode cX1_dropOldest 14 = .ok (.iconst 0, 1) := by decide +kernel
theorem dX1_dropOldest_15 : decode cX1_dropOldest 15 = .ok (.istore_n 3, 1) := by decide +kernel
theorem dX1_dropOldest_16 : decode cX1_dropOldest 16 = .ok (.iload_n 3, 1) := by decide +kernel
theorem dX1_dropOldest_17 : decode cX1_dropOldest 17 = .ok (.iload_n 2, 1) := by decide +kernel
theorem dX1_dropOldest_18 : decode cX1_dropOldest 18 = .ok (.if_icmp .ge 21, 3) := by decide +kernel
theorem dX1_dropOldest_21 : decode cX1_dropOldest 21 = .ok (.aload_n 0, 1) := by decide +kernel
theorem dX1_dropOldest_22 : decode cX1_dropOldest 22 = .ok (.iload_n 3, 1) := by decide +kernel
theorem dX1_dropOldest_23 : decode cX1_dropOldest 23 = .ok (.aload_n 0, 1) := by decide +kernel
theorem dX1_dropOldest_24 : decode cX1_dropOldest 24 = .ok (.iload_n 3, 1) := by decide +kernel
theorem dX1_dropOldest_25 : decode cX1_dropOldest 25 = .ok (.iconst 1, 1) := by decide +kernel
theorem dX1_dropOldest_26 : decode cX1_dropOldest 26 = .ok (.iadd, 1) := by decide +kernel
theorem dX1_dropOldest_27 : decode cX1_dropOldest 27 = .ok (.invokevirtual 25, 3) := by decide +kernel
theorem dX1_dropOldest_30 : decode cX1_dropOldest 30 = .ok (.invokevirtual 33, 3) := by decide +kernel
theorem dX1_dropOldest_33 : decode cX1_dropOldest 33 = .ok (.iinc 3 1, 3) := by decide +kernel
theorem dX1_dropOldest_36 : decode cX1_dropOldest 36 = .ok (.goto (-20), 3) := by decide +kernel
theorem dX1_dropOldest_39 : decode cX1_dropOldest 39 = .ok (.aload_n 0, 1) := by decide +kernel
theorem dX1_dropOldest_40 : decode cX1_dropOldest 40 = .ok (.iload_n 2, 1) := by decide +kernel
theorem dX1_dropOldest_41 : decode cX1_dropOldest 41 = .ok (.aload_n 1, 1) := by decide +kernel
theorem dX1_dropOldest_42 : decode cX1_dropOldest 42 = .ok (.invokevirtual 33, 3) := by decide +kernel
theorem dX1_dropOldest_45 : decode cX1_dropOldest 45 = .ok (.aload_n 0, 1) := by decide +kernel
theorem dX1_dropOldest_46 : decode cX1_dropOldest 46 = .ok (.dup, 1) := by decide +kernel
theorem dX1_dropOldest_47 : decode cX1_dropOldest 47 = .ok (.getfield 18, 3) := by decide +kernel
theorem dX1_dropOldest_50 : decode cX1_dropOldest 50 = .ok (.iconst 1, 1) := by decide +kernel
theorem dX1_dropOldest_51 : decode cX1_dropOldest 51 = .ok (.isub, 1) := by decide +kernel
theorem dX1_dropOldest_52 : decode cX1_dropOldest 52 = .ok (.putfield 18, 3) := by decide +kernel
theorem dX1_dropOldest_55 : decode cX1_dropOldest 55 = .ok (.return_, 1) := by decide +kernel
theorem dX2_init_0 : decode cX2_init 0 = .ok (.aload_n 0, 1) := by decide +kernel
theorem dX2_init_1 : decode cX2_init 1 = .ok (.invokespecial 3, 3) := by decide +kernel
theorem dX2_init_4 : decode cX2_init 4 = .ok (.aload_n 0, 1) := by decide +kernel
theorem dX2_init_5 : decode cX2_init 5 = .ok (.bipush 24, 2) := by decide +kernel
theorem dX2_init_7 : decode cX2_init 7 = .ok (.newarray .int, 2) := by decide +kernel
theorem dX2_init_9 : decode cX2_init 9 = .ok (.putfield 9, 3) := by decide +kernel
theorem dX2_init_12 : decode cX2_init 12 = .ok (.aload_n 0, 1) := by decide +kernel
theorem dX2_init_13 : decode cX2_init 13 = .ok (.sipush 144, 3) := by decide +kernel
theorem dX2_init_16 : decode cX2_init 16 = .ok (.newarray .int, 2) := by decide +kernel
theorem dX2_init_18 : decode cX2_init 18 = .ok (.putfield 15, 3) := by decide +kernel
theorem dX2_init_21 : decode cX2_init 21 = .ok (.aload_n 0, 1) := by decide +kernel
theorem dX2_init_22 : decode cX2_init 22 = .ok (.bipush 48, 2) := by decide +kernel
theorem dX2_init_24 : decode cX2_init 24 = .ok (.newarray .int, 2) := by decide +kernel
theorem dX2_init_26 : decode cX2_init 26 = .ok (.putfield 18, 3) := by decide +kernel
theorem dX2_init_29 : decode cX2_init 29 = .ok (.aload_n 0, 1) := by decide +kernel
theorem dX2_init_30 : decode cX2_init 30 = .ok (.bipush 48, 2) := by decide +kernel
theorem dX2_init_32 : decode cX2_init 32 = .ok (.newarray .int, 2) := by decide +kernel
theorem dX2_init_34 : decode cX2_init 34 = .ok (.putfield 21, 3) := by decide +kernel
theorem dX2_init_37 : decode cX2_init 37 = .ok (.aload_n 0, 1) := by decide +kernel
theorem dX2_init_38 : decode cX2_init 38 = .ok (.bipush 48, 2) := by decide +kernel
theorem dX2_init_40 : decode cX2_init 40 = .ok (.newarray .int, 2) := by decide +kernel
theorem dX2_init_42 : decode cX2_init 42 = .ok (.putfield 24, 3) := by decide +kernel
theorem dX2_init_45 : decode cX2_init 45 = .ok (.aload_n 0, 1) := by decide +kernel
theorem dX2_init_46 : decode cX2_init 46 = .ok (.bipush 48, 2) := by decide +kernel
theorem dX2_init_48 : decode cX2_init 48 = .ok (.newarray .int, 2) := by decide +kernel
theorem dX2_init_50 : decode cX2_init 50 = .ok (.putfield 27, 3) := by decide +kernel
theorem dX2_init_53 : decode cX2_init 53 = .ok (.aload_n 0, 1) := by decide +kernel
theorem dX2_init_54 : decode cX2_init 54 = .ok (.bipush 48, 2) := by decide +kernel
theorem dX2_init_56 : decode cX2_init 56 = .ok (.newarray .int, 2) := by decide +kernel
theorem dX2_init_58 : decode cX2_init 58 = .ok (.putfield 30, 3) := by decide +kernel
theorem dX2_init_61 : decode cX2_init 61 = .ok (.aload_n 0, 1) := by decide +kernel
theorem dX2_init_62 : decode cX2_init 62 = .ok (.bipush 24, 2) := by decide +kernel
theorem dX2_init_64 : decode cX2_init 64 = .ok (.newarray .int, 2) := by decide +kernel
theorem dX2_init_66 : decode cX2_init 66 = .ok (.putfield 33, 3) := by decide +kernel
theorem dX2_init_69 : decode cX2_init 69 = .ok (.aload_n 0, 1) := by decide +kernel
theorem dX2_init_70 : decode cX2_init 70 = .ok (.bipush 48, 2) := by decide +kernel
theorem dX2_init_72 : decode cX2_init 72 = .ok (.newarray .long, 2) := by decide +kernel
theorem dX2_init_74 : decode cX2_init 74 = .ok (.putfield 36, 3) := by decide +kernel
theorem dX2_init_77 : decode cX2_init 77 = .ok (.return_, 1) := by decide +kernel
set_option maxRecDepth 20000 in
theorem ggX2_read_X2_readIslands : GoodIn wsX2_read wsX2_readIslands := goodIn_r _ [6, 7, 8, 9, 10, 11, 12, 13, 14, 15, 16, 17, 18, 19, 20, 21, 22, 23, 80, 81, 82, 83, 84, 85, 86, 87, 88, 89, 90, 73, 74, 75, 76, 77, 78, 79] (by decide +kernel) (by decide +kernel)
set_option maxRecDepth 20000 in
theorem gX2_read_X2_readIslands : GoodIn wsX2_read (wsV RX2 40 RX2 yX2_readIslands wsX2_readIslands) := goodIn_app (goodIn_of _ (by decide +kernel)) ggX2_read_X2_readIslands
set_option maxRecDepth 20000 in
theorem ggX2_read_X6_cells : GoodIn wsX2_read wsX6_cells := goodIn_r _ [16, 17, 18, 73, 74, 75, 76, 77, 78, 79] (by decide +kernel) (by decide +kernel)
set_option maxRecDepth 20000 in
theorem gX2_read_X6_cells : GoodIn wsX2_read (wsV RX2 50 RX6 yX6_cells wsX6_cells) := goodIn_app (goodIn_of _ (by decide +kernel)) ggX2_read_X6_cells
set_option maxRecDepth 20000 in
theorem ggX2_read_X2_readWays : GoodIn wsX2_read wsX2_readWays := goodIn_r _ [27, 28, 7, 29, 30, 31, 5, 32, 9, 19, 20, 21, 33, 34, 35, 36, 37, 38, 39, 40, 11, 41, 42, 43, 44, 45, 46, 47, 48, 49, 10, 22, 23, 50, 51, 80, 81, 82, 83, 84, 85, 86, 87, 88, 89, 90] (by decide +kernel) (by decide +kernel)
set_option maxRecDepth 20000 in
theorem gX2_read_X2_readWays : GoodIn wsX2_read (wsV RX2 54 RX2 yX2_readWays wsX2_readWays) := goodIn_app (goodIn_of _ (by decide +kernel)) ggX2_read_X2_readWays
set_option maxRecDepth 20000 in
theorem ggX2_read_X2_readCrossings : GoodIn wsX2_read wsX2_readCrossings := goodIn_r _ [55, 28, 56, 57, 58, 59, 5, 60, 61, 62, 63, 64, 49, 19, 20, 21, 65, 66, 67, 68, 47, 69, 70, 71, 72, 48, 80, 81, 82, 83, 84, 85, 86, 87, 88, 89, 90] (by decide +kernel) (by decide +kernel)
set_option maxRecDepth 20000 in
theorem gX2_read_X2_readCrossings : GoodIn wsX2_read (wsV RX2 58 RX2 yX2_readCrossings wsX2_readCrossings) := goodIn_app (goodIn_of _ (by decide +kernel)) ggX2_read_X2_readCrossings
theorem dX2_read_0 : decode cX2_read 0 = .ok (.aload_n 0, 1) := by decide +kernel
theorem dX2_read_1 : decode cX2_read 1 = .ok (.aload_n 1, 1) := by decide +kernel
theorem dX2_read_2 : decode cX2_read 2 = .ok (.invokevirtual 40, 3) := by decide +kernel
theorem dX2_read_5 : decode cX2_read 5 = .ok (.aload_n 0, 1) := by decide +kernel
theorem dX2_read_6 : decode cX2_read 6 = .ok (.aload_n 1, 1) := by decide +kernel
theorem dX2_read_7 : decode cX2_read 7 = .ok (.getfield 44, 3) := by decide +kernel
theorem dX2_read_10 : decode cX2_read 10 = .ok (.aload_n 1, 1) := by decide +kernel
theorem dX2_read_11 : decode cX2_read 11 = .ok (.invokevirtual 50, 3) := by decide +kernel
theorem dX2_read_14 : decode cX2_read 14 = .ok (.invokevirtual 54, 3) := by decide +kernel
theorem dX2_read_17 : decode cX2_read 17 = .ok (.aload_n 0, 1) := by decide +kernel
theorem dX2_read_18 : decode cX2_read 18 = .ok (.aload_n 1, 1) := by decide +kernel
theorem dX2_read_19 : decode cX2_read 19 = .ok (.getfield 44, 3) := by decide +kernel
theorem dX2_read_22 : decode cX2_read 22 = .ok (.invokevirtual 58, 3) := by decide +kernel
theorem dX2_read_25 : decode cX2_read 25 = .ok (.return_, 1) := by decide +kernel
set_option maxRecDepth 20000 in
theorem ggX2_cellOf_X9_valueAt : GoodIn wsX2_cellOf wsX9_valueAt := goodIn_r _ [4] (by decide +kernel) (by decide +kernel)
set_option maxRecDepth 20000 in
theorem gX2_cellOf_X9_valueAt_n62 : GoodIn wsX2_cellOf (wsX9_valueAt) := ggX2_cellOf_X9_valueAt
theorem dX2_cellOf_0 : decode cX2_cellOf 0 = .ok (.aload_n 0, 1) := by decide +kernel
theorem dX2_cellOf_1 : decode cX2_cellOf 1 = .ok (.getfield 9, 3) := by decide +kernel
theorem dX2_cellOf_4 : decode cX2_cellOf 4 = .ok (.iload_n 1, 1) := by decide +kernel
theorem dX2_cellOf_5 : decode cX2_cellOf 5 = .ok (.invokestatic 62, 3) := by decide +kernel
theorem dX2_cellOf_8 : decode cX2_cellOf 8 = .ok (.ireturn, 1) := by decide +kernel
set_option maxRecDepth 20000 in
theorem ggX2_islandOn_X9_valueAt : GoodIn wsX2_islandOn wsX9_valueAt := goodIn_r _ [4] (by decide +kernel) (by decide +kernel)
set_option maxRecDepth 20000 in
theorem gX2_islandOn_X9_valueAt_n62 : GoodIn wsX2_islandOn (wsX9_valueAt) := ggX2_islandOn_X9_valueAt
theorem dX2_islandOn_0 : decode cX2_islandOn 0 = .ok (.aload_n 0, 1) := by decide +kernel
theorem dX2_islandOn_1 : decode cX2_islandOn 1 = .ok (.getfield 15, 3) := by decide +kernel
theorem dX2_islandOn_4 : decode cX2_islandOn 4 = .ok (.iload_n 1, 1) := by decide +kernel
theorem dX2_islandOn_5 : decode cX2_islandOn 5 = .ok (.invokestatic 62, 3) := by decide +kernel
theorem dX2_islandOn_8 : decode cX2_islandOn 8 = .ok (.iconst 1, 1) := by decide +kernel
theorem dX2_islandOn_9 : decode cX2_islandOn 9 = .ok (.isub, 1) := by decide +kernel
theorem dX2_islandOn_10 : decode cX2_islandOn 10 = .ok (.ireturn, 1) := by decide +kernel
set_option maxRecDepth 20000 in
theorem ggX2_first_X9_valueAt : GoodIn wsX2_first wsX9_valueAt := goodIn_r _ [4] (by decide +kernel) (by decide +kernel)
set_option maxRecDepth 20000 in
theorem gX2_first_X9_valueAt_n62 : GoodIn wsX2_first (wsX9_valueAt) := ggX2_first_X9_valueAt
theorem dX2_first_0 : decode cX2_first 0 = .ok (.aload_n 0, 1) := by decide +kernel
theorem dX2_first_1 : decode cX2_first 1 = .ok (.getfield 18, 3) := by decide +kernel
theorem dX2_first_4 : decode cX2_first 4 = .ok (.iload_n 1, 1) := by decide +kernel
theorem dX2_first_5 : decode cX2_first 5 = .ok (.invokestatic 62, 3) := by decide +kernel
theorem dX2_first_8 : decode cX2_first 8 = .ok (.ireturn, 1) := by decide +kernel
set_option maxRecDepth 20000 in
theorem ggX2_second_X9_valueAt : GoodIn wsX2_second wsX9_valueAt := goodIn_r _ [4] (by decide +kernel) (by decide +kernel)
set_option maxRecDepth 20000 in
theorem gX2_second_X9_valueAt_n62 : GoodIn wsX2_second (wsX9_valueAt) := ggX2_second_X9_valueAt
theorem dX2_second_0 : decode cX2_second 0 = .ok (.aload_n 0, 1) := by decide +kernel
theorem dX2_second_1 : decode cX2_second 1 = .ok (.getfield 21, 3) := by decide +kernel
theorem dX2_second_4 : decode cX2_second 4 = .ok (.iload_n 1, 1) := by decide +kernel
theorem dX2_second_5 : decode cX2_second 5 = .ok (.invokestatic 62, 3) := by decide +kernel
theorem dX2_second_8 : decode cX2_second 8 = .ok (.ireturn, 1) := by decide +kernel
set_option maxRecDepth 20000 in
theorem ggX2_firstCell_X9_valueAt : GoodIn wsX2_firstCell wsX9_valueAt := goodIn_r _ [4] (by decide +kernel) (by decide +kernel)
set_option maxRecDepth 20000 in
theorem gX2_firstCell_X9_valueAt_n62 : GoodIn wsX2_firstCell (wsX9_valueAt) := ggX2_firstCell_X9_valueAt
theorem dX2_firstCell_0 : decode cX2_firstCell 0 = .ok (.aload_n 0, 1) := by decide +kernel
theorem dX2_firstCell_1 : decode cX2_firstCell 1 = .ok (.getfield 24, 3) := by decide +kernel
theorem dX2_firstCell_4 : decode cX2_firstCell 4 = .ok (.iload_n 1, 1) := by decide +kernel
theorem dX2_firstCell_5 : decode cX2_firstCell 5 = .ok (.invokestatic 62, 3) := by decide +kernel
theorem dX2_firstCell_8 : decode cX2_firstCell 8 = .ok (.ireturn, 1) := by decide +kernel
set_option maxRecDepth 20000 in
theorem ggX2_secondCell_X9_valueAt : GoodIn wsX2_secondCell wsX9_valueAt := goodIn_r _ [4] (by decide +kernel) (by decide +kernel)
set_option maxRecDepth 20000 in
theorem gX2_secondCell_X9_valueAt_n62 : GoodIn wsX2_secondCell (wsX9_valueAt) := ggX2_secondCell_X9_valueAt
theorem dX2_secondCell_0 : decode cX2_secondCell 0 = .ok (.aload_n 0, 1) := by decide +kernel
theorem dX2_secondCell_1 : decode cX2_secondCell 1 = .ok (.getfield 27, 3) := by decide +kernel
theorem dX2_secondCell_4 : decode cX2_secondCell 4 = .ok (.iload_n 1, 1) := by decide +kernel
theorem dX2_secondCell_5 : decode cX2_secondCell 5 = .ok (.invokestatic 62, 3) := by decide +kernel
theorem dX2_secondCell_8 : decode cX2_secondCell 8 = .ok (.ireturn, 1) := by decide +kernel
set_option maxRecDepth 20000 in
theorem ggX2_isAlongRow_X9_valueAt : GoodIn wsX2_isAlongRow wsX9_valueAt := goodIn_r _ [4] (by decide +kernel) (by decide +kernel)
set_option maxRecDepth 20000 in
theorem gX2_isAlongRow_X9_valueAt_n62 : GoodIn wsX2_isAlongRow (wsX9_valueAt) := ggX2_isAlongRow_X9_valueAt
theorem dX2_isAlongRow_0 : decode cX2_isAlongRow 0 = .ok (.aload_n 0, 1) := by decide +kernel
theorem dX2_isAlongRow_1 : decode cX2_isAlongRow 1 = .ok (.getfield 30, 3) := by decide +kernel
theorem dX2_isAlongRow_4 : decode cX2_isAlongRow 4 = .ok (.iload_n 1, 1) := by decide +kernel
theorem dX2_isAlongRow_5 : decode cX2_isAlongRow 5 = .ok (.invokestatic 62, 3) := by decide +kernel
theorem dX2_isAlongRow_8 : decode cX2_isAlongRow 8 = .ok (.iconst 1, 1) := by decide +kernel
theorem dX2_isAlongRow_9 : decode cX2_isAlongRow 9 = .ok (.if_icmp .ne 7, 3) := by decide +kernel
theorem dX2_isAlongRow_12 : decode cX2_isAlongRow 12 = .ok (.iconst 1, 1) := by decide +kernel
theorem dX2_isAlongRow_13 : decode cX2_isAlongRow 13 = .ok (.goto 4, 3) := by decide +kernel
theorem dX2_isAlongRow_16 : decode cX2_isAlongRow 16 = .ok (.iconst 0, 1) := by decide +kernel
theorem dX2_isAlongRow_17 : decode cX2_isAlongRow 17 = .ok (.ireturn, 1) := by decide +kernel
set_option maxRecDepth 20000 in
theorem ggX2_cellsBetween_X9_valueAt : GoodIn wsX2_cellsBetween wsX9_valueAt := goodIn_r _ [4] (by decide +kernel) (by decide +kernel)
set_option maxRecDepth 20000 in
theorem gX2_cellsBetween_X9_valueAt_n62 : GoodIn wsX2_cellsBetween (wsX9_valueAt) := ggX2_cellsBetween_X9_valueAt
set_option maxRecDepth 20000 in
theorem ggX2_cellsBetween_X2_secondCell : GoodIn wsX2_cellsBetween wsX2_secondCell := goodIn_r _ [9, 10, 2, 3, 4, 16, 17, 18, 19, 20, 21, 22, 23, 24, 25, 26] (by decide +kernel) (by decide +kernel)
set_option maxRecDepth 20000 in
theorem gX2_cellsBetween_X2_secondCell : GoodIn wsX2_cellsBetween (wsV RX2 66 RX2 yX2_secondCell wsX2_secondCell) := goodIn_app (goodIn_of _ (by decide +kernel)) ggX2_cellsBetween_X2_secondCell
set_option maxRecDepth 20000 in
theorem ggX2_cellsBetween_X2_firstCell : GoodIn wsX2_cellsBetween wsX2_firstCell := goodIn_r _ [14, 15, 2, 3, 4, 16, 17, 18, 19, 20, 21, 22, 23, 24, 25, 26] (by decide +kernel) (by decide +kernel)
set_option maxRecDepth 20000 in
theorem gX2_cellsBetween_X2_firstCell : GoodIn wsX2_cellsBetween (wsV RX2 70 RX2 yX2_firstCell wsX2_firstCell) := goodIn_app (goodIn_of _ (by decide +kernel)) ggX2_cellsBetween_X2_firstCell
theorem dX2_cellsBetween_0 : decode cX2_cellsBetween 0 = .ok (.aload_n 0, 1) := by decide +kernel
theorem dX2_cellsBetween_1 : decode cX2_cellsBetween 1 = .ok (.getfield 30, 3) := by decide +kernel
theorem dX2_cellsBetween_4 : decode cX2_cellsBetween 4 = .ok (.iload_n 1, 1) := by decide +kernel
theorem dX2_cellsBetween_5 : decode cX2_cellsBetween 5 = .ok (.invokestatic 62, 3) := by decide +kernel
theorem dX2_cellsBetween_8 : decode cX2_cellsBetween 8 = .ok (.istore_n 2, 1) := by decide +kernel
theorem dX2_cellsBetween_9 : decode cX2_cellsBetween 9 = .ok (.iload_n 2, 1) := by decide +kernel
theorem dX2_cellsBetween_10 : decode cX2_cellsBetween 10 = .ok (.ifCond .ne 7, 3) := by decide +kernel
theorem dX2_cellsBetween_13 : decode cX2_cellsBetween 13 = .ok (.iconst 0, 1) := by decide +kernel
theorem dX2_cellsBetween_14 : decode cX2_cellsBetween 14 = .ok (.goto 18, 3) := by decide +kernel
theorem dX2_cellsBetween_17 : decode cX2_cellsBetween 17 = .ok (.aload_n 0, 1) := by decide +kernel
theorem dX2_cellsBetween_18 : decode cX2_cellsBetween 18 = .ok (.iload_n 1, 1) := by decide +kernel
theorem dX2_cellsBetween_19 : decode cX2_cellsBetween 19 = .ok (.invokevirtual 66, 3) := by decide +kernel
theorem dX2_cellsBetween_22 : decode cX2_cellsBetween 22 = .ok (.aload_n 0, 1) := by decide +kernel
theorem dX2_cellsBetween_23 : decode cX2_cellsBetween 23 = .ok (.iload_n 1, 1) := by decide +kernel
theorem dX2_cellsBetween_24 : decode cX2_cellsBetween 24 = .ok (.invokevirtual 70, 3) := by decide +kernel
theorem dX2_cellsBetween_27 : decode cX2_cellsBetween 27 = .ok (.isub, 1) := by decide +kernel
theorem dX2_cellsBetween_28 : decode cX2_cellsBetween 28 = .ok (.iload_n 2, 1) := by decide +kernel
theorem dX2_cellsBetween_29 : decode cX2_cellsBetween 29 = .ok (.idiv, 1) := by decide +kernel
theorem dX2_cellsBetween_30 : decode cX2_cellsBetween 30 = .ok (.iconst 1, 1) := by decide +kernel
theorem dX2_cellsBetween_31 : decode cX2_cellsBetween 31 = .ok (.isub, 1) := by decide +kernel
theorem dX2_cellsBetween_32 : decode cX2_cellsBetween 32 = .ok (.ireturn, 1) := by decide +kernel
set_option maxRecDepth 20000 in
theorem ggX2_isOver_X9_valueAt : GoodIn wsX2_isOver wsX9_valueAt := goodIn_r _ [6] (by decide +kernel) (by decide +kernel)
set_option maxRecDepth 20000 in
theorem gX2_isOver_X9_valueAt_n62 : GoodIn wsX2_isOver (wsX9_valueAt) := ggX2_isOver_X9_valueAt
theorem dX2_isOver_0 : decode cX2_isOver 0 = .ok (.aload_n 0, 1) := by decide +kernel
theorem dX2_isOver_1 : decode cX2_isOver 1 = .ok (.getfield 30, 3) := by decide +kernel
theorem dX2_isOver_4 : decode cX2_isOver 4 = .ok (.iload_n 1, 1) := by decide +kernel
theorem dX2_isOver_5 : decode cX2_isOver 5 = .ok (.invokestatic 62, 3) := by decide +kernel
theorem dX2_isOver_8 : decode cX2_isOver 8 = .ok (.istore_n 3, 1) := by decide +kernel
theorem dX2_isOver_9 : decode cX2_isOver 9 = .ok (.aload_n 0, 1) := by decide +kernel
theorem dX2_isOver_10 : decode cX2_isOver 10 = .ok (.getfield 24, 3) := by decide +kernel
theorem dX2_isOver_13 : decode cX2_isOver 13 = .ok (.iload_n 1, 1) := by decide +kernel
theorem dX2_isOver_14 : decode cX2_isOver 14 = .ok (.invokestatic 62, 3) := by decide +kernel
theorem dX2_isOver_17 : decode cX2_isOver 17 = .ok (.istore 4, 2) := by decide +kernel
theorem dX2_isOver_19 : decode cX2_isOver 19 = .ok (.aload_n 0, 1) := by decide +kernel
theorem dX2_isOver_20 : decode cX2_isOver 20 = .ok (.getfield 27, 3) := by decide +kernel
theorem dX2_isOver_23 : decode cX2_isOver 23 = .ok (.iload_n 1, 1) := by decide +kernel
theorem dX2_isOver_24 : decode cX2_isOver 24 = .ok (.invokestatic 62, 3) := by decide +kernel
theorem dX2_isOver_27 : decode cX2_isOver 27 = .ok (.istore 5, 2) := by decide +kernel
theorem dX2_isOver_29 : decode cX2_isOver 29 = .ok (.iload_n 3, 1) := by decide +kernel
theorem dX2_isOver_30 : decode cX2_isOver 30 = .ok (.ifCond .eq 28, 3) := by decide +kernel
theorem dX2_isOver_33 : decode cX2_isOver 33 = .ok (.iload_n 2, 1) := by decide +kernel
theorem dX2_isOver_34 : decode cX2_isOver 34 = .ok (.iload 4, 2) := by decide +kernel
theorem dX2_isOver_36 : decode cX2_isOver 36 = .ok (.if_icmp .le 22, 3) := by decide +kernel
theorem dX2_isOver_39 : decode cX2_isOver 39 = .ok (.iload_n 2, 1) := by decide +kernel
theorem dX2_isOver_40 : decode cX2_isOver 40 = .ok (.iload 5, 2) := by decide +kernel
theorem dX2_isOver_42 : decode cX2_isOver 42 = .ok (.if_icmp .ge 16, 3) := by decide +kernel
theorem dX2_isOver_45 : decode cX2_isOver 45 = .ok (.iload_n 2, 1) := by decide +kernel
theorem dX2_isOver_46 : decode cX2_isOver 46 = .ok (.iload 4, 2) := by decide +kernel
theorem dX2_isOver_48 : decode cX2_isOver 48 = .ok (.isub, 1) := by decide +kernel
theorem dX2_isOver_49 : decode cX2_isOver 49 = .ok (.iload_n 3, 1) := by decide +kernel
theorem dX2_isOver_50 : decode cX2_isOver 50 = .ok (.irem, 1) := by decide +kernel
theorem dX2_isOver_51 : decode cX2_isOver 51 = .ok (.ifCond .ne 7, 3) := by decide +kernel
theorem dX2_isOver_54 : decode cX2_isOver 54 = .ok (.iconst 1, 1) := by decide +kernel
theorem dX2_isOver_55 : decode cX2_isOver 55 = .ok (.goto 4, 3) := by decide +kernel
theorem dX2_isOver_58 : decode cX2_isOver 58 = .ok (.iconst 0, 1) := by decide +kernel
theorem dX2_isOver_59 : decode cX2_isOver 59 = .ok (.ireturn, 1) := by decide +kernel
theorem dX2_crossingsOf_0 : decode cX2_crossingsOf 0 = .ok (.iload_n 1, 1) := by decide +kernel
theorem dX2_crossingsOf_1 : decode cX2_crossingsOf 1 = .ok (.ifCond .lt 21, 3) := by decide +kernel
theorem dX2_crossingsOf_4 : decode cX2_crossingsOf 4 = .ok (.iload_n 1, 1) := by decide +kernel
theorem dX2_crossingsOf_5 : decode cX2_crossingsOf 5 = .ok (.aload_n 0, 1) := by decide +kernel
theorem dX2_crossingsOf_6 : decode cX2_crossingsOf 6 = .ok (.getfield 36, 3) := by decide +kernel
theorem dX2_crossingsOf_9 : decode cX2_crossingsOf 9 = .ok (.arraylength, 1) := by decide +kernel
theorem dX2_crossingsOf_10 : decode cX2_crossingsOf 10 = .ok (.if_icmp .ge 12, 3) := by decide +kernel
theorem dX2_crossingsOf_13 : decode cX2_crossingsOf 13 = .ok (.aload_n 0, 1) := by decide +kernel
theorem dX2_crossingsOf_14 : decode cX2_crossingsOf 14 = .ok (.getfield 36, 3) := by decide +kernel
theorem dX2_crossingsOf_17 : decode cX2_crossingsOf 17 = .ok (.iload_n 1, 1) := by decide +kernel
theorem dX2_crossingsOf_18 : decode cX2_crossingsOf 18 = .ok (.laload, 1) := by decide +kernel
theorem dX2_crossingsOf_19 : decode cX2_crossingsOf 19 = .ok (.goto 4, 3) := by decide +kernel
theorem dX2_crossingsOf_22 : decode cX2_crossingsOf 22 = .ok (.lconst 0, 1) := by decide +kernel
theorem dX2_crossingsOf_23 : decode cX2_crossingsOf 23 = .ok (.lreturn, 1) := by decide +kernel
set_option maxRecDepth 20000 in
theorem ggX2_waysWith_X9_valueAt : GoodIn wsX2_waysWith wsX9_valueAt := goodIn_r _ [4] (by decide +kernel) (by decide +kernel)
set_option maxRecDepth 20000 in
theorem gX2_waysWith_X9_valueAt_n62 : GoodIn wsX2_waysWith (wsX9_valueAt) := ggX2_waysWith_X9_valueAt
theorem dX2_waysWith_0 : decode cX2_waysWith 0 = .ok (.lconst 0, 1) := by decide +kernel
theorem dX2_waysWith_1 : decode cX2_waysWith 1 = .ok (.lstore_n 2, 1) := by decide +kernel
theorem dX2_waysWith_2 : decode cX2_waysWith 2 = .ok (.iconst 0, 1) := by decide +kernel
theorem dX2_waysWith_3 : decode cX2_waysWith 3 = .ok (.istore 4, 2) := by decide +kernel
theorem dX2_waysWith_5 : decode cX2_waysWith 5 = .ok (.iload 4, 2) := by decide +kernel
theorem dX2_waysWith_7 : decode cX2_waysWith 7 = .ok (.aload_n 0, 1) := by decide +kernel
theorem dX2_waysWith_8 : decode cX2_waysWith 8 = .ok (.getfield 73, 3) := by decide +kernel
theorem dX2_waysWith_11 : decode cX2_waysWith 11 = .ok (.if_icmp .ge 25, 3) := by decide +kernel
theorem dX2_waysWith_14 : decode cX2_waysWith 14 = .ok (.aload_n 1, 1) := by decide +kernel
theorem dX2_waysWith_15 : decode cX2_waysWith 15 = .ok (.iload 4, 2) := by decide +kernel
theorem dX2_waysWith_17 : decode cX2_waysWith 17 = .ok (.invokestatic 62, 3) := by decide +kernel
theorem dX2_waysWith_20 : decode cX2_waysWith 20 = .ok (.ifCond .le 10, 3) := by decide +kernel
theorem dX2_waysWith_23 : decode cX2_waysWith 23 = .ok (.lload_n 2, 1) := by decide +kernel
theorem dX2_waysWith_24 : decode cX2_waysWith 24 = .ok (.lconst 1, 1) := by decide +kernel
theorem dX2_waysWith_25 : decode cX2_waysWith 25 = .ok (.iload 4, 2) := by decide +kernel
theorem dX2_waysWith_27 : decode cX2_waysWith 27 = .ok (.lshl, 1) := by decide +kernel
theorem dX2_waysWith_28 : decode cX2_waysWith 28 = .ok (.lor, 1) := by decide +kernel
theorem dX2_waysWith_29 : decode cX2_waysWith 29 = .ok (.lstore_n 2, 1) := by decide +kernel
theorem dX2_waysWith_30 : decode cX2_waysWith 30 = .ok (.iinc 4 1, 3) := by decide +kernel
theorem dX2_waysWith_33 : decode cX2_waysWith 33 = .ok (.goto (-28), 3) := by decide +kernel
theorem dX2_waysWith_36 : decode cX2_waysWith 36 = .ok (.lload_n 2, 1) := by decide +kernel
theorem dX2_waysWith_37 : decode cX2_waysWith 37 = .ok (.lreturn, 1) := by decide +kernel
set_option maxRecDepth 20000 in
theorem ggX2_readIslands_X6_cells : GoodIn wsX2_readIslands wsX6_cells := goodIn_r _ [10, 11, 12, 29, 30, 31, 32, 33, 34, 35] (by decide +kernel) (by decide +kernel)
set_option maxRecDepth 20000 in
theorem gX2_readIslands_X6_cells : GoodIn wsX2_readIslands (wsV RX2 50 RX6 yX6_cells wsX6_cells) := goodIn_app (goodIn_of _ (by decide +kernel)) ggX2_readIslands_X6_cells
set_option maxRecDepth 20000 in
theorem ggX2_readIslands_X9_valueAt : GoodIn wsX2_readIslands wsX9_valueAt := goodIn_r _ [15] (by decide +kernel) (by decide +kernel)
set_option maxRecDepth 20000 in
theorem gX2_readIslands_X9_valueAt_n62 : GoodIn wsX2_readIslands (wsX9_valueAt) := ggX2_readIslands_X9_valueAt
set_option maxRecDepth 20000 in
theorem ggX2_readIslands_X9_put : GoodIn wsX2_readIslands wsX9_put := goodIn_r _ [17] (by decide +kernel) (by decide +kernel)
set_option maxRecDepth 20000 in
theorem gX2_readIslands_X9_put_n82 : GoodIn wsX2_readIslands (wsX9_put) := ggX2_readIslands_X9_put
theorem dX2_readIslands_0 : decode cX2_readIslands 0 = .ok (.aload_n 0, 1) := by decide +kernel
theorem dX2_readIslands_1 : decode cX2_readIslands 1 = .ok (.iconst 0, 1) := by decide +kernel
theorem dX2_readIslands_2 : decode cX2_readIslands 2 = .ok (.putfield 76, 3) := by decide +kernel
theorem dX2_readIslands_5 : decode cX2_readIslands 5 = .ok (.aload_n 1, 1) := by decide +kernel
theorem dX2_readIslands_6 : decode cX2_readIslands 6 = .ok (.invokevirtual 50, 3) := by decide +kernel
theorem dX2_readIslands_9 : decode cX2_readIslands 9 = .ok (.istore_n 2, 1) := by decide +kernel
theorem dX2_readIslands_10 : decode cX2_readIslands 10 = .ok (.iconst 0, 1) := by decide +kernel
theorem dX2_readIslands_11 : decode cX2_readIslands 11 = .ok (.istore_n 3, 1) := by decide +kernel
theorem dX2_readIslands_12 : decode cX2_readIslands 12 = .ok (.iload_n 3, 1) := by decide +kernel
theorem dX2_readIslands_13 : decode cX2_readIslands 13 = .ok (.sipush 144, 3) := by decide +kernel
theorem dX2_readIslands_16 : decode cX2_readIslands 16 = .ok (.if_icmp .ge 101, 3) := by decide +kernel
theorem dX2_readIslands_19 : decode cX2_readIslands 19 = .ok (.iload_n 3, 1) := by decide +kernel
theorem dX2_readIslands_20 : decode cX2_readIslands 20 = .ok (.iload_n 2, 1) := by decide +kernel
theorem dX2_readIslands_21 : decode cX2_readIslands 21 = .ok (.if_icmp .ge 27, 3) := by decide +kernel
theorem dX2_readIslands_24 : decode cX2_readIslands 24 = .ok (.aload_n 1, 1) := by decide +kernel
theorem dX2_readIslands_25 : decode cX2_readIslands 25 = .ok (.getfield 79, 3) := by decide +kernel
theorem dX2_readIslands_28 : decode cX2_readIslands 28 = .ok (.iload_n 3, 1) := by decide +kernel
theorem dX2_readIslands_29 : decode cX2_readIslands 29 = .ok (.invokestatic 62, 3) := by decide +kernel
theorem dX2_readIslands_32 : decode cX2_readIslands 32 = .ok (.ifCond .le 16, 3) := by decide +kernel
theorem dX2_readIslands_35 : decode cX2_readIslands 35 = .ok (.aload_n 0, 1) := by decide +kernel
theorem dX2_readIslands_36 : decode cX2_readIslands 36 = .ok (.getfield 76, 3) := by decide +kernel
theorem dX2_readIslands_39 : decode cX2_readIslands 39 = .ok (.bipush 24, 2) := by decide +kernel
theorem dX2_readIslands_41 : decode cX2_readIslands 41 = .ok (.if_icmp .ge 7, 3) := by decide +kernel
theorem dX2_readIslands_44 : decode cX2_readIslands 44 = .ok (.iconst 1, 1) := by decide +kernel
theorem dX2_readIslands_45 : decode cX2_readIslands 45 = .ok (.goto 4, 3) := by decide +kernel
theorem dX2_readIslands_48 : decode cX2_readIslands 48 = .ok (.iconst 0, 1) := by decide +kernel
theorem dX2_readIslands_49 : decode cX2_readIslands 49 = .ok (.istore 4, 2) := by decide +kernel
theorem dX2_readIslands_51 : decode cX2_readIslands 51 = .ok (.iload 4, 2) := by decide +kernel
theorem dX2_readIslands_53 : decode cX2_readIslands 53 = .ok (.ifCond .eq 37, 3) := by decide +kernel
theorem dX2_readIslands_56 : decode cX2_readIslands 56 = .ok (.aload_n 0, 1) := by decide +kernel
theorem dX2_readIslands_57 : decode cX2_readIslands 57 = .ok (.getfield 9, 3) := by decide +kernel
theorem dX2_readIslands_60 : decode cX2_readIslands 60 = .ok (.aload_n 0, 1) := by decide +kernel
theorem dX2_readIslands_61 : decode cX2_readIslands 61 = .ok (.getfield 76, 3) := by decide +kernel
theorem dX2_readIslands_64 : decode cX2_readIslands 64 = .ok (.iload_n 3, 1) := by decide +kernel
theorem dX2_readIslands_65 : decode cX2_readIslands 65 = .ok (.invokestatic 82, 3) := by decide +kernel
theorem dX2_readIslands_68 : decode cX2_readIslands 68 = .ok (.aload_n 0, 1) := by decide +kernel
theorem dX2_readIslands_69 : decode cX2_readIslands 69 = .ok (.getfield 33, 3) := by decide +kernel
theorem dX2_readIslands_72 : decode cX2_readIslands 72 = .ok (.aload_n 0, 1) := by decide +kernel
theorem dX2_readIslands_73 : decode cX2_readIslands 73 = .ok (.getfield 76, 3) := by decide +kernel
theorem dX2_readIslands_76 : decode cX2_readIslands 76 = .ok (.iconst 0, 1) := by decide +kernel
theorem dX2_readIslands_77 : decode cX2_readIslands 77 = .ok (.invokestatic 82, 3) := by decide +kernel
theorem dX2_readIslands_80 : decode cX2_readIslands 80 = .ok (.aload_n 0, 1) := by decide +kernel
theorem dX2_readIslands_81 : decode cX2_readIslands 81 = .ok (.dup, 1) := by decide +kernel
theorem dX2_readIslands_82 : decode cX2_readIslands 82 = .ok (.getfield 76, 3) := by decide +kernel
theorem dX2_readIslands_85 : decode cX2_readIslands 85 = .ok (.iconst 1, 1) := by decide +kernel
theorem dX2_readIslands_86 : decode cX2_readIslands 86 = .ok (.iadd, 1) := by decide +kernel
theorem dX2_readIslands_87 : decode cX2_readIslands 87 = .ok (.putfield 76, 3) := by decide +kernel
theorem dX2_readIslands_90 : decode cX2_readIslands 90 = .ok (.aload_n 0, 1) := by decide +kernel
theorem dX2_readIslands_91 : decode cX2_readIslands 91 = .ok (.getfield 15, 3) := by decide +kernel
theorem dX2_readIslands_94 : decode cX2_readIslands 94 = .ok (.iload_n 3, 1) := by decide +kernel
theorem dX2_readIslands_95 : decode cX2_readIslands 95 = .ok (.iload 4, 2) := by decide +kernel
theorem dX2_readIslands_97 : decode cX2_readIslands 97 = .ok (.ifCond .eq 10, 3) := by decide +kernel
theorem dX2_readIslands_100 : decode cX2_readIslands 100 = .ok (.aload_n 0, 1) := by decide +kernel
theorem dX2_readIslands_101 : decode cX2_readIslands 101 = .ok (.getfield 76, 3) := by decide +kernel
theorem dX2_readIslands_104 : decode cX2_readIslands 104 = .ok (.goto 4, 3) := by decide +kernel
theorem dX2_readIslands_107 : decode cX2_readIslands 107 = .ok (.iconst 0, 1) := by decide +kernel
theorem dX2_readIslands_108 : decode cX2_readIslands 108 = .ok (.invokestatic 82, 3) := by decide +kernel
theorem dX2_readIslands_111 : decode cX2_readIslands 111 = .ok (.iinc 3 1, 3) := by decide +kernel
theorem dX2_readIslands_114 : decode cX2_readIslands 114 = .ok (.goto (-102), 3) := by decide +kernel
theorem dX2_readIslands_117 : decode cX2_readIslands 117 = .ok (.return_, 1) := by decide +kernel
set_option maxRecDepth 20000 in
theorem ggX2_readWays_X2_cellOf : GoodIn wsX2_readWays wsX2_cellOf := goodIn_r _ [7, 8, 9, 10, 11, 35, 36, 37, 38, 39, 40, 41, 42, 43, 44, 45] (by decide +kernel) (by decide +kernel)
set_option maxRecDepth 20000 in
theorem gX2_readWays_X2_cellOf : GoodIn wsX2_readWays (wsV RX2 86 RX2 yX2_cellOf wsX2_cellOf) := goodIn_app (goodIn_of _ (by decide +kernel)) ggX2_readWays_X2_cellOf
set_option maxRecDepth 20000 in
theorem ggX2_readWays_X2_nextIsland : GoodIn wsX2_readWays wsX2_nextIsland := goodIn_r _ [15, 16, 17, 18, 6, 19, 20, 9, 10, 11, 35, 36, 37, 38, 39, 40, 41, 42, 43, 44, 45] (by decide +kernel) (by decide +kernel)
set_option maxRecDepth 20000 in
theorem gX2_readWays_X2_nextIsland : GoodIn wsX2_readWays (wsV RX2 88 RX2 yX2_nextIsland wsX2_nextIsland) := goodIn_app (goodIn_of _ (by decide +kernel)) ggX2_readWays_X2_nextIsland
set_option maxRecDepth 20000 in
theorem ggX2_readWays_X2_addWay : GoodIn wsX2_readWays wsX2_addWay := goodIn_r _ [24, 1, 25, 26, 27, 28, 29, 30, 31, 10, 32, 3, 4, 5, 6, 7, 8, 9, 11, 33, 34, 35, 36, 37, 38, 39, 40, 41, 42, 43, 44, 45] (by decide +kernel) (by decide +kernel)
set_option maxRecDepth 20000 in
theorem gX2_readWays_X2_addWay : GoodIn wsX2_readWays (wsV RX2 92 RX2 yX2_addWay wsX2_addWay) := goodIn_app (goodIn_of _ (by decide +kernel)) ggX2_readWays_X2_addWay
theorem dX2_readWays_0 : decode cX2_readWays 0 = .ok (.aload_n 0, 1) := by decide +kernel
theorem dX2_readWays_1 : decode cX2_readWays 1 = .ok (.iconst 0, 1) := by decide +kernel
theorem dX2_readWays_2 : decode cX2_readWays 2 = .ok (.putfield 73, 3) := by decide +kernel
theorem dX2_readWays_5 : decode cX2_readWays 5 = .ok (.iload_n 1, 1) := by decide +kernel
theorem dX2_readWays_6 : decode cX2_readWays 6 = .ok (.ifCond .ne 4, 3) := by decide +kernel
theorem dX2_readWays_9 : decode cX2_readWays 9 = .ok (.return_, 1) := by decide +kernel
theorem dX2_readWays_10 : decode cX2_readWays 10 = .ok (.iconst 0, 1) := by decide +kernel
theorem dX2_readWays_11 : decode cX2_readWays 11 = .ok (.istore_n 3, 1) := by decide +kernel
theorem dX2_readWays_12 : decode cX2_readWays 12 = .ok (.iload_n 3, 1) := by decide +kernel
theorem dX2_readWays_13 : decode cX2_readWays 13 = .ok (.aload_n 0, 1) := by decide +kernel
theorem dX2_readWays_14 : decode cX2_readWays 14 = .ok (.getfield 76, 3) := by decide +kernel
theorem dX2_readWays_17 : decode cX2_readWays 17 = .ok (.if_icmp .ge 52, 3) := by decide +kernel
theorem dX2_readWays_20 : decode cX2_readWays 20 = .ok (.aload_n 0, 1) := by decide +kernel
theorem dX2_readWays_21 : decode cX2_readWays 21 = .ok (.iload_n 3, 1) := by decide +kernel
theorem dX2_readWays_22 : decode cX2_readWays 22 = .ok (.invokevirtual 86, 3) := by decide +kernel
theorem dX2_readWays_25 : decode cX2_readWays 25 = .ok (.istore 4, 2) := by decide +kernel
theorem dX2_readWays_27 : decode cX2_readWays 27 = .ok (.aload_n 0, 1) := by decide +kernel
theorem dX2_readWays_28 : decode cX2_readWays 28 = .ok (.iload_n 3, 1) := by decide +kernel
theorem dX2_readWays_29 : decode cX2_readWays 29 = .ok (.aload_n 0, 1) := by decide +kernel
theorem dX2_readWays_30 : decode cX2_readWays 30 = .ok (.iload 4, 2) := by decide +kernel
theorem dX2_readWays_32 : decode cX2_readWays 32 = .ok (.iconst 1, 1) := by decide +kernel
theorem dX2_readWays_33 : decode cX2_readWays 33 = .ok (.iload 4, 2) := by decide +kernel
theorem dX2_readWays_35 : decode cX2_readWays 35 = .ok (.iload 4, 2) := by decide +kernel
theorem dX2_readWays_37 : decode cX2_readWays 37 = .ok (.iload_n 1, 1) := by decide +kernel
theorem dX2_readWays_38 : decode cX2_readWays 38 = .ok (.irem, 1) := by decide +kernel
theorem dX2_readWays_39 : decode cX2_readWays 39 = .ok (.isub, 1) := by decide +kernel
theorem dX2_readWays_40 : decode cX2_readWays 40 = .ok (.iload_n 1, 1) := by decide +kernel
theorem dX2_readWays_41 : decode cX2_readWays 41 = .ok (.iadd, 1) := by decide +kernel
theorem dX2_readWays_42 : decode cX2_readWays 42 = .ok (.invokevirtual 88, 3) := by decide +kernel
theorem dX2_readWays_45 : decode cX2_readWays 45 = .ok (.iconst 1, 1) := by decide +kernel
theorem dX2_readWays_46 : decode cX2_readWays 46 = .ok (.invokevirtual 92, 3) := by decide +kernel
theorem dX2_readWays_49 : decode cX2_readWays 49 = .ok (.aload_n 0, 1) := by decide +kernel
theorem dX2_readWays_50 : decode cX2_readWays 50 = .ok (.iload_n 3, 1) := by decide +kernel
theorem dX2_readWays_51 : decode cX2_readWays 51 = .ok (.aload_n 0, 1) := by decide +kernel
theorem dX2_readWays_52 : decode cX2_readWays 52 = .ok (.iload 4, 2) := by decide +kernel
theorem dX2_readWays_54 : decode cX2_readWays 54 = .ok (.iload_n 1, 1) := by decide +kernel
theorem dX2_readWays_55 : decode cX2_readWays 55 = .ok (.iload_n 2, 1) := by decide +kernel
theorem dX2_readWays_56 : decode cX2_readWays 56 = .ok (.invokevirtual 88, 3) := by decide +kernel
theorem dX2_readWays_59 : decode cX2_readWays 59 = .ok (.iload_n 1, 1) := by decide +kernel
theorem dX2_readWays_60 : decode cX2_readWays 60 = .ok (.invokevirtual 92, 3) := by decide +kernel
theorem dX2_readWays_63 : decode cX2_readWays 63 = .ok (.iinc 3 1, 3) := by decide +kernel
theorem dX2_readWays_66 : decode cX2_readWays 66 = .ok (.goto (-54), 3) := by decide +kernel
theorem dX2_readWays_69 : decode cX2_readWays 69 = .ok (.return_, 1) := by decide +kernel
set_option maxRecDepth 20000 in
theorem ggX2_nextIsland_X2_islandOn : GoodIn wsX2_nextIsland wsX2_islandOn := goodIn_r _ [5, 6, 7, 8, 9, 10, 11, 12, 13, 14, 15, 16, 17, 18, 19, 20] (by decide +kernel) (by decide +kernel)
set_option maxRecDepth 20000 in
theorem gX2_nextIsland_X2_islandOn : GoodIn wsX2_nextIsland (wsV RX2 96 RX2 yX2_islandOn wsX2_islandOn) := goodIn_app (goodIn_of _ (by decide +kernel)) ggX2_nextIsland_X2_islandOn
theorem dX2_nextIsland_0 : decode cX2_nextIsland 0 = .ok (.iconst 1, 1) := by decide +kernel
theorem dX2_nextIsland_1 : decode cX2_nextIsland 1 = .ok (.istore 4, 2) := by decide +kernel
theorem dX2_nextIsland_3 : decode cX2_nextIsland 3 = .ok (.iload 4, 2) := by decide +kernel
theorem dX2_nextIsland_5 : decode cX2_nextIsland 5 = .ok (.bipush 12, 2) := by decide +kernel
theorem dX2_nextIsland_7 : decode cX2_nextIsland 7 = .ok (.if_icmp .ge 42, 3) := by decide +kernel
theorem dX2_nextIsland_10 : decode cX2_nextIsland 10 = .ok (.iload_n 1, 1) := by decide +kernel
theorem dX2_nextIsland_11 : decode cX2_nextIsland 11 = .ok (.iload 4, 2) := by decide +kernel
theorem dX2_nextIsland_13 : decode cX2_nextIsland 13 = .ok (.iload_n 2, 1) := by decide +kernel
theorem dX2_nextIsland_14 : decode cX2_nextIsland 14 = .ok (.imul, 1) := by decide +kernel
theorem dX2_nextIsland_15 : decode cX2_nextIsland 15 = .ok (.iadd, 1) := by decide +kernel
theorem dX2_nextIsland_16 : decode cX2_nextIsland 16 = .ok (.istore 5, 2) := by decide +kernel
theorem dX2_nextIsland_18 : decode cX2_nextIsland 18 = .ok (.iload 5, 2) := by decide +kernel
theorem dX2_nextIsland_20 : decode cX2_nextIsland 20 = .ok (.iload_n 3, 1) := by decide +kernel
theorem dX2_nextIsland_21 : decode cX2_nextIsland 21 = .ok (.if_icmp .lt 5, 3) := by decide +kernel
theorem dX2_nextIsland_24 : decode cX2_nextIsland 24 = .ok (.iconst (-1), 1) := by decide +kernel
theorem dX2_nextIsland_25 : decode cX2_nextIsland 25 = .ok (.ireturn, 1) := by decide +kernel
theorem dX2_nextIsland_26 : decode cX2_nextIsland 26 = .ok (.aload_n 0, 1) := by decide +kernel
theorem dX2_nextIsland_27 : decode cX2_nextIsland 27 = .ok (.iload 5, 2) := by decide +kernel
theorem dX2_nextIsland_29 : decode cX2_nextIsland 29 = .ok (.invokevirtual 96, 3) := by decide +kernel
theorem dX2_nextIsland_32 : decode cX2_nextIsland 32 = .ok (.iconst (-1), 1) := by decide +kernel
theorem dX2_nextIsland_33 : decode cX2_nextIsland 33 = .ok (.if_icmp .eq 10, 3) := by decide +kernel
theorem dX2_nextIsland_36 : decode cX2_nextIsland 36 = .ok (.aload_n 0, 1) := by decide +kernel
theorem dX2_nextIsland_37 : decode cX2_nextIsland 37 = .ok (.iload 5, 2) := by decide +kernel
theorem dX2_nextIsland_39 : decode cX2_nextIsland 39 = .ok (.invokevirtual 96, 3) := by decide +kernel
theorem dX2_nextIsland_42 : decode cX2_nextIsland 42 = .ok (.ireturn, 1) := by decide +kernel
theorem dX2_nextIsland_43 : decode cX2_nextIsland 43 = .ok (.iinc 4 1, 3) := by decide +kernel
theorem dX2_nextIsland_46 : decode cX2_nextIsland 46 = .ok (.goto (-43), 3) := by decide +kernel
theorem dX2_nextIsland_49 : decode cX2_nextIsland 49 = .ok (.iconst (-1), 1) := by decide +kernel
theorem dX2_nextIsland_50 : decode cX2_nextIsland 50 = .ok (.ireturn, 1) := by decide +kernel
set_option maxRecDepth 20000 in
theorem ggX2_addWay_X9_put : GoodIn wsX2_addWay wsX9_put := goodIn_r _ [10] (by decide +kernel) (by decide +kernel)
set_option maxRecDepth 20000 in
theorem gX2_addWay_X9_put_n82 : GoodIn wsX2_addWay (wsX9_put) := ggX2_addWay_X9_put
set_option maxRecDepth 20000 in
theorem ggX2_addWay_X2_cellOf : GoodIn wsX2_addWay wsX2_cellOf := goodIn_r _ [15, 16, 17, 9, 18, 21, 22, 23, 24, 25, 26, 27, 28, 29, 30, 31] (by decide +kernel) (by decide +kernel)
set_option maxRecDepth 20000 in
theorem gX2_addWay_X2_cellOf : GoodIn wsX2_addWay (wsV RX2 86 RX2 yX2_cellOf wsX2_cellOf) := goodIn_app (goodIn_of _ (by decide +kernel)) ggX2_addWay_X2_cellOf
set_option maxRecDepth 20000 in
theorem ggX2_addWay_X9_add : GoodIn wsX2_addWay wsX9_add := goodIn_r _ [20] (by decide +kernel) (by decide +kernel)
set_option maxRecDepth 20000 in
theorem gX2_addWay_X9_add_n99 : GoodIn wsX2_addWay (wsX9_add) := ggX2_addWay_X9_add
theorem dX2_addWay_0 : decode cX2_addWay 0 = .ok (.iload_n 2, 1) := by decide +kernel
theorem dX2_addWay_1 : decode cX2_addWay 1 = .ok (.iconst (-1), 1) := by decide +kernel
theorem dX2_addWay_2 : decode cX2_addWay 2 = .ok (.if_icmp .eq 12, 3) := by decide +kernel
theorem dX2_addWay_5 : decode cX2_addWay 5 = .ok (.aload_n 0, 1) := by decide +kernel
theorem dX2_addWay_6 : decode cX2_addWay 6 = .ok (.getfield 73, 3) := by decide +kernel
theorem dX2_addWay_9 : decode cX2_addWay 9 = .ok (.bipush 48, 2) := by decide +kernel
theorem dX2_addWay_11 : decode cX2_addWay 11 = .ok (.if_icmp .lt 4, 3) := by decide +kernel
theorem dX2_addWay_14 : decode cX2_addWay 14 = .ok (.return_, 1) := by decide +kernel
theorem dX2_addWay_15 : decode cX2_addWay 15 = .ok (.aload_n 0, 1) := by decide +kernel
theorem dX2_addWay_16 : decode cX2_addWay 16 = .ok (.getfield 18, 3) := by decide +kernel
theorem dX2_addWay_19 : decode cX2_addWay 19 = .ok (.aload_n 0, 1) := by decide +kernel
theorem dX2_addWay_20 : decode cX2_addWay 20 = .ok (.getfield 73, 3) := by decide +kernel
theorem dX2_addWay_23 : decode cX2_addWay 23 = .ok (.iload_n 1, 1) := by decide +kernel
theorem dX2_addWay_24 : decode cX2_addWay 24 = .ok (.invokestatic 82, 3) := by decide +kernel
theorem dX2_addWay_27 : decode cX2_addWay 27 = .ok (.aload_n 0, 1) := by decide +kernel
theorem dX2_addWay_28 : decode cX2_addWay 28 = .ok (.getfield 21, 3) := by decide +kernel
theorem dX2_addWay_31 : decode cX2_addWay 31 = .ok (.aload_n 0, 1) := by decide +kernel
theorem dX2_addWay_32 : decode cX2_addWay 32 = .ok (.getfield 73, 3) := by decide +kernel
theorem dX2_addWay_35 : decode cX2_addWay 35 = .ok (.iload_n 2, 1) := by decide +kernel
theorem dX2_addWay_36 : decode cX2_addWay 36 = .ok (.invokestatic 82, 3) := by decide +kernel
theorem dX2_addWay_39 : decode cX2_addWay 39 = .ok (.aload_n 0, 1) := by decide +kernel
theorem dX2_addWay_40 : decode cX2_addWay 40 = .ok (.getfield 24, 3) := by decide +kernel
theorem dX2_addWay_43 : decode cX2_addWay 43 = .ok (.aload_n 0, 1) := by decide +kernel
theorem dX2_addWay_44 : decode cX2_addWay 44 = .ok (.getfield 73, 3) := by decide +kernel
theorem dX2_addWay_47 : decode cX2_addWay 47 = .ok (.aload_n 0, 1) := by decide +kernel
theorem dX2_addWay_48 : decode cX2_addWay 48 = .ok (.iload_n 1, 1) := by decide +kernel
theorem dX2_addWay_49 : decode cX2_addWay 49 = .ok (.invokevirtual 86, 3) := by decide +kernel
theorem dX2_addWay_52 : decode cX2_addWay 52 = .ok (.invokestatic 82, 3) := by decide +kernel
theorem dX2_addWay_55 : decode cX2_addWay 55 = .ok (.aload_n 0, 1) := by decide +kernel
theorem dX2_addWay_56 : decode cX2_addWay 56 = .ok (.getfield 27, 3) := by decide +kernel
theorem dX2_addWay_59 : decode cX2_addWay 59 = .ok (.aload_n 0, 1) := by decide +kernel
theorem dX2_addWay_60 : decode cX2_addWay 60 = .ok (.getfield 73, 3) := by decide +kernel
theorem dX2_addWay_63 : decode cX2_addWay 63 = .ok (.aload_n 0, 1) := by decide +kernel
theorem dX2_addWay_64 : decode cX2_addWay 64 = .ok (.iload_n 2, 1) := by decide +kernel
theorem dX2_addWay_65 : decode cX2_addWay 65 = .ok (.invokevirtual 86, 3) := by decide +kernel
theorem dX2_addWay_68 : decode cX2_addWay 68 = .ok (.invokestatic 82, 3) := by decide +kernel
theorem dX2_addWay_71 : decode cX2_addWay 71 = .ok (.aload_n 0, 1) := by decide +kernel
theorem dX2_addWay_72 : decode cX2_addWay 72 = .ok (.getfield 30, 3) := by decide +kernel
theorem dX2_addWay_75 : decode cX2_addWay 75 = .ok (.aload_n 0, 1) := by decide +kernel
theorem dX2_addWay_76 : decode cX2_addWay 76 = .ok (.getfield 73, 3) := by decide +kernel
theorem dX2_addWay_79 : decode cX2_addWay 79 = .ok (.iload_n 3, 1) := by decide +kernel
theorem dX2_addWay_80 : decode cX2_addWay 80 = .ok (.invokestatic 82, 3) := by decide +kernel
theorem dX2_addWay_83 : decode cX2_addWay 83 = .ok (.aload_n 0, 1) := by decide +kernel
theorem dX2_addWay_84 : decode cX2_addWay 84 = .ok (.getfield 33, 3) := by decide +kernel
theorem dX2_addWay_87 : decode cX2_addWay 87 = .ok (.iload_n 1, 1) := by decide +kernel
theorem dX2_addWay_88 : decode cX2_addWay 88 = .ok (.iconst 1, 1) := by decide +kernel
theorem dX2_addWay_89 : decode cX2_addWay 89 = .ok (.invokestatic 99, 3) := by decide +kernel
theorem dX2_addWay_92 : decode cX2_addWay 92 = .ok (.aload_n 0, 1) := by decide +kernel
theorem dX2_addWay_93 : decode cX2_addWay 93 = .ok (.getfield 33, 3) := by decide +kernel
theorem dX2_addWay_96 : decode cX2_addWay 96 = .ok (.iload_n 2, 1) := by decide +kernel
theorem dX2_addWay_97 : decode cX2_addWay 97 = .ok (.iconst 1, 1) := by decide +kernel
theorem dX2_addWay_98 : decode cX2_addWay 98 = .ok (.invokestatic 99, 3) := by decide +kernel
theorem dX2_addWay_101 : decode cX2_addWay 101 = .ok (.aload_n 0, 1) := by decide +kernel
theorem dX2_addWay_102 : decode cX2_addWay 102 = .ok (.dup, 1) := by decide +kernel
theorem dX2_addWay_103 : decode cX2_addWay 103 = .ok (.getfield 73, 3) := by decide +kernel
theorem dX2_addWay_106 : decode cX2_addWay 106 = .ok (.iconst 1, 1) := by decide +kernel
theorem dX2_addWay_107 : decode cX2_addWay 107 = .ok (.iadd, 1) := by decide +kernel
theorem dX2_addWay_108 : decode cX2_addWay 108 = .ok (.putfield 73, 3) := by decide +kernel
theorem dX2_addWay_111 : decode cX2_addWay 111 = .ok (.return_, 1) := by decide +kernel
set_option maxRecDepth 20000 in
theorem ggX2_readCrossings_X2_doCross : GoodIn wsX2_readCrossings wsX2_doCross := goodIn_r _ [7, 8, 9, 10, 6, 11, 12, 13, 14, 15, 16, 17, 18, 19, 20, 21, 22, 23, 24, 25, 26, 27, 28, 29, 30, 31, 32, 33, 34, 35, 36] (by decide +kernel) (by decide +kernel)
set_option maxRecDepth 20000 in
theorem gX2_readCrossings_X2_doCross : GoodIn wsX2_readCrossings (wsV RX2 102 RX2 yX2_doCross wsX2_doCross) := goodIn_app (goodIn_of _ (by decide +kernel)) ggX2_readCrossings_X2_doCross
theorem dX2_readCrossings_0 : decode cX2_readCrossings 0 = .ok (.iconst 0, 1) := by decide +kernel
theorem dX2_readCrossings_1 : decode cX2_readCrossings 1 = .ok (.istore_n 2, 1) := by decide +kernel
theorem dX2_readCrossings_2 : decode cX2_readCrossings 2 = .ok (.iload_n 2, 1) := by decide +kernel
theorem dX2_readCrossings_3 : decode cX2_readCrossings 3 = .ok (.aload_n 0, 1) := by decide +kernel
theorem dX2_readCrossings_4 : decode cX2_readCrossings 4 = .ok (.getfield 73, 3) := by decide +kernel
theorem dX2_readCrossings_7 : decode cX2_readCrossings 7 = .ok (.if_icmp .ge 63, 3) := by decide +kernel
theorem dX2_readCrossings_10 : decode cX2_readCrossings 10 = .ok (.iload_n 2, 1) := by decide +kernel
theorem dX2_readCrossings_11 : decode cX2_readCrossings 11 = .ok (.aload_n 0, 1) := by decide +kernel
theorem dX2_readCrossings_12 : decode cX2_readCrossings 12 = .ok (.getfield 36, 3) := by decide +kernel
theorem dX2_readCrossings_15 : decode cX2_readCrossings 15 = .ok (.arraylength, 1) := by decide +kernel
theorem dX2_readCrossings_16 : decode cX2_readCrossings 16 = .ok (.if_icmp .ge 54, 3) := by decide +kernel
theorem dX2_readCrossings_19 : decode cX2_readCrossings 19 = .ok (.lconst 0, 1) := by decide +kernel
theorem dX2_readCrossings_20 : decode cX2_readCrossings 20 = .ok (.lstore_n 3, 1) := by decide +kernel
theorem dX2_readCrossings_21 : decode cX2_readCrossings 21 = .ok (.iconst 0, 1) := by decide +kernel
theorem dX2_readCrossings_22 : decode cX2_readCrossings 22 = .ok (.istore 5, 2) := by decide +kernel
theorem dX2_readCrossings_24 : decode cX2_readCrossings 24 = .ok (.iload 5, 2) := by decide +kernel
theorem dX2_readCrossings_26 : decode cX2_readCrossings 26 = .ok (.aload_n 0, 1) := by decide +kernel
theorem dX2_readCrossings_27 : decode cX2_readCrossings 27 = .ok (.getfield 73, 3) := by decide +kernel
theorem dX2_readCrossings_30 : decode cX2_readCrossings 30 = .ok (.if_icmp .ge 27, 3) := by decide +kernel
theorem dX2_readCrossings_33 : decode cX2_readCrossings 33 = .ok (.aload_n 0, 1) := by decide +kernel
theorem dX2_readCrossings_34 : decode cX2_readCrossings 34 = .ok (.iload_n 2, 1) := by decide +kernel
theorem dX2_readCrossings_35 : decode cX2_readCrossings 35 = .ok (.iload 5, 2) := by decide +kernel
theorem dX2_readCrossings_37 : decode cX2_readCrossings 37 = .ok (.iload_n 1, 1) := by decide +kernel
theorem dX2_readCrossings_38 : decode cX2_readCrossings 38 = .ok (.invokevirtual 102, 3) := by decide +kernel
theorem dX2_readCrossings_41 : decode cX2_readCrossings 41 = .ok (.ifCond .eq 10, 3) := by decide +kernel
theorem dX2_readCrossings_44 : decode cX2_readCrossings 44 = .ok (.lload_n 3, 1) := by decide +kernel
theorem dX2_readCrossings_45 : decode cX2_readCrossings 45 = .ok (.lconst 1, 1) := by decide +kernel
theorem dX2_readCrossings_46 : decode cX2_readCrossings 46 = .ok (.iload 5, 2) := by decide +kernel
theorem dX2_readCrossings_48 : decode cX2_readCrossings 48 = .ok (.lshl, 1) := by decide +kernel
theorem dX2_readCrossings_49 : decode cX2_readCrossings 49 = .ok (.lor, 1) := by decide +kernel
theorem dX2_readCrossings_50 : decode cX2_readCrossings 50 = .ok (.lstore_n 3, 1) := by decide +kernel
theorem dX2_readCrossings_51 : decode cX2_readCrossings 51 = .ok (.iinc 5 1, 3) := by decide +kernel
theorem dX2_readCrossings_54 : decode cX2_readCrossings 54 = .ok (.goto (-30), 3) := by decide +kernel
theorem dX2_readCrossings_57 : decode cX2_readCrossings 57 = .ok (.aload_n 0, 1) := by decide +kernel
theorem dX2_readCrossings_58 : decode cX2_readCrossings 58 = .ok (.getfield 36, 3) := by decide +kernel
theorem dX2_readCrossings_61 : decode cX2_readCrossings 61 = .ok (.iload_n 2, 1) := by decide +kernel
theorem dX2_readCrossings_62 : decode cX2_readCrossings 62 = .ok (.lload_n 3, 1) := by decide +kernel
theorem dX2_readCrossings_63 : decode cX2_readCrossings 63 = .ok (.lastore, 1) := by decide +kernel
theorem dX2_readCrossings_64 : decode cX2_readCrossings 64 = .ok (.iinc 2 1, 3) := by decide +kernel
theorem dX2_readCrossings_67 : decode cX2_readCrossings 67 = .ok (.goto (-65), 3) := by decide +kernel
theorem dX2_readCrossings_70 : decode cX2_readCrossings 70 = .ok (.return_, 1) := by decide +kernel
set_option maxRecDepth 20000 in
theorem ggX2_doCross_X2_isAlongRow : GoodIn wsX2_doCross wsX2_isAlongRow := goodIn_r _ [5, 6, 7, 8, 9, 20, 21, 22, 23, 24, 25, 26, 27, 28, 29, 30] (by decide +kernel) (by decide +kernel)
set_option maxRecDepth 20000 in
theorem gX2_doCross_X2_isAlongRow : GoodIn wsX2_doCross (wsV RX2 106 RX2 yX2_isAlongRow wsX2_isAlongRow) := goodIn_app (goodIn_of _ (by decide +kernel)) ggX2_doCross_X2_isAlongRow
set_option maxRecDepth 20000 in
theorem ggX2_doCross_X2_firstCell : GoodIn wsX2_doCross wsX2_firstCell := goodIn_r _ [13, 14, 7, 8, 9, 20, 21, 22, 23, 24, 25, 26, 27, 28, 29, 30] (by decide +kernel) (by decide +kernel)
set_option maxRecDepth 20000 in
theorem gX2_doCross_X2_firstCell : GoodIn wsX2_doCross (wsV RX2 70 RX2 yX2_firstCell wsX2_firstCell) := goodIn_app (goodIn_of _ (by decide +kernel)) ggX2_doCross_X2_firstCell
set_option maxRecDepth 20000 in
theorem ggX2_doCross_X2_isOver : GoodIn wsX2_doCross wsX2_isOver := goodIn_r _ [18, 6, 14, 19, 7, 8, 9, 20, 21, 22, 23, 24, 25, 26, 27, 28, 29, 30] (by decide +kernel) (by decide +kernel)
set_option maxRecDepth 20000 in
theorem gX2_doCross_X2_isOver : GoodIn wsX2_doCross (wsV RX2 110 RX2 yX2_isOver wsX2_isOver) := goodIn_app (goodIn_of _ (by decide +kernel)) ggX2_doCross_X2_isOver
theorem dX2_doCross_0 : decode cX2_doCross 0 = .ok (.aload_n 0, 1) := by decide +kernel
theorem dX2_doCross_1 : decode cX2_doCross 1 = .ok (.iload_n 1, 1) := by decide +kernel
theorem dX2_doCross_2 : decode cX2_doCross 2 = .ok (.invokevirtual 106, 3) := by decide +kernel
theorem dX2_doCross_5 : decode cX2_doCross 5 = .ok (.aload_n 0, 1) := by decide +kernel
theorem dX2_doCross_6 : decode cX2_doCross 6 = .ok (.iload_n 2, 1) := by decide +kernel
theorem dX2_doCross_7 : decode cX2_doCross 7 = .ok (.invokevirtual 106, 3) := by decide +kernel
theorem dX2_doCross_10 : decode cX2_doCross 10 = .ok (.if_icmp .eq 7, 3) := by decide +kernel
theorem dX2_doCross_13 : decode cX2_doCross 13 = .ok (.iload_n 3, 1) := by decide +kernel
theorem dX2_doCross_14 : decode cX2_doCross 14 = .ok (.ifCond .ne 5, 3) := by decide +kernel
theorem dX2_doCross_17 : decode cX2_doCross 17 = .ok (.iconst 0, 1) := by decide +kernel
theorem dX2_doCross_18 : decode cX2_doCross 18 = .ok (.ireturn, 1) := by decide +kernel
theorem dX2_doCross_19 : decode cX2_doCross 19 = .ok (.aload_n 0, 1) := by decide +kernel
theorem dX2_doCross_20 : decode cX2_doCross 20 = .ok (.aload_n 0, 1) := by decide +kernel
theorem dX2_doCross_21 : decode cX2_doCross 21 = .ok (.iload_n 1, 1) := by decide +kernel
theorem dX2_doCross_22 : decode cX2_doCross 22 = .ok (.invokevirtual 106, 3) := by decide +kernel
theorem dX2_doCross_25 : decode cX2_doCross 25 = .ok (.ifCond .eq 7, 3) := by decide +kernel
theorem dX2_doCross_28 : decode cX2_doCross 28 = .ok (.iload_n 1, 1) := by decide +kernel
theorem dX2_doCross_29 : decode cX2_doCross 29 = .ok (.goto 4, 3) := by decide +kernel
theorem dX2_doCross_32 : decode cX2_doCross 32 = .ok (.iload_n 2, 1) := by decide +kernel
theorem dX2_doCross_33 : decode cX2_doCross 33 = .ok (.invokevirtual 70, 3) := by decide +kernel
theorem dX2_doCross_36 : decode cX2_doCross 36 = .ok (.istore 4, 2) := by decide +kernel
theorem dX2_doCross_38 : decode cX2_doCross 38 = .ok (.aload_n 0, 1) := by decide +kernel
theorem dX2_doCross_39 : decode cX2_doCross 39 = .ok (.aload_n 0, 1) := by decide +kernel
theorem dX2_doCross_40 : decode cX2_doCross 40 = .ok (.iload_n 1, 1) := by decide +kernel
theorem dX2_doCross_41 : decode cX2_doCross 41 = .ok (.invokevirtual 106, 3) := by decide +kernel
theorem dX2_doCross_44 : decode cX2_doCross 44 = .ok (.ifCond .eq 7, 3) := by decide +kernel
theorem dX2_doCross_47 : decode cX2_doCross 47 = .ok (.iload_n 2, 1) := by decide +kernel
theorem dX2_doCross_48 : decode cX2_doCross 48 = .ok (.goto 4, 3) := by decide +kernel
theorem dX2_doCross_51 : decode cX2_doCross 51 = .ok (.iload_n 1, 1) := by decide +kernel
theorem dX2_doCross_52 : decode cX2_doCross 52 = .ok (.invokevirtual 70, 3) := by decide +kernel
theorem dX2_doCross_55 : decode cX2_doCross 55 = .ok (.istore 5, 2) := by decide +kernel
theorem dX2_doCross_57 : decode cX2_doCross 57 = .ok (.iload 4, 2) := by decide +kernel
theorem dX2_doCross_59 : decode cX2_doCross 59 = .ok (.iload 4, 2) := by decide +kernel
theorem dX2_doCross_61 : decode cX2_doCross 61 = .ok (.iload_n 3, 1) := by decide +kernel
theorem dX2_doCross_62 : decode cX2_doCross 62 = .ok (.irem, 1) := by decide +kernel
theorem dX2_doCross_63 : decode cX2_doCross 63 = .ok (.isub, 1) := by decide +kernel
theorem dX2_doCross_64 : decode cX2_doCross 64 = .ok (.iload 5, 2) := by decide +kernel
theorem dX2_doCross_66 : decode cX2_doCross 66 = .ok (.iload_n 3, 1) := by decide +kernel
theorem dX2_doCross_67 : decode cX2_doCross 67 = .ok (.irem, 1) := by decide +kernel
theorem dX2_doCross_68 : decode cX2_doCross 68 = .ok (.iadd, 1) := by decide +kernel
theorem dX2_doCross_69 : decode cX2_doCross 69 = .ok (.istore 6, 2) := by decide +kernel
theorem dX2_doCross_71 : decode cX2_doCross 71 = .ok (.aload_n 0, 1) := by decide +kernel
theorem dX2_doCross_72 : decode cX2_doCross 72 = .ok (.iload_n 1, 1) := by decide +kernel
theorem dX2_doCross_73 : decode cX2_doCross 73 = .ok (.iload 6, 2) := by decide +kernel
theorem dX2_doCross_75 : decode cX2_doCross 75 = .ok (.invokevirtual 110, 3) := by decide +kernel
theorem dX2_doCross_78 : decode cX2_doCross 78 = .ok (.ifCond .eq 17, 3) := by decide +kernel
theorem dX2_doCross_81 : decode cX2_doCross 81 = .ok (.aload_n 0, 1) := by decide +kernel
theorem dX2_doCross_82 : decode cX2_doCross 82 = .ok (.iload_n 2, 1) := by decide +kernel
theorem dX2_doCross_83 : decode cX2_doCross 83 = .ok (.iload 6, 2) := by decide +kernel
theorem dX2_doCross_85 : decode cX2_doCross 85 = .ok (.invokevirtual 110, 3) := by decide +kernel
theorem dX2_doCross_88 : decode cX2_doCross 88 = .ok (.ifCond .eq 7, 3) := by decide +kernel
theorem dX2_doCross_91 : decode cX2_doCross 91 = .ok (.iconst 1, 1) := by decide +kernel
theorem dX2_doCross_92 : decode cX2_doCross 92 = .ok (.goto 4, 3) := by decide +kernel
theorem dX2_doCross_95 : decode cX2_doCross 95 = .ok (.iconst 0, 1) := by decide +kernel
theorem dX2_doCross_96 : decode cX2_doCross 96 = .ok (.ireturn, 1) := by decide +kernel
theorem dX3_init_0 : decode cX3_init 0 = .ok (.aload_n 0, 1) := by decide +kernel
theorem dX3_init_1 : decode cX3_init 1 = .ok (.invokespecial 3, 3) := by decide +kernel
theorem dX3_init_4 : decode cX3_init 4 = .ok (.aload_n 0, 1) := by decide +kernel
theorem dX3_init_5 : decode cX3_init 5 = .ok (.sipush 144, 3) := by decide +kernel
theorem dX3_init_8 : decode cX3_init 8 = .ok (.newarray .int, 2) := by decide +kernel
theorem dX3_init_10 : decode cX3_init 10 = .ok (.putfield 9, 3) := by decide +kernel
theorem dX3_init_13 : decode cX3_init 13 = .ok (.aload_n 0, 1) := by decide +kernel
theorem dX3_init_14 : decode cX3_init 14 = .ok (.sipush 144, 3) := by decide +kernel
theorem dX3_init_17 : decode cX3_init 17 = .ok (.newarray .int, 2) := by decide +kernel
theorem dX3_init_19 : decode cX3_init 19 = .ok (.putfield 15, 3) := by decide +kernel
theorem dX3_init_22 : decode cX3_init 22 = .ok (.aload_n 0, 1) := by decide +kernel
theorem dX3_init_23 : decode cX3_init 23 = .ok (.bipush 24, 2) := by decide +kernel
theorem dX3_init_25 : decode cX3_init 25 = .ok (.newarray .int, 2) := by decide +kernel
theorem dX3_init_27 : decode cX3_init 27 = .ok (.putfield 18, 3) := by decide +kernel
theorem dX3_init_30 : decode cX3_init 30 = .ok (.return_, 1) := by decide +kernel
set_option maxRecDepth 20000 in
theorem ggX3_run_X9_put : GoodIn wsX3_run wsX9_put := goodIn_r _ [9] (by decide +kernel) (by decide +kernel)
set_option maxRecDepth 20000 in
theorem gX3_run_X9_put_n34 : GoodIn wsX3_run (wsX9_put) := ggX3_run_X9_put
set_option maxRecDepth 20000 in
theorem ggX3_run_X3_draw : GoodIn wsX3_run wsX3_draw := goodIn_r _ [14, 4, 15, 33, 34, 35, 36, 37, 38, 39] (by decide +kernel) (by decide +kernel)
set_option maxRecDepth 20000 in
theorem gX3_run_X3_draw : GoodIn wsX3_run (wsV RX3 38 RX3 yX3_draw wsX3_draw) := goodIn_app (goodIn_of _ (by decide +kernel)) ggX3_run_X3_draw
set_option maxRecDepth 20000 in
theorem ggX3_run_X3_addIsland : GoodIn wsX3_run wsX3_addIsland := goodIn_r _ [19, 3, 20, 5, 21, 8, 22, 7, 9, 33, 34, 35, 36, 37, 38, 39] (by decide +kernel) (by decide +kernel)
set_option maxRecDepth 20000 in
theorem gX3_run_X3_addIsland : GoodIn wsX3_run (wsV RX3 42 RX3 yX3_addIsland wsX3_addIsland) := goodIn_app (goodIn_of _ (by decide +kernel)) ggX3_run_X3_addIsland
set_option maxRecDepth 20000 in
theorem ggX3_run_X3_tryIsland : GoodIn wsX3_run wsX3_tryIsland := goodIn_r _ [26, 20, 3, 1, 5, 6, 10, 11, 12, 13, 14, 4, 15, 21, 8, 22, 27, 28, 29, 30, 2, 7, 9, 16, 17, 18, 19, 31, 32, 33, 34, 35, 36, 37, 38, 39] (by decide +kernel) (by decide +kernel)
set_option maxRecDepth 20000 in
theorem gX3_run_X3_tryIsland : GoodIn wsX3_run (wsV RX3 46 RX3 yX3_tryIsland wsX3_tryIsland) := goodIn_app (goodIn_of _ (by decide +kernel)) ggX3_run_X3_tryIsland
theorem dX3_run_0 : decode cX3_run 0 = .ok (.aload_n 0, 1) := by decide +kernel
theorem dX3_run_1 : decode cX3_run 1 = .ok (.iload_n 1, 1) := by decide +kernel
theorem dX3_run_2 : decode cX3_run 2 = .ok (.putfield 21, 3) := by decide +kernel
theorem dX3_run_5 : decode cX3_run 5 = .ok (.aload_n 0, 1) := by decide +kernel
theorem dX3_run_6 : decode cX3_run 6 = .ok (.iload_n 2, 1) := by decide +kernel
theorem dX3_run_7 : decode cX3_run 7 = .ok (.putfield 25, 3) := by decide +kernel
theorem dX3_run_10 : decode cX3_run 10 = .ok (.aload_n 0, 1) := by decide +kernel
theorem dX3_run_11 : decode cX3_run 11 = .ok (.iconst 0, 1) := by decide +kernel
theorem dX3_run_12 : decode cX3_run 12 = .ok (.putfield 28, 3) := by decide +kernel
theorem dX3_run_15 : decode cX3_run 15 = .ok (.aload_n 0, 1) := by decide +kernel
theorem dX3_run_16 : decode cX3_run 16 = .ok (.iload_n 3, 1) := by decide +kernel
theorem dX3_run_17 : decode cX3_run 17 = .ok (.putfield 31, 3) := by decide +kernel
theorem dX3_run_20 : decode cX3_run 20 = .ok (.iconst 0, 1) := by decide +kernel
theorem dX3_run_21 : decode cX3_run 21 = .ok (.istore 5, 2) := by decide +kernel
theorem dX3_run_23 : decode cX3_run 23 = .ok (.iload 5, 2) := by decide +kernel
theorem dX3_run_25 : decode cX3_run 25 = .ok (.sipush 144, 3) := by decide +kernel
theorem dX3_run_28 : decode cX3_run 28 = .ok (.if_icmp .ge 29, 3) := by decide +kernel
theorem dX3_run_31 : decode cX3_run 31 = .ok (.aload_n 0, 1) := by decide +kernel
theorem dX3_run_32 : decode cX3_run 32 = .ok (.getfield 9, 3) := by decide +kernel
theorem dX3_run_35 : decode cX3_run 35 = .ok (.iload 5, 2) := by decide +kernel
theorem dX3_run_37 : decode cX3_run 37 = .ok (.iconst 0, 1) := by decide +kernel
theorem dX3_run_38 : decode cX3_run 38 = .ok (.invokestatic 34, 3) := by decide +kernel
theorem dX3_run_41 : decode cX3_run 41 = .ok (.aload_n 0, 1) := by decide +kernel
theorem dX3_run_42 : decode cX3_run 42 = .ok (.getfield 15, 3) := by decide +kernel
theorem dX3_run_45 : decode cX3_run 45 = .ok (.iload 5, 2) := by decide +kernel
theorem dX3_run_47 : decode cX3_run 47 = .ok (.iconst 0, 1) := by decide +kernel
theorem dX3_run_48 : decode cX3_run 48 = .ok (.invokestatic 34, 3) := by decide +kernel
theorem dX3_run_51 : decode cX3_run 51 = .ok (.iinc 5 1, 3) := by decide +kernel
theorem dX3_run_54 : decode cX3_run 54 = .ok (.goto (-31), 3) := by decide +kernel
theorem dX3_run_57 : decode cX3_run 57 = .ok (.aload_n 0, 1) := by decide +kernel
theorem dX3_run_58 : decode cX3_run 58 = .ok (.aload_n 0, 1) := by decide +kernel
theorem dX3_run_59 : decode cX3_run 59 = .ok (.aload_n 0, 1) := by decide +kernel
theorem dX3_run_60 : decode cX3_run 60 = .ok (.getfield 21, 3) := by decide +kernel
theorem dX3_run_63 : decode cX3_run 63 = .ok (.aload_n 0, 1) := by decide +kernel
theorem dX3_run_64 : decode cX3_run 64 = .ok (.getfield 25, 3) := by decide +kernel
theorem dX3_run_67 : decode cX3_run 67 = .ok (.imul, 1) := by decide +kernel
theorem dX3_run_68 : decode cX3_run 68 = .ok (.invokevirtual 38, 3) := by decide +kernel
theorem dX3_run_71 : decode cX3_run 71 = .ok (.invokevirtual 42, 3) := by decide +kernel
theorem dX3_run_74 : decode cX3_run 74 = .ok (.iconst 0, 1) := by decide +kernel
theorem dX3_run_75 : decode cX3_run 75 = .ok (.istore 5, 2) := by decide +kernel
theorem dX3_run_77 : decode cX3_run 77 = .ok (.iload 5, 2) := by decide +kernel
theorem dX3_run_79 : decode cX3_run 79 = .ok (.sipush 200, 3) := by decide +kernel
theorem dX3_run_82 : decode cX3_run 82 = .ok (.if_icmp .ge 22, 3) := by decide +kernel
theorem dX3_run_85 : decode cX3_run 85 = .ok (.aload_n 0, 1) := by decide +kernel
theorem dX3_run_86 : decode cX3_run 86 = .ok (.getfield 28, 3) := by decide +kernel
theorem dX3_run_89 : decode cX3_run 89 = .ok (.iload 4, 2) := by decide +kernel
theorem dX3_run_91 : decode cX3_run 91 = .ok (.if_icmp .ge 13, 3) := by decide +kernel
theorem dX3_run_94 : decode cX3_run 94 = .ok (.aload_n 0, 1) := by decide +kernel
theorem dX3_run_95 : decode cX3_run 95 = .ok (.invokevirtual 46, 3) := by decide +kernel
theorem dX3_run_98 : decode cX3_run 98 = .ok (.iinc 5 1, 3) := by decide +kernel
theorem dX3_run_101 : decode cX3_run 101 = .ok (.goto (-24), 3) := by decide +kernel
theorem dX3_run_104 : decode cX3_run 104 = .ok (.return_, 1) := by decide +kernel
set_option maxRecDepth 20000 in
theorem ggX3_giveNumbersTo_X9_valueAt : GoodIn wsX3_giveNumbersTo wsX9_valueAt := goodIn_r _ [7] (by decide +kernel) (by decide +kernel)
set_option maxRecDepth 20000 in
theorem gX3_giveNumbersTo_X9_valueAt_n52 : GoodIn wsX3_giveNumbersTo (wsX9_valueAt) := ggX3_giveNumbersTo_X9_valueAt
set_option maxRecDepth 20000 in
theorem ggX3_giveNumbersTo_X9_put : GoodIn wsX3_giveNumbersTo wsX9_put := goodIn_r _ [9] (by decide +kernel) (by decide +kernel)
set_option maxRecDepth 20000 in
theorem gX3_giveNumbersTo_X9_put_n34 : GoodIn wsX3_giveNumbersTo (wsX9_put) := ggX3_giveNumbersTo_X9_put
theorem dX3_giveNumbersTo_0 : decode cX3_giveNumbersTo 0 = .ok (.iconst 0, 1) := by decide +kernel
theorem dX3_giveNumbersTo_1 : decode cX3_giveNumbersTo 1 = .ok (.istore_n 2, 1) := by decide +kernel
theorem dX3_giveNumbersTo_2 : decode cX3_giveNumbersTo 2 = .ok (.iload_n 2, 1) := by decide +kernel
theorem dX3_giveNumbersTo_3 : decode cX3_giveNumbersTo 3 = .ok (.sipush 144, 3) := by decide +kernel
theorem dX3_giveNumbersTo_6 : decode cX3_giveNumbersTo 6 = .ok (.if_icmp .ge 25, 3) := by decide +kernel
theorem dX3_giveNumbersTo_9 : decode cX3_giveNumbersTo 9 = .ok (.aload_n 1, 1) := by decide +kernel
theorem dX3_giveNumbersTo_10 : decode cX3_giveNumbersTo 10 = .ok (.getfield 49, 3) := by decide +kernel
theorem dX3_giveNumbersTo_13 : decode cX3_giveNumbersTo 13 = .ok (.iload_n 2, 1) := by decide +kernel
theorem dX3_giveNumbersTo_14 : decode cX3_giveNumbersTo 14 = .ok (.aload_n 0, 1) := by decide +kernel
theorem dX3_giveNumbersTo_15 : decode cX3_giveNumbersTo 15 = .ok (.getfield 15, 3) := by decide +kernel
theorem dX3_giveNumbersTo_18 : decode cX3_giveNumbersTo 18 = .ok (.iload_n 2, 1) := by decide +kernel
theorem dX3_giveNumbersTo_19 : decode cX3_giveNumbersTo 19 = .ok (.invokestatic 52, 3) := by decide +kernel
theorem dX3_giveNumbersTo_22 : decode cX3_giveNumbersTo 22 = .ok (.invokestatic 34, 3) := by decide +kernel
theorem dX3_giveNumbersTo_25 : decode cX3_giveNumbersTo 25 = .ok (.iinc 2 1, 3) := by decide +kernel
theorem dX3_giveNumbersTo_28 : decode cX3_giveNumbersTo 28 = .ok (.goto (-26), 3) := by decide +kernel
theorem dX3_giveNumbersTo_31 : decode cX3_giveNumbersTo 31 = .ok (.aload_n 0, 1) := by decide +kernel
theorem dX3_giveNumbersTo_32 : decode cX3_giveNumbersTo 32 = .ok (.getfield 28, 3) := by decide +kernel
theorem dX3_giveNumbersTo_35 : decode cX3_giveNumbersTo 35 = .ok (.iconst 1, 1) := by decide +kernel
theorem dX3_giveNumbersTo_36 : decode cX3_giveNumbersTo 36 = .ok (.if_icmp .ne 19, 3) := by decide +kernel
theorem dX3_giveNumbersTo_39 : decode cX3_giveNumbersTo 39 = .ok (.aload_n 1, 1) := by decide +kernel
theorem dX3_giveNumbersTo_40 : decode cX3_giveNumbersTo 40 = .ok (.getfield 49, 3) := by decide +kernel
theorem dX3_giveNumbersTo_43 : decode cX3_giveNumbersTo 43 = .ok (.aload_n 0, 1) := by decide +kernel
theorem dX3_giveNumbersTo_44 : decode cX3_giveNumbersTo 44 = .ok (.getfield 18, 3) := by decide +kernel
theorem dX3_giveNumbersTo_47 : decode cX3_giveNumbersTo 47 = .ok (.iconst 0, 1) := by decide +kernel
theorem dX3_giveNumbersTo_48 : decode cX3_giveNumbersTo 48 = .ok (.invokestatic 52, 3) := by decide +kernel
theorem dX3_giveNumbersTo_51 : decode cX3_giveNumbersTo 51 = .ok (.iconst 1, 1) := by decide +kernel
theorem dX3_giveNumbersTo_52 : decode cX3_giveNumbersTo 52 = .ok (.invokestatic 34, 3) := by decide +kernel
theorem dX3_giveNumbersTo_55 : decode cX3_giveNumbersTo 55 = .ok (.return_, 1) := by decide +kernel
theorem dX3_draw_0 : decode cX3_draw 0 = .ok (.aload_n 0, 1) := by decide +kernel
theorem dX3_draw_1 : decode cX3_draw 1 = .ok (.bipush 75, 2) := by decide +kernel
theorem dX3_draw_3 : decode cX3_draw 3 = .ok (.aload_n 0, 1) := by decide +kernel
theorem dX3_draw_4 : decode cX3_draw 4 = .ok (.getfield 31, 3) := by decide +kernel
theorem dX3_draw_7 : decode cX3_draw 7 = .ok (.imul, 1) := by decide +kernel
theorem dX3_draw_8 : decode cX3_draw 8 = .ok (.bipush 74, 2) := by decide +kernel
theorem dX3_draw_10 : decode cX3_draw 10 = .ok (.iadd, 1) := by decide +kernel
theorem dX3_draw_11 : decode cX3_draw 11 = .ok (.ldc 56, 2) := by decide +kernel
theorem dX3_draw_13 : decode cX3_draw 13 = .ok (.irem, 1) := by decide +kernel
theorem dX3_draw_14 : decode cX3_draw 14 = .ok (.putfield 31, 3) := by decide +kernel
theorem dX3_draw_17 : decode cX3_draw 17 = .ok (.iload_n 1, 1) := by decide +kernel
theorem dX3_draw_18 : decode cX3_draw 18 = .ok (.ifCond .le 12, 3) := by decide +kernel
theorem dX3_draw_21 : decode cX3_draw 21 = .ok (.aload_n 0, 1) := by decide +kernel
theorem dX3_draw_22 : decode cX3_draw 22 = .ok (.getfield 31, 3) := by decide +kernel
theorem dX3_draw_25 : decode cX3_draw 25 = .ok (.iload_n 1, 1) := by decide +kernel
theorem dX3_draw_26 : decode cX3_draw 26 = .ok (.irem, 1) := by decide +kernel
theorem dX3_draw_27 : decode cX3_draw 27 = .ok (.goto 4, 3) := by decide +kernel
theorem dX3_draw_30 : decode cX3_draw 30 = .ok (.iconst 0, 1) := by decide +kernel
theorem dX3_draw_31 : decode cX3_draw 31 = .ok (.ireturn, 1) := by decide +kernel
set_option maxRecDepth 20000 in
theorem ggX3_tryIsland_X3_draw : GoodIn wsX3_tryIsland wsX3_draw := goodIn_r _ [10, 11, 12, 29, 30, 31, 32, 33, 34, 35] (by decide +kernel) (by decide +kernel)
set_option maxRecDepth 20000 in
theorem gX3_tryIsland_X3_draw : GoodIn wsX3_tryIsland (wsV RX3 38 RX3 yX3_draw wsX3_draw) := goodIn_app (goodIn_of _ (by decide +kernel)) ggX3_tryIsland_X3_draw
set_option maxRecDepth 20000 in
theorem ggX3_tryIsland_X9_valueAt : GoodIn wsX3_tryIsland wsX9_valueAt := goodIn_r _ [15] (by decide +kernel) (by decide +kernel)
set_option maxRecDepth 20000 in
theorem gX3_tryIsland_X9_valueAt_n52 : GoodIn wsX3_tryIsland (wsX9_valueAt) := ggX3_tryIsland_X9_valueAt
set_option maxRecDepth 20000 in
theorem ggX3_tryIsland_X3_isOnBoard : GoodIn wsX3_tryIsland wsX3_isOnBoard := goodIn_r _ [19, 3, 20, 29, 30, 31, 32, 33, 34, 35] (by decide +kernel) (by decide +kernel)
set_option maxRecDepth 20000 in
theorem gX3_tryIsland_X3_isOnBoard : GoodIn wsX3_tryIsland (wsV RX3 57 RX3 yX3_isOnBoard wsX3_isOnBoard) := goodIn_app (goodIn_of _ (by decide +kernel)) ggX3_tryIsland_X3_isOnBoard
set_option maxRecDepth 20000 in
theorem ggX3_tryIsland_X9_put : GoodIn wsX3_tryIsland wsX9_put := goodIn_r _ [22] (by decide +kernel) (by decide +kernel)
set_option maxRecDepth 20000 in
theorem gX3_tryIsland_X9_put_n34 : GoodIn wsX3_tryIsland (wsX9_put) := ggX3_tryIsland_X9_put
set_option maxRecDepth 20000 in
theorem ggX3_tryIsland_X3_addIsland : GoodIn wsX3_tryIsland wsX3_addIsland := goodIn_r _ [26, 2, 1, 4, 13, 14, 15, 21, 22, 29, 30, 31, 32, 33, 34, 35] (by decide +kernel) (by decide +kernel)
set_option maxRecDepth 20000 in
theorem gX3_tryIsland_X3_addIsland : GoodIn wsX3_tryIsland (wsV RX3 42 RX3 yX3_addIsland wsX3_addIsland) := goodIn_app (goodIn_of _ (by decide +kernel)) ggX3_tryIsland_X3_addIsland
set_option maxRecDepth 20000 in
theorem ggX3_tryIsland_X9_add : GoodIn wsX3_tryIsland wsX9_add := goodIn_r _ [28] (by decide +kernel) (by decide +kernel)
set_option maxRecDepth 20000 in
theorem gX3_tryIsland_X9_add_n61 : GoodIn wsX3_tryIsland (wsX9_add) := ggX3_tryIsland_X9_add
theorem dX3_tryIsland_0 : decode cX3_tryIsland 0 = .ok (.aload_n 0, 1) := by decide +kernel
theorem dX3_tryIsland_1 : decode cX3_tryIsland 1 = .ok (.getfield 18, 3) := by decide +kernel
theorem dX3_tryIsland_4 : decode cX3_tryIsland 4 = .ok (.aload_n 0, 1) := by decide +kernel
theorem dX3_tryIsland_5 : decode cX3_tryIsland 5 = .ok (.aload_n 0, 1) := by decide +kernel
theorem dX3_tryIsland_6 : decode cX3_tryIsland 6 = .ok (.getfield 28, 3) := by decide +kernel
theorem dX3_tryIsland_9 : decode cX3_tryIsland 9 = .ok (.invokevirtual 38, 3) := by decide +kernel
theorem dX3_tryIsland_12 : decode cX3_tryIsland 12 = .ok (.invokestatic 52, 3) := by decide +kernel
theorem dX3_tryIsland_15 : decode cX3_tryIsland 15 = .ok (.istore_n 1, 1) := by decide +kernel
theorem dX3_tryIsland_16 : decode cX3_tryIsland 16 = .ok (.aload_n 0, 1) := by decide +kernel
theorem dX3_tryIsland_17 : decode cX3_tryIsland 17 = .ok (.iconst 4, 1) := by decide +kernel
theorem dX3_tryIsland_18 : decode cX3_tryIsland 18 = .ok (.invokevirtual 38, 3) := by decide +kernel
theorem dX3_tryIsland_21 : decode cX3_tryIsland 21 = .ok (.istore_n 2, 1) := by decide +kernel
theorem dX3_tryIsland_22 : decode cX3_tryIsland 22 = .ok (.aload_n 0, 1) := by decide +kernel
theorem dX3_tryIsland_23 : decode cX3_tryIsland 23 = .ok (.iconst 4, 1) := by decide +kernel
theorem dX3_tryIsland_24 : decode cX3_tryIsland 24 = .ok (.invokevirtual 38, 3) := by decide +kernel
theorem dX3_tryIsland_27 : decode cX3_tryIsland 27 = .ok (.iconst 2, 1) := by decide +kernel
theorem dX3_tryIsland_28 : decode cX3_tryIsland 28 = .ok (.iadd, 1) := by decide +kernel
theorem dX3_tryIsland_29 : decode cX3_tryIsland 29 = .ok (.istore_n 3, 1) := by decide +kernel
theorem dX3_tryIsland_30 : decode cX3_tryIsland 30 = .ok (.aload_n 0, 1) := by decide +kernel
theorem dX3_tryIsland_31 : decode cX3_tryIsland 31 = .ok (.iconst 2, 1) := by decide +kernel
theorem dX3_tryIsland_32 : decode cX3_tryIsland 32 = .ok (.invokevirtual 38, 3) := by decide +kernel
theorem dX3_tryIsland_35 : decode cX3_tryIsland 35 = .ok (.iconst 1, 1) := by decide +kernel
theorem dX3_tryIsland_36 : decode cX3_tryIsland 36 = .ok (.iadd, 1) := by decide +kernel
theorem dX3_tryIsland_37 : decode cX3_tryIsland 37 = .ok (.istore 4, 2) := by decide +kernel
theorem dX3_tryIsland_39 : decode cX3_tryIsland 39 = .ok (.iload_n 2, 1) := by decide +kernel
theorem dX3_tryIsland_40 : decode cX3_tryIsland 40 = .ok (.iconst 2, 1) := by decide +kernel
theorem dX3_tryIsland_41 : decode cX3_tryIsland 41 = .ok (.if_icmp .ge 7, 3) := by decide +kernel
theorem dX3_tryIsland_44 : decode cX3_tryIsland 44 = .ok (.iconst 1, 1) := by decide +kernel
theorem dX3_tryIsland_45 : decode cX3_tryIsland 45 = .ok (.goto 4, 3) := by decide +kernel
theorem dX3_tryIsland_48 : decode cX3_tryIsland 48 = .ok (.iconst (-1), 1) := by decide +kernel
theorem dX3_tryIsland_49 : decode cX3_tryIsland 49 = .ok (.istore 5, 2) := by decide +kernel
theorem dX3_tryIsland_51 : decode cX3_tryIsland 51 = .ok (.iload_n 2, 1) := by decide +kernel
theorem dX3_tryIsland_52 : decode cX3_tryIsland 52 = .ok (.iconst 2, 1) := by decide +kernel
theorem dX3_tryIsland_53 : decode cX3_tryIsland 53 = .ok (.irem, 1) := by decide +kernel
theorem dX3_tryIsland_54 : decode cX3_tryIsland 54 = .ok (.ifCond .ne 7, 3) := by decide +kernel
theorem dX3_tryIsland_57 : decode cX3_tryIsland 57 = .ok (.iconst 1, 1) := by decide +kernel
theorem dX3_tryIsland_58 : decode cX3_tryIsland 58 = .ok (.goto 4, 3) := by decide +kernel
theorem dX3_tryIsland_61 : decode cX3_tryIsland 61 = .ok (.iconst 0, 1) := by decide +kernel
theorem dX3_tryIsland_62 : decode cX3_tryIsland 62 = .ok (.istore 6, 2) := by decide +kernel
theorem dX3_tryIsland_64 : decode cX3_tryIsland 64 = .ok (.aload_n 0, 1) := by decide +kernel
theorem dX3_tryIsland_65 : decode cX3_tryIsland 65 = .ok (.iload_n 1, 1) := by decide +kernel
theorem dX3_tryIsland_66 : decode cX3_tryIsland 66 = .ok (.iload 6, 2) := by decide +kernel
theorem dX3_tryIsland_68 : decode cX3_tryIsland 68 = .ok (.iload 5, 2) := by decide +kernel
theorem dX3_tryIsland_70 : decode cX3_tryIsland 70 = .ok (.iload_n 3, 1) := by decide +kernel
theorem dX3_tryIsland_71 : decode cX3_tryIsland 71 = .ok (.imul, 1) := by decide +kernel
theorem dX3_tryIsland_72 : decode cX3_tryIsland 72 = .ok (.invokevirtual 57, 3) := by decide +kernel
theorem dX3_tryIsland_75 : decode cX3_tryIsland 75 = .ok (.ifCond .ne 4, 3) := by decide +kernel
theorem dX3_tryIsland_78 : decode cX3_tryIsland 78 = .ok (.return_, 1) := by decide +kernel
theorem dX3_tryIsland_79 : decode cX3_tryIsland 79 = .ok (.iload 5, 2) := by decide +kernel
theorem dX3_tryIsland_81 : decode cX3_tryIsland 81 = .ok (.iload 6, 2) := by decide +kernel
theorem dX3_tryIsland_83 : decode cX3_tryIsland 83 = .ok (.ifCond .eq 7, 3) := by decide +kernel
theorem dX3_tryIsland_86 : decode cX3_tryIsland 86 = .ok (.iconst 1, 1) := by decide +kernel
theorem dX3_tryIsland_87 : decode cX3_tryIsland 87 = .ok (.goto 7, 3) := by decide +kernel
theorem dX3_tryIsland_90 : decode cX3_tryIsland 90 = .ok (.aload_n 0, 1) := by decide +kernel
theorem dX3_tryIsland_91 : decode cX3_tryIsland 91 = .ok (.getfield 21, 3) := by decide +kernel
theorem dX3_tryIsland_94 : decode cX3_tryIsland 94 = .ok (.imul, 1) := by decide +kernel
theorem dX3_tryIsland_95 : decode cX3_tryIsland 95 = .ok (.istore 7, 2) := by decide +kernel
theorem dX3_tryIsland_97 : decode cX3_tryIsland 97 = .ok (.iconst 1, 1) := by decide +kernel
theorem dX3_tryIsland_98 : decode cX3_tryIsland 98 = .ok (.istore 8, 2) := by decide +kernel
theorem dX3_tryIsland_100 : decode cX3_tryIsland 100 = .ok (.iload 8, 2) := by decide +kernel
theorem dX3_tryIsland_102 : decode cX3_tryIsland 102 = .ok (.iload_n 3, 1) := by decide +kernel
theorem dX3_tryIsland_103 : decode cX3_tryIsland 103 = .ok (.if_icmp .gt 27, 3) := by decide +kernel
theorem dX3_tryIsland_106 : decode cX3_tryIsland 106 = .ok (.aload_n 0, 1) := by decide +kernel
theorem dX3_tryIsland_107 : decode cX3_tryIsland 107 = .ok (.getfield 9, 3) := by decide +kernel
theorem dX3_tryIsland_110 : decode cX3_tryIsland 110 = .ok (.iload_n 1, 1) := by decide +kernel
theorem dX3_tryIsland_111 : decode cX3_tryIsland 111 = .ok (.iload 8, 2) := by decide +kernel
theorem dX3_tryIsland_113 : decode cX3_tryIsland 113 = .ok (.iload 7, 2) := by decide +kernel
theorem dX3_tryIsland_115 : decode cX3_tryIsland 115 = .ok (.imul, 1) := by decide +kernel
theorem dX3_tryIsland_116 : decode cX3_tryIsland 116 = .ok (.iadd, 1) := by decide +kernel
theorem dX3_tryIsland_117 : decode cX3_tryIsland 117 = .ok (.invokestatic 52, 3) := by decide +kernel
theorem dX3_tryIsland_120 : decode cX3_tryIsland 120 = .ok (.ifCond .eq 4, 3) := by decide +kernel
theorem dX3_tryIsland_123 : decode cX3_tryIsland 123 = .ok (.return_, 1) := by decide +kernel
theorem dX3_tryIsland_124 : decode cX3_tryIsland 124 = .ok (.iinc 8 1, 3) := by decide +kernel
theorem dX3_tryIsland_127 : decode cX3_tryIsland 127 = .ok (.goto (-27), 3) := by decide +kernel
theorem dX3_tryIsland_130 : decode cX3_tryIsland 130 = .ok (.iconst 1, 1) := by decide +kernel
theorem dX3_tryIsland_131 : decode cX3_tryIsland 131 = .ok (.istore 8, 2) := by decide +kernel
theorem dX3_tryIsland_133 : decode cX3_tryIsland 133 = .ok (.iload 8, 2) := by decide +kernel
theorem dX3_tryIsland_135 : decode cX3_tryIsland 135 = .ok (.iload_n 3, 1) := by decide +kernel
theorem dX3_tryIsland_136 : decode cX3_tryIsland 136 = .ok (.if_icmp .ge 24, 3) := by decide +kernel
theorem dX3_tryIsland_139 : decode cX3_tryIsland 139 = .ok (.aload_n 0, 1) := by decide +kernel
theorem dX3_tryIsland_140 : decode cX3_tryIsland 140 = .ok (.getfield 9, 3) := by decide +kernel
theorem dX3_tryIsland_143 : decode cX3_tryIsland 143 = .ok (.iload_n 1, 1) := by decide +kernel
theorem dX3_tryIsland_144 : decode cX3_tryIsland 144 = .ok (.iload 8, 2) := by decide +kernel
theorem dX3_tryIsland_146 : decode cX3_tryIsland 146 = .ok (.iload 7, 2) := by decide +kernel
theorem dX3_tryIsland_148 : decode cX3_tryIsland 148 = .ok (.imul, 1) := by decide +kernel
theorem dX3_tryIsland_149 : decode cX3_tryIsland 149 = .ok (.iadd, 1) := by decide +kernel
theorem dX3_tryIsland_150 : decode cX3_tryIsland 150 = .ok (.iconst 1, 1) := by decide +kernel
theorem dX3_tryIsland_151 : decode cX3_tryIsland 151 = .ok (.invokestatic 34, 3) := by decide +kernel
theorem dX3_tryIsland_154 : decode cX3_tryIsland 154 = .ok (.iinc 8 1, 3) := by decide +kernel
theorem dX3_tryIsland_157 : decode cX3_tryIsland 157 = .ok (.goto (-24), 3) := by decide +kernel
theorem dX3_tryIsland_160 : decode cX3_tryIsland 160 = .ok (.iload_n 1, 1) := by decide +kernel
theorem dX3_tryIsland_161 : decode cX3_tryIsland 161 = .ok (.iload_n 3, 1) := by decide +kernel
theorem dX3_tryIsland_162 : decode cX3_tryIsland 162 = .ok (.iload 7, 2) := by decide +kernel
theorem dX3_tryIsland_164 : decode cX3_tryIsland 164 = .ok (.imul, 1) := by decide +kernel
theorem dX3_tryIsland_165 : decode cX3_tryIsland 165 = .ok (.iadd, 1) := by decide +kernel
theorem dX3_tryIsland_166 : decode cX3_tryIsland 166 = .ok (.istore 8, 2) := by decide +kernel
theorem dX3_tryIsland_168 : decode cX3_tryIsland 168 = .ok (.aload_n 0, 1) := by decide +kernel
theorem dX3_tryIsland_169 : decode cX3_tryIsland 169 = .ok (.iload 8, 2) := by decide +kernel
theorem dX3_tryIsland_171 : decode cX3_tryIsland 171 = .ok (.invokevirtual 42, 3) := by decide +kernel
theorem dX3_tryIsland_174 : decode cX3_tryIsland 174 = .ok (.aload_n 0, 1) := by decide +kernel
theorem dX3_tryIsland_175 : decode cX3_tryIsland 175 = .ok (.getfield 15, 3) := by decide +kernel
theorem dX3_tryIsland_178 : decode cX3_tryIsland 178 = .ok (.iload_n 1, 1) := by decide +kernel
theorem dX3_tryIsland_179 : decode cX3_tryIsland 179 = .ok (.iload 4, 2) := by decide +kernel
theorem dX3_tryIsland_181 : decode cX3_tryIsland 181 = .ok (.invokestatic 61, 3) := by decide +kernel
theorem dX3_tryIsland_184 : decode cX3_tryIsland 184 = .ok (.aload_n 0, 1) := by decide +kernel
theorem dX3_tryIsland_185 : decode cX3_tryIsland 185 = .ok (.getfield 15, 3) := by decide +kernel
theorem dX3_tryIsland_188 : decode cX3_tryIsland 188 = .ok (.iload 8, 2) := by decide +kernel
theorem dX3_tryIsland_190 : decode cX3_tryIsland 190 = .ok (.iload 4, 2) := by decide +kernel
theorem dX3_tryIsland_192 : decode cX3_tryIsland 192 = .ok (.invokestatic 61, 3) := by decide +kernel
theorem dX3_tryIsland_195 : decode cX3_tryIsland 195 = .ok (.return_, 1) := by decide +kernel
theorem dX3_isOnBoard_0 : decode cX3_isOnBoard 0 = .ok (.aload_n 0, 1) := by decide +kernel
theorem dX3_isOnBoard_1 : decode cX3_isOnBoard 1 = .ok (.getfield 21, 3) := by decide +kernel
theorem dX3_isOnBoard_4 : decode cX3_isOnBoard 4 = .ok (.ifCond .ne 5, 3) := by decide +kernel
theorem dX3_isOnBoard_7 : decode cX3_isOnBoard 7 = .ok (.iconst 0, 1) := by decide +kernel
theorem dX3_isOnBoard_8 : decode cX3_isOnBoard 8 = .ok (.ireturn, 1) := by decide +kernel
theorem dX3_isOnBoard_9 : decode cX3_isOnBoard 9 = .ok (.iload_n 2, 1) := by decide +kernel
theorem dX3_isOnBoard_10 : decode cX3_isOnBoard 10 = .ok (.ifCond .eq 12, 3) := by decide +kernel
theorem dX3_isOnBoard_13 : decode cX3_isOnBoard 13 = .ok (.iload_n 1, 1) := by decide +kernel
theorem dX3_isOnBoard_14 : decode cX3_isOnBoard 14 = .ok (.aload_n 0, 1) := by decide +kernel
theorem dX3_isOnBoard_15 : decode cX3_isOnBoard 15 = .ok (.getfield 21, 3) := by decide +kernel
theorem dX3_isOnBoard_18 : decode cX3_isOnBoard 18 = .ok (.irem, 1) := by decide +kernel
theorem dX3_isOnBoard_19 : decode cX3_isOnBoard 19 = .ok (.goto 9, 3) := by decide +kernel
theorem dX3_isOnBoard_22 : decode cX3_isOnBoard 22 = .ok (.iload_n 1, 1) := by decide +kernel
theorem dX3_isOnBoard_23 : decode cX3_isOnBoard 23 = .ok (.aload_n 0, 1) := by decide +kernel
theorem dX3_isOnBoard_24 : decode cX3_isOnBoard 24 = .ok (.getfield 21, 3) := by decide +kernel
theorem dX3_isOnBoard_27 : decode cX3_isOnBoard 27 = .ok (.idiv, 1) := by decide +kernel
theorem dX3_isOnBoard_28 : decode cX3_isOnBoard 28 = .ok (.iload_n 3, 1) := by decide +kernel
theorem dX3_isOnBoard_29 : decode cX3_isOnBoard 29 = .ok (.iadd, 1) := by decide +kernel
theorem dX3_isOnBoard_30 : decode cX3_isOnBoard 30 = .ok (.istore 4, 2) := by decide +kernel
theorem dX3_isOnBoard_32 : decode cX3_isOnBoard 32 = .ok (.iload 4, 2) := by decide +kernel
theorem dX3_isOnBoard_34 : decode cX3_isOnBoard 34 = .ok (.ifCond .lt 27, 3) := by decide +kernel
theorem dX3_isOnBoard_37 : decode cX3_isOnBoard 37 = .ok (.iload 4, 2) := by decide +kernel
theorem dX3_isOnBoard_39 : decode cX3_isOnBoard 39 = .ok (.iload_n 2, 1) := by decide +kernel
theorem dX3_isOnBoard_40 : decode cX3_isOnBoard 40 = .ok (.ifCond .eq 10, 3) := by decide +kernel
theorem dX3_isOnBoard_43 : decode cX3_isOnBoard 43 = .ok (.aload_n 0, 1) := by decide +kernel
theorem dX3_isOnBoard_44 : decode cX3_isOnBoard 44 = .ok (.getfield 21, 3) := by decide +kernel
theorem dX3_isOnBoard_47 : decode cX3_isOnBoard 47 = .ok (.goto 7, 3) := by decide +kernel
theorem dX3_isOnBoard_50 : decode cX3_isOnBoard 50 = .ok (.aload_n 0, 1) := by decide +kernel
theorem dX3_isOnBoard_51 : decode cX3_isOnBoard 51 = .ok (.getfield 25, 3) := by decide +kernel
theorem dX3_isOnBoard_54 : decode cX3_isOnBoard 54 = .ok (.if_icmp .ge 7, 3) := by decide +kernel
theorem dX3_isOnBoard_57 : decode cX3_isOnBoard 57 = .ok (.iconst 1, 1) := by decide +kernel
theorem dX3_isOnBoard_58 : decode cX3_isOnBoard 58 = .ok (.goto 4, 3) := by decide +kernel
theorem dX3_isOnBoard_61 : decode cX3_isOnBoard 61 = .ok (.iconst 0, 1) := by decide +kernel
theorem dX3_isOnBoard_62 : decode cX3_isOnBoard 62 = .ok (.ireturn, 1) := by decide +kernel
set_option maxRecDepth 20000 in
theorem ggX3_addIsland_X9_valueAt : GoodIn wsX3_addIsland wsX9_valueAt := goodIn_r _ [6] (by decide +kernel) (by decide +kernel)
set_option maxRecDepth 20000 in
theorem gX3_addIsland_X9_valueAt_n52 : GoodIn wsX3_addIsland (wsX9_valueAt) := ggX3_addIsland_X9_valueAt
set_option maxRecDepth 20000 in
theorem ggX3_addIsland_X9_put : GoodIn wsX3_addIsland wsX9_put := goodIn_r _ [8] (by decide +kernel) (by decide +kernel)
set_option maxRecDepth 20000 in
theorem gX3_addIsland_X9_put_n34 : GoodIn wsX3_addIsland (wsX9_put) := ggX3_addIsland_X9_put
theorem dX3_addIsland_0 : decode cX3_addIsland 0 = .ok (.aload_n 0, 1) := by decide +kernel
theorem dX3_addIsland_1 : decode cX3_addIsland 1 = .ok (.getfield 28, 3) := by decide +kernel
theorem dX3_addIsland_4 : decode cX3_addIsland 4 = .ok (.bipush 24, 2) := by decide +kernel
theorem dX3_addIsland_6 : decode cX3_addIsland 6 = .ok (.if_icmp .lt 4, 3) := by decide +kernel
theorem dX3_addIsland_9 : decode cX3_addIsland 9 = .ok (.return_, 1) := by decide +kernel
theorem dX3_addIsland_10 : decode cX3_addIsland 10 = .ok (.aload_n 0, 1) := by decide +kernel
theorem dX3_addIsland_11 : decode cX3_addIsland 11 = .ok (.getfield 28, 3) := by decide +kernel
theorem dX3_addIsland_14 : decode cX3_addIsland 14 = .ok (.istore_n 2, 1) := by decide +kernel
theorem dX3_addIsland_15 : decode cX3_addIsland 15 = .ok (.aload_n 0, 1) := by decide +kernel
theorem dX3_addIsland_16 : decode cX3_addIsland 16 = .ok (.getfield 28, 3) := by decide +kernel
theorem dX3_addIsland_19 : decode cX3_addIsland 19 = .ok (.istore_n 3, 1) := by decide +kernel
theorem dX3_addIsland_20 : decode cX3_addIsland 20 = .ok (.iload_n 3, 1) := by decide +kernel
theorem dX3_addIsland_21 : decode cX3_addIsland 21 = .ok (.ifCond .le 45, 3) := by decide +kernel
theorem dX3_addIsland_24 : decode cX3_addIsland 24 = .ok (.aload_n 0, 1) := by decide +kernel
theorem dX3_addIsland_25 : decode cX3_addIsland 25 = .ok (.getfield 18, 3) := by decide +kernel
theorem dX3_addIsland_28 : decode cX3_addIsland 28 = .ok (.iload_n 3, 1) := by decide +kernel
theorem dX3_addIsland_29 : decode cX3_addIsland 29 = .ok (.iconst 1, 1) := by decide +kernel
theorem dX3_addIsland_30 : decode cX3_addIsland 30 = .ok (.isub, 1) := by decide +kernel
theorem dX3_addIsland_31 : decode cX3_addIsland 31 = .ok (.invokestatic 52, 3) := by decide +kernel
theorem dX3_addIsland_34 : decode cX3_addIsland 34 = .ok (.iload_n 1, 1) := by decide +kernel
theorem dX3_addIsland_35 : decode cX3_addIsland 35 = .ok (.if_icmp .le 31, 3) := by decide +kernel
theorem dX3_addIsland_38 : decode cX3_addIsland 38 = .ok (.aload_n 0, 1) := by decide +kernel
theorem dX3_addIsland_39 : decode cX3_addIsland 39 = .ok (.getfield 18, 3) := by decide +kernel
theorem dX3_addIsland_42 : decode cX3_addIsland 42 = .ok (.iload_n 3, 1) := by decide +kernel
theorem dX3_addIsland_43 : decode cX3_addIsland 43 = .ok (.aload_n 0, 1) := by decide +kernel
theorem dX3_addIsland_44 : decode cX3_addIsland 44 = .ok (.getfield 18, 3) := by decide +kernel
theorem dX3_addIsland_47 : decode cX3_addIsland 47 = .ok (.iload_n 3, 1) := by decide +kernel
theorem dX3_addIsland_48 : decode cX3_addIsland 48 = .ok (.iconst 1, 1) := by decide +kernel
theorem dX3_addIsland_49 : decode cX3_addIsland 49 = .ok (.isub, 1) := by decide +kernel
theorem dX3_addIsland_50 : decode cX3_addIsland 50 = .ok (.invokestatic 52, 3) := by decide +kernel
theorem dX3_addIsland_53 : decode cX3_addIsland 53 = .ok (.invokestatic 34, 3) := by decide +kernel
theorem dX3_addIsland_56 : decode cX3_addIsland 56 = .ok (.iload_n 3, 1) := by decide +kernel
theorem dX3_addIsland_57 : decode cX3_addIsland 57 = .ok (.iconst 1, 1) := by decide +kernel
theorem dX3_addIsland_58 : decode cX3_addIsland 58 = .ok (.isub, 1) := by decide +kernel
theorem dX3_addIsland_59 : decode cX3_addIsland 59 = .ok (.istore_n 2, 1) := by decide +kernel
theorem dX3_addIsland_60 : decode cX3_addIsland 60 = .ok (.iinc 3 (-1), 3) := by decide +kernel
theorem dX3_addIsland_63 : decode cX3_addIsland 63 = .ok (.goto (-43), 3) := by decide +kernel
theorem dX3_addIsland_66 : decode cX3_addIsland 66 = .ok (.aload_n 0, 1) := by decide +kernel
theorem dX3_addIsland_67 : decode cX3_addIsland 67 = .ok (.getfield 18, 3) := by decide +kernel
theorem dX3_addIsland_70 : decode cX3_addIsland 70 = .ok (.iload_n 2, 1) := by decide +kernel
theorem dX3_addIsland_71 : decode cX3_addIsland 71 = .ok (.iload_n 1, 1) := by decide +kernel
theorem dX3_addIsland_72 : decode cX3_addIsland 72 = .ok (.invokestatic 34, 3) := by decide +kernel
theorem dX3_addIsland_75 : decode cX3_addIsland 75 = .ok (.aload_n 0, 1) := by decide +kernel
theorem dX3_addIsland_76 : decode cX3_addIsland 76 = .ok (.getfield 9, 3) := by decide +kernel
theorem dX3_addIsland_79 : decode cX3_addIsland 79 = .ok (.iload_n 1, 1) := by decide +kernel
theorem dX3_addIsland_80 : decode cX3_addIsland 80 = .ok (.iconst 1, 1) := by decide +kernel
theorem dX3_addIsland_81 : decode cX3_addIsland 81 = .ok (.invokestatic 34, 3) := by decide +kernel
theorem dX3_addIsland_84 : decode cX3_addIsland 84 = .ok (.aload_n 0, 1) := by decide +kernel
theorem dX3_addIsland_85 : decode cX3_addIsland 85 = .ok (.dup, 1) := by decide +kernel
theorem dX3_addIsland_86 : decode cX3_addIsland 86 = .ok (.getfield 28, 3) := by decide +kernel
theorem dX3_addIsland_89 : decode cX3_addIsland 89 = .ok (.iconst 1, 1) := by decide +kernel
theorem dX3_addIsland_90 : decode cX3_addIsland 90 = .ok (.iadd, 1) := by decide +kernel
theorem dX3_addIsland_91 : decode cX3_addIsland 91 = .ok (.putfield 28, 3) := by decide +kernel
theorem dX3_addIsland_94 : decode cX3_addIsland 94 = .ok (.return_, 1) := by decide +kernel
theorem dX4_init_0 : decode cX4_init 0 = .ok (.aload_n 0, 1) := by decide +kernel
theorem dX4_init_1 : decode cX4_init 1 = .ok (.invokespecial 3, 3) := by decide +kernel
theorem dX4_init_4 : decode cX4_init 4 = .ok (.aload_n 0, 1) := by decide +kernel
theorem dX4_init_5 : decode cX4_init 5 = .ok (.aload_n 1, 1) := by decide +kernel
theorem dX4_init_6 : decode cX4_init 6 = .ok (.putfield 9, 3) := by decide +kernel
theorem dX4_init_9 : decode cX4_init 9 = .ok (.aload_n 0, 1) := by decide +kernel
theorem dX4_init_10 : decode cX4_init 10 = .ok (.aload_n 2, 1) := by decide +kernel
theorem dX4_init_11 : decode cX4_init 11 = .ok (.putfield 15, 3) := by decide +kernel
theorem dX4_init_14 : decode cX4_init 14 = .ok (.aload_n 0, 1) := by decide +kernel
theorem dX4_init_15 : decode cX4_init 15 = .ok (.aload_n 3, 1) := by decide +kernel
theorem dX4_init_16 : decode cX4_init 16 = .ok (.putfield 19, 3) := by decide +kernel
theorem dX4_init_19 : decode cX4_init 19 = .ok (.aload_n 0, 1) := by decide +kernel
theorem dX4_init_20 : decode cX4_init 20 = .ok (.aload 4, 2) := by decide +kernel
theorem dX4_init_22 : decode cX4_init 22 = .ok (.putfield 23, 3) := by decide +kernel
theorem dX4_init_25 : decode cX4_init 25 = .ok (.return_, 1) := by decide +kernel
set_option maxRecDepth 20000 in
theorem ggX4_find_X7_read : GoodIn wsX4_find wsX7_read := goodIn_r _ [12, 13, 14, 15, 16, 17, 18, 19, 20, 21, 22, 23, 24, 25, 26, 27, 28, 29, 30, 31, 32, 33, 34, 35, 11, 36, 37, 38, 39, 40, 41, 42, 43, 44, 45, 46, 47, 48, 49, 50, 143, 144, 145, 146, 147, 148, 132, 133, 134, 135, 136, 137, 138, 139, 140, 141, 142, 125, 126, 127, 128, 129, 130, 131] (by decide +kernel) (by decide +kernel)
set_option maxRecDepth 20000 in
theorem gX4_find_X7_read : GoodIn wsX4_find (wsV RX4 27 RX7 yX7_read wsX7_read) := goodIn_app (goodIn_of _ (by decide +kernel)) ggX4_find_X7_read
set_option maxRecDepth 20000 in
theorem ggX4_find_X7_areBroken : GoodIn wsX4_find wsX7_areBroken := goodIn_r _ [54, 15, 17, 14, 20, 21, 31, 23, 32, 143, 144, 145, 146, 147, 148, 132, 133, 134, 135, 136, 137, 138, 139, 140, 141, 142] (by decide +kernel) (by decide +kernel)
set_option maxRecDepth 20000 in
theorem gX4_find_X7_areBroken : GoodIn wsX4_find (wsV RX4 32 RX7 yX7_areBroken wsX7_areBroken) := goodIn_app (goodIn_of _ (by decide +kernel)) ggX4_find_X7_areBroken
set_option maxRecDepth 20000 in
theorem ggX4_find_X0_read : GoodIn wsX4_find wsX0_read := goodIn_r _ [59, 60, 61, 62, 22, 23, 24, 31, 32, 63, 26, 27, 28, 29, 30, 64, 65, 66, 58, 67, 68, 42, 43, 44, 45, 69, 70, 71, 72, 73, 74, 75, 76, 77, 78, 79, 80, 149, 150, 132, 133, 134, 135, 136, 137, 138, 139, 140, 141, 142] (by decide +kernel) (by decide +kernel)
set_option maxRecDepth 20000 in
theorem gX4_find_X0_read : GoodIn wsX4_find (wsV RX4 42 RX0 yX0_read wsX0_read) := goodIn_app (goodIn_of _ (by decide +kernel)) ggX4_find_X0_read
set_option maxRecDepth 20000 in
theorem ggX4_find_X2_waysWith : GoodIn wsX4_find wsX2_waysWith := goodIn_r _ [84, 85, 31, 23, 32, 132, 133, 134, 135, 136, 137, 138, 139, 140, 141, 142] (by decide +kernel) (by decide +kernel)
set_option maxRecDepth 20000 in
theorem gX4_find_X2_waysWith : GoodIn wsX4_find (wsV RX4 47 RX2 yX2_waysWith wsX2_waysWith) := goodIn_app (goodIn_of _ (by decide +kernel)) ggX4_find_X2_waysWith
set_option maxRecDepth 20000 in
theorem ggX4_find_X4_isPossible : GoodIn wsX4_find wsX4_isPossible := goodIn_r _ [90, 3, 4, 91, 5, 6, 1, 31, 23, 32, 92, 93, 94, 28, 95, 96, 97, 98, 99, 11, 100, 21, 15, 101, 74, 75, 76, 25, 26, 27, 29, 30, 41, 42, 43, 44, 45, 102, 103, 104, 105, 106, 78, 79, 107, 108, 109, 110, 20, 14, 18, 38, 111, 112, 113, 89, 114, 115, 2, 116, 117, 118, 119, 65, 66, 58, 67, 60, 120, 121, 122, 123, 124, 125, 126, 127, 128, 129, 130, 131, 132, 133, 134, 135, 136, 137, 138, 139, 140, 141, 142, 143, 144, 145, 146, 147, 148, 149, 150] (by decide +kernel) (by decide +kernel)
set_option maxRecDepth 20000 in
theorem gX4_find_X4_isPossible : GoodIn wsX4_find (wsV RX4 61 RX4 yX4_isPossible wsX4_isPossible) := goodIn_app (goodIn_of _ (by decide +kernel)) ggX4_find_X4_isPossible
theorem dX4_find_0 : decode cX4_find 0 = .ok (.aload_n 0, 1) := by decide +kernel
theorem dX4_find_1 : decode cX4_find 1 = .ok (.getfield 19, 3) := by decide +kernel
theorem dX4_find_4 : decode cX4_find 4 = .ok (.invokevirtual 27, 3) := by decide +kernel
theorem dX4_find_7 : decode cX4_find 7 = .ok (.aload_n 0, 1) := by decide +kernel
theorem dX4_find_8 : decode cX4_find 8 = .ok (.getfield 19, 3) := by decide +kernel
theorem dX4_find_11 : decode cX4_find 11 = .ok (.invokevirtual 32, 3) := by decide +kernel
theorem dX4_find_14 : decode cX4_find 14 = .ok (.ifCond .eq 6, 3) := by decide +kernel
theorem dX4_find_17 : decode cX4_find 17 = .ok (.bipush (-2), 2) := by decide +kernel
theorem dX4_find_19 : decode cX4_find 19 = .ok (.ireturn, 1) := by decide +kernel
theorem dX4_find_20 : decode cX4_find 20 = .ok (.aload_n 0, 1) := by decide +kernel
theorem dX4_find_21 : decode cX4_find 21 = .ok (.getfield 23, 3) := by decide +kernel
theorem dX4_find_24 : decode cX4_find 24 = .ok (.aload_n 0, 1) := by decide +kernel
theorem dX4_find_25 : decode cX4_find 25 = .ok (.getfield 9, 3) := by decide +kernel
theorem dX4_find_28 : decode cX4_find 28 = .ok (.getfield 36, 3) := by decide +kernel
theorem dX4_find_31 : decode cX4_find 31 = .ok (.invokevirtual 42, 3) := by decide +kernel
theorem dX4_find_34 : decode cX4_find 34 = .ok (.aload_n 0, 1) := by decide +kernel
theorem dX4_find_35 : decode cX4_find 35 = .ok (.aload_n 0, 1) := by decide +kernel
theorem dX4_find_36 : decode cX4_find 36 = .ok (.getfield 15, 3) := by decide +kernel
theorem dX4_find_39 : decode cX4_find 39 = .ok (.aload_n 0, 1) := by decide +kernel
theorem dX4_find_40 : decode cX4_find 40 = .ok (.getfield 9, 3) := by decide +kernel
theorem dX4_find_43 : decode cX4_find 43 = .ok (.getfield 36, 3) := by decide +kernel
theorem dX4_find_46 : decode cX4_find 46 = .ok (.invokevirtual 47, 3) := by decide +kernel
theorem dX4_find_49 : decode cX4_find 49 = .ok (.putfield 53, 3) := by decide +kernel
theorem dX4_find_52 : decode cX4_find 52 = .ok (.iconst 1, 1) := by decide +kernel
theorem dX4_find_53 : decode cX4_find 53 = .ok (.istore_n 1, 1) := by decide +kernel
theorem dX4_find_54 : decode cX4_find 54 = .ok (.iload_n 1, 1) := by decide +kernel
theorem dX4_find_55 : decode cX4_find 55 = .ok (.iconst 4, 1) := by decide +kernel
theorem dX4_find_56 : decode cX4_find 56 = .ok (.if_icmp .gt 44, 3) := by decide +kernel
theorem dX4_find_59 : decode cX4_find 59 = .ok (.iconst 0, 1) := by decide +kernel
theorem dX4_find_60 : decode cX4_find 60 = .ok (.istore_n 2, 1) := by decide +kernel
theorem dX4_find_61 : decode cX4_find 61 = .ok (.iload_n 2, 1) := by decide +kernel
theorem dX4_find_62 : decode cX4_find 62 = .ok (.aload_n 0, 1) := by decide +kernel
theorem dX4_find_63 : decode cX4_find 63 = .ok (.getfield 15, 3) := by decide +kernel
theorem dX4_find_66 : decode cX4_find 66 = .ok (.getfield 57, 3) := by decide +kernel
theorem dX4_find_69 : decode cX4_find 69 = .ok (.if_icmp .ge 25, 3) := by decide +kernel
theorem dX4_find_72 : decode cX4_find 72 = .ok (.aload_n 0, 1) := by decide +kernel
theorem dX4_find_73 : decode cX4_find 73 = .ok (.iload_n 1, 1) := by decide +kernel
theorem dX4_find_74 : decode cX4_find 74 = .ok (.iload_n 2, 1) := by decide +kernel
theorem dX4_find_75 : decode cX4_find 75 = .ok (.invokevirtual 61, 3) := by decide +kernel
theorem dX4_find_78 : decode cX4_find 78 = .ok (.ifCond .eq 10, 3) := by decide +kernel
theorem dX4_find_81 : decode cX4_find 81 = .ok (.bipush 100, 2) := by decide +kernel
theorem dX4_find_83 : decode cX4_find 83 = .ok (.iload_n 1, 1) := by decide +kernel
theorem dX4_find_84 : decode cX4_find 84 = .ok (.imul, 1) := by decide +kernel
theorem dX4_find_85 : decode cX4_find 85 = .ok (.iload_n 2, 1) := by decide +kernel
theorem dX4_find_86 : decode cX4_find 86 = .ok (.iadd, 1) := by decide +kernel
theorem dX4_find_87 : decode cX4_find 87 = .ok (.ireturn, 1) := by decide +kernel
theorem dX4_find_88 : decode cX4_find 88 = .ok (.iinc 2 1, 3) := by decide +kernel
theorem dX4_find_91 : decode cX4_find 91 = .ok (.goto (-30), 3) := by decide +kernel
theorem dX4_find_94 : decode cX4_find 94 = .ok (.iinc 1 1, 3) := by decide +kernel
theorem dX4_find_97 : decode cX4_find 97 = .ok (.goto (-43), 3) := by decide +kernel
theorem dX4_find_100 : decode cX4_find 100 = .ok (.bipush (-4), 2) := by decide +kernel
theorem dX4_find_102 : decode cX4_find 102 = .ok (.ireturn, 1) := by decide +kernel
set_option maxRecDepth 20000 in
theorem ggX4_carryOut_X9_put : GoodIn wsX4_carryOut wsX9_put := goodIn_r _ [13] (by decide +kernel) (by decide +kernel)
set_option maxRecDepth 20000 in
theorem gX4_carryOut_X9_put_n68 : GoodIn wsX4_carryOut (wsX9_put) := ggX4_carryOut_X9_put
set_option maxRecDepth 20000 in
theorem ggX4_carryOut_X9_valueAt : GoodIn wsX4_carryOut wsX9_valueAt := goodIn_r _ [15] (by decide +kernel) (by decide +kernel)
set_option maxRecDepth 20000 in
theorem gX4_carryOut_X9_valueAt_n72 : GoodIn wsX4_carryOut (wsX9_valueAt) := ggX4_carryOut_X9_valueAt
set_option maxRecDepth 20000 in
theorem ggX4_carryOut_X7_lesserLack : GoodIn wsX4_carryOut wsX7_lesserLack := goodIn_r _ [20, 21, 22, 23, 24, 8, 25, 26, 27, 28, 29, 30, 31, 14, 12, 15, 32, 33, 34, 35, 36, 64, 65, 66, 67, 68, 69, 70, 71, 72, 73, 74, 75, 76, 77, 78, 79, 80] (by decide +kernel) (by decide +kernel)
set_option maxRecDepth 20000 in
theorem gX4_carryOut_X7_lesserLack : GoodIn wsX4_carryOut (wsV RX4 76 RX7 yX7_lesserLack wsX7_lesserLack) := goodIn_app (goodIn_of _ (by decide +kernel)) ggX4_carryOut_X7_lesserLack
set_option maxRecDepth 20000 in
theorem ggX4_carryOut_X7_leastBridges : GoodIn wsX4_carryOut wsX7_leastBridges := goodIn_r _ [40, 22, 41, 7, 8, 9, 26, 27, 28, 29, 30, 31, 14, 12, 15, 42, 43, 44, 19, 45, 46, 47, 48, 49, 32, 33, 34, 35, 36, 64, 65, 66, 67, 68, 69, 70, 71, 72, 73, 74, 75, 76, 77, 78, 79, 80, 57, 58, 59, 60, 61, 62, 63] (by decide +kernel) (by decide +kernel)
set_option maxRecDepth 20000 in
theorem gX4_carryOut_X7_leastBridges : GoodIn wsX4_carryOut (wsV RX4 80 RX7 yX7_leastBridges wsX7_leastBridges) := goodIn_app (goodIn_of _ (by decide +kernel)) ggX4_carryOut_X7_leastBridges
set_option maxRecDepth 20000 in
theorem ggX4_carryOut_X9_add : GoodIn wsX4_carryOut wsX9_add := goodIn_r _ [51] (by decide +kernel) (by decide +kernel)
set_option maxRecDepth 20000 in
theorem gX4_carryOut_X9_add_n83 : GoodIn wsX4_carryOut (wsX9_add) := ggX4_carryOut_X9_add
theorem dX4_carryOut_0 : decode cX4_carryOut 0 = .ok (.iload_n 1, 1) := by decide +kernel
theorem dX4_carryOut_1 : decode cX4_carryOut 1 = .ok (.bipush 100, 2) := by decide +kernel
theorem dX4_carryOut_3 : decode cX4_carryOut 3 = .ok (.idiv, 1) := by decide +kernel
theorem dX4_carryOut_4 : decode cX4_carryOut 4 = .ok (.istore_n 2, 1) := by decide +kernel
theorem dX4_carryOut_5 : decode cX4_carryOut 5 = .ok (.iload_n 1, 1) := by decide +kernel
theorem dX4_carryOut_6 : decode cX4_carryOut 6 = .ok (.bipush 100, 2) := by decide +kernel
theorem dX4_carryOut_8 : decode cX4_carryOut 8 = .ok (.irem, 1) := by decide +kernel
theorem dX4_carryOut_9 : decode cX4_carryOut 9 = .ok (.istore_n 3, 1) := by decide +kernel
theorem dX4_carryOut_10 : decode cX4_carryOut 10 = .ok (.iload_n 2, 1) := by decide +kernel
theorem dX4_carryOut_11 : decode cX4_carryOut 11 = .ok (.tableswitch 96 1 3 #[25, 40, 74], 25) := by decide +kernel
theorem dX4_carryOut_36 : decode cX4_carryOut 36 = .ok (.aload_n 0, 1) := by decide +kernel
theorem dX4_carryOut_37 : decode cX4_carryOut 37 = .ok (.getfield 9, 3) := by decide +kernel
theorem dX4_carryOut_40 : decode cX4_carryOut 40 = .ok (.getfield 65, 3) := by decide +kernel
theorem dX4_carryOut_43 : decode cX4_carryOut 43 = .ok (.iload_n 3, 1) := by decide +kernel
theorem dX4_carryOut_44 : decode cX4_carryOut 44 = .ok (.iconst 0, 1) := by decide +kernel
theorem dX4_carryOut_45 : decode cX4_carryOut 45 = .ok (.invokestatic 68, 3) := by decide +kernel
theorem dX4_carryOut_48 : decode cX4_carryOut 48 = .ok (.goto 71, 3) := by decide +kernel
theorem dX4_carryOut_51 : decode cX4_carryOut 51 = .ok (.aload_n 0, 1) := by decide +kernel
theorem dX4_carryOut_52 : decode cX4_carryOut 52 = .ok (.getfield 9, 3) := by decide +kernel
theorem dX4_carryOut_55 : decode cX4_carryOut 55 = .ok (.getfield 65, 3) := by decide +kernel
theorem dX4_carryOut_58 : decode cX4_carryOut 58 = .ok (.iload_n 3, 1) := by decide +kernel
theorem dX4_carryOut_59 : decode cX4_carryOut 59 = .ok (.aload_n 0, 1) := by decide +kernel
theorem dX4_carryOut_60 : decode cX4_carryOut 60 = .ok (.getfield 9, 3) := by decide +kernel
theorem dX4_carryOut_63 : decode cX4_carryOut 63 = .ok (.getfield 36, 3) := by decide +kernel
theorem dX4_carryOut_66 : decode cX4_carryOut 66 = .ok (.iload_n 3, 1) := by decide +kernel
theorem dX4_carryOut_67 : decode cX4_carryOut 67 = .ok (.invokestatic 72, 3) := by decide +kernel
theorem dX4_carryOut_70 : decode cX4_carryOut 70 = .ok (.aload_n 0, 1) := by decide +kernel
theorem dX4_carryOut_71 : decode cX4_carryOut 71 = .ok (.getfield 19, 3) := by decide +kernel
theorem dX4_carryOut_74 : decode cX4_carryOut 74 = .ok (.iload_n 3, 1) := by decide +kernel
theorem dX4_carryOut_75 : decode cX4_carryOut 75 = .ok (.invokevirtual 76, 3) := by decide +kernel
theorem dX4_carryOut_78 : decode cX4_carryOut 78 = .ok (.iadd, 1) := by decide +kernel
theorem dX4_carryOut_79 : decode cX4_carryOut 79 = .ok (.invokestatic 68, 3) := by decide +kernel
theorem dX4_carryOut_82 : decode cX4_carryOut 82 = .ok (.goto 37, 3) := by decide +kernel
theorem dX4_carryOut_85 : decode cX4_carryOut 85 = .ok (.aload_n 0, 1) := by decide +kernel
theorem dX4_carryOut_86 : decode cX4_carryOut 86 = .ok (.getfield 9, 3) := by decide +kernel
theorem dX4_carryOut_89 : decode cX4_carryOut 89 = .ok (.getfield 36, 3) := by decide +kernel
theorem dX4_carryOut_92 : decode cX4_carryOut 92 = .ok (.iload_n 3, 1) := by decide +kernel
theorem dX4_carryOut_93 : decode cX4_carryOut 93 = .ok (.aload_n 0, 1) := by decide +kernel
theorem dX4_carryOut_94 : decode cX4_carryOut 94 = .ok (.getfield 19, 3) := by decide +kernel
theorem dX4_carryOut_97 : decode cX4_carryOut 97 = .ok (.iload_n 3, 1) := by decide +kernel
theorem dX4_carryOut_98 : decode cX4_carryOut 98 = .ok (.invokevirtual 80, 3) := by decide +kernel
theorem dX4_carryOut_101 : decode cX4_carryOut 101 = .ok (.invokestatic 68, 3) := by decide +kernel
theorem dX4_carryOut_104 : decode cX4_carryOut 104 = .ok (.goto 15, 3) := by decide +kernel
theorem dX4_carryOut_107 : decode cX4_carryOut 107 = .ok (.aload_n 0, 1) := by decide +kernel
theorem dX4_carryOut_108 : decode cX4_carryOut 108 = .ok (.getfield 9, 3) := by decide +kernel
theorem dX4_carryOut_111 : decode cX4_carryOut 111 = .ok (.getfield 65, 3) := by decide +kernel
theorem dX4_carryOut_114 : decode cX4_carryOut 114 = .ok (.iload_n 3, 1) := by decide +kernel
theorem dX4_carryOut_115 : decode cX4_carryOut 115 = .ok (.iconst (-1), 1) := by decide +kernel
theorem dX4_carryOut_116 : decode cX4_carryOut 116 = .ok (.invokestatic 83, 3) := by decide +kernel
theorem dX4_carryOut_119 : decode cX4_carryOut 119 = .ok (.aload_n 0, 1) := by decide +kernel
theorem dX4_carryOut_120 : decode cX4_carryOut 120 = .ok (.getfield 9, 3) := by decide +kernel
theorem dX4_carryOut_123 : decode cX4_carryOut 123 = .ok (.aload_n 0, 1) := by decide +kernel
theorem dX4_carryOut_124 : decode cX4_carryOut 124 = .ok (.getfield 9, 3) := by decide +kernel
theorem dX4_carryOut_127 : decode cX4_carryOut 127 = .ok (.getfield 86, 3) := by decide +kernel
theorem dX4_carryOut_130 : decode cX4_carryOut 130 = .ok (.iload_n 2, 1) := by decide +kernel
theorem dX4_carryOut_131 : decode cX4_carryOut 131 = .ok (.invokestatic 89, 3) := by decide +kernel
theorem dX4_carryOut_134 : decode cX4_carryOut 134 = .ok (.putfield 86, 3) := by decide +kernel
theorem dX4_carryOut_137 : decode cX4_carryOut 137 = .ok (.aload_n 0, 1) := by decide +kernel
theorem dX4_carryOut_138 : decode cX4_carryOut 138 = .ok (.getfield 9, 3) := by decide +kernel
theorem dX4_carryOut_141 : decode cX4_carryOut 141 = .ok (.dup, 1) := by decide +kernel
theorem dX4_carryOut_142 : decode cX4_carryOut 142 = .ok (.getfield 95, 3) := by decide +kernel
theorem dX4_carryOut_145 : decode cX4_carryOut 145 = .ok (.iconst 1, 1) := by decide +kernel
theorem dX4_carryOut_146 : decode cX4_carryOut 146 = .ok (.iadd, 1) := by decide +kernel
theorem dX4_carryOut_147 : decode cX4_carryOut 147 = .ok (.putfield 95, 3) := by decide +kernel
theorem dX4_carryOut_150 : decode cX4_carryOut 150 = .ok (.return_, 1) := by decide +kernel
set_option maxRecDepth 20000 in
theorem ggX4_isPossible_X9_valueAt : GoodIn wsX4_isPossible wsX9_valueAt := goodIn_r _ [9] (by decide +kernel) (by decide +kernel)
set_option maxRecDepth 20000 in
theorem gX4_isPossible_X9_valueAt_n72 : GoodIn wsX4_isPossible (wsX9_valueAt) := ggX4_isPossible_X9_valueAt
set_option maxRecDepth 20000 in
theorem ggX4_isPossible_X2_crossingsOf : GoodIn wsX4_isPossible wsX2_crossingsOf := goodIn_r _ [14, 15, 80, 81, 82, 83, 84, 85, 86, 87, 88, 89, 90] (by decide +kernel) (by decide +kernel)
set_option maxRecDepth 20000 in
theorem gX4_isPossible_X2_crossingsOf : GoodIn wsX4_isPossible (wsV RX4 98 RX2 yX2_crossingsOf wsX2_crossingsOf) := goodIn_app (goodIn_of _ (by decide +kernel)) ggX4_isPossible_X2_crossingsOf
set_option maxRecDepth 20000 in
theorem ggX4_isPossible_X7_lesserLack : GoodIn wsX4_isPossible wsX7_lesserLack := goodIn_r _ [20, 21, 22, 23, 24, 25, 26, 27, 28, 29, 13, 30, 31, 7, 8, 9, 32, 33, 34, 35, 36, 91, 92, 93, 94, 95, 96, 80, 81, 82, 83, 84, 85, 86, 87, 88, 89, 90] (by decide +kernel) (by decide +kernel)
set_option maxRecDepth 20000 in
theorem gX4_isPossible_X7_lesserLack : GoodIn wsX4_isPossible (wsV RX4 76 RX7 yX7_lesserLack wsX7_lesserLack) := goodIn_app (goodIn_of _ (by decide +kernel)) ggX4_isPossible_X7_lesserLack
set_option maxRecDepth 20000 in
theorem ggX4_isPossible_X7_leastBridges : GoodIn wsX4_isPossible wsX7_leastBridges := goodIn_r _ [40, 22, 41, 42, 25, 43, 27, 28, 29, 13, 30, 31, 7, 8, 9, 44, 45, 46, 19, 47, 48, 49, 50, 51, 32, 33, 34, 35, 36, 91, 92, 93, 94, 95, 96, 80, 81, 82, 83, 84, 85, 86, 87, 88, 89, 90, 73, 74, 75, 76, 77, 78, 79] (by decide +kernel) (by decide +kernel)
set_option maxRecDepth 20000 in
theorem gX4_isPossible_X7_leastBridges : GoodIn wsX4_isPossible (wsV RX4 80 RX7 yX7_leastBridges wsX7_leastBridges) := goodIn_app (goodIn_of _ (by decide +kernel)) ggX4_isPossible_X7_leastBridges
set_option maxRecDepth 20000 in
theorem ggX4_isPossible_X4_wouldCutOff : GoodIn wsX4_isPossible wsX4_wouldCutOff := goodIn_r _ [56, 4, 57, 58, 6, 59, 60, 28, 29, 13, 30, 31, 7, 8, 9, 61, 33, 34, 35, 36, 62, 63, 64, 65, 66, 67, 68, 69, 70, 71, 72, 80, 81, 82, 83, 84, 85, 86, 87, 88, 89, 90, 91, 92, 93, 94, 95, 96, 97, 98] (by decide +kernel) (by decide +kernel)
set_option maxRecDepth 20000 in
theorem gX4_isPossible_X4_wouldCutOff : GoodIn wsX4_isPossible (wsV RX4 102 RX4 yX4_wouldCutOff wsX4_wouldCutOff) := goodIn_app (goodIn_of _ (by decide +kernel)) ggX4_isPossible_X4_wouldCutOff
theorem dX4_isPossible_0 : decode cX4_isPossible 0 = .ok (.aload_n 0, 1) := by decide +kernel
theorem dX4_isPossible_1 : decode cX4_isPossible 1 = .ok (.getfield 9, 3) := by decide +kernel
theorem dX4_isPossible_4 : decode cX4_isPossible 4 = .ok (.getfield 36, 3) := by decide +kernel
theorem dX4_isPossible_7 : decode cX4_isPossible 7 = .ok (.iload_n 2, 1) := by decide +kernel
theorem dX4_isPossible_8 : decode cX4_isPossible 8 = .ok (.invokestatic 72, 3) := by decide +kernel
theorem dX4_isPossible_11 : decode cX4_isPossible 11 = .ok (.istore_n 3, 1) := by decide +kernel
theorem dX4_isPossible_12 : decode cX4_isPossible 12 = .ok (.aload_n 0, 1) := by decide +kernel
theorem dX4_isPossible_13 : decode cX4_isPossible 13 = .ok (.getfield 9, 3) := by decide +kernel
theorem dX4_isPossible_16 : decode cX4_isPossible 16 = .ok (.getfield 65, 3) := by decide +kernel
theorem dX4_isPossible_19 : decode cX4_isPossible 19 = .ok (.iload_n 2, 1) := by decide +kernel
theorem dX4_isPossible_20 : decode cX4_isPossible 20 = .ok (.invokestatic 72, 3) := by decide +kernel
theorem dX4_isPossible_23 : decode cX4_isPossible 23 = .ok (.istore 4, 2) := by decide +kernel
theorem dX4_isPossible_25 : decode cX4_isPossible 25 = .ok (.iload_n 1, 1) := by decide +kernel
theorem dX4_isPossible_26 : decode cX4_isPossible 26 = .ok (.tableswitch 98 1 3 #[26, 59, 80], 26) := by decide +kernel
theorem dX4_isPossible_52 : decode cX4_isPossible 52 = .ok (.iload_n 3, 1) := by decide +kernel
theorem dX4_isPossible_53 : decode cX4_isPossible 53 = .ok (.ifCond .ne 30, 3) := by decide +kernel
theorem dX4_isPossible_56 : decode cX4_isPossible 56 = .ok (.iload 4, 2) := by decide +kernel
theorem dX4_isPossible_58 : decode cX4_isPossible 58 = .ok (.ifCond .le 25, 3) := by decide +kernel
theorem dX4_isPossible_61 : decode cX4_isPossible 61 = .ok (.aload_n 0, 1) := by decide +kernel
theorem dX4_isPossible_62 : decode cX4_isPossible 62 = .ok (.getfield 15, 3) := by decide +kernel
theorem dX4_isPossible_65 : decode cX4_isPossible 65 = .ok (.iload_n 2, 1) := by decide +kernel
theorem dX4_isPossible_66 : decode cX4_isPossible 66 = .ok (.invokevirtual 98, 3) := by decide +kernel
theorem dX4_isPossible_69 : decode cX4_isPossible 69 = .ok (.aload_n 0, 1) := by decide +kernel
theorem dX4_isPossible_70 : decode cX4_isPossible 70 = .ok (.getfield 53, 3) := by decide +kernel
theorem dX4_isPossible_73 : decode cX4_isPossible 73 = .ok (.land, 1) := by decide +kernel
theorem dX4_isPossible_74 : decode cX4_isPossible 74 = .ok (.lconst 0, 1) := by decide +kernel
theorem dX4_isPossible_75 : decode cX4_isPossible 75 = .ok (.lcmp, 1) := by decide +kernel
theorem dX4_isPossible_76 : decode cX4_isPossible 76 = .ok (.ifCond .eq 7, 3) := by decide +kernel
theorem dX4_isPossible_79 : decode cX4_isPossible 79 = .ok (.iconst 1, 1) := by decide +kernel
theorem dX4_isPossible_80 : decode cX4_isPossible 80 = .ok (.goto 4, 3) := by decide +kernel
theorem dX4_isPossible_83 : decode cX4_isPossible 83 = .ok (.iconst 0, 1) := by decide +kernel
theorem dX4_isPossible_84 : decode cX4_isPossible 84 = .ok (.ireturn, 1) := by decide +kernel
theorem dX4_isPossible_85 : decode cX4_isPossible 85 = .ok (.iload 4, 2) := by decide +kernel
theorem dX4_isPossible_87 : decode cX4_isPossible 87 = .ok (.iload_n 3, 1) := by decide +kernel
theorem dX4_isPossible_88 : decode cX4_isPossible 88 = .ok (.aload_n 0, 1) := by decide +kernel
theorem dX4_isPossible_89 : decode cX4_isPossible 89 = .ok (.getfield 19, 3) := by decide +kernel
theorem dX4_isPossible_92 : decode cX4_isPossible 92 = .ok (.iload_n 2, 1) := by decide +kernel
theorem dX4_isPossible_93 : decode cX4_isPossible 93 = .ok (.invokevirtual 76, 3) := by decide +kernel
theorem dX4_isPossible_96 : decode cX4_isPossible 96 = .ok (.iadd, 1) := by decide +kernel
theorem dX4_isPossible_97 : decode cX4_isPossible 97 = .ok (.if_icmp .le 7, 3) := by decide +kernel
theorem dX4_isPossible_100 : decode cX4_isPossible 100 = .ok (.iconst 1, 1) := by decide +kernel
theorem dX4_isPossible_101 : decode cX4_isPossible 101 = .ok (.goto 4, 3) := by decide +kernel
theorem dX4_isPossible_104 : decode cX4_isPossible 104 = .ok (.iconst 0, 1) := by decide +kernel
theorem dX4_isPossible_105 : decode cX4_isPossible 105 = .ok (.ireturn, 1) := by decide +kernel
theorem dX4_isPossible_106 : decode cX4_isPossible 106 = .ok (.iload_n 3, 1) := by decide +kernel
theorem dX4_isPossible_107 : decode cX4_isPossible 107 = .ok (.aload_n 0, 1) := by decide +kernel
theorem dX4_isPossible_108 : decode cX4_isPossible 108 = .ok (.getfield 19, 3) := by decide +kernel
theorem dX4_isPossible_111 : decode cX4_isPossible 111 = .ok (.iload_n 2, 1) := by decide +kernel
theorem dX4_isPossible_112 : decode cX4_isPossible 112 = .ok (.invokevirtual 80, 3) := by decide +kernel
theorem dX4_isPossible_115 : decode cX4_isPossible 115 = .ok (.if_icmp .ge 7, 3) := by decide +kernel
theorem dX4_isPossible_118 : decode cX4_isPossible 118 = .ok (.iconst 1, 1) := by decide +kernel
theorem dX4_isPossible_119 : decode cX4_isPossible 119 = .ok (.goto 4, 3) := by decide +kernel
theorem dX4_isPossible_122 : decode cX4_isPossible 122 = .ok (.iconst 0, 1) := by decide +kernel
theorem dX4_isPossible_123 : decode cX4_isPossible 123 = .ok (.ireturn, 1) := by decide +kernel
theorem dX4_isPossible_124 : decode cX4_isPossible 124 = .ok (.iload 4, 2) := by decide +kernel
theorem dX4_isPossible_126 : decode cX4_isPossible 126 = .ok (.iload_n 3, 1) := by decide +kernel
theorem dX4_isPossible_127 : decode cX4_isPossible 127 = .ok (.if_icmp .le 19, 3) := by decide +kernel
theorem dX4_isPossible_130 : decode cX4_isPossible 130 = .ok (.aload_n 0, 1) := by decide +kernel
theorem dX4_isPossible_131 : decode cX4_isPossible 131 = .ok (.iload_n 2, 1) := by decide +kernel
theorem dX4_isPossible_132 : decode cX4_isPossible 132 = .ok (.iload 4, 2) := by decide +kernel
theorem dX4_isPossible_134 : decode cX4_isPossible 134 = .ok (.iload_n 3, 1) := by decide +kernel
theorem dX4_isPossible_135 : decode cX4_isPossible 135 = .ok (.isub, 1) := by decide +kernel
theorem dX4_isPossible_136 : decode cX4_isPossible 136 = .ok (.invokevirtual 102, 3) := by decide +kernel
theorem dX4_isPossible_139 : decode cX4_isPossible 139 = .ok (.ifCond .eq 7, 3) := by decide +kernel
theorem dX4_isPossible_142 : decode cX4_isPossible 142 = .ok (.iconst 1, 1) := by decide +kernel
theorem dX4_isPossible_143 : decode cX4_isPossible 143 = .ok (.goto 4, 3) := by decide +kernel
theorem dX4_isPossible_146 : decode cX4_isPossible 146 = .ok (.iconst 0, 1) := by decide +kernel
theorem dX4_isPossible_147 : decode cX4_isPossible 147 = .ok (.ireturn, 1) := by decide +kernel
set_option maxRecDepth 20000 in
theorem ggX4_wouldCutOff_X2_first : GoodIn wsX4_wouldCutOff wsX2_first := goodIn_r _ [10, 11, 12, 13, 14, 31, 32, 33, 34, 35, 36, 37, 38, 39, 40, 41] (by decide +kernel) (by decide +kernel)
set_option maxRecDepth 20000 in
theorem gX4_wouldCutOff_X2_first : GoodIn wsX4_wouldCutOff (wsV RX4 105 RX2 yX2_first wsX2_first) := goodIn_app (goodIn_of _ (by decide +kernel)) ggX4_wouldCutOff_X2_first
set_option maxRecDepth 20000 in
theorem ggX4_wouldCutOff_X2_second : GoodIn wsX4_wouldCutOff wsX2_second := goodIn_r _ [18, 19, 12, 13, 14, 31, 32, 33, 34, 35, 36, 37, 38, 39, 40, 41] (by decide +kernel) (by decide +kernel)
set_option maxRecDepth 20000 in
theorem gX4_wouldCutOff_X2_second : GoodIn wsX4_wouldCutOff (wsV RX4 108 RX2 yX2_second wsX2_second) := goodIn_app (goodIn_of _ (by decide +kernel)) ggX4_wouldCutOff_X2_second
set_option maxRecDepth 20000 in
theorem ggX4_wouldCutOff_X0_leader : GoodIn wsX4_wouldCutOff wsX0_leader := goodIn_r _ [24, 25, 12, 13, 14, 48, 49] (by decide +kernel) (by decide +kernel)
set_option maxRecDepth 20000 in
theorem gX4_wouldCutOff_X0_leader : GoodIn wsX4_wouldCutOff (wsV RX4 114 RX0 yX0_leader wsX0_leader) := goodIn_app (goodIn_of _ (by decide +kernel)) ggX4_wouldCutOff_X0_leader
set_option maxRecDepth 20000 in
theorem ggX4_wouldCutOff_X9_valueAt : GoodIn wsX4_wouldCutOff wsX9_valueAt := goodIn_r _ [14] (by decide +kernel) (by decide +kernel)
set_option maxRecDepth 20000 in
theorem gX4_wouldCutOff_X9_valueAt_n72 : GoodIn wsX4_wouldCutOff (wsX9_valueAt) := ggX4_wouldCutOff_X9_valueAt
theorem dX4_wouldCutOff_0 : decode cX4_wouldCutOff 0 = .ok (.aload_n 0, 1) := by decide +kernel
theorem dX4_wouldCutOff_1 : decode cX4_wouldCutOff 1 = .ok (.getfield 15, 3) := by decide +kernel
theorem dX4_wouldCutOff_4 : decode cX4_wouldCutOff 4 = .ok (.iload_n 1, 1) := by decide +kernel
theorem dX4_wouldCutOff_5 : decode cX4_wouldCutOff 5 = .ok (.invokevirtual 105, 3) := by decide +kernel
theorem dX4_wouldCutOff_8 : decode cX4_wouldCutOff 8 = .ok (.istore_n 3, 1) := by decide +kernel
theorem dX4_wouldCutOff_9 : decode cX4_wouldCutOff 9 = .ok (.aload_n 0, 1) := by decide +kernel
theorem dX4_wouldCutOff_10 : decode cX4_wouldCutOff 10 = .ok (.getfield 15, 3) := by decide +kernel
theorem dX4_wouldCutOff_13 : decode cX4_wouldCutOff 13 = .ok (.iload_n 1, 1) := by decide +kernel
theorem dX4_wouldCutOff_14 : decode cX4_wouldCutOff 14 = .ok (.invokevirtual 108, 3) := by decide +kernel
theorem dX4_wouldCutOff_17 : decode cX4_wouldCutOff 17 = .ok (.istore 4, 2) := by decide +kernel
theorem dX4_wouldCutOff_19 : decode cX4_wouldCutOff 19 = .ok (.iconst 0, 1) := by decide +kernel
theorem dX4_wouldCutOff_20 : decode cX4_wouldCutOff 20 = .ok (.istore 5, 2) := by decide +kernel
theorem dX4_wouldCutOff_22 : decode cX4_wouldCutOff 22 = .ok (.iconst 0, 1) := by decide +kernel
theorem dX4_wouldCutOff_23 : decode cX4_wouldCutOff 23 = .ok (.istore 6, 2) := by decide +kernel
theorem dX4_wouldCutOff_25 : decode cX4_wouldCutOff 25 = .ok (.iload 6, 2) := by decide +kernel
theorem dX4_wouldCutOff_27 : decode cX4_wouldCutOff 27 = .ok (.aload_n 0, 1) := by decide +kernel
theorem dX4_wouldCutOff_28 : decode cX4_wouldCutOff 28 = .ok (.getfield 15, 3) := by decide +kernel
theorem dX4_wouldCutOff_31 : decode cX4_wouldCutOff 31 = .ok (.getfield 111, 3) := by decide +kernel
theorem dX4_wouldCutOff_34 : decode cX4_wouldCutOff 34 = .ok (.if_icmp .ge 92, 3) := by decide +kernel
theorem dX4_wouldCutOff_37 : decode cX4_wouldCutOff 37 = .ok (.aload_n 0, 1) := by decide +kernel
theorem dX4_wouldCutOff_38 : decode cX4_wouldCutOff 38 = .ok (.getfield 23, 3) := by decide +kernel
theorem dX4_wouldCutOff_41 : decode cX4_wouldCutOff 41 = .ok (.iload 6, 2) := by decide +kernel
theorem dX4_wouldCutOff_43 : decode cX4_wouldCutOff 43 = .ok (.invokevirtual 114, 3) := by decide +kernel
theorem dX4_wouldCutOff_46 : decode cX4_wouldCutOff 46 = .ok (.istore 7, 2) := by decide +kernel
theorem dX4_wouldCutOff_48 : decode cX4_wouldCutOff 48 = .ok (.iload 6, 2) := by decide +kernel
theorem dX4_wouldCutOff_50 : decode cX4_wouldCutOff 50 = .ok (.iload_n 3, 1) := by decide +kernel
theorem dX4_wouldCutOff_51 : decode cX4_wouldCutOff 51 = .ok (.if_icmp .eq 10, 3) := by decide +kernel
theorem dX4_wouldCutOff_54 : decode cX4_wouldCutOff 54 = .ok (.iload 6, 2) := by decide +kernel
theorem dX4_wouldCutOff_56 : decode cX4_wouldCutOff 56 = .ok (.iload 4, 2) := by decide +kernel
theorem dX4_wouldCutOff_58 : decode cX4_wouldCutOff 58 = .ok (.if_icmp .ne 7, 3) := by decide +kernel
theorem dX4_wouldCutOff_61 : decode cX4_wouldCutOff 61 = .ok (.iload_n 2, 1) := by decide +kernel
theorem dX4_wouldCutOff_62 : decode cX4_wouldCutOff 62 = .ok (.goto 4, 3) := by decide +kernel
theorem dX4_wouldCutOff_65 : decode cX4_wouldCutOff 65 = .ok (.iconst 0, 1) := by decide +kernel
theorem dX4_wouldCutOff_66 : decode cX4_wouldCutOff 66 = .ok (.istore 8, 2) := by decide +kernel
theorem dX4_wouldCutOff_68 : decode cX4_wouldCutOff 68 = .ok (.iload 7, 2) := by decide +kernel
theorem dX4_wouldCutOff_70 : decode cX4_wouldCutOff 70 = .ok (.aload_n 0, 1) := by decide +kernel
theorem dX4_wouldCutOff_71 : decode cX4_wouldCutOff 71 = .ok (.getfield 23, 3) := by decide +kernel
theorem dX4_wouldCutOff_74 : decode cX4_wouldCutOff 74 = .ok (.iload_n 3, 1) := by decide +kernel
theorem dX4_wouldCutOff_75 : decode cX4_wouldCutOff 75 = .ok (.invokevirtual 114, 3) := by decide +kernel
theorem dX4_wouldCutOff_78 : decode cX4_wouldCutOff 78 = .ok (.if_icmp .eq 23, 3) := by decide +kernel
theorem dX4_wouldCutOff_81 : decode cX4_wouldCutOff 81 = .ok (.iload 7, 2) := by decide +kernel
theorem dX4_wouldCutOff_83 : decode cX4_wouldCutOff 83 = .ok (.aload_n 0, 1) := by decide +kernel
theorem dX4_wouldCutOff_84 : decode cX4_wouldCutOff 84 = .ok (.getfield 23, 3) := by decide +kernel
theorem dX4_wouldCutOff_87 : decode cX4_wouldCutOff 87 = .ok (.iload 4, 2) := by decide +kernel
theorem dX4_wouldCutOff_89 : decode cX4_wouldCutOff 89 = .ok (.invokevirtual 114, 3) := by decide +kernel
theorem dX4_wouldCutOff_92 : decode cX4_wouldCutOff 92 = .ok (.if_icmp .eq 9, 3) := by decide +kernel
theorem dX4_wouldCutOff_95 : decode cX4_wouldCutOff 95 = .ok (.iconst 1, 1) := by decide +kernel
theorem dX4_wouldCutOff_96 : decode cX4_wouldCutOff 96 = .ok (.istore 5, 2) := by decide +kernel
theorem dX4_wouldCutOff_98 : decode cX4_wouldCutOff 98 = .ok (.goto 22, 3) := by decide +kernel
theorem dX4_wouldCutOff_101 : decode cX4_wouldCutOff 101 = .ok (.aload_n 0, 1) := by decide +kernel
theorem dX4_wouldCutOff_102 : decode cX4_wouldCutOff 102 = .ok (.getfield 19, 3) := by decide +kernel
theorem dX4_wouldCutOff_105 : decode cX4_wouldCutOff 105 = .ok (.getfield 117, 3) := by decide +kernel
theorem dX4_wouldCutOff_108 : decode cX4_wouldCutOff 108 = .ok (.iload 6, 2) := by decide +kernel
theorem dX4_wouldCutOff_110 : decode cX4_wouldCutOff 110 = .ok (.invokestatic 72, 3) := by decide +kernel
theorem dX4_wouldCutOff_113 : decode cX4_wouldCutOff 113 = .ok (.iload 8, 2) := by decide +kernel
theorem dX4_wouldCutOff_115 : decode cX4_wouldCutOff 115 = .ok (.if_icmp .eq 5, 3) := by decide +kernel
theorem dX4_wouldCutOff_118 : decode cX4_wouldCutOff 118 = .ok (.iconst 0, 1) := by decide +kernel
theorem dX4_wouldCutOff_119 : decode cX4_wouldCutOff 119 = .ok (.ireturn, 1) := by decide +kernel
theorem dX4_wouldCutOff_120 : decode cX4_wouldCutOff 120 = .ok (.iinc 6 1, 3) := by decide +kernel
theorem dX4_wouldCutOff_123 : decode cX4_wouldCutOff 123 = .ok (.goto (-98), 3) := by decide +kernel
theorem dX4_wouldCutOff_126 : decode cX4_wouldCutOff 126 = .ok (.iload 5, 2) := by decide +kernel
theorem dX4_wouldCutOff_128 : decode cX4_wouldCutOff 128 = .ok (.ireturn, 1) := by decide +kernel
theorem dX5_init_0 : decode cX5_init 0 = .ok (.aload_n 0, 1) := by decide +kernel
theorem dX5_init_1 : decode cX5_init 1 = .ok (.invokespecial 3, 3) := by decide +kernel
theorem dX5_init_4 : decode cX5_init 4 = .ok (.aload_n 0, 1) := by decide +kernel
theorem dX5_init_5 : decode cX5_init 5 = .ok (.bipush 48, 2) := by decide +kernel
theorem dX5_init_7 : decode cX5_init 7 = .ok (.newarray .int, 2) := by decide +kernel
theorem dX5_init_9 : decode cX5_init 9 = .ok (.putfield 9, 3) := by decide +kernel
theorem dX5_init_12 : decode cX5_init 12 = .ok (.aload_n 0, 1) := by decide +kernel
theorem dX5_init_13 : decode cX5_init 13 = .ok (.bipush 24, 2) := by decide +kernel
theorem dX5_init_15 : decode cX5_init 15 = .ok (.newarray .int, 2) := by decide +kernel
theorem dX5_init_17 : decode cX5_init 17 = .ok (.putfield 15, 3) := by decide +kernel
theorem dX5_init_20 : decode cX5_init 20 = .ok (.aload_n 0, 1) := by decide +kernel
theorem dX5_init_21 : decode cX5_init 21 = .ok (.bipush 24, 2) := by decide +kernel
theorem dX5_init_23 : decode cX5_init 23 = .ok (.newarray .int, 2) := by decide +kernel
theorem dX5_init_25 : decode cX5_init 25 = .ok (.putfield 18, 3) := by decide +kernel
theorem dX5_init_28 : decode cX5_init 28 = .ok (.aload_n 0, 1) := by decide +kernel
theorem dX5_init_29 : decode cX5_init 29 = .ok (.aload_n 1, 1) := by decide +kernel
theorem dX5_init_30 : decode cX5_init 30 = .ok (.putfield 21, 3) := by decide +kernel
theorem dX5_init_33 : decode cX5_init 33 = .ok (.aload_n 0, 1) := by decide +kernel
theorem dX5_init_34 : decode cX5_init 34 = .ok (.aload_n 2, 1) := by decide +kernel
theorem dX5_init_35 : decode cX5_init 35 = .ok (.putfield 25, 3) := by decide +kernel
theorem dX5_init_38 : decode cX5_init 38 = .ok (.aload_n 0, 1) := by decide +kernel
theorem dX5_init_39 : decode cX5_init 39 = .ok (.aload_n 3, 1) := by decide +kernel
theorem dX5_init_40 : decode cX5_init 40 = .ok (.putfield 29, 3) := by decide +kernel
theorem dX5_init_43 : decode cX5_init 43 = .ok (.return_, 1) := by decide +kernel
set_option maxRecDepth 20000 in
theorem ggX6_init_X6_empty : GoodIn wsX6_init wsX6_empty := goodIn_r _ [12, 13, 14, 5, 15, 16, 17, 18, 19, 20, 11, 21, 6, 7, 22, 23, 24, 25, 26, 27, 28, 29, 30] (by decide +kernel) (by decide +kernel)
set_option maxRecDepth 20000 in
theorem gX6_init_X6_empty : GoodIn wsX6_init (wsV RX6 21 RX6 yX6_empty wsX6_empty) := goodIn_app (goodIn_of _ (by decide +kernel)) ggX6_init_X6_empty
theorem dX6_init_0 : decode cX6_init 0 = .ok (.aload_n 0, 1) := by decide +kernel
theorem dX6_init_1 : decode cX6_init 1 = .ok (.invokespecial 3, 3) := by decide +kernel
theorem dX6_init_4 : decode cX6_init 4 = .ok (.aload_n 0, 1) := by decide +kernel
theorem dX6_init_5 : decode cX6_init 5 = .ok (.sipush 144, 3) := by decide +kernel
theorem dX6_init_8 : decode cX6_init 8 = .ok (.newarray .int, 2) := by decide +kernel
theorem dX6_init_10 : decode cX6_init 10 = .ok (.putfield 9, 3) := by decide +kernel
theorem dX6_init_13 : decode cX6_init 13 = .ok (.aload_n 0, 1) := by decide +kernel
theorem dX6_init_14 : decode cX6_init 14 = .ok (.bipush 48, 2) := by decide +kernel
theorem dX6_init_16 : decode cX6_init 16 = .ok (.newarray .int, 2) := by decide +kernel
theorem dX6_init_18 : decode cX6_init 18 = .ok (.putfield 15, 3) := by decide +kernel
theorem dX6_init_21 : decode cX6_init 21 = .ok (.aload_n 0, 1) := by decide +kernel
theorem dX6_init_22 : decode cX6_init 22 = .ok (.bipush 48, 2) := by decide +kernel
theorem dX6_init_24 : decode cX6_init 24 = .ok (.newarray .int, 2) := by decide +kernel
theorem dX6_init_26 : decode cX6_init 26 = .ok (.putfield 18, 3) := by decide +kernel
theorem dX6_init_29 : decode cX6_init 29 = .ok (.aload_n 0, 1) := by decide +kernel
theorem dX6_init_30 : decode cX6_init 30 = .ok (.bipush 7, 2) := by decide +kernel
theorem dX6_init_32 : decode cX6_init 32 = .ok (.bipush 7, 2) := by decide +kernel
theorem dX6_init_34 : decode cX6_init 34 = .ok (.invokevirtual 21, 3) := by decide +kernel
theorem dX6_init_37 : decode cX6_init 37 = .ok (.return_, 1) := by decide +kernel
theorem dX6_cells_0 : decode cX6_cells 0 = .ok (.aload_n 0, 1) := by decide +kernel
theorem dX6_cells_1 : decode cX6_cells 1 = .ok (.getfield 25, 3) := by decide +kernel
theorem dX6_cells_4 : decode cX6_cells 4 = .ok (.aload_n 0, 1) := by decide +kernel
theorem dX6_cells_5 : decode cX6_cells 5 = .ok (.getfield 29, 3) := by decide +kernel
theorem dX6_cells_8 : decode cX6_cells 8 = .ok (.imul, 1) := by decide +kernel
theorem dX6_cells_9 : decode cX6_cells 9 = .ok (.ireturn, 1) := by decide +kernel
set_option maxRecDepth 20000 in
theorem ggX6_empty_X9_put : GoodIn wsX6_empty wsX9_put := goodIn_r _ [6] (by decide +kernel) (by decide +kernel)
set_option maxRecDepth 20000 in
theorem gX6_empty_X9_put_n32 : GoodIn wsX6_empty (wsX9_put) := ggX6_empty_X9_put
set_option maxRecDepth 20000 in
theorem ggX6_empty_X6_takeAllBridges : GoodIn wsX6_empty wsX6_takeAllBridges := goodIn_r _ [11, 12, 13, 14, 15, 4, 5, 6, 16, 17, 18, 19, 20, 21, 22] (by decide +kernel) (by decide +kernel)
set_option maxRecDepth 20000 in
theorem gX6_empty_X6_takeAllBridges : GoodIn wsX6_empty (wsV RX6 36 RX6 yX6_takeAllBridges wsX6_takeAllBridges) := goodIn_app (goodIn_of _ (by decide +kernel)) ggX6_empty_X6_takeAllBridges
theorem dX6_empty_0 : decode cX6_empty 0 = .ok (.aload_n 0, 1) := by decide +kernel
theorem dX6_empty_1 : decode cX6_empty 1 = .ok (.iload_n 1, 1) := by decide +kernel
theorem dX6_empty_2 : decode cX6_empty 2 = .ok (.putfield 25, 3) := by decide +kernel
theorem dX6_empty_5 : decode cX6_empty 5 = .ok (.aload_n 0, 1) := by decide +kernel
theorem dX6_empty_6 : decode cX6_empty 6 = .ok (.iload_n 2, 1) := by decide +kernel
theorem dX6_empty_7 : decode cX6_empty 7 = .ok (.putfield 29, 3) := by decide +kernel
theorem dX6_empty_10 : decode cX6_empty 10 = .ok (.iconst 0, 1) := by decide +kernel
theorem dX6_empty_11 : decode cX6_empty 11 = .ok (.istore_n 3, 1) := by decide +kernel
theorem dX6_empty_12 : decode cX6_empty 12 = .ok (.iload_n 3, 1) := by decide +kernel
theorem dX6_empty_13 : decode cX6_empty 13 = .ok (.sipush 144, 3) := by decide +kernel
theorem dX6_empty_16 : decode cX6_empty 16 = .ok (.if_icmp .ge 18, 3) := by decide +kernel
theorem dX6_empty_19 : decode cX6_empty 19 = .ok (.aload_n 0, 1) := by decide +kernel
theorem dX6_empty_20 : decode cX6_empty 20 = .ok (.getfield 9, 3) := by decide +kernel
theorem dX6_empty_23 : decode cX6_empty 23 = .ok (.iload_n 3, 1) := by decide +kernel
theorem dX6_empty_24 : decode cX6_empty 24 = .ok (.iconst 0, 1) := by decide +kernel
theorem dX6_empty_25 : decode cX6_empty 25 = .ok (.invokestatic 32, 3) := by decide +kernel
theorem dX6_empty_28 : decode cX6_empty 28 = .ok (.iinc 3 1, 3) := by decide +kernel
theorem dX6_empty_31 : decode cX6_empty 31 = .ok (.goto (-19), 3) := by decide +kernel
theorem dX6_empty_34 : decode cX6_empty 34 = .ok (.aload_n 0, 1) := by decide +kernel
theorem dX6_empty_35 : decode cX6_empty 35 = .ok (.invokevirtual 36, 3) := by decide +kernel
theorem dX6_empty_38 : decode cX6_empty 38 = .ok (.return_, 1) := by decide +kernel
set_option maxRecDepth 20000 in
theorem ggX6_takeAllBridges_X9_put : GoodIn wsX6_takeAllBridges wsX9_put := goodIn_r _ [7] (by decide +kernel) (by decide +kernel)
set_option maxRecDepth 20000 in
theorem gX6_takeAllBridges_X9_put_n32 : GoodIn wsX6_takeAllBridges (wsX9_put) := ggX6_takeAllBridges_X9_put
theorem dX6_takeAllBridges_0 : decode cX6_takeAllBridges 0 = .ok (.iconst 0, 1) := by decide +kernel
theorem dX6_takeAllBridges_1 : decode cX6_takeAllBridges 1 = .ok (.istore_n 1, 1) := by decide +kernel
theorem dX6_takeAllBridges_2 : decode cX6_takeAllBridges 2 = .ok (.iload_n 1, 1) := by decide +kernel
theorem dX6_takeAllBridges_3 : decode cX6_takeAllBridges 3 = .ok (.bipush 48, 2) := by decide +kernel
theorem dX6_takeAllBridges_5 : decode cX6_takeAllBridges 5 = .ok (.if_icmp .ge 27, 3) := by decide +kernel
theorem dX6_takeAllBridges_8 : decode cX6_takeAllBridges 8 = .ok (.aload_n 0, 1) := by decide +kernel
theorem dX6_takeAllBridges_9 : decode cX6_takeAllBridges 9 = .ok (.getfield 15, 3) := by decide +kernel
theorem dX6_takeAllBridges_12 : decode cX6_takeAllBridges 12 = .ok (.iload_n 1, 1) := by decide +kernel
theorem dX6_takeAllBridges_13 : decode cX6_takeAllBridges 13 = .ok (.iconst 0, 1) := by decide +kernel
theorem dX6_takeAllBridges_14 : decode cX6_takeAllBridges 14 = .ok (.invokestatic 32, 3) := by decide +kernel
theorem dX6_takeAllBridges_17 : decode cX6_takeAllBridges 17 = .ok (.aload_n 0, 1) := by decide +kernel
theorem dX6_takeAllBridges_18 : decode cX6_takeAllBridges 18 = .ok (.getfield 18, 3) := by decide +kernel
theorem dX6_takeAllBridges_21 : decode cX6_takeAllBridges 21 = .ok (.iload_n 1, 1) := by decide +kernel
theorem dX6_takeAllBridges_22 : decode cX6_takeAllBridges 22 = .ok (.iconst 2, 1) := by decide +kernel
theorem dX6_takeAllBridges_23 : decode cX6_takeAllBridges 23 = .ok (.invokestatic 32, 3) := by decide +kernel
theorem dX6_takeAllBridges_26 : decode cX6_takeAllBridges 26 = .ok (.iinc 1 1, 3) := by decide +kernel
theorem dX6_takeAllBridges_29 : decode cX6_takeAllBridges 29 = .ok (.goto (-27), 3) := by decide +kernel
theorem dX6_takeAllBridges_32 : decode cX6_takeAllBridges 32 = .ok (.aload_n 0, 1) := by decide +kernel
theorem dX6_takeAllBridges_33 : decode cX6_takeAllBridges 33 = .ok (.iconst 0, 1) := by decide +kernel
theorem dX6_takeAllBridges_34 : decode cX6_takeAllBridges 34 = .ok (.putfield 39, 3) := by decide +kernel
theorem dX6_takeAllBridges_37 : decode cX6_takeAllBridges 37 = .ok (.aload_n 0, 1) := by decide +kernel
theorem dX6_takeAllBridges_38 : decode cX6_takeAllBridges 38 = .ok (.iconst 0, 1) := by decide +kernel
theorem dX6_takeAllBridges_39 : decode cX6_takeAllBridges 39 = .ok (.putfield 42, 3) := by decide +kernel
theorem dX6_takeAllBridges_42 : decode cX6_takeAllBridges 42 = .ok (.return_, 1) := by decide +kernel
theorem dX6_becomeLike_0 : decode cX6_becomeLike 0 = .ok (.aload_n 0, 1) := by decide +kernel
theorem dX6_becomeLike_1 : decode cX6_becomeLike 1 = .ok (.aload_n 1, 1) := by decide +kernel
theorem dX6_becomeLike_2 : decode cX6_becomeLike 2 = .ok (.getfield 25, 3) := by decide +kernel
theorem dX6_becomeLike_5 : decode cX6_becomeLike 5 = .ok (.putfield 25, 3) := by decide +kernel
theorem dX6_becomeLike_8 : decode cX6_becomeLike 8 = .ok (.aload_n 0, 1) := by decide +kernel
theorem dX6_becomeLike_9 : decode cX6_becomeLike 9 = .ok (.aload_n 1, 1) := by decide +kernel
theorem dX6_becomeLike_10 : decode cX6_becomeLike 10 = .ok (.getfield 29, 3) := by decide +kernel
theorem dX6_becomeLike_13 : decode cX6_becomeLike 13 = .ok (.putfield 29, 3) := by decide +kernel
theorem dX6_becomeLike_16 : decode cX6_becomeLike 16 = .ok (.aload_n 0, 1) := by decide +kernel
theorem dX6_becomeLike_17 : decode cX6_becomeLike 17 = .ok (.aload_n 1, 1) := by decide +kernel
theorem dX6_becomeLike_18 : decode cX6_becomeLike 18 = .ok (.getfield 39, 3) := by decide +kernel
theorem dX6_becomeLike_21 : decode cX6_becomeLike 21 = .ok (.putfield 39, 3) := by decide +kernel
theorem dX6_becomeLike_24 : decode cX6_becomeLike 24 = .ok (.aload_n 0, 1) := by decide +kernel
theorem dX6_becomeLike_25 : decode cX6_becomeLike 25 = .ok (.aload_n 1, 1) := by decide +kernel
theorem dX6_becomeLike_26 : decode cX6_becomeLike 26 = .ok (.getfield 42, 3) := by decide +kernel
theorem dX6_becomeLike_29 : decode cX6_becomeLike 29 = .ok (.putfield 42, 3) := by decide +kernel
theorem dX6_becomeLike_32 : decode cX6_becomeLike 32 = .ok (.aload_n 1, 1) := by decide +kernel
theorem dX6_becomeLike_33 : decode cX6_becomeLike 33 = .ok (.getfield 9, 3) := by decide +kernel
theorem dX6_becomeLike_36 : decode cX6_becomeLike 36 = .ok (.iconst 0, 1) := by decide +kernel
theorem dX6_becomeLike_37 : decode cX6_becomeLike 37 = .ok (.aload_n 0, 1) := by decide +kernel
theorem dX6_becomeLike_38 : decode cX6_becomeLike 38 = .ok (.getfield 9, 3) := by decide +kernel
theorem dX6_becomeLike_41 : decode cX6_becomeLike 41 = .ok (.iconst 0, 1) := by decide +kernel
theorem dX6_becomeLike_42 : decode cX6_becomeLike 42 = .ok (.sipush 144, 3) := by decide +kernel
theorem dX6_becomeLike_45 : decode cX6_becomeLike 45 = .ok (.invokestatic 45, 3) := by decide +kernel
theorem dX6_becomeLike_48 : decode cX6_becomeLike 48 = .ok (.aload_n 1, 1) := by decide +kernel
theorem dX6_becomeLike_49 : decode cX6_becomeLike 49 = .ok (.getfield 15, 3) := by decide +kernel
theorem dX6_becomeLike_52 : decode cX6_becomeLike 52 = .ok (.iconst 0, 1) := by decide +kernel
theorem dX6_becomeLike_53 : decode cX6_becomeLike 53 = .ok (.aload_n 0, 1) := by decide +kernel
theorem dX6_becomeLike_54 : decode cX6_becomeLike 54 = .ok (.getfield 15, 3) := by decide +kernel
theorem dX6_becomeLike_57 : decode cX6_becomeLike 57 = .ok (.iconst 0, 1) := by decide +kernel
theorem dX6_becomeLike_58 : decode cX6_becomeLike 58 = .ok (.bipush 48, 2) := by decide +kernel
theorem dX6_becomeLike_60 : decode cX6_becomeLike 60 = .ok (.invokestatic 45, 3) := by decide +kernel
theorem dX6_becomeLike_63 : decode cX6_becomeLike 63 = .ok (.aload_n 1, 1) := by decide +kernel
theorem dX6_becomeLike_64 : decode cX6_becomeLike 64 = .ok (.getfield 18, 3) := by decide +kernel
theorem dX6_becomeLike_67 : decode cX6_becomeLike 67 = .ok (.iconst 0, 1) := by decide +kernel
theorem dX6_becomeLike_68 : decode cX6_becomeLike 68 = .ok (.aload_n 0, 1) := by decide +kernel
theorem dX6_becomeLike_69 : decode cX6_becomeLike 69 = .ok (.getfield 18, 3) := by decide +kernel
theorem dX6_becomeLike_72 : decode cX6_becomeLike 72 = .ok (.iconst 0, 1) := by decide +kernel
theorem dX6_becomeLike_73 : decode cX6_becomeLike 73 = .ok (.bipush 48, 2) := by decide +kernel
theorem dX6_becomeLike_75 : decode cX6_becomeLike 75 = .ok (.invokestatic 45, 3) := by decide +kernel
theorem dX6_becomeLike_78 : decode cX6_becomeLike 78 = .ok (.return_, 1) := by decide +kernel
theorem dX7_init_0 : decode cX7_init 0 = .ok (.aload_n 0, 1) := by decide +kernel
theorem dX7_init_1 : decode cX7_init 1 = .ok (.invokespecial 3, 3) := by decide +kernel
theorem dX7_init_4 : decode cX7_init 4 = .ok (.aload_n 0, 1) := by decide +kernel
theorem dX7_init_5 : decode cX7_init 5 = .ok (.bipush 24, 2) := by decide +kernel
theorem dX7_init_7 : decode cX7_init 7 = .ok (.newarray .int, 2) := by decide +kernel
theorem dX7_init_9 : decode cX7_init 9 = .ok (.putfield 9, 3) := by decide +kernel
theorem dX7_init_12 : decode cX7_init 12 = .ok (.aload_n 0, 1) := by decide +kernel
theorem dX7_init_13 : decode cX7_init 13 = .ok (.bipush 24, 2) := by decide +kernel
theorem dX7_init_15 : decode cX7_init 15 = .ok (.newarray .int, 2) := by decide +kernel
theorem dX7_init_17 : decode cX7_init 17 = .ok (.putfield 15, 3) := by decide +kernel
theorem dX7_init_20 : decode cX7_init 20 = .ok (.aload_n 0, 1) := by decide +kernel
theorem dX7_init_21 : decode cX7_init 21 = .ok (.bipush 24, 2) := by decide +kernel
theorem dX7_init_23 : decode cX7_init 23 = .ok (.newarray .int, 2) := by decide +kernel
theorem dX7_init_25 : decode cX7_init 25 = .ok (.putfield 18, 3) := by decide +kernel
theorem dX7_init_28 : decode cX7_init 28 = .ok (.aload_n 0, 1) := by decide +kernel
theorem dX7_init_29 : decode cX7_init 29 = .ok (.bipush 24, 2) := by decide +kernel
theorem dX7_init_31 : decode cX7_init 31 = .ok (.newarray .int, 2) := by decide +kernel
theorem dX7_init_33 : decode cX7_init 33 = .ok (.putfield 21, 3) := by decide +kernel
theorem dX7_init_36 : decode cX7_init 36 = .ok (.aload_n 0, 1) := by decide +kernel
theorem dX7_init_37 : decode cX7_init 37 = .ok (.aload_n 1, 1) := by decide +kernel
theorem dX7_init_38 : decode cX7_init 38 = .ok (.putfield 24, 3) := by decide +kernel
theorem dX7_init_41 : decode cX7_init 41 = .ok (.aload_n 0, 1) := by decide +kernel
theorem dX7_init_42 : decode cX7_init 42 = .ok (.aload_n 2, 1) := by decide +kernel
theorem dX7_init_43 : decode cX7_init 43 = .ok (.putfield 28, 3) := by decide +kernel
theorem dX7_init_46 : decode cX7_init 46 = .ok (.return_, 1) := by decide +kernel
set_option maxRecDepth 20000 in
theorem ggX7_read_X9_put : GoodIn wsX7_read wsX9_put := goodIn_r _ [12] (by decide +kernel) (by decide +kernel)
set_option maxRecDepth 20000 in
theorem gX7_read_X9_put_n32 : GoodIn wsX7_read (wsX9_put) := ggX7_read_X9_put
set_option maxRecDepth 20000 in
theorem ggX7_read_X2_first : GoodIn wsX7_read wsX2_first := goodIn_r _ [17, 18, 19, 11, 20, 46, 47, 48, 49, 50, 51, 52, 53, 54, 55, 56] (by decide +kernel) (by decide +kernel)
set_option maxRecDepth 20000 in
theorem gX7_read_X2_first : GoodIn wsX7_read (wsV RX7 42 RX2 yX2_first wsX2_first) := goodIn_app (goodIn_of _ (by decide +kernel)) ggX7_read_X2_first
set_option maxRecDepth 20000 in
theorem ggX7_read_X7_addWay : GoodIn wsX7_read wsX7_addWay := goodIn_r _ [25, 1, 6, 26, 2, 27, 19, 11, 20, 28, 29, 40, 41, 42, 43, 44, 45, 57, 58, 59, 60, 61, 62, 63] (by decide +kernel) (by decide +kernel)
set_option maxRecDepth 20000 in
theorem gX7_read_X7_addWay : GoodIn wsX7_read (wsV RX7 46 RX7 yX7_addWay wsX7_addWay) := goodIn_app (goodIn_of _ (by decide +kernel)) ggX7_read_X7_addWay
set_option maxRecDepth 20000 in
theorem ggX7_read_X2_second : GoodIn wsX7_read wsX2_second := goodIn_r _ [33, 34, 19, 11, 20, 46, 47, 48, 49, 50, 51, 52, 53, 54, 55, 56] (by decide +kernel) (by decide +kernel)
set_option maxRecDepth 20000 in
theorem gX7_read_X2_second : GoodIn wsX7_read (wsV RX7 50 RX2 yX2_second wsX2_second) := goodIn_app (goodIn_of _ (by decide +kernel)) ggX7_read_X2_second
set_option maxRecDepth 20000 in
theorem ggX7_read_X2_cellOf : GoodIn wsX7_read wsX2_cellOf := goodIn_r _ [38, 39, 19, 11, 20, 46, 47, 48, 49, 50, 51, 52, 53, 54, 55, 56] (by decide +kernel) (by decide +kernel)
set_option maxRecDepth 20000 in
theorem gX7_read_X2_cellOf : GoodIn wsX7_read (wsV RX7 59 RX2 yX2_cellOf wsX2_cellOf) := goodIn_app (goodIn_of _ (by decide +kernel)) ggX7_read_X2_cellOf
set_option maxRecDepth 20000 in
theorem ggX7_read_X9_valueAt : GoodIn wsX7_read wsX9_valueAt := goodIn_r _ [20] (by decide +kernel) (by decide +kernel)
set_option maxRecDepth 20000 in
theorem gX7_read_X9_valueAt_n62 : GoodIn wsX7_read (wsX9_valueAt) := ggX7_read_X9_valueAt
theorem dX7_read_0 : decode cX7_read 0 = .ok (.iconst 0, 1) := by decide +kernel
theorem dX7_read_1 : decode cX7_read 1 = .ok (.istore_n 1, 1) := by decide +kernel
theorem dX7_read_2 : decode cX7_read 2 = .ok (.iload_n 1, 1) := by decide +kernel
theorem dX7_read_3 : decode cX7_read 3 = .ok (.bipush 24, 2) := by decide +kernel
theorem dX7_read_5 : decode cX7_read 5 = .ok (.if_icmp .ge 27, 3) := by decide +kernel
theorem dX7_read_8 : decode cX7_read 8 = .ok (.aload_n 0, 1) := by decide +kernel
theorem dX7_read_9 : decode cX7_read 9 = .ok (.getfield 15, 3) := by decide +kernel
theorem dX7_read_12 : decode cX7_read 12 = .ok (.iload_n 1, 1) := by decide +kernel
theorem dX7_read_13 : decode cX7_read 13 = .ok (.iconst 0, 1) := by decide +kernel
theorem dX7_read_14 : decode cX7_read 14 = .ok (.invokestatic 32, 3) := by decide +kernel
theorem dX7_read_17 : decode cX7_read 17 = .ok (.aload_n 0, 1) := by decide +kernel
theorem dX7_read_18 : decode cX7_read 18 = .ok (.getfield 18, 3) := by decide +kernel
theorem dX7_read_21 : decode cX7_read 21 = .ok (.iload_n 1, 1) := by decide +kernel
theorem dX7_read_22 : decode cX7_read 22 = .ok (.iconst 0, 1) := by decide +kernel
theorem dX7_read_23 : decode cX7_read 23 = .ok (.invokestatic 32, 3) := by decide +kernel
theorem dX7_read_26 : decode cX7_read 26 = .ok (.iinc 1 1, 3) := by decide +kernel
theorem dX7_read_29 : decode cX7_read 29 = .ok (.goto (-27), 3) := by decide +kernel
theorem dX7_read_32 : decode cX7_read 32 = .ok (.iconst 0, 1) := by decide +kernel
theorem dX7_read_33 : decode cX7_read 33 = .ok (.istore_n 1, 1) := by decide +kernel
theorem dX7_read_34 : decode cX7_read 34 = .ok (.iload_n 1, 1) := by decide +kernel
theorem dX7_read_35 : decode cX7_read 35 = .ok (.aload_n 0, 1) := by decide +kernel
theorem dX7_read_36 : decode cX7_read 36 = .ok (.getfield 28, 3) := by decide +kernel
theorem dX7_read_39 : decode cX7_read 39 = .ok (.getfield 36, 3) := by decide +kernel
theorem dX7_read_42 : decode cX7_read 42 = .ok (.if_icmp .ge 35, 3) := by decide +kernel
theorem dX7_read_45 : decode cX7_read 45 = .ok (.aload_n 0, 1) := by decide +kernel
theorem dX7_read_46 : decode cX7_read 46 = .ok (.aload_n 0, 1) := by decide +kernel
theorem dX7_read_47 : decode cX7_read 47 = .ok (.getfield 28, 3) := by decide +kernel
theorem dX7_read_50 : decode cX7_read 50 = .ok (.iload_n 1, 1) := by decide +kernel
theorem dX7_read_51 : decode cX7_read 51 = .ok (.invokevirtual 42, 3) := by decide +kernel
theorem dX7_read_54 : decode cX7_read 54 = .ok (.iload_n 1, 1) := by decide +kernel
theorem dX7_read_55 : decode cX7_read 55 = .ok (.invokevirtual 46, 3) := by decide +kernel
theorem dX7_read_58 : decode cX7_read 58 = .ok (.aload_n 0, 1) := by decide +kernel
theorem dX7_read_59 : decode cX7_read 59 = .ok (.aload_n 0, 1) := by decide +kernel
theorem dX7_read_60 : decode cX7_read 60 = .ok (.getfield 28, 3) := by decide +kernel
theorem dX7_read_63 : decode cX7_read 63 = .ok (.iload_n 1, 1) := by decide +kernel
theorem dX7_read_64 : decode cX7_read 64 = .ok (.invokevirtual 50, 3) := by decide +kernel
theorem dX7_read_67 : decode cX7_read 67 = .ok (.iload_n 1, 1) := by decide +kernel
theorem dX7_read_68 : decode cX7_read 68 = .ok (.invokevirtual 46, 3) := by decide +kernel
theorem dX7_read_71 : decode cX7_read 71 = .ok (.iinc 1 1, 3) := by decide +kernel
theorem dX7_read_74 : decode cX7_read 74 = .ok (.goto (-40), 3) := by decide +kernel
theorem dX7_read_77 : decode cX7_read 77 = .ok (.iconst 0, 1) := by decide +kernel
theorem dX7_read_78 : decode cX7_read 78 = .ok (.istore_n 1, 1) := by decide +kernel
theorem dX7_read_79 : decode cX7_read 79 = .ok (.iload_n 1, 1) := by decide +kernel
theorem dX7_read_80 : decode cX7_read 80 = .ok (.aload_n 0, 1) := by decide +kernel
theorem dX7_read_81 : decode cX7_read 81 = .ok (.getfield 28, 3) := by decide +kernel
theorem dX7_read_84 : decode cX7_read 84 = .ok (.getfield 53, 3) := by decide +kernel
theorem dX7_read_87 : decode cX7_read 87 = .ok (.if_icmp .ge 55, 3) := by decide +kernel
theorem dX7_read_90 : decode cX7_read 90 = .ok (.aload_n 0, 1) := by decide +kernel
theorem dX7_read_91 : decode cX7_read 91 = .ok (.getfield 24, 3) := by decide +kernel
theorem dX7_read_94 : decode cX7_read 94 = .ok (.getfield 56, 3) := by decide +kernel
theorem dX7_read_97 : decode cX7_read 97 = .ok (.aload_n 0, 1) := by decide +kernel
theorem dX7_read_98 : decode cX7_read 98 = .ok (.getfield 28, 3) := by decide +kernel
theorem dX7_read_101 : decode cX7_read 101 = .ok (.iload_n 1, 1) := by decide +kernel
theorem dX7_read_102 : decode cX7_read 102 = .ok (.invokevirtual 59, 3) := by decide +kernel
theorem dX7_read_105 : decode cX7_read 105 = .ok (.invokestatic 62, 3) := by decide +kernel
theorem dX7_read_108 : decode cX7_read 108 = .ok (.istore_n 2, 1) := by decide +kernel
theorem dX7_read_109 : decode cX7_read 109 = .ok (.aload_n 0, 1) := by decide +kernel
theorem dX7_read_110 : decode cX7_read 110 = .ok (.getfield 9, 3) := by decide +kernel
theorem dX7_read_113 : decode cX7_read 113 = .ok (.iload_n 1, 1) := by decide +kernel
theorem dX7_read_114 : decode cX7_read 114 = .ok (.iload_n 2, 1) := by decide +kernel
theorem dX7_read_115 : decode cX7_read 115 = .ok (.invokestatic 32, 3) := by decide +kernel
theorem dX7_read_118 : decode cX7_read 118 = .ok (.aload_n 0, 1) := by decide +kernel
theorem dX7_read_119 : decode cX7_read 119 = .ok (.getfield 21, 3) := by decide +kernel
theorem dX7_read_122 : decode cX7_read 122 = .ok (.iload_n 1, 1) := by decide +kernel
theorem dX7_read_123 : decode cX7_read 123 = .ok (.iload_n 2, 1) := by decide +kernel
theorem dX7_read_124 : decode cX7_read 124 = .ok (.aload_n 0, 1) := by decide +kernel
theorem dX7_read_125 : decode cX7_read 125 = .ok (.getfield 15, 3) := by decide +kernel
theorem dX7_read_128 : decode cX7_read 128 = .ok (.iload_n 1, 1) := by decide +kernel
theorem dX7_read_129 : decode cX7_read 129 = .ok (.invokestatic 62, 3) := by decide +kernel
theorem dX7_read_132 : decode cX7_read 132 = .ok (.isub, 1) := by decide +kernel
theorem dX7_read_133 : decode cX7_read 133 = .ok (.invokestatic 32, 3) := by decide +kernel
theorem dX7_read_136 : decode cX7_read 136 = .ok (.iinc 1 1, 3) := by decide +kernel
theorem dX7_read_139 : decode cX7_read 139 = .ok (.goto (-60), 3) := by decide +kernel
theorem dX7_read_142 : decode cX7_read 142 = .ok (.return_, 1) := by decide +kernel
set_option maxRecDepth 20000 in
theorem ggX7_addWay_X9_valueAt : GoodIn wsX7_addWay wsX9_valueAt := goodIn_r _ [8] (by decide +kernel) (by decide +kernel)
set_option maxRecDepth 20000 in
theorem gX7_addWay_X9_valueAt_n62 : GoodIn wsX7_addWay (wsX9_valueAt) := ggX7_addWay_X9_valueAt
set_option maxRecDepth 20000 in
theorem ggX7_addWay_X9_add : GoodIn wsX7_addWay wsX9_add := goodIn_r _ [10] (by decide +kernel) (by decide +kernel)
set_option maxRecDepth 20000 in
theorem gX7_addWay_X9_add_n67 : GoodIn wsX7_addWay (wsX9_add) := ggX7_addWay_X9_add
theorem dX7_addWay_0 : decode cX7_addWay 0 = .ok (.aload_n 0, 1) := by decide +kernel
theorem dX7_addWay_1 : decode cX7_addWay 1 = .ok (.getfield 15, 3) := by decide +kernel
theorem dX7_addWay_4 : decode cX7_addWay 4 = .ok (.iload_n 1, 1) := by decide +kernel
theorem dX7_addWay_5 : decode cX7_addWay 5 = .ok (.aload_n 0, 1) := by decide +kernel
theorem dX7_addWay_6 : decode cX7_addWay 6 = .ok (.getfield 24, 3) := by decide +kernel
theorem dX7_addWay_9 : decode cX7_addWay 9 = .ok (.getfield 66, 3) := by decide +kernel
theorem dX7_addWay_12 : decode cX7_addWay 12 = .ok (.iload_n 2, 1) := by decide +kernel
theorem dX7_addWay_13 : decode cX7_addWay 13 = .ok (.invokestatic 62, 3) := by decide +kernel
theorem dX7_addWay_16 : decode cX7_addWay 16 = .ok (.invokestatic 67, 3) := by decide +kernel
theorem dX7_addWay_19 : decode cX7_addWay 19 = .ok (.aload_n 0, 1) := by decide +kernel
theorem dX7_addWay_20 : decode cX7_addWay 20 = .ok (.getfield 18, 3) := by decide +kernel
theorem dX7_addWay_23 : decode cX7_addWay 23 = .ok (.iload_n 1, 1) := by decide +kernel
theorem dX7_addWay_24 : decode cX7_addWay 24 = .ok (.aload_n 0, 1) := by decide +kernel
theorem dX7_addWay_25 : decode cX7_addWay 25 = .ok (.getfield 24, 3) := by decide +kernel
theorem dX7_addWay_28 : decode cX7_addWay 28 = .ok (.getfield 70, 3) := by decide +kernel
theorem dX7_addWay_31 : decode cX7_addWay 31 = .ok (.iload_n 2, 1) := by decide +kernel
theorem dX7_addWay_32 : decode cX7_addWay 32 = .ok (.invokestatic 62, 3) := by decide +kernel
theorem dX7_addWay_35 : decode cX7_addWay 35 = .ok (.invokestatic 67, 3) := by decide +kernel
theorem dX7_addWay_38 : decode cX7_addWay 38 = .ok (.return_, 1) := by decide +kernel
set_option maxRecDepth 20000 in
theorem ggX7_areBroken_X9_valueAt : GoodIn wsX7_areBroken wsX9_valueAt := goodIn_r _ [8] (by decide +kernel) (by decide +kernel)
set_option maxRecDepth 20000 in
theorem gX7_areBroken_X9_valueAt_n62 : GoodIn wsX7_areBroken (wsX9_valueAt) := ggX7_areBroken_X9_valueAt
theorem dX7_areBroken_0 : decode cX7_areBroken 0 = .ok (.iconst 0, 1) := by decide +kernel
theorem dX7_areBroken_1 : decode cX7_areBroken 1 = .ok (.istore_n 1, 1) := by decide +kernel
theorem dX7_areBroken_2 : decode cX7_areBroken 2 = .ok (.iload_n 1, 1) := by decide +kernel
theorem dX7_areBroken_3 : decode cX7_areBroken 3 = .ok (.aload_n 0, 1) := by decide +kernel
theorem dX7_areBroken_4 : decode cX7_areBroken 4 = .ok (.getfield 28, 3) := by decide +kernel
theorem dX7_areBroken_7 : decode cX7_areBroken 7 = .ok (.getfield 53, 3) := by decide +kernel
theorem dX7_areBroken_10 : decode cX7_areBroken 10 = .ok (.if_icmp .ge 41, 3) := by decide +kernel
theorem dX7_areBroken_13 : decode cX7_areBroken 13 = .ok (.aload_n 0, 1) := by decide +kernel
theorem dX7_areBroken_14 : decode cX7_areBroken 14 = .ok (.getfield 18, 3) := by decide +kernel
theorem dX7_areBroken_17 : decode cX7_areBroken 17 = .ok (.iload_n 1, 1) := by decide +kernel
theorem dX7_areBroken_18 : decode cX7_areBroken 18 = .ok (.invokestatic 62, 3) := by decide +kernel
theorem dX7_areBroken_21 : decode cX7_areBroken 21 = .ok (.aload_n 0, 1) := by decide +kernel
theorem dX7_areBroken_22 : decode cX7_areBroken 22 = .ok (.getfield 9, 3) := by decide +kernel
theorem dX7_areBroken_25 : decode cX7_areBroken 25 = .ok (.iload_n 1, 1) := by decide +kernel
theorem dX7_areBroken_26 : decode cX7_areBroken 26 = .ok (.invokestatic 62, 3) := by decide +kernel
theorem dX7_areBroken_29 : decode cX7_areBroken 29 = .ok (.if_icmp .lt 14, 3) := by decide +kernel
theorem dX7_areBroken_32 : decode cX7_areBroken 32 = .ok (.aload_n 0, 1) := by decide +kernel
theorem dX7_areBroken_33 : decode cX7_areBroken 33 = .ok (.getfield 21, 3) := by decide +kernel
theorem dX7_areBroken_36 : decode cX7_areBroken 36 = .ok (.iload_n 1, 1) := by decide +kernel
theorem dX7_areBroken_37 : decode cX7_areBroken 37 = .ok (.invokestatic 62, 3) := by decide +kernel
theorem dX7_areBroken_40 : decode cX7_areBroken 40 = .ok (.ifCond .ge 5, 3) := by decide +kernel
theorem dX7_areBroken_43 : decode cX7_areBroken 43 = .ok (.iconst 1, 1) := by decide +kernel
theorem dX7_areBroken_44 : decode cX7_areBroken 44 = .ok (.ireturn, 1) := by decide +kernel
theorem dX7_areBroken_45 : decode cX7_areBroken 45 = .ok (.iinc 1 1, 3) := by decide +kernel
theorem dX7_areBroken_48 : decode cX7_areBroken 48 = .ok (.goto (-46), 3) := by decide +kernel
theorem dX7_areBroken_51 : decode cX7_areBroken 51 = .ok (.iconst 0, 1) := by decide +kernel
theorem dX7_areBroken_52 : decode cX7_areBroken 52 = .ok (.ireturn, 1) := by decide +kernel
set_option maxRecDepth 20000 in
theorem ggX7_lesserLack_X2_first : GoodIn wsX7_lesserLack wsX2_first := goodIn_r _ [11, 12, 13, 14, 15, 27, 28, 29, 30, 31, 32, 33, 34, 35, 36, 37] (by decide +kernel) (by decide +kernel)
set_option maxRecDepth 20000 in
theorem gX7_lesserLack_X2_first : GoodIn wsX7_lesserLack (wsV RX7 42 RX2 yX2_first wsX2_first) := goodIn_app (goodIn_of _ (by decide +kernel)) ggX7_lesserLack_X2_first
set_option maxRecDepth 20000 in
theorem ggX7_lesserLack_X9_valueAt : GoodIn wsX7_lesserLack wsX9_valueAt := goodIn_r _ [15] (by decide +kernel) (by decide +kernel)
set_option maxRecDepth 20000 in
theorem gX7_lesserLack_X9_valueAt_n62 : GoodIn wsX7_lesserLack (wsX9_valueAt) := ggX7_lesserLack_X9_valueAt
set_option maxRecDepth 20000 in
theorem ggX7_lesserLack_X2_second : GoodIn wsX7_lesserLack wsX2_second := goodIn_r _ [19, 20, 13, 14, 15, 27, 28, 29, 30, 31, 32, 33, 34, 35, 36, 37] (by decide +kernel) (by decide +kernel)
set_option maxRecDepth 20000 in
theorem gX7_lesserLack_X2_second : GoodIn wsX7_lesserLack (wsV RX7 50 RX2 yX2_second wsX2_second) := goodIn_app (goodIn_of _ (by decide +kernel)) ggX7_lesserLack_X2_second
theorem dX7_lesserLack_0 : decode cX7_lesserLack 0 = .ok (.aload_n 0, 1) := by decide +kernel
theorem dX7_lesserLack_1 : decode cX7_lesserLack 1 = .ok (.getfield 21, 3) := by decide +kernel
theorem dX7_lesserLack_4 : decode cX7_lesserLack 4 = .ok (.aload_n 0, 1) := by decide +kernel
theorem dX7_lesserLack_5 : decode cX7_lesserLack 5 = .ok (.getfield 28, 3) := by decide +kernel
theorem dX7_lesserLack_8 : decode cX7_lesserLack 8 = .ok (.iload_n 1, 1) := by decide +kernel
theorem dX7_lesserLack_9 : decode cX7_lesserLack 9 = .ok (.invokevirtual 42, 3) := by decide +kernel
theorem dX7_lesserLack_12 : decode cX7_lesserLack 12 = .ok (.invokestatic 62, 3) := by decide +kernel
theorem dX7_lesserLack_15 : decode cX7_lesserLack 15 = .ok (.aload_n 0, 1) := by decide +kernel
theorem dX7_lesserLack_16 : decode cX7_lesserLack 16 = .ok (.getfield 21, 3) := by decide +kernel
theorem dX7_lesserLack_19 : decode cX7_lesserLack 19 = .ok (.aload_n 0, 1) := by decide +kernel
theorem dX7_lesserLack_20 : decode cX7_lesserLack 20 = .ok (.getfield 28, 3) := by decide +kernel
theorem dX7_lesserLack_23 : decode cX7_lesserLack 23 = .ok (.iload_n 1, 1) := by decide +kernel
theorem dX7_lesserLack_24 : decode cX7_lesserLack 24 = .ok (.invokevirtual 50, 3) := by decide +kernel
theorem dX7_lesserLack_27 : decode cX7_lesserLack 27 = .ok (.invokestatic 62, 3) := by decide +kernel
theorem dX7_lesserLack_30 : decode cX7_lesserLack 30 = .ok (.invokestatic 71, 3) := by decide +kernel
theorem dX7_lesserLack_33 : decode cX7_lesserLack 33 = .ok (.ireturn, 1) := by decide +kernel
set_option maxRecDepth 20000 in
theorem ggX7_leastBridges_X2_first : GoodIn wsX7_leastBridges wsX2_first := goodIn_r _ [10, 11, 12, 13, 14, 35, 36, 37, 38, 39, 40, 41, 42, 43, 44, 45] (by decide +kernel) (by decide +kernel)
set_option maxRecDepth 20000 in
theorem gX7_leastBridges_X2_first : GoodIn wsX7_leastBridges (wsV RX7 42 RX2 yX2_first wsX2_first) := goodIn_app (goodIn_of _ (by decide +kernel)) ggX7_leastBridges_X2_first
set_option maxRecDepth 20000 in
theorem ggX7_leastBridges_X7_leastBridgesFor : GoodIn wsX7_leastBridges wsX7_leastBridgesFor := goodIn_r _ [19, 20, 21, 22, 23, 12, 13, 14, 29, 30, 31, 32, 33, 34, 46, 47, 48, 49, 50, 51, 52] (by decide +kernel) (by decide +kernel)
set_option maxRecDepth 20000 in
theorem gX7_leastBridges_X7_leastBridgesFor : GoodIn wsX7_leastBridges (wsV RX7 77 RX7 yX7_leastBridgesFor wsX7_leastBridgesFor) := goodIn_app (goodIn_of _ (by decide +kernel)) ggX7_leastBridges_X7_leastBridgesFor
set_option maxRecDepth 20000 in
theorem ggX7_leastBridges_X2_second : GoodIn wsX7_leastBridges wsX2_second := goodIn_r _ [27, 28, 12, 13, 14, 35, 36, 37, 38, 39, 40, 41, 42, 43, 44, 45] (by decide +kernel) (by decide +kernel)
set_option maxRecDepth 20000 in
theorem gX7_leastBridges_X2_second : GoodIn wsX7_leastBridges (wsV RX7 50 RX2 yX2_second wsX2_second) := goodIn_app (goodIn_of _ (by decide +kernel)) ggX7_leastBridges_X2_second
theorem dX7_leastBridges_0 : decode cX7_leastBridges 0 = .ok (.aload_n 0, 1) := by decide +kernel
theorem dX7_leastBridges_1 : decode cX7_leastBridges 1 = .ok (.aload_n 0, 1) := by decide +kernel
theorem dX7_leastBridges_2 : decode cX7_leastBridges 2 = .ok (.getfield 28, 3) := by decide +kernel
theorem dX7_leastBridges_5 : decode cX7_leastBridges 5 = .ok (.iload_n 1, 1) := by decide +kernel
theorem dX7_leastBridges_6 : decode cX7_leastBridges 6 = .ok (.invokevirtual 42, 3) := by decide +kernel
theorem dX7_leastBridges_9 : decode cX7_leastBridges 9 = .ok (.iload_n 1, 1) := by decide +kernel
theorem dX7_leastBridges_10 : decode cX7_leastBridges 10 = .ok (.invokevirtual 77, 3) := by decide +kernel
theorem dX7_leastBridges_13 : decode cX7_leastBridges 13 = .ok (.aload_n 0, 1) := by decide +kernel
theorem dX7_leastBridges_14 : decode cX7_leastBridges 14 = .ok (.aload_n 0, 1) := by decide +kernel
theorem dX7_leastBridges_15 : decode cX7_leastBridges 15 = .ok (.getfield 28, 3) := by decide +kernel
theorem dX7_leastBridges_18 : decode cX7_leastBridges 18 = .ok (.iload_n 1, 1) := by decide +kernel
theorem dX7_leastBridges_19 : decode cX7_leastBridges 19 = .ok (.invokevirtual 50, 3) := by decide +kernel
theorem dX7_leastBridges_22 : decode cX7_leastBridges 22 = .ok (.iload_n 1, 1) := by decide +kernel
theorem dX7_leastBridges_23 : decode cX7_leastBridges 23 = .ok (.invokevirtual 77, 3) := by decide +kernel
theorem dX7_leastBridges_26 : decode cX7_leastBridges 26 = .ok (.invokestatic 80, 3) := by decide +kernel
theorem dX7_leastBridges_29 : decode cX7_leastBridges 29 = .ok (.ireturn, 1) := by decide +kernel
set_option maxRecDepth 20000 in
theorem ggX7_leastBridgesFor_X9_valueAt : GoodIn wsX7_leastBridgesFor wsX9_valueAt := goodIn_r _ [7] (by decide +kernel) (by decide +kernel)
set_option maxRecDepth 20000 in
theorem gX7_leastBridgesFor_X9_valueAt_n62 : GoodIn wsX7_leastBridgesFor (wsX9_valueAt) := ggX7_leastBridgesFor_X9_valueAt
theorem dX7_leastBridgesFor_0 : decode cX7_leastBridgesFor 0 = .ok (.aload_n 0, 1) := by decide +kernel
theorem dX7_leastBridgesFor_1 : decode cX7_leastBridgesFor 1 = .ok (.getfield 9, 3) := by decide +kernel
theorem dX7_leastBridgesFor_4 : decode cX7_leastBridgesFor 4 = .ok (.iload_n 1, 1) := by decide +kernel
theorem dX7_leastBridgesFor_5 : decode cX7_leastBridgesFor 5 = .ok (.invokestatic 62, 3) := by decide +kernel
theorem dX7_leastBridgesFor_8 : decode cX7_leastBridgesFor 8 = .ok (.aload_n 0, 1) := by decide +kernel
theorem dX7_leastBridgesFor_9 : decode cX7_leastBridgesFor 9 = .ok (.getfield 18, 3) := by decide +kernel
theorem dX7_leastBridgesFor_12 : decode cX7_leastBridgesFor 12 = .ok (.iload_n 1, 1) := by decide +kernel
theorem dX7_leastBridgesFor_13 : decode cX7_leastBridgesFor 13 = .ok (.invokestatic 62, 3) := by decide +kernel
theorem dX7_leastBridgesFor_16 : decode cX7_leastBridgesFor 16 = .ok (.aload_n 0, 1) := by decide +kernel
theorem dX7_leastBridgesFor_17 : decode cX7_leastBridgesFor 17 = .ok (.getfield 24, 3) := by decide +kernel
theorem dX7_leastBridgesFor_20 : decode cX7_leastBridgesFor 20 = .ok (.getfield 70, 3) := by decide +kernel
theorem dX7_leastBridgesFor_23 : decode cX7_leastBridgesFor 23 = .ok (.iload_n 2, 1) := by decide +kernel
theorem dX7_leastBridgesFor_24 : decode cX7_leastBridgesFor 24 = .ok (.invokestatic 62, 3) := by decide +kernel
theorem dX7_leastBridgesFor_27 : decode cX7_leastBridgesFor 27 = .ok (.isub, 1) := by decide +kernel
theorem dX7_leastBridgesFor_28 : decode cX7_leastBridgesFor 28 = .ok (.isub, 1) := by decide +kernel
theorem dX7_leastBridgesFor_29 : decode cX7_leastBridgesFor 29 = .ok (.ireturn, 1) := by decide +kernel
theorem dX8_init_0 : decode cX8_init 0 = .ok (.aload_n 0, 1) := by decide +kernel
theorem dX8_init_1 : decode cX8_init 1 = .ok (.invokespecial 3, 3) := by decide +kernel
theorem dX8_init_4 : decode cX8_init 4 = .ok (.aload_n 0, 1) := by decide +kernel
theorem dX8_init_5 : decode cX8_init 5 = .ok (.sipush 160, 3) := by decide +kernel
theorem dX8_init_8 : decode cX8_init 8 = .ok (.newarray .int, 2) := by decide +kernel
theorem dX8_init_10 : decode cX8_init 10 = .ok (.putfield 9, 3) := by decide +kernel
theorem dX8_init_13 : decode cX8_init 13 = .ok (.return_, 1) := by decide +kernel
set_option maxRecDepth 20000 in
theorem ggX9_init_X6_init : GoodIn wsX9_init wsX6_init := goodIn_r _ [42, 43, 2, 3, 44, 45, 46, 47, 48, 49, 50, 6, 51, 52, 53, 54, 55, 56, 57, 58, 59, 60, 61, 62, 127, 128, 129, 130, 131, 132, 133] (by decide +kernel) (by decide +kernel)
set_option maxRecDepth 20000 in
theorem gX9_init_X6_init : GoodIn wsX9_init (wsX6_init) := ggX9_init_X6_init
set_option maxRecDepth 20000 in
theorem ggX9_init_X2_init : GoodIn wsX9_init wsX2_init := goodIn_r _ [64, 65, 2, 3, 44, 66, 67, 68, 69, 70, 71, 72, 73, 74, 75, 143, 144, 145, 146, 147, 148, 149, 150, 151, 152, 153] (by decide +kernel) (by decide +kernel)
set_option maxRecDepth 20000 in
theorem gX9_init_X2_init_n18 : GoodIn wsX9_init (wsX2_init) := ggX9_init_X2_init
set_option maxRecDepth 20000 in
theorem ggX9_init_X7_init : GoodIn wsX9_init wsX7_init := goodIn_r _ [78, 79, 2, 3, 44, 80, 81, 82, 83, 84, 85, 154, 155, 156, 157, 158, 159] (by decide +kernel) (by decide +kernel)
set_option maxRecDepth 20000 in
theorem gX9_init_X7_init : GoodIn wsX9_init (wsX7_init) := ggX9_init_X7_init
set_option maxRecDepth 20000 in
theorem ggX9_init_X0_init : GoodIn wsX9_init wsX0_init := goodIn_r _ [88, 89, 2, 3, 44, 90, 91, 160, 161] (by decide +kernel) (by decide +kernel)
set_option maxRecDepth 20000 in
theorem gX9_init_X0_init : GoodIn wsX9_init (wsX0_init) := ggX9_init_X0_init
set_option maxRecDepth 20000 in
theorem ggX9_init_X4_init : GoodIn wsX9_init wsX4_init := goodIn_r _ [94, 95, 2, 3, 96, 97, 98, 99, 162, 163, 164, 165, 166] (by decide +kernel) (by decide +kernel)
set_option maxRecDepth 20000 in
theorem gX9_init_X4_init : GoodIn wsX9_init (wsX4_init) := ggX9_init_X4_init
set_option maxRecDepth 20000 in
theorem ggX9_init_X5_init : GoodIn wsX9_init wsX5_init := goodIn_r _ [102, 103, 2, 3, 44, 104, 105, 106, 107, 108, 109, 167, 168, 169, 170, 171, 172, 173, 174, 175, 176, 177, 178] (by decide +kernel) (by decide +kernel)
set_option maxRecDepth 20000 in
theorem gX9_init_X5_init : GoodIn wsX9_init (wsX5_init) := ggX9_init_X5_init
set_option maxRecDepth 20000 in
theorem ggX9_init_X3_init : GoodIn wsX9_init wsX3_init := goodIn_r _ [111, 112, 2, 3, 44, 113, 114, 115, 179, 180, 181, 182, 183, 184, 185] (by decide +kernel) (by decide +kernel)
set_option maxRecDepth 20000 in
theorem gX9_init_X3_init_n61 : GoodIn wsX9_init (wsX3_init) := ggX9_init_X3_init
set_option maxRecDepth 20000 in
theorem ggX9_init_X1_init : GoodIn wsX9_init wsX1_init := goodIn_r _ [118, 119, 2, 3, 120, 121, 5, 6, 122, 41, 42, 43, 44, 45, 46, 47, 48, 49, 50, 51, 52, 53, 54, 55, 56, 57, 58, 59, 60, 61, 62, 186, 187, 127, 128, 129, 130, 131, 132, 133] (by decide +kernel) (by decide +kernel)
set_option maxRecDepth 20000 in
theorem gX9_init_X1_init : GoodIn wsX9_init (wsX1_init) := ggX9_init_X1_init
set_option maxRecDepth 20000 in
theorem ggX9_init_X8_init : GoodIn wsX9_init wsX8_init := goodIn_r _ [124, 125, 2, 3, 44, 126, 188, 189, 190, 191, 192, 193, 194, 195] (by decide +kernel) (by decide +kernel)
set_option maxRecDepth 20000 in
theorem gX9_init_X8_init_n75 : GoodIn wsX9_init (wsX8_init) := ggX9_init_X8_init
theorem dX9_init_0 : decode cX9_init 0 = .ok (.aload_n 0, 1) := by decide +kernel
theorem dX9_init_1 : decode cX9_init 1 = .ok (.invokespecial 1, 3) := by decide +kernel
theorem dX9_init_4 : decode cX9_init 4 = .ok (.aload_n 0, 1) := by decide +kernel
theorem dX9_init_5 : decode cX9_init 5 = .ok (.new 7, 3) := by decide +kernel
theorem dX9_init_8 : decode cX9_init 8 = .ok (.dup, 1) := by decide +kernel
theorem dX9_init_9 : decode cX9_init 9 = .ok (.invokespecial 9, 3) := by decide +kernel
theorem dX9_init_12 : decode cX9_init 12 = .ok (.putfield 10, 3) := by decide +kernel
theorem dX9_init_15 : decode cX9_init 15 = .ok (.aload_n 0, 1) := by decide +kernel
theorem dX9_init_16 : decode cX9_init 16 = .ok (.new 16, 3) := by decide +kernel
theorem dX9_init_19 : decode cX9_init 19 = .ok (.dup, 1) := by decide +kernel
theorem dX9_init_20 : decode cX9_init 20 = .ok (.invokespecial 18, 3) := by decide +kernel
theorem dX9_init_23 : decode cX9_init 23 = .ok (.putfield 19, 3) := by decide +kernel
theorem dX9_init_26 : decode cX9_init 26 = .ok (.aload_n 0, 1) := by decide +kernel
theorem dX9_init_27 : decode cX9_init 27 = .ok (.new 23, 3) := by decide +kernel
theorem dX9_init_30 : decode cX9_init 30 = .ok (.dup, 1) := by decide +kernel
theorem dX9_init_31 : decode cX9_init 31 = .ok (.aload_n 0, 1) := by decide +kernel
theorem dX9_init_32 : decode cX9_init 32 = .ok (.getfield 10, 3) := by decide +kernel
theorem dX9_init_35 : decode cX9_init 35 = .ok (.aload_n 0, 1) := by decide +kernel
theorem dX9_init_36 : decode cX9_init 36 = .ok (.getfield 19, 3) := by decide +kernel
theorem dX9_init_39 : decode cX9_init 39 = .ok (.invokespecial 25, 3) := by decide +kernel
theorem dX9_init_42 : decode cX9_init 42 = .ok (.putfield 28, 3) := by decide +kernel
theorem dX9_init_45 : decode cX9_init 45 = .ok (.aload_n 0, 1) := by decide +kernel
theorem dX9_init_46 : decode cX9_init 46 = .ok (.new 32, 3) := by decide +kernel
theorem dX9_init_49 : decode cX9_init 49 = .ok (.dup, 1) := by decide +kernel
theorem dX9_init_50 : decode cX9_init 50 = .ok (.aload_n 0, 1) := by decide +kernel
theorem dX9_init_51 : decode cX9_init 51 = .ok (.getfield 19, 3) := by decide +kernel
theorem dX9_init_54 : decode cX9_init 54 = .ok (.invokespecial 34, 3) := by decide +kernel
theorem dX9_init_57 : decode cX9_init 57 = .ok (.putfield 37, 3) := by decide +kernel
theorem dX9_init_60 : decode cX9_init 60 = .ok (.aload_n 0, 1) := by decide +kernel
theorem dX9_init_61 : decode cX9_init 61 = .ok (.new 41, 3) := by decide +kernel
theorem dX9_init_64 : decode cX9_init 64 = .ok (.dup, 1) := by decide +kernel
theorem dX9_init_65 : decode cX9_init 65 = .ok (.aload_n 0, 1) := by decide +kernel
theorem dX9_init_66 : decode cX9_init 66 = .ok (.getfield 10, 3) := by decide +kernel
theorem dX9_init_69 : decode cX9_init 69 = .ok (.aload_n 0, 1) := by decide +kernel
theorem dX9_init_70 : decode cX9_init 70 = .ok (.getfield 19, 3) := by decide +kernel
theorem dX9_init_73 : decode cX9_init 73 = .ok (.aload_n 0, 1) := by decide +kernel
theorem dX9_init_74 : decode cX9_init 74 = .ok (.getfield 28, 3) := by decide +kernel
theorem dX9_init_77 : decode cX9_init 77 = .ok (.aload_n 0, 1) := by decide +kernel
theorem dX9_init_78 : decode cX9_init 78 = .ok (.getfield 37, 3) := by decide +kernel
theorem dX9_init_81 : decode cX9_init 81 = .ok (.invokespecial 43, 3) := by decide +kernel
theorem dX9_init_84 : decode cX9_init 84 = .ok (.putfield 46, 3) := by decide +kernel
theorem dX9_init_87 : decode cX9_init 87 = .ok (.aload_n 0, 1) := by decide +kernel
theorem dX9_init_88 : decode cX9_init 88 = .ok (.new 50, 3) := by decide +kernel
theorem dX9_init_91 : decode cX9_init 91 = .ok (.dup, 1) := by decide +kernel
theorem dX9_init_92 : decode cX9_init 92 = .ok (.aload_n 0, 1) := by decide +kernel
theorem dX9_init_93 : decode cX9_init 93 = .ok (.getfield 10, 3) := by decide +kernel
theorem dX9_init_96 : decode cX9_init 96 = .ok (.aload_n 0, 1) := by decide +kernel
theorem dX9_init_97 : decode cX9_init 97 = .ok (.getfield 19, 3) := by decide +kernel
theorem dX9_init_100 : decode cX9_init 100 = .ok (.aload_n 0, 1) := by decide +kernel
theorem dX9_init_101 : decode cX9_init 101 = .ok (.getfield 37, 3) := by decide +kernel
theorem dX9_init_104 : decode cX9_init 104 = .ok (.invokespecial 52, 3) := by decide +kernel
theorem dX9_init_107 : decode cX9_init 107 = .ok (.putfield 55, 3) := by decide +kernel
theorem dX9_init_110 : decode cX9_init 110 = .ok (.aload_n 0, 1) := by decide +kernel
theorem dX9_init_111 : decode cX9_init 111 = .ok (.new 59, 3) := by decide +kernel
theorem dX9_init_114 : decode cX9_init 114 = .ok (.dup, 1) := by decide +kernel
theorem dX9_init_115 : decode cX9_init 115 = .ok (.invokespecial 61, 3) := by decide +kernel
theorem dX9_init_118 : decode cX9_init 118 = .ok (.putfield 62, 3) := by decide +kernel
theorem dX9_init_121 : decode cX9_init 121 = .ok (.aload_n 0, 1) := by decide +kernel
theorem dX9_init_122 : decode cX9_init 122 = .ok (.new 66, 3) := by decide +kernel
theorem dX9_init_125 : decode cX9_init 125 = .ok (.dup, 1) := by decide +kernel
theorem dX9_init_126 : decode cX9_init 126 = .ok (.invokespecial 68, 3) := by decide +kernel
theorem dX9_init_129 : decode cX9_init 129 = .ok (.putfield 69, 3) := by decide +kernel
theorem dX9_init_132 : decode cX9_init 132 = .ok (.aload_n 0, 1) := by decide +kernel
theorem dX9_init_133 : decode cX9_init 133 = .ok (.new 73, 3) := by decide +kernel
theorem dX9_init_136 : decode cX9_init 136 = .ok (.dup, 1) := by decide +kernel
theorem dX9_init_137 : decode cX9_init 137 = .ok (.invokespecial 75, 3) := by decide +kernel
theorem dX9_init_140 : decode cX9_init 140 = .ok (.putfield 76, 3) := by decide +kernel
theorem dX9_init_143 : decode cX9_init 143 = .ok (.return_, 1) := by decide +kernel
set_option maxRecDepth 20000 in
theorem ggX9_begin_X9_isSide : GoodIn wsX9_begin wsX9_isSide := goodIn_r _ [8] (by decide +kernel) (by decide +kernel)
set_option maxRecDepth 20000 in
theorem gX9_begin_X9_isSide : GoodIn wsX9_begin (va_wsS RX9 80 yX9_isSide wsX9_isSide) := goodIn_app (goodIn_of _ (by decide +kernel)) ggX9_begin_X9_isSide
set_option maxRecDepth 20000 in
theorem ggX9_begin_X1_record : GoodIn wsX9_begin wsX1_record := goodIn_r _ [13, 14, 15, 16, 17, 12, 18, 19, 20, 21, 22, 23, 24, 25, 26, 27, 28, 29, 30, 31, 32, 33, 34, 35, 36, 37, 38, 39, 40, 41, 42, 43, 149, 150, 151, 152, 153, 154, 155, 156, 157] (by decide +kernel) (by decide +kernel)
set_option maxRecDepth 20000 in
theorem gX9_begin_X1_record : GoodIn wsX9_begin (wsV RX9 88 RX1 yX1_record wsX1_record) := goodIn_app (goodIn_of _ (by decide +kernel)) ggX9_begin_X1_record
set_option maxRecDepth 20000 in
theorem ggX9_begin_X6_empty : GoodIn wsX9_begin wsX6_empty := goodIn_r _ [47, 33, 34, 37, 48, 7, 49, 50, 51, 52, 31, 53, 42, 43, 35, 36, 151, 152, 153, 154, 155, 156, 157] (by decide +kernel) (by decide +kernel)
set_option maxRecDepth 20000 in
theorem gX9_begin_X6_empty : GoodIn wsX9_begin (wsV RX9 92 RX6 yX6_empty wsX6_empty) := goodIn_app (goodIn_of _ (by decide +kernel)) ggX9_begin_X6_empty
set_option maxRecDepth 20000 in
theorem ggX9_begin_X9_renewWays : GoodIn wsX9_begin wsX9_renewWays := goodIn_r _ [57, 4, 1, 58, 51, 52, 31, 53, 42, 43, 35, 36, 48, 7, 49, 59, 60, 61, 62, 63, 64, 65, 66, 67, 68, 69, 70, 71, 72, 73, 74, 75, 76, 77, 33, 34, 78, 79, 80, 81, 82, 83, 84, 85, 86, 87, 88, 89, 90, 91, 92, 93, 94, 95, 96, 97, 98, 99, 100, 101, 102, 103, 104, 105, 106, 107, 108, 109, 110, 111, 112, 113, 114, 115, 116, 117, 118, 119, 120, 121, 122, 123, 124, 125, 126, 127, 128, 129, 130, 131, 132, 133, 134, 135, 136, 137, 151, 152, 153, 154, 155, 156, 157, 138, 139, 140, 141, 142, 143, 144, 145, 146, 147, 148] (by decide +kernel) (by decide +kernel)
set_option maxRecDepth 20000 in
theorem gX9_begin_X9_renewWays : GoodIn wsX9_begin (wsV RX9 96 RX9 yX9_renewWays wsX9_renewWays) := goodIn_app (goodIn_of _ (by decide +kernel)) ggX9_begin_X9_renewWays
theorem dX9_begin_0 : decode cX9_begin 0 = .ok (.iload_n 1, 1) := by decide +kernel
theorem dX9_begin_1 : decode cX9_begin 1 = .ok (.invokestatic 80, 3) := by decide +kernel
theorem dX9_begin_4 : decode cX9_begin 4 = .ok (.ifCond .eq 10, 3) := by decide +kernel
theorem dX9_begin_7 : decode cX9_begin 7 = .ok (.iload_n 2, 1) := by decide +kernel
theorem dX9_begin_8 : decode cX9_begin 8 = .ok (.invokestatic 80, 3) := by decide +kernel
theorem dX9_begin_11 : decode cX9_begin 11 = .ok (.ifCond .ne 5, 3) := by decide +kernel
theorem dX9_begin_14 : decode cX9_begin 14 = .ok (.iconst (-1), 1) := by decide +kernel
theorem dX9_begin_15 : decode cX9_begin 15 = .ok (.ireturn, 1) := by decide +kernel
theorem dX9_begin_16 : decode cX9_begin 16 = .ok (.aload_n 0, 1) := by decide +kernel
theorem dX9_begin_17 : decode cX9_begin 17 = .ok (.getfield 19, 3) := by decide +kernel
theorem dX9_begin_20 : decode cX9_begin 20 = .ok (.getfield 84, 3) := by decide +kernel
theorem dX9_begin_23 : decode cX9_begin 23 = .ok (.istore_n 3, 1) := by decide +kernel
theorem dX9_begin_24 : decode cX9_begin 24 = .ok (.aload_n 0, 1) := by decide +kernel
theorem dX9_begin_25 : decode cX9_begin 25 = .ok (.getfield 69, 3) := by decide +kernel
theorem dX9_begin_28 : decode cX9_begin 28 = .ok (.aload_n 0, 1) := by decide +kernel
theorem dX9_begin_29 : decode cX9_begin 29 = .ok (.getfield 10, 3) := by decide +kernel
theorem dX9_begin_32 : decode cX9_begin 32 = .ok (.invokevirtual 88, 3) := by decide +kernel
theorem dX9_begin_35 : decode cX9_begin 35 = .ok (.aload_n 0, 1) := by decide +kernel
theorem dX9_begin_36 : decode cX9_begin 36 = .ok (.getfield 10, 3) := by decide +kernel
theorem dX9_begin_39 : decode cX9_begin 39 = .ok (.iload_n 1, 1) := by decide +kernel
theorem dX9_begin_40 : decode cX9_begin 40 = .ok (.iload_n 2, 1) := by decide +kernel
theorem dX9_begin_41 : decode cX9_begin 41 = .ok (.invokevirtual 92, 3) := by decide +kernel
theorem dX9_begin_44 : decode cX9_begin 44 = .ok (.aload_n 0, 1) := by decide +kernel
theorem dX9_begin_45 : decode cX9_begin 45 = .ok (.invokevirtual 96, 3) := by decide +kernel
theorem dX9_begin_48 : decode cX9_begin 48 = .ok (.iload_n 3, 1) := by decide +kernel
theorem dX9_begin_49 : decode cX9_begin 49 = .ok (.ireturn, 1) := by decide +kernel
set_option maxRecDepth 20000 in
theorem ggX9_island_X9_isCell : GoodIn wsX9_island wsX9_isCell := goodIn_r _ [11, 1, 12, 13, 14, 15, 16, 17, 18, 130, 131, 132, 133, 134, 135, 136, 137, 138, 139, 140, 141, 142, 143, 144, 145] (by decide +kernel) (by decide +kernel)
set_option maxRecDepth 20000 in
theorem gX9_island_X9_isCell : GoodIn wsX9_island (wsV RX9 99 RX9 yX9_isCell wsX9_isCell) := goodIn_app (goodIn_of _ (by decide +kernel)) ggX9_island_X9_isCell
set_option maxRecDepth 20000 in
theorem ggX9_island_X9_valueAt : GoodIn wsX9_island wsX9_valueAt := goodIn_r _ [21] (by decide +kernel) (by decide +kernel)
set_option maxRecDepth 20000 in
theorem gX9_island_X9_valueAt : GoodIn wsX9_island (va_wsS RX9 106 yX9_valueAt wsX9_valueAt) := goodIn_app (goodIn_of _ (by decide +kernel)) ggX9_island_X9_valueAt
set_option maxRecDepth 20000 in
theorem ggX9_island_X1_record : GoodIn wsX9_island wsX1_record := goodIn_r _ [26, 27, 28, 29, 30, 25, 31, 32, 33, 34, 35, 36, 37, 38, 39, 40, 41, 42, 43, 15, 44, 17, 18, 45, 46, 47, 48, 49, 50, 51, 52, 53, 157, 158, 139, 140, 141, 142, 143, 144, 145] (by decide +kernel) (by decide +kernel)
set_option maxRecDepth 20000 in
theorem gX9_island_X1_record : GoodIn wsX9_island (wsV RX9 88 RX1 yX1_record wsX1_record) := goodIn_app (goodIn_of _ (by decide +kernel)) ggX9_island_X1_record
set_option maxRecDepth 20000 in
theorem ggX9_island_X9_put : GoodIn wsX9_island wsX9_put := goodIn_r _ [56] (by decide +kernel) (by decide +kernel)
set_option maxRecDepth 20000 in
theorem gX9_island_X9_put : GoodIn wsX9_island (va_wsS RX9 110 yX9_put wsX9_put) := goodIn_app (goodIn_of _ (by decide +kernel)) ggX9_island_X9_put
set_option maxRecDepth 20000 in
theorem ggX9_island_X9_renewWays : GoodIn wsX9_island wsX9_renewWays := goodIn_r _ [60, 1, 3, 61, 62, 63, 15, 64, 52, 53, 45, 46, 55, 10, 56, 65, 66, 67, 68, 69, 70, 71, 72, 73, 74, 75, 76, 77, 78, 79, 80, 13, 14, 16, 17, 18, 20, 21, 81, 82, 83, 84, 85, 86, 87, 88, 89, 90, 91, 92, 93, 94, 95, 96, 97, 98, 99, 100, 101, 102, 103, 104, 105, 106, 107, 108, 109, 110, 111, 112, 113, 114, 115, 116, 117, 118, 119, 120, 121, 122, 123, 124, 125, 126, 127, 128, 129, 130, 131, 132, 133, 134, 135, 136, 137, 138, 139, 140, 141, 142, 143, 144, 145, 146, 147, 148, 149, 150, 151, 152, 153, 154, 155, 156] (by decide +kernel) (by decide +kernel)
set_option maxRecDepth 20000 in
theorem gX9_island_X9_renewWays : GoodIn wsX9_island (wsV RX9 96 RX9 yX9_renewWays wsX9_renewWays) := goodIn_app (goodIn_of _ (by decide +kernel)) ggX9_island_X9_renewWays
theorem dX9_island_0 : decode cX9_island 0 = .ok (.aload_n 0, 1) := by decide +kernel
theorem dX9_island_1 : decode cX9_island 1 = .ok (.iload_n 1, 1) := by decide +kernel
theorem dX9_island_2 : decode cX9_island 2 = .ok (.invokevirtual 99, 3) := by decide +kernel
theorem dX9_island_5 : decode cX9_island 5 = .ok (.ifCond .eq 14, 3) := by decide +kernel
theorem dX9_island_8 : decode cX9_island 8 = .ok (.iload_n 2, 1) := by decide +kernel
theorem dX9_island_9 : decode cX9_island 9 = .ok (.iconst 1, 1) := by decide +kernel
theorem dX9_island_10 : decode cX9_island 10 = .ok (.if_icmp .lt 9, 3) := by decide +kernel
theorem dX9_island_13 : decode cX9_island 13 = .ok (.iload_n 2, 1) := by decide +kernel
theorem dX9_island_14 : decode cX9_island 14 = .ok (.bipush 8, 2) := by decide +kernel
theorem dX9_island_16 : decode cX9_island 16 = .ok (.if_icmp .le 5, 3) := by decide +kernel
theorem dX9_island_19 : decode cX9_island 19 = .ok (.iconst (-1), 1) := by decide +kernel
theorem dX9_island_20 : decode cX9_island 20 = .ok (.ireturn, 1) := by decide +kernel
theorem dX9_island_21 : decode cX9_island 21 = .ok (.aload_n 0, 1) := by decide +kernel
theorem dX9_island_22 : decode cX9_island 22 = .ok (.getfield 10, 3) := by decide +kernel
theorem dX9_island_25 : decode cX9_island 25 = .ok (.getfield 102, 3) := by decide +kernel
theorem dX9_island_28 : decode cX9_island 28 = .ok (.iload_n 1, 1) := by decide +kernel
theorem dX9_island_29 : decode cX9_island 29 = .ok (.invokestatic 106, 3) := by decide +kernel
theorem dX9_island_32 : decode cX9_island 32 = .ok (.ifCond .ne 18, 3) := by decide +kernel
theorem dX9_island_35 : decode cX9_island 35 = .ok (.aload_n 0, 1) := by decide +kernel
theorem dX9_island_36 : decode cX9_island 36 = .ok (.getfield 19, 3) := by decide +kernel
theorem dX9_island_39 : decode cX9_island 39 = .ok (.getfield 84, 3) := by decide +kernel
theorem dX9_island_42 : decode cX9_island 42 = .ok (.bipush 24, 2) := by decide +kernel
theorem dX9_island_44 : decode cX9_island 44 = .ok (.if_icmp .lt 6, 3) := by decide +kernel
theorem dX9_island_47 : decode cX9_island 47 = .ok (.bipush (-3), 2) := by decide +kernel
theorem dX9_island_49 : decode cX9_island 49 = .ok (.ireturn, 1) := by decide +kernel
theorem dX9_island_50 : decode cX9_island 50 = .ok (.aload_n 0, 1) := by decide +kernel
theorem dX9_island_51 : decode cX9_island 51 = .ok (.getfield 69, 3) := by decide +kernel
theorem dX9_island_54 : decode cX9_island 54 = .ok (.aload_n 0, 1) := by decide +kernel
theorem dX9_island_55 : decode cX9_island 55 = .ok (.getfield 10, 3) := by decide +kernel
theorem dX9_island_58 : decode cX9_island 58 = .ok (.invokevirtual 88, 3) := by decide +kernel
theorem dX9_island_61 : decode cX9_island 61 = .ok (.aload_n 0, 1) := by decide +kernel
theorem dX9_island_62 : decode cX9_island 62 = .ok (.getfield 10, 3) := by decide +kernel
theorem dX9_island_65 : decode cX9_island 65 = .ok (.getfield 102, 3) := by decide +kernel
theorem dX9_island_68 : decode cX9_island 68 = .ok (.iload_n 1, 1) := by decide +kernel
theorem dX9_island_69 : decode cX9_island 69 = .ok (.iload_n 2, 1) := by decide +kernel
theorem dX9_island_70 : decode cX9_island 70 = .ok (.invokestatic 110, 3) := by decide +kernel
theorem dX9_island_73 : decode cX9_island 73 = .ok (.aload_n 0, 1) := by decide +kernel
theorem dX9_island_74 : decode cX9_island 74 = .ok (.invokevirtual 96, 3) := by decide +kernel
theorem dX9_island_77 : decode cX9_island 77 = .ok (.aload_n 0, 1) := by decide +kernel
theorem dX9_island_78 : decode cX9_island 78 = .ok (.getfield 19, 3) := by decide +kernel
theorem dX9_island_81 : decode cX9_island 81 = .ok (.getfield 114, 3) := by decide +kernel
theorem dX9_island_84 : decode cX9_island 84 = .ok (.ireturn, 1) := by decide +kernel
set_option maxRecDepth 20000 in
theorem ggX9_removeIsland_X9_isCell : GoodIn wsX9_removeIsland wsX9_isCell := goodIn_r _ [8, 1, 9, 10, 11, 12, 13, 14, 15, 128, 129, 130, 131, 132, 133, 134, 135, 136, 137, 138, 139, 140, 141, 142, 143] (by decide +kernel) (by decide +kernel)
set_option maxRecDepth 20000 in
theorem gX9_removeIsland_X9_isCell : GoodIn wsX9_removeIsland (wsV RX9 99 RX9 yX9_isCell wsX9_isCell) := goodIn_app (goodIn_of _ (by decide +kernel)) ggX9_removeIsland_X9_isCell
set_option maxRecDepth 20000 in
theorem ggX9_removeIsland_X9_valueAt : GoodIn wsX9_removeIsland wsX9_valueAt := goodIn_r _ [18] (by decide +kernel) (by decide +kernel)
set_option maxRecDepth 20000 in
theorem gX9_removeIsland_X9_valueAt : GoodIn wsX9_removeIsland (va_wsS RX9 106 yX9_valueAt wsX9_valueAt) := goodIn_app (goodIn_of _ (by decide +kernel)) ggX9_removeIsland_X9_valueAt
set_option maxRecDepth 20000 in
theorem ggX9_removeIsland_X1_record : GoodIn wsX9_removeIsland wsX1_record := goodIn_r _ [23, 24, 25, 26, 27, 22, 28, 29, 30, 31, 32, 33, 34, 35, 36, 37, 38, 39, 40, 12, 41, 14, 15, 42, 43, 44, 45, 46, 47, 48, 49, 50, 144, 145, 137, 138, 139, 140, 141, 142, 143] (by decide +kernel) (by decide +kernel)
set_option maxRecDepth 20000 in
theorem gX9_removeIsland_X1_record : GoodIn wsX9_removeIsland (wsV RX9 88 RX1 yX1_record wsX1_record) := goodIn_app (goodIn_of _ (by decide +kernel)) ggX9_removeIsland_X1_record
set_option maxRecDepth 20000 in
theorem ggX9_removeIsland_X9_put : GoodIn wsX9_removeIsland wsX9_put := goodIn_r _ [53] (by decide +kernel) (by decide +kernel)
set_option maxRecDepth 20000 in
theorem gX9_removeIsland_X9_put : GoodIn wsX9_removeIsland (va_wsS RX9 110 yX9_put wsX9_put) := goodIn_app (goodIn_of _ (by decide +kernel)) ggX9_removeIsland_X9_put
set_option maxRecDepth 20000 in
theorem ggX9_removeIsland_X9_renewWays : GoodIn wsX9_removeIsland wsX9_renewWays := goodIn_r _ [57, 1, 58, 59, 60, 61, 12, 62, 49, 50, 42, 43, 52, 7, 53, 63, 64, 65, 66, 67, 68, 69, 70, 71, 72, 73, 74, 75, 76, 77, 78, 10, 11, 13, 14, 15, 17, 18, 79, 80, 81, 82, 83, 84, 85, 86, 87, 88, 89, 90, 91, 92, 93, 94, 95, 96, 97, 98, 99, 100, 101, 102, 103, 104, 105, 106, 107, 108, 109, 110, 111, 112, 113, 114, 115, 116, 117, 118, 119, 120, 121, 122, 123, 124, 125, 126, 127, 128, 129, 130, 131, 132, 133, 134, 135, 136, 137, 138, 139, 140, 141, 142, 143, 146, 147, 148, 149, 150, 151, 152, 153, 154, 155, 156] (by decide +kernel) (by decide +kernel)
set_option maxRecDepth 20000 in
theorem gX9_removeIsland_X9_renewWays : GoodIn wsX9_removeIsland (wsV RX9 96 RX9 yX9_renewWays wsX9_renewWays) := goodIn_app (goodIn_of _ (by decide +kernel)) ggX9_removeIsland_X9_renewWays
theorem dX9_removeIsland_0 : decode cX9_removeIsland 0 = .ok (.aload_n 0, 1) := by decide +kernel
theorem dX9_removeIsland_1 : decode cX9_removeIsland 1 = .ok (.iload_n 1, 1) := by decide +kernel
theorem dX9_removeIsland_2 : decode cX9_removeIsland 2 = .ok (.invokevirtual 99, 3) := by decide +kernel
theorem dX9_removeIsland_5 : decode cX9_removeIsland 5 = .ok (.ifCond .ne 5, 3) := by decide +kernel
theorem dX9_removeIsland_8 : decode cX9_removeIsland 8 = .ok (.iconst (-1), 1) := by decide +kernel
theorem dX9_removeIsland_9 : decode cX9_removeIsland 9 = .ok (.ireturn, 1) := by decide +kernel
theorem dX9_removeIsland_10 : decode cX9_removeIsland 10 = .ok (.aload_n 0, 1) := by decide +kernel
theorem dX9_removeIsland_11 : decode cX9_removeIsland 11 = .ok (.getfield 10, 3) := by decide +kernel
theorem dX9_removeIsland_14 : decode cX9_removeIsland 14 = .ok (.getfield 102, 3) := by decide +kernel
theorem dX9_removeIsland_17 : decode cX9_removeIsland 17 = .ok (.iload_n 1, 1) := by decide +kernel
theorem dX9_removeIsland_18 : decode cX9_removeIsland 18 = .ok (.invokestatic 106, 3) := by decide +kernel
theorem dX9_removeIsland_21 : decode cX9_removeIsland 21 = .ok (.istore_n 2, 1) := by decide +kernel
theorem dX9_removeIsland_22 : decode cX9_removeIsland 22 = .ok (.iload_n 2, 1) := by decide +kernel
theorem dX9_removeIsland_23 : decode cX9_removeIsland 23 = .ok (.ifCond .ne 6, 3) := by decide +kernel
theorem dX9_removeIsland_26 : decode cX9_removeIsland 26 = .ok (.bipush (-4), 2) := by decide +kernel
theorem dX9_removeIsland_28 : decode cX9_removeIsland 28 = .ok (.ireturn, 1) := by decide +kernel
theorem dX9_removeIsland_29 : decode cX9_removeIsland 29 = .ok (.aload_n 0, 1) := by decide +kernel
theorem dX9_removeIsland_30 : decode cX9_removeIsland 30 = .ok (.getfield 69, 3) := by decide +kernel
theorem dX9_removeIsland_33 : decode cX9_removeIsland 33 = .ok (.aload_n 0, 1) := by decide +kernel
theorem dX9_removeIsland_34 : decode cX9_removeIsland 34 = .ok (.getfield 10, 3) := by decide +kernel
theorem dX9_removeIsland_37 : decode cX9_removeIsland 37 = .ok (.invokevirtual 88, 3) := by decide +kernel
theorem dX9_removeIsland_40 : decode cX9_removeIsland 40 = .ok (.aload_n 0, 1) := by decide +kernel
theorem dX9_removeIsland_41 : decode cX9_removeIsland 41 = .ok (.getfield 10, 3) := by decide +kernel
theorem dX9_removeIsland_44 : decode cX9_removeIsland 44 = .ok (.getfield 102, 3) := by decide +kernel
theorem dX9_removeIsland_47 : decode cX9_removeIsland 47 = .ok (.iload_n 1, 1) := by decide +kernel
theorem dX9_removeIsland_48 : decode cX9_removeIsland 48 = .ok (.iconst 0, 1) := by decide +kernel
theorem dX9_removeIsland_49 : decode cX9_removeIsland 49 = .ok (.invokestatic 110, 3) := by decide +kernel
theorem dX9_removeIsland_52 : decode cX9_removeIsland 52 = .ok (.aload_n 0, 1) := by decide +kernel
theorem dX9_removeIsland_53 : decode cX9_removeIsland 53 = .ok (.invokevirtual 96, 3) := by decide +kernel
theorem dX9_removeIsland_56 : decode cX9_removeIsland 56 = .ok (.iload_n 2, 1) := by decide +kernel
theorem dX9_removeIsland_57 : decode cX9_removeIsland 57 = .ok (.ireturn, 1) := by decide +kernel
set_option maxRecDepth 20000 in
theorem ggX9_at_X9_isCell : GoodIn wsX9_at wsX9_isCell := goodIn_r _ [10, 1, 11, 12, 13, 14, 15, 16, 17, 33, 34, 35, 36, 37, 38, 39, 40, 41, 42, 43, 44, 45, 46, 47, 48] (by decide +kernel) (by decide +kernel)
set_option maxRecDepth 20000 in
theorem gX9_at_X9_isCell : GoodIn wsX9_at (wsV RX9 99 RX9 yX9_isCell wsX9_isCell) := goodIn_app (goodIn_of _ (by decide +kernel)) ggX9_at_X9_isCell
set_option maxRecDepth 20000 in
theorem ggX9_at_X9_valueAt : GoodIn wsX9_at wsX9_valueAt := goodIn_r _ [20] (by decide +kernel) (by decide +kernel)
set_option maxRecDepth 20000 in
theorem gX9_at_X9_valueAt : GoodIn wsX9_at (va_wsS RX9 106 yX9_valueAt wsX9_valueAt) := goodIn_app (goodIn_of _ (by decide +kernel)) ggX9_at_X9_valueAt
set_option maxRecDepth 20000 in
theorem ggX9_at_X2_isOver : GoodIn wsX9_at wsX2_isOver := goodIn_r _ [25, 26, 27, 28, 19, 9, 20, 49, 50, 51, 52, 53, 54, 55, 56, 57, 58, 59] (by decide +kernel) (by decide +kernel)
set_option maxRecDepth 20000 in
theorem gX9_at_X2_isOver : GoodIn wsX9_at (wsV RX9 120 RX2 yX2_isOver wsX2_isOver) := goodIn_app (goodIn_of _ (by decide +kernel)) ggX9_at_X2_isOver
set_option maxRecDepth 20000 in
theorem ggX9_at_X2_isAlongRow : GoodIn wsX9_at wsX2_isAlongRow := goodIn_r _ [32, 26, 19, 9, 20, 49, 50, 51, 52, 53, 54, 55, 56, 57, 58, 59] (by decide +kernel) (by decide +kernel)
set_option maxRecDepth 20000 in
theorem gX9_at_X2_isAlongRow : GoodIn wsX9_at (wsV RX9 124 RX2 yX2_isAlongRow wsX2_isAlongRow) := goodIn_app (goodIn_of _ (by decide +kernel)) ggX9_at_X2_isAlongRow
theorem dX9_at_0 : decode cX9_at 0 = .ok (.aload_n 0, 1) := by decide +kernel
theorem dX9_at_1 : decode cX9_at 1 = .ok (.iload_n 1, 1) := by decide +kernel
theorem dX9_at_2 : decode cX9_at 2 = .ok (.invokevirtual 99, 3) := by decide +kernel
theorem dX9_at_5 : decode cX9_at 5 = .ok (.ifCond .ne 5, 3) := by decide +kernel
theorem dX9_at_8 : decode cX9_at 8 = .ok (.iconst (-1), 1) := by decide +kernel
theorem dX9_at_9 : decode cX9_at 9 = .ok (.ireturn, 1) := by decide +kernel
theorem dX9_at_10 : decode cX9_at 10 = .ok (.aload_n 0, 1) := by decide +kernel
theorem dX9_at_11 : decode cX9_at 11 = .ok (.getfield 10, 3) := by decide +kernel
theorem dX9_at_14 : decode cX9_at 14 = .ok (.getfield 102, 3) := by decide +kernel
theorem dX9_at_17 : decode cX9_at 17 = .ok (.iload_n 1, 1) := by decide +kernel
theorem dX9_at_18 : decode cX9_at 18 = .ok (.invokestatic 106, 3) := by decide +kernel
theorem dX9_at_21 : decode cX9_at 21 = .ok (.istore_n 2, 1) := by decide +kernel
theorem dX9_at_22 : decode cX9_at 22 = .ok (.iload_n 2, 1) := by decide +kernel
theorem dX9_at_23 : decode cX9_at 23 = .ok (.ifCond .le 5, 3) := by decide +kernel
theorem dX9_at_26 : decode cX9_at 26 = .ok (.iload_n 2, 1) := by decide +kernel
theorem dX9_at_27 : decode cX9_at 27 = .ok (.ireturn, 1) := by decide +kernel
theorem dX9_at_28 : decode cX9_at 28 = .ok (.iconst 0, 1) := by decide +kernel
theorem dX9_at_29 : decode cX9_at 29 = .ok (.istore_n 3, 1) := by decide +kernel
theorem dX9_at_30 : decode cX9_at 30 = .ok (.iload_n 3, 1) := by decide +kernel
theorem dX9_at_31 : decode cX9_at 31 = .ok (.aload_n 0, 1) := by decide +kernel
theorem dX9_at_32 : decode cX9_at 32 = .ok (.getfield 19, 3) := by decide +kernel
theorem dX9_at_35 : decode cX9_at 35 = .ok (.getfield 114, 3) := by decide +kernel
theorem dX9_at_38 : decode cX9_at 38 = .ok (.if_icmp .ge 61, 3) := by decide +kernel
theorem dX9_at_41 : decode cX9_at 41 = .ok (.aload_n 0, 1) := by decide +kernel
theorem dX9_at_42 : decode cX9_at 42 = .ok (.getfield 10, 3) := by decide +kernel
theorem dX9_at_45 : decode cX9_at 45 = .ok (.getfield 117, 3) := by decide +kernel
theorem dX9_at_48 : decode cX9_at 48 = .ok (.iload_n 3, 1) := by decide +kernel
theorem dX9_at_49 : decode cX9_at 49 = .ok (.invokestatic 106, 3) := by decide +kernel
theorem dX9_at_52 : decode cX9_at 52 = .ok (.istore 4, 2) := by decide +kernel
theorem dX9_at_54 : decode cX9_at 54 = .ok (.iload 4, 2) := by decide +kernel
theorem dX9_at_56 : decode cX9_at 56 = .ok (.ifCond .le 37, 3) := by decide +kernel
theorem dX9_at_59 : decode cX9_at 59 = .ok (.aload_n 0, 1) := by decide +kernel
theorem dX9_at_60 : decode cX9_at 60 = .ok (.getfield 19, 3) := by decide +kernel
theorem dX9_at_63 : decode cX9_at 63 = .ok (.iload_n 3, 1) := by decide +kernel
theorem dX9_at_64 : decode cX9_at 64 = .ok (.iload_n 1, 1) := by decide +kernel
theorem dX9_at_65 : decode cX9_at 65 = .ok (.invokevirtual 120, 3) := by decide +kernel
theorem dX9_at_68 : decode cX9_at 68 = .ok (.ifCond .eq 25, 3) := by decide +kernel
theorem dX9_at_71 : decode cX9_at 71 = .ok (.aload_n 0, 1) := by decide +kernel
theorem dX9_at_72 : decode cX9_at 72 = .ok (.getfield 19, 3) := by decide +kernel
theorem dX9_at_75 : decode cX9_at 75 = .ok (.iload_n 3, 1) := by decide +kernel
theorem dX9_at_76 : decode cX9_at 76 = .ok (.invokevirtual 124, 3) := by decide +kernel
theorem dX9_at_79 : decode cX9_at 79 = .ok (.ifCond .eq 8, 3) := by decide +kernel
theorem dX9_at_82 : decode cX9_at 82 = .ok (.bipush 10, 2) := by decide +kernel
theorem dX9_at_84 : decode cX9_at 84 = .ok (.goto 5, 3) := by decide +kernel
theorem dX9_at_87 : decode cX9_at 87 = .ok (.bipush 20, 2) := by decide +kernel
theorem dX9_at_89 : decode cX9_at 89 = .ok (.iload 4, 2) := by decide +kernel
theorem dX9_at_91 : decode cX9_at 91 = .ok (.iadd, 1) := by decide +kernel
theorem dX9_at_92 : decode cX9_at 92 = .ok (.ireturn, 1) := by decide +kernel
theorem dX9_at_93 : decode cX9_at 93 = .ok (.iinc 3 1, 3) := by decide +kernel
theorem dX9_at_96 : decode cX9_at 96 = .ok (.goto (-66), 3) := by decide +kernel
theorem dX9_at_99 : decode cX9_at 99 = .ok (.iconst 0, 1) := by decide +kernel
theorem dX9_at_100 : decode cX9_at 100 = .ok (.ireturn, 1) := by decide +kernel
set_option maxRecDepth 20000 in
theorem ggX9_islandInfo_X9_isCell : GoodIn wsX9_islandInfo wsX9_isCell := goodIn_r _ [15, 3, 16, 17, 18, 19, 20, 21, 22, 105, 106, 107, 108, 109, 110, 111, 112, 113, 114, 115, 116, 117, 118, 119, 120] (by decide +kernel) (by decide +kernel)
set_option maxRecDepth 20000 in
theorem gX9_islandInfo_X9_isCell : GoodIn wsX9_islandInfo (wsV RX9 99 RX9 yX9_isCell wsX9_isCell) := goodIn_app (goodIn_of _ (by decide +kernel)) ggX9_islandInfo_X9_isCell
set_option maxRecDepth 20000 in
theorem ggX9_islandInfo_X2_islandOn : GoodIn wsX9_islandInfo wsX2_islandOn := goodIn_r _ [27, 28, 29, 14, 30, 127, 128, 129, 130, 131, 132, 133, 134, 135, 136, 137] (by decide +kernel) (by decide +kernel)
set_option maxRecDepth 20000 in
theorem gX9_islandInfo_X2_islandOn : GoodIn wsX9_islandInfo (wsV RX9 127 RX2 yX2_islandOn wsX2_islandOn) := goodIn_app (goodIn_of _ (by decide +kernel)) ggX9_islandInfo_X2_islandOn
set_option maxRecDepth 20000 in
theorem ggX9_islandInfo_X7_read : GoodIn wsX9_islandInfo wsX7_read := goodIn_r _ [35, 36, 37, 38, 39, 40, 41, 42, 43, 44, 45, 14, 46, 47, 48, 49, 26, 50, 51, 29, 30, 52, 53, 54, 34, 55, 56, 57, 58, 59, 60, 61, 62, 63, 64, 65, 66, 67, 68, 69, 121, 122, 123, 124, 125, 126, 127, 128, 129, 130, 131, 132, 133, 134, 135, 136, 137, 114, 115, 116, 117, 118, 119, 120] (by decide +kernel) (by decide +kernel)
set_option maxRecDepth 20000 in
theorem gX9_islandInfo_X7_read : GoodIn wsX9_islandInfo (wsV RX9 131 RX7 yX7_read wsX7_read) := goodIn_app (goodIn_of _ (by decide +kernel)) ggX9_islandInfo_X7_read
set_option maxRecDepth 20000 in
theorem ggX9_islandInfo_X9_valueAt : GoodIn wsX9_islandInfo wsX9_valueAt := goodIn_r _ [30] (by decide +kernel) (by decide +kernel)
set_option maxRecDepth 20000 in
theorem gX9_islandInfo_X9_valueAt : GoodIn wsX9_islandInfo (va_wsS RX9 106 yX9_valueAt wsX9_valueAt) := goodIn_app (goodIn_of _ (by decide +kernel)) ggX9_islandInfo_X9_valueAt
set_option maxRecDepth 20000 in
theorem ggX9_islandInfo_X0_read : GoodIn wsX9_islandInfo wsX0_read := goodIn_r _ [75, 76, 77, 78, 45, 14, 46, 29, 30, 79, 48, 49, 26, 50, 51, 80, 81, 82, 74, 83, 84, 61, 62, 63, 64, 85, 86, 87, 88, 89, 90, 91, 92, 93, 94, 95, 96, 138, 139, 127, 128, 129, 130, 131, 132, 133, 134, 135, 136, 137] (by decide +kernel) (by decide +kernel)
set_option maxRecDepth 20000 in
theorem gX9_islandInfo_X0_read : GoodIn wsX9_islandInfo (wsV RX9 144 RX0 yX0_read wsX0_read) := goodIn_app (goodIn_of _ (by decide +kernel)) ggX9_islandInfo_X0_read
set_option maxRecDepth 20000 in
theorem ggX9_islandInfo_X0_numberOf : GoodIn wsX9_islandInfo wsX0_numberOf := goodIn_r _ [100, 80, 81, 82, 74, 83, 76, 29, 14, 30, 101, 102, 103, 104, 138, 139] (by decide +kernel) (by decide +kernel)
set_option maxRecDepth 20000 in
theorem gX9_islandInfo_X0_numberOf : GoodIn wsX9_islandInfo (wsV RX9 147 RX0 yX0_numberOf wsX0_numberOf) := goodIn_app (goodIn_of _ (by decide +kernel)) ggX9_islandInfo_X0_numberOf
theorem dX9_islandInfo_0 : decode cX9_islandInfo 0 = .ok (.aload_n 0, 1) := by decide +kernel
theorem dX9_islandInfo_1 : decode cX9_islandInfo 1 = .ok (.iload_n 1, 1) := by decide +kernel
theorem dX9_islandInfo_2 : decode cX9_islandInfo 2 = .ok (.invokevirtual 99, 3) := by decide +kernel
theorem dX9_islandInfo_5 : decode cX9_islandInfo 5 = .ok (.ifCond .eq 12, 3) := by decide +kernel
theorem dX9_islandInfo_8 : decode cX9_islandInfo 8 = .ok (.iload_n 2, 1) := by decide +kernel
theorem dX9_islandInfo_9 : decode cX9_islandInfo 9 = .ok (.ifCond .lt 8, 3) := by decide +kernel
theorem dX9_islandInfo_12 : decode cX9_islandInfo 12 = .ok (.iload_n 2, 1) := by decide +kernel
theorem dX9_islandInfo_13 : decode cX9_islandInfo 13 = .ok (.iconst 5, 1) := by decide +kernel
theorem dX9_islandInfo_14 : decode cX9_islandInfo 14 = .ok (.if_icmp .le 5, 3) := by decide +kernel
theorem dX9_islandInfo_17 : decode cX9_islandInfo 17 = .ok (.iconst (-1), 1) := by decide +kernel
theorem dX9_islandInfo_18 : decode cX9_islandInfo 18 = .ok (.ireturn, 1) := by decide +kernel
theorem dX9_islandInfo_19 : decode cX9_islandInfo 19 = .ok (.aload_n 0, 1) := by decide +kernel
theorem dX9_islandInfo_20 : decode cX9_islandInfo 20 = .ok (.getfield 19, 3) := by decide +kernel
theorem dX9_islandInfo_23 : decode cX9_islandInfo 23 = .ok (.iload_n 1, 1) := by decide +kernel
theorem dX9_islandInfo_24 : decode cX9_islandInfo 24 = .ok (.invokevirtual 127, 3) := by decide +kernel
theorem dX9_islandInfo_27 : decode cX9_islandInfo 27 = .ok (.istore_n 3, 1) := by decide +kernel
theorem dX9_islandInfo_28 : decode cX9_islandInfo 28 = .ok (.iload_n 3, 1) := by decide +kernel
theorem dX9_islandInfo_29 : decode cX9_islandInfo 29 = .ok (.iconst (-1), 1) := by decide +kernel
theorem dX9_islandInfo_30 : decode cX9_islandInfo 30 = .ok (.if_icmp .ne 6, 3) := by decide +kernel
theorem dX9_islandInfo_33 : decode cX9_islandInfo 33 = .ok (.bipush (-4), 2) := by decide +kernel
theorem dX9_islandInfo_35 : decode cX9_islandInfo 35 = .ok (.ireturn, 1) := by decide +kernel
theorem dX9_islandInfo_36 : decode cX9_islandInfo 36 = .ok (.aload_n 0, 1) := by decide +kernel
theorem dX9_islandInfo_37 : decode cX9_islandInfo 37 = .ok (.getfield 28, 3) := by decide +kernel
theorem dX9_islandInfo_40 : decode cX9_islandInfo 40 = .ok (.invokevirtual 131, 3) := by decide +kernel
theorem dX9_islandInfo_43 : decode cX9_islandInfo 43 = .ok (.iload_n 2, 1) := by decide +kernel
theorem dX9_islandInfo_44 : decode cX9_islandInfo 44 = .ok (.tableswitch 96 0 4 #[36, 48, 60, 72, 84], 36) := by decide +kernel
theorem dX9_islandInfo_80 : decode cX9_islandInfo 80 = .ok (.aload_n 0, 1) := by decide +kernel
theorem dX9_islandInfo_81 : decode cX9_islandInfo 81 = .ok (.getfield 10, 3) := by decide +kernel
theorem dX9_islandInfo_84 : decode cX9_islandInfo 84 = .ok (.getfield 102, 3) := by decide +kernel
theorem dX9_islandInfo_87 : decode cX9_islandInfo 87 = .ok (.iload_n 1, 1) := by decide +kernel
theorem dX9_islandInfo_88 : decode cX9_islandInfo 88 = .ok (.invokestatic 106, 3) := by decide +kernel
theorem dX9_islandInfo_91 : decode cX9_islandInfo 91 = .ok (.ireturn, 1) := by decide +kernel
theorem dX9_islandInfo_92 : decode cX9_islandInfo 92 = .ok (.aload_n 0, 1) := by decide +kernel
theorem dX9_islandInfo_93 : decode cX9_islandInfo 93 = .ok (.getfield 28, 3) := by decide +kernel
theorem dX9_islandInfo_96 : decode cX9_islandInfo 96 = .ok (.getfield 134, 3) := by decide +kernel
theorem dX9_islandInfo_99 : decode cX9_islandInfo 99 = .ok (.iload_n 3, 1) := by decide +kernel
theorem dX9_islandInfo_100 : decode cX9_islandInfo 100 = .ok (.invokestatic 106, 3) := by decide +kernel
theorem dX9_islandInfo_103 : decode cX9_islandInfo 103 = .ok (.ireturn, 1) := by decide +kernel
theorem dX9_islandInfo_104 : decode cX9_islandInfo 104 = .ok (.aload_n 0, 1) := by decide +kernel
theorem dX9_islandInfo_105 : decode cX9_islandInfo 105 = .ok (.getfield 28, 3) := by decide +kernel
theorem dX9_islandInfo_108 : decode cX9_islandInfo 108 = .ok (.getfield 135, 3) := by decide +kernel
theorem dX9_islandInfo_111 : decode cX9_islandInfo 111 = .ok (.iload_n 3, 1) := by decide +kernel
theorem dX9_islandInfo_112 : decode cX9_islandInfo 112 = .ok (.invokestatic 106, 3) := by decide +kernel
theorem dX9_islandInfo_115 : decode cX9_islandInfo 115 = .ok (.ireturn, 1) := by decide +kernel
theorem dX9_islandInfo_116 : decode cX9_islandInfo 116 = .ok (.aload_n 0, 1) := by decide +kernel
theorem dX9_islandInfo_117 : decode cX9_islandInfo 117 = .ok (.getfield 19, 3) := by decide +kernel
theorem dX9_islandInfo_120 : decode cX9_islandInfo 120 = .ok (.getfield 138, 3) := by decide +kernel
theorem dX9_islandInfo_123 : decode cX9_islandInfo 123 = .ok (.iload_n 3, 1) := by decide +kernel
theorem dX9_islandInfo_124 : decode cX9_islandInfo 124 = .ok (.invokestatic 106, 3) := by decide +kernel
theorem dX9_islandInfo_127 : decode cX9_islandInfo 127 = .ok (.ireturn, 1) := by decide +kernel
theorem dX9_islandInfo_128 : decode cX9_islandInfo 128 = .ok (.aload_n 0, 1) := by decide +kernel
theorem dX9_islandInfo_129 : decode cX9_islandInfo 129 = .ok (.getfield 28, 3) := by decide +kernel
theorem dX9_islandInfo_132 : decode cX9_islandInfo 132 = .ok (.getfield 141, 3) := by decide +kernel
theorem dX9_islandInfo_135 : decode cX9_islandInfo 135 = .ok (.iload_n 3, 1) := by decide +kernel
theorem dX9_islandInfo_136 : decode cX9_islandInfo 136 = .ok (.invokestatic 106, 3) := by decide +kernel
theorem dX9_islandInfo_139 : decode cX9_islandInfo 139 = .ok (.ireturn, 1) := by decide +kernel
theorem dX9_islandInfo_140 : decode cX9_islandInfo 140 = .ok (.aload_n 0, 1) := by decide +kernel
theorem dX9_islandInfo_141 : decode cX9_islandInfo 141 = .ok (.getfield 37, 3) := by decide +kernel
theorem dX9_islandInfo_144 : decode cX9_islandInfo 144 = .ok (.aload_n 0, 1) := by decide +kernel
theorem dX9_islandInfo_145 : decode cX9_islandInfo 145 = .ok (.getfield 10, 3) := by decide +kernel
theorem dX9_islandInfo_148 : decode cX9_islandInfo 148 = .ok (.getfield 117, 3) := by decide +kernel
theorem dX9_islandInfo_151 : decode cX9_islandInfo 151 = .ok (.invokevirtual 144, 3) := by decide +kernel
theorem dX9_islandInfo_154 : decode cX9_islandInfo 154 = .ok (.aload_n 0, 1) := by decide +kernel
theorem dX9_islandInfo_155 : decode cX9_islandInfo 155 = .ok (.getfield 37, 3) := by decide +kernel
theorem dX9_islandInfo_158 : decode cX9_islandInfo 158 = .ok (.iload_n 3, 1) := by decide +kernel
theorem dX9_islandInfo_159 : decode cX9_islandInfo 159 = .ok (.invokevirtual 147, 3) := by decide +kernel
theorem dX9_islandInfo_162 : decode cX9_islandInfo 162 = .ok (.ireturn, 1) := by decide +kernel
set_option maxRecDepth 20000 in
theorem ggX9_way_X9_isWay : GoodIn wsX9_way wsX9_isWay := goodIn_r _ [9, 1, 10, 101, 102, 103, 104, 105, 106, 107, 108, 109, 117, 118, 119, 120, 121, 122, 123, 124, 125, 126, 127] (by decide +kernel) (by decide +kernel)
set_option maxRecDepth 20000 in
theorem gX9_way_X9_isWay : GoodIn wsX9_way (wsV RX9 150 RX9 yX9_isWay wsX9_isWay) := goodIn_app (goodIn_of _ (by decide +kernel)) ggX9_way_X9_isWay
set_option maxRecDepth 20000 in
theorem ggX9_way_X2_firstCell : GoodIn wsX9_way wsX2_firstCell := goodIn_r _ [15, 16, 17, 8, 18, 117, 118, 119, 120, 121, 122, 123, 124, 125, 126, 127] (by decide +kernel) (by decide +kernel)
set_option maxRecDepth 20000 in
theorem gX9_way_X2_firstCell : GoodIn wsX9_way (wsV RX9 153 RX2 yX2_firstCell wsX2_firstCell) := goodIn_app (goodIn_of _ (by decide +kernel)) ggX9_way_X2_firstCell
set_option maxRecDepth 20000 in
theorem ggX9_way_X2_secondCell : GoodIn wsX9_way wsX2_secondCell := goodIn_r _ [22, 23, 17, 8, 18, 117, 118, 119, 120, 121, 122, 123, 124, 125, 126, 127] (by decide +kernel) (by decide +kernel)
set_option maxRecDepth 20000 in
theorem gX9_way_X2_secondCell : GoodIn wsX9_way (wsV RX9 156 RX2 yX2_secondCell wsX2_secondCell) := goodIn_app (goodIn_of _ (by decide +kernel)) ggX9_way_X2_secondCell
set_option maxRecDepth 20000 in
theorem ggX9_way_X9_valueAt : GoodIn wsX9_way wsX9_valueAt := goodIn_r _ [18] (by decide +kernel) (by decide +kernel)
set_option maxRecDepth 20000 in
theorem gX9_way_X9_valueAt : GoodIn wsX9_way (va_wsS RX9 106 yX9_valueAt wsX9_valueAt) := goodIn_app (goodIn_of _ (by decide +kernel)) ggX9_way_X9_valueAt
set_option maxRecDepth 20000 in
theorem ggX9_way_X2_cellsBetween : GoodIn wsX9_way wsX2_cellsBetween := goodIn_r _ [28, 29, 17, 8, 18, 30, 20, 21, 14, 22, 23, 31, 12, 13, 15, 16, 117, 118, 119, 120, 121, 122, 123, 124, 125, 126, 127] (by decide +kernel) (by decide +kernel)
set_option maxRecDepth 20000 in
theorem gX9_way_X2_cellsBetween : GoodIn wsX9_way (wsV RX9 160 RX2 yX2_cellsBetween wsX2_cellsBetween) := goodIn_app (goodIn_of _ (by decide +kernel)) ggX9_way_X2_cellsBetween
set_option maxRecDepth 20000 in
theorem ggX9_way_X2_crossingsOf : GoodIn wsX9_way wsX2_crossingsOf := goodIn_r _ [35, 36, 117, 118, 119, 120, 121, 122, 123, 124, 125, 126, 127] (by decide +kernel) (by decide +kernel)
set_option maxRecDepth 20000 in
theorem gX9_way_X2_crossingsOf : GoodIn wsX9_way (wsV RX9 163 RX2 yX2_crossingsOf wsX2_crossingsOf) := goodIn_app (goodIn_of _ (by decide +kernel)) ggX9_way_X2_crossingsOf
set_option maxRecDepth 20000 in
theorem ggX9_way_J13_bitCount_95d88 : GoodIn wsX9_way wsJ13_bitCount_95d88 := goodIn_r _ [40, 41, 42, 43] (by decide +kernel) (by decide +kernel)
set_option maxRecDepth 20000 in
theorem gX9_way_J13_bitCount_95d88 : GoodIn wsX9_way (va_wsS RX9 167 yJ13_bitCount_95d88 wsJ13_bitCount_95d88) := goodIn_app (goodIn_of _ (by decide +kernel)) ggX9_way_J13_bitCount_95d88
set_option maxRecDepth 20000 in
theorem ggX9_way_X2_waysWith : GoodIn wsX9_way wsX2_waysWith := goodIn_r _ [47, 48, 17, 8, 18, 117, 118, 119, 120, 121, 122, 123, 124, 125, 126, 127] (by decide +kernel) (by decide +kernel)
set_option maxRecDepth 20000 in
theorem gX9_way_X2_waysWith : GoodIn wsX9_way (wsV RX9 173 RX2 yX2_waysWith wsX2_waysWith) := goodIn_app (goodIn_of _ (by decide +kernel)) ggX9_way_X2_waysWith
set_option maxRecDepth 20000 in
theorem ggX9_way_X9_reasonAgainst : GoodIn wsX9_way wsX9_reasonAgainst := goodIn_r _ [52, 2, 3, 4, 1, 53, 24, 17, 8, 18, 32, 33, 34, 14, 35, 36, 44, 45, 46, 47, 48, 54, 55, 56, 57, 58, 59, 60, 61, 62, 63, 64, 65, 66, 67, 68, 69, 70, 71, 72, 73, 74, 75, 76, 77, 78, 79, 80, 81, 82, 83, 84, 85, 86, 87, 88, 89, 90, 91, 92, 93, 94, 95, 96, 97, 98, 99, 100, 101, 102, 103, 104, 105, 106, 107, 108, 109, 110, 111, 112, 113, 114, 115, 116, 117, 118, 119, 120, 121, 122, 123, 124, 125, 126, 127, 128, 129, 130, 131, 132, 133] (by decide +kernel) (by decide +kernel)
set_option maxRecDepth 20000 in
theorem gX9_way_X9_reasonAgainst : GoodIn wsX9_way (wsV RX9 177 RX9 yX9_reasonAgainst wsX9_reasonAgainst) := goodIn_app (goodIn_of _ (by decide +kernel)) ggX9_way_X9_reasonAgainst
theorem dX9_way_0 : decode cX9_way 0 = .ok (.aload_n 0, 1) := by decide +kernel
theorem dX9_way_1 : decode cX9_way 1 = .ok (.iload_n 1, 1) := by decide +kernel
theorem dX9_way_2 : decode cX9_way 2 = .ok (.invokevirtual 150, 3) := by decide +kernel
theorem dX9_way_5 : decode cX9_way 5 = .ok (.ifCond .ne 5, 3) := by decide +kernel
theorem dX9_way_8 : decode cX9_way 8 = .ok (.iconst (-1), 1) := by decide +kernel
theorem dX9_way_9 : decode cX9_way 9 = .ok (.ireturn, 1) := by decide +kernel
theorem dX9_way_10 : decode cX9_way 10 = .ok (.iload_n 2, 1) := by decide +kernel
theorem dX9_way_11 : decode cX9_way 11 = .ok (.tableswitch 141 0 7 #[45, 54, 63, 75, 87, 96, 108, 135], 45) := by decide +kernel
theorem dX9_way_56 : decode cX9_way 56 = .ok (.aload_n 0, 1) := by decide +kernel
theorem dX9_way_57 : decode cX9_way 57 = .ok (.getfield 19, 3) := by decide +kernel
theorem dX9_way_60 : decode cX9_way 60 = .ok (.iload_n 1, 1) := by decide +kernel
theorem dX9_way_61 : decode cX9_way 61 = .ok (.invokevirtual 153, 3) := by decide +kernel
theorem dX9_way_64 : decode cX9_way 64 = .ok (.ireturn, 1) := by decide +kernel
theorem dX9_way_65 : decode cX9_way 65 = .ok (.aload_n 0, 1) := by decide +kernel
theorem dX9_way_66 : decode cX9_way 66 = .ok (.getfield 19, 3) := by decide +kernel
theorem dX9_way_69 : decode cX9_way 69 = .ok (.iload_n 1, 1) := by decide +kernel
theorem dX9_way_70 : decode cX9_way 70 = .ok (.invokevirtual 156, 3) := by decide +kernel
theorem dX9_way_73 : decode cX9_way 73 = .ok (.ireturn, 1) := by decide +kernel
theorem dX9_way_74 : decode cX9_way 74 = .ok (.aload_n 0, 1) := by decide +kernel
theorem dX9_way_75 : decode cX9_way 75 = .ok (.getfield 10, 3) := by decide +kernel
theorem dX9_way_78 : decode cX9_way 78 = .ok (.getfield 117, 3) := by decide +kernel
theorem dX9_way_81 : decode cX9_way 81 = .ok (.iload_n 1, 1) := by decide +kernel
theorem dX9_way_82 : decode cX9_way 82 = .ok (.invokestatic 106, 3) := by decide +kernel
theorem dX9_way_85 : decode cX9_way 85 = .ok (.ireturn, 1) := by decide +kernel
theorem dX9_way_86 : decode cX9_way 86 = .ok (.aload_n 0, 1) := by decide +kernel
theorem dX9_way_87 : decode cX9_way 87 = .ok (.getfield 10, 3) := by decide +kernel
theorem dX9_way_90 : decode cX9_way 90 = .ok (.getfield 159, 3) := by decide +kernel
theorem dX9_way_93 : decode cX9_way 93 = .ok (.iload_n 1, 1) := by decide +kernel
theorem dX9_way_94 : decode cX9_way 94 = .ok (.invokestatic 106, 3) := by decide +kernel
theorem dX9_way_97 : decode cX9_way 97 = .ok (.ireturn, 1) := by decide +kernel
theorem dX9_way_98 : decode cX9_way 98 = .ok (.aload_n 0, 1) := by decide +kernel
theorem dX9_way_99 : decode cX9_way 99 = .ok (.getfield 19, 3) := by decide +kernel
theorem dX9_way_102 : decode cX9_way 102 = .ok (.iload_n 1, 1) := by decide +kernel
theorem dX9_way_103 : decode cX9_way 103 = .ok (.invokevirtual 160, 3) := by decide +kernel
theorem dX9_way_106 : decode cX9_way 106 = .ok (.ireturn, 1) := by decide +kernel
theorem dX9_way_107 : decode cX9_way 107 = .ok (.aload_n 0, 1) := by decide +kernel
theorem dX9_way_108 : decode cX9_way 108 = .ok (.getfield 19, 3) := by decide +kernel
theorem dX9_way_111 : decode cX9_way 111 = .ok (.iload_n 1, 1) := by decide +kernel
theorem dX9_way_112 : decode cX9_way 112 = .ok (.invokevirtual 163, 3) := by decide +kernel
theorem dX9_way_115 : decode cX9_way 115 = .ok (.invokestatic 167, 3) := by decide +kernel
theorem dX9_way_118 : decode cX9_way 118 = .ok (.ireturn, 1) := by decide +kernel
theorem dX9_way_119 : decode cX9_way 119 = .ok (.aload_n 0, 1) := by decide +kernel
theorem dX9_way_120 : decode cX9_way 120 = .ok (.getfield 19, 3) := by decide +kernel
theorem dX9_way_123 : decode cX9_way 123 = .ok (.iload_n 1, 1) := by decide +kernel
theorem dX9_way_124 : decode cX9_way 124 = .ok (.invokevirtual 163, 3) := by decide +kernel
theorem dX9_way_127 : decode cX9_way 127 = .ok (.aload_n 0, 1) := by decide +kernel
theorem dX9_way_128 : decode cX9_way 128 = .ok (.getfield 19, 3) := by decide +kernel
theorem dX9_way_131 : decode cX9_way 131 = .ok (.aload_n 0, 1) := by decide +kernel
theorem dX9_way_132 : decode cX9_way 132 = .ok (.getfield 10, 3) := by decide +kernel
theorem dX9_way_135 : decode cX9_way 135 = .ok (.getfield 117, 3) := by decide +kernel
theorem dX9_way_138 : decode cX9_way 138 = .ok (.invokevirtual 173, 3) := by decide +kernel
theorem dX9_way_141 : decode cX9_way 141 = .ok (.land, 1) := by decide +kernel
theorem dX9_way_142 : decode cX9_way 142 = .ok (.invokestatic 167, 3) := by decide +kernel
theorem dX9_way_145 : decode cX9_way 145 = .ok (.ireturn, 1) := by decide +kernel
theorem dX9_way_146 : decode cX9_way 146 = .ok (.aload_n 0, 1) := by decide +kernel
theorem dX9_way_147 : decode cX9_way 147 = .ok (.iload_n 1, 1) := by decide +kernel
theorem dX9_way_148 : decode cX9_way 148 = .ok (.invokevirtual 177, 3) := by decide +kernel
theorem dX9_way_151 : decode cX9_way 151 = .ok (.ireturn, 1) := by decide +kernel
theorem dX9_way_152 : decode cX9_way 152 = .ok (.iconst (-1), 1) := by decide +kernel
theorem dX9_way_153 : decode cX9_way 153 = .ok (.ireturn, 1) := by decide +kernel
set_option maxRecDepth 20000 in
theorem ggX9_between_X9_isCell : GoodIn wsX9_between wsX9_isCell := goodIn_r _ [14, 15, 16, 17, 18, 19, 20, 21, 22, 36, 37, 38, 39, 40, 41, 42, 43, 44, 56, 57, 58, 59, 60, 61, 62] (by decide +kernel) (by decide +kernel)
set_option maxRecDepth 20000 in
theorem gX9_between_X9_isCell : GoodIn wsX9_between (wsV RX9 99 RX9 yX9_isCell wsX9_isCell) := goodIn_app (goodIn_of _ (by decide +kernel)) ggX9_between_X9_isCell
set_option maxRecDepth 20000 in
theorem ggX9_between_X2_firstCell : GoodIn wsX9_between wsX2_firstCell := goodIn_r _ [27, 28, 29, 13, 30, 45, 46, 47, 48, 49, 50, 51, 52, 53, 54, 55] (by decide +kernel) (by decide +kernel)
set_option maxRecDepth 20000 in
theorem gX9_between_X2_firstCell : GoodIn wsX9_between (wsV RX9 153 RX2 yX2_firstCell wsX2_firstCell) := goodIn_app (goodIn_of _ (by decide +kernel)) ggX9_between_X2_firstCell
set_option maxRecDepth 20000 in
theorem ggX9_between_X2_secondCell : GoodIn wsX9_between wsX2_secondCell := goodIn_r _ [34, 35, 29, 13, 30, 45, 46, 47, 48, 49, 50, 51, 52, 53, 54, 55] (by decide +kernel) (by decide +kernel)
set_option maxRecDepth 20000 in
theorem gX9_between_X2_secondCell : GoodIn wsX9_between (wsV RX9 156 RX2 yX2_secondCell wsX2_secondCell) := goodIn_app (goodIn_of _ (by decide +kernel)) ggX9_between_X2_secondCell
theorem dX9_between_0 : decode cX9_between 0 = .ok (.aload_n 0, 1) := by decide +kernel
theorem dX9_between_1 : decode cX9_between 1 = .ok (.iload_n 1, 1) := by decide +kernel
theorem dX9_between_2 : decode cX9_between 2 = .ok (.invokevirtual 99, 3) := by decide +kernel
theorem dX9_between_5 : decode cX9_between 5 = .ok (.ifCond .eq 11, 3) := by decide +kernel
theorem dX9_between_8 : decode cX9_between 8 = .ok (.aload_n 0, 1) := by decide +kernel
theorem dX9_between_9 : decode cX9_between 9 = .ok (.iload_n 2, 1) := by decide +kernel
theorem dX9_between_10 : decode cX9_between 10 = .ok (.invokevirtual 99, 3) := by decide +kernel
theorem dX9_between_13 : decode cX9_between 13 = .ok (.ifCond .ne 5, 3) := by decide +kernel
theorem dX9_between_16 : decode cX9_between 16 = .ok (.iconst (-1), 1) := by decide +kernel
theorem dX9_between_17 : decode cX9_between 17 = .ok (.ireturn, 1) := by decide +kernel
theorem dX9_between_18 : decode cX9_between 18 = .ok (.iload_n 1, 1) := by decide +kernel
theorem dX9_between_19 : decode cX9_between 19 = .ok (.iload_n 2, 1) := by decide +kernel
theorem dX9_between_20 : decode cX9_between 20 = .ok (.invokestatic 180, 3) := by decide +kernel
theorem dX9_between_23 : decode cX9_between 23 = .ok (.istore_n 3, 1) := by decide +kernel
theorem dX9_between_24 : decode cX9_between 24 = .ok (.iload_n 1, 1) := by decide +kernel
theorem dX9_between_25 : decode cX9_between 25 = .ok (.iload_n 2, 1) := by decide +kernel
theorem dX9_between_26 : decode cX9_between 26 = .ok (.invokestatic 186, 3) := by decide +kernel
theorem dX9_between_29 : decode cX9_between 29 = .ok (.istore 4, 2) := by decide +kernel
theorem dX9_between_31 : decode cX9_between 31 = .ok (.iconst 0, 1) := by decide +kernel
theorem dX9_between_32 : decode cX9_between 32 = .ok (.istore 5, 2) := by decide +kernel
theorem dX9_between_34 : decode cX9_between 34 = .ok (.iload 5, 2) := by decide +kernel
theorem dX9_between_36 : decode cX9_between 36 = .ok (.aload_n 0, 1) := by decide +kernel
theorem dX9_between_37 : decode cX9_between 37 = .ok (.getfield 19, 3) := by decide +kernel
theorem dX9_between_40 : decode cX9_between 40 = .ok (.getfield 114, 3) := by decide +kernel
theorem dX9_between_43 : decode cX9_between 43 = .ok (.if_icmp .ge 39, 3) := by decide +kernel
theorem dX9_between_46 : decode cX9_between 46 = .ok (.aload_n 0, 1) := by decide +kernel
theorem dX9_between_47 : decode cX9_between 47 = .ok (.getfield 19, 3) := by decide +kernel
theorem dX9_between_50 : decode cX9_between 50 = .ok (.iload 5, 2) := by decide +kernel
theorem dX9_between_52 : decode cX9_between 52 = .ok (.invokevirtual 153, 3) := by decide +kernel
theorem dX9_between_55 : decode cX9_between 55 = .ok (.iload_n 3, 1) := by decide +kernel
theorem dX9_between_56 : decode cX9_between 56 = .ok (.if_icmp .ne 20, 3) := by decide +kernel
theorem dX9_between_59 : decode cX9_between 59 = .ok (.aload_n 0, 1) := by decide +kernel
theorem dX9_between_60 : decode cX9_between 60 = .ok (.getfield 19, 3) := by decide +kernel
theorem dX9_between_63 : decode cX9_between 63 = .ok (.iload 5, 2) := by decide +kernel
theorem dX9_between_65 : decode cX9_between 65 = .ok (.invokevirtual 156, 3) := by decide +kernel
theorem dX9_between_68 : decode cX9_between 68 = .ok (.iload 4, 2) := by decide +kernel
theorem dX9_between_70 : decode cX9_between 70 = .ok (.if_icmp .ne 6, 3) := by decide +kernel
theorem dX9_between_73 : decode cX9_between 73 = .ok (.iload 5, 2) := by decide +kernel
theorem dX9_between_75 : decode cX9_between 75 = .ok (.ireturn, 1) := by decide +kernel
theorem dX9_between_76 : decode cX9_between 76 = .ok (.iinc 5 1, 3) := by decide +kernel
theorem dX9_between_79 : decode cX9_between 79 = .ok (.goto (-45), 3) := by decide +kernel
theorem dX9_between_82 : decode cX9_between 82 = .ok (.bipush (-4), 2) := by decide +kernel
theorem dX9_between_84 : decode cX9_between 84 = .ok (.ireturn, 1) := by decide +kernel
set_option maxRecDepth 20000 in
theorem ggX9_count_X9_allBridges : GoodIn wsX9_count wsX9_allBridges := goodIn_r _ [17, 4, 6, 1, 18, 19, 20, 16, 21, 124, 125, 126, 127, 128, 129, 130, 131, 132, 140, 141, 142, 143, 144, 145, 146, 147, 148, 149, 150, 133, 134, 135, 136, 137, 138, 139] (by decide +kernel) (by decide +kernel)
set_option maxRecDepth 20000 in
theorem gX9_count_X9_allBridges : GoodIn wsX9_count (wsV RX9 195 RX9 yX9_allBridges wsX9_allBridges) := goodIn_app (goodIn_of _ (by decide +kernel)) ggX9_count_X9_allBridges
set_option maxRecDepth 20000 in
theorem ggX9_count_X9_completeIslands : GoodIn wsX9_count wsX9_completeIslands := goodIn_r _ [25, 26, 4, 5, 27, 28, 29, 30, 31, 32, 33, 34, 35, 36, 37, 38, 39, 40, 41, 42, 16, 43, 44, 45, 46, 47, 48, 49, 20, 21, 50, 51, 52, 53, 54, 55, 56, 57, 58, 59, 60, 61, 62, 63, 64, 65, 66, 67, 19, 124, 125, 126, 127, 128, 129, 130, 131, 132, 140, 141, 142, 143, 144, 145, 146, 147, 148, 149, 150, 161, 162, 163, 164, 165, 166, 133, 134, 135, 136, 137, 138, 139] (by decide +kernel) (by decide +kernel)
set_option maxRecDepth 20000 in
theorem gX9_count_X9_completeIslands : GoodIn wsX9_count (wsV RX9 199 RX9 yX9_completeIslands wsX9_completeIslands) := goodIn_app (goodIn_of _ (by decide +kernel)) ggX9_count_X9_completeIslands
set_option maxRecDepth 20000 in
theorem ggX9_count_X9_groupsInAll : GoodIn wsX9_count wsX9_groupsInAll := goodIn_r _ [71, 72, 1, 18, 73, 74, 75, 76, 77, 78, 79, 80, 42, 16, 43, 20, 21, 81, 45, 46, 47, 48, 49, 82, 83, 84, 85, 86, 59, 60, 61, 62, 87, 88, 89, 90, 91, 92, 93, 94, 95, 96, 97, 98, 99, 100, 101, 102, 103, 104, 105, 106, 124, 125, 126, 127, 128, 129, 130, 131, 132, 133, 134, 135, 136, 137, 138, 139, 167, 168, 140, 141, 142, 143, 144, 145, 146, 147, 148, 149, 150] (by decide +kernel) (by decide +kernel)
set_option maxRecDepth 20000 in
theorem gX9_count_X9_groupsInAll : GoodIn wsX9_count (wsV RX9 202 RX9 yX9_groupsInAll wsX9_groupsInAll) := goodIn_app (goodIn_of _ (by decide +kernel)) ggX9_count_X9_groupsInAll
set_option maxRecDepth 20000 in
theorem ggX9_count_X9_isSolved : GoodIn wsX9_count wsX9_isSolved := goodIn_r _ [110, 4, 5, 22, 23, 24, 16, 25, 26, 27, 28, 29, 30, 31, 32, 33, 34, 35, 36, 37, 38, 39, 40, 41, 42, 43, 44, 45, 46, 47, 48, 49, 20, 21, 50, 51, 52, 53, 54, 55, 56, 57, 58, 59, 60, 61, 62, 63, 64, 65, 66, 67, 19, 68, 69, 70, 71, 72, 1, 18, 73, 74, 75, 76, 77, 78, 79, 80, 81, 82, 83, 84, 85, 86, 87, 88, 89, 90, 91, 92, 93, 94, 95, 96, 97, 98, 99, 100, 101, 102, 103, 104, 105, 106, 124, 125, 126, 127, 128, 129, 130, 131, 132, 140, 141, 142, 143, 144, 145, 146, 147, 148, 149, 150, 161, 162, 163, 164, 165, 166, 133, 134, 135, 136, 137, 138, 139, 167, 168] (by decide +kernel) (by decide +kernel)
set_option maxRecDepth 20000 in
theorem gX9_count_X9_isSolved : GoodIn wsX9_count (wsV RX9 205 RX9 yX9_isSolved wsX9_isSolved) := goodIn_app (goodIn_of _ (by decide +kernel)) ggX9_count_X9_isSolved
set_option maxRecDepth 20000 in
theorem ggX9_count_X9_isBroken : GoodIn wsX9_count wsX9_isBroken := goodIn_r _ [114, 26, 28, 29, 30, 31, 32, 33, 34, 35, 36, 37, 38, 39, 40, 41, 42, 16, 43, 44, 45, 46, 47, 48, 49, 20, 21, 50, 51, 52, 53, 54, 55, 56, 57, 58, 59, 60, 61, 62, 63, 64, 65, 66, 67, 115, 116, 117, 118, 124, 125, 126, 127, 128, 129, 130, 131, 132, 161, 162, 163, 164, 165, 166, 140, 141, 142, 143, 144, 145, 146, 147, 148, 149, 150, 133, 134, 135, 136, 137, 138, 139] (by decide +kernel) (by decide +kernel)
set_option maxRecDepth 20000 in
theorem gX9_count_X9_isBroken : GoodIn wsX9_count (wsV RX9 209 RX9 yX9_isBroken wsX9_isBroken) := goodIn_app (goodIn_of _ (by decide +kernel)) ggX9_count_X9_isBroken
set_option maxRecDepth 20000 in
theorem ggX9_count_X9_allNumbers : GoodIn wsX9_count wsX9_allNumbers := goodIn_r _ [122, 1, 123, 19, 20, 16, 21, 124, 125, 126, 127, 128, 129, 130, 131, 132, 133, 134, 135, 136, 137, 138, 139] (by decide +kernel) (by decide +kernel)
set_option maxRecDepth 20000 in
theorem gX9_count_X9_allNumbers : GoodIn wsX9_count (wsV RX9 212 RX9 yX9_allNumbers wsX9_allNumbers) := goodIn_app (goodIn_of _ (by decide +kernel)) ggX9_count_X9_allNumbers
theorem dX9_count_0 : decode cX9_count 0 = .ok (.iload_n 1, 1) := by decide +kernel
theorem dX9_count_1 : decode cX9_count 1 = .ok (.tableswitch 181 0 13 #[71, 79, 87, 95, 103, 108, 113, 118, 131, 144, 149, 157, 165, 173], 71) := by decide +kernel
theorem dX9_count_72 : decode cX9_count 72 = .ok (.aload_n 0, 1) := by decide +kernel
theorem dX9_count_73 : decode cX9_count 73 = .ok (.getfield 10, 3) := by decide +kernel
theorem dX9_count_76 : decode cX9_count 76 = .ok (.getfield 189, 3) := by decide +kernel
theorem dX9_count_79 : decode cX9_count 79 = .ok (.ireturn, 1) := by decide +kernel
theorem dX9_count_80 : decode cX9_count 80 = .ok (.aload_n 0, 1) := by decide +kernel
theorem dX9_count_81 : decode cX9_count 81 = .ok (.getfield 10, 3) := by decide +kernel
theorem dX9_count_84 : decode cX9_count 84 = .ok (.getfield 192, 3) := by decide +kernel
theorem dX9_count_87 : decode cX9_count 87 = .ok (.ireturn, 1) := by decide +kernel
theorem dX9_count_88 : decode cX9_count 88 = .ok (.aload_n 0, 1) := by decide +kernel
theorem dX9_count_89 : decode cX9_count 89 = .ok (.getfield 19, 3) := by decide +kernel
theorem dX9_count_92 : decode cX9_count 92 = .ok (.getfield 84, 3) := by decide +kernel
theorem dX9_count_95 : decode cX9_count 95 = .ok (.ireturn, 1) := by decide +kernel
theorem dX9_count_96 : decode cX9_count 96 = .ok (.aload_n 0, 1) := by decide +kernel
theorem dX9_count_97 : decode cX9_count 97 = .ok (.getfield 19, 3) := by decide +kernel
theorem dX9_count_100 : decode cX9_count 100 = .ok (.getfield 114, 3) := by decide +kernel
theorem dX9_count_103 : decode cX9_count 103 = .ok (.ireturn, 1) := by decide +kernel
theorem dX9_count_104 : decode cX9_count 104 = .ok (.aload_n 0, 1) := by decide +kernel
theorem dX9_count_105 : decode cX9_count 105 = .ok (.invokevirtual 195, 3) := by decide +kernel
theorem dX9_count_108 : decode cX9_count 108 = .ok (.ireturn, 1) := by decide +kernel
theorem dX9_count_109 : decode cX9_count 109 = .ok (.aload_n 0, 1) := by decide +kernel
theorem dX9_count_110 : decode cX9_count 110 = .ok (.invokevirtual 199, 3) := by decide +kernel
theorem dX9_count_113 : decode cX9_count 113 = .ok (.ireturn, 1) := by decide +kernel
theorem dX9_count_114 : decode cX9_count 114 = .ok (.aload_n 0, 1) := by decide +kernel
theorem dX9_count_115 : decode cX9_count 115 = .ok (.invokevirtual 202, 3) := by decide +kernel
theorem dX9_count_118 : decode cX9_count 118 = .ok (.ireturn, 1) := by decide +kernel
theorem dX9_count_119 : decode cX9_count 119 = .ok (.aload_n 0, 1) := by decide +kernel
theorem dX9_count_120 : decode cX9_count 120 = .ok (.invokevirtual 205, 3) := by decide +kernel
theorem dX9_count_123 : decode cX9_count 123 = .ok (.ifCond .eq 7, 3) := by decide +kernel
theorem dX9_count_126 : decode cX9_count 126 = .ok (.iconst 1, 1) := by decide +kernel
theorem dX9_count_127 : decode cX9_count 127 = .ok (.goto 4, 3) := by decide +kernel
theorem dX9_count_130 : decode cX9_count 130 = .ok (.iconst 0, 1) := by decide +kernel
theorem dX9_count_131 : decode cX9_count 131 = .ok (.ireturn, 1) := by decide +kernel
theorem dX9_count_132 : decode cX9_count 132 = .ok (.aload_n 0, 1) := by decide +kernel
theorem dX9_count_133 : decode cX9_count 133 = .ok (.invokevirtual 209, 3) := by decide +kernel
theorem dX9_count_136 : decode cX9_count 136 = .ok (.ifCond .eq 7, 3) := by decide +kernel
theorem dX9_count_139 : decode cX9_count 139 = .ok (.iconst 1, 1) := by decide +kernel
theorem dX9_count_140 : decode cX9_count 140 = .ok (.goto 4, 3) := by decide +kernel
theorem dX9_count_143 : decode cX9_count 143 = .ok (.iconst 0, 1) := by decide +kernel
theorem dX9_count_144 : decode cX9_count 144 = .ok (.ireturn, 1) := by decide +kernel
theorem dX9_count_145 : decode cX9_count 145 = .ok (.aload_n 0, 1) := by decide +kernel
theorem dX9_count_146 : decode cX9_count 146 = .ok (.invokevirtual 212, 3) := by decide +kernel
theorem dX9_count_149 : decode cX9_count 149 = .ok (.ireturn, 1) := by decide +kernel
theorem dX9_count_150 : decode cX9_count 150 = .ok (.aload_n 0, 1) := by decide +kernel
theorem dX9_count_151 : decode cX9_count 151 = .ok (.getfield 10, 3) := by decide +kernel
theorem dX9_count_154 : decode cX9_count 154 = .ok (.getfield 215, 3) := by decide +kernel
theorem dX9_count_157 : decode cX9_count 157 = .ok (.ireturn, 1) := by decide +kernel
theorem dX9_count_158 : decode cX9_count 158 = .ok (.aload_n 0, 1) := by decide +kernel
theorem dX9_count_159 : decode cX9_count 159 = .ok (.getfield 10, 3) := by decide +kernel
theorem dX9_count_162 : decode cX9_count 162 = .ok (.getfield 218, 3) := by decide +kernel
theorem dX9_count_165 : decode cX9_count 165 = .ok (.ireturn, 1) := by decide +kernel
theorem dX9_count_166 : decode cX9_count 166 = .ok (.aload_n 0, 1) := by decide +kernel
theorem dX9_count_167 : decode cX9_count 167 = .ok (.getfield 69, 3) := by decide +kernel
theorem dX9_count_170 : decode cX9_count 170 = .ok (.getfield 221, 3) := by decide +kernel
theorem dX9_count_173 : decode cX9_count 173 = .ok (.ireturn, 1) := by decide +kernel
theorem dX9_count_174 : decode cX9_count 174 = .ok (.aload_n 0, 1) := by decide +kernel
theorem dX9_count_175 : decode cX9_count 175 = .ok (.getfield 76, 3) := by decide +kernel
theorem dX9_count_178 : decode cX9_count 178 = .ok (.getfield 224, 3) := by decide +kernel
theorem dX9_count_181 : decode cX9_count 181 = .ok (.ireturn, 1) := by decide +kernel
theorem dX9_count_182 : decode cX9_count 182 = .ok (.iconst (-1), 1) := by decide +kernel
theorem dX9_count_183 : decode cX9_count 183 = .ok (.ireturn, 1) := by decide +kernel
set_option maxRecDepth 20000 in
theorem ggX9_build_X9_isWay : GoodIn wsX9_build wsX9_isWay := goodIn_r _ [8, 9, 10, 114, 115, 116, 117, 118, 119, 120, 121, 122, 130, 131, 132, 133, 134, 135, 136, 137, 138, 139, 140] (by decide +kernel) (by decide +kernel)
set_option maxRecDepth 20000 in
theorem gX9_build_X9_isWay : GoodIn wsX9_build (wsV RX9 150 RX9 yX9_isWay wsX9_isWay) := goodIn_app (goodIn_of _ (by decide +kernel)) ggX9_build_X9_isWay
set_option maxRecDepth 20000 in
theorem ggX9_build_X9_reasonAgainst : GoodIn wsX9_build wsX9_reasonAgainst := goodIn_r _ [14, 2, 3, 15, 9, 16, 17, 18, 7, 19, 20, 21, 22, 23, 24, 25, 26, 27, 28, 29, 30, 31, 32, 33, 34, 35, 36, 37, 38, 39, 40, 41, 42, 43, 44, 45, 46, 47, 48, 49, 50, 51, 52, 53, 54, 55, 56, 57, 58, 59, 60, 61, 62, 63, 64, 65, 66, 67, 68, 69, 70, 71, 72, 73, 74, 75, 76, 77, 114, 115, 116, 117, 118, 119, 120, 121, 122, 123, 124, 125, 126, 127, 128, 129, 130, 131, 132, 133, 134, 135, 136, 137, 138, 139, 140, 141, 142, 143, 144, 145, 146] (by decide +kernel) (by decide +kernel)
set_option maxRecDepth 20000 in
theorem gX9_build_X9_reasonAgainst : GoodIn wsX9_build (wsV RX9 177 RX9 yX9_reasonAgainst wsX9_reasonAgainst) := goodIn_app (goodIn_of _ (by decide +kernel)) ggX9_build_X9_reasonAgainst
set_option maxRecDepth 20000 in
theorem ggX9_build_X1_record : GoodIn wsX9_build wsX1_record := goodIn_r _ [82, 83, 84, 85, 86, 81, 87, 88, 89, 90, 91, 92, 93, 94, 95, 96, 97, 98, 99, 100, 101, 102, 103, 104, 105, 106, 107, 108, 109, 110, 111, 112, 147, 148, 123, 124, 125, 126, 127, 128, 129] (by decide +kernel) (by decide +kernel)
set_option maxRecDepth 20000 in
theorem gX9_build_X1_record : GoodIn wsX9_build (wsV RX9 88 RX1 yX1_record wsX1_record) := goodIn_app (goodIn_of _ (by decide +kernel)) ggX9_build_X1_record
set_option maxRecDepth 20000 in
theorem ggX9_build_X9_valueAt : GoodIn wsX9_build wsX9_valueAt := goodIn_r _ [19] (by decide +kernel) (by decide +kernel)
set_option maxRecDepth 20000 in
theorem gX9_build_X9_valueAt : GoodIn wsX9_build (va_wsS RX9 106 yX9_valueAt wsX9_valueAt) := goodIn_app (goodIn_of _ (by decide +kernel)) ggX9_build_X9_valueAt
set_option maxRecDepth 20000 in
theorem ggX9_build_X9_put : GoodIn wsX9_build wsX9_put := goodIn_r _ [46] (by decide +kernel) (by decide +kernel)
set_option maxRecDepth 20000 in
theorem gX9_build_X9_put : GoodIn wsX9_build (va_wsS RX9 110 yX9_put wsX9_put) := goodIn_app (goodIn_of _ (by decide +kernel)) ggX9_build_X9_put
theorem dX9_build_0 : decode cX9_build 0 = .ok (.aload_n 0, 1) := by decide +kernel
theorem dX9_build_1 : decode cX9_build 1 = .ok (.iload_n 1, 1) := by decide +kernel
theorem dX9_build_2 : decode cX9_build 2 = .ok (.invokevirtual 150, 3) := by decide +kernel
theorem dX9_build_5 : decode cX9_build 5 = .ok (.ifCond .ne 5, 3) := by decide +kernel
theorem dX9_build_8 : decode cX9_build 8 = .ok (.iconst (-1), 1) := by decide +kernel
theorem dX9_build_9 : decode cX9_build 9 = .ok (.ireturn, 1) := by decide +kernel
theorem dX9_build_10 : decode cX9_build 10 = .ok (.aload_n 0, 1) := by decide +kernel
theorem dX9_build_11 : decode cX9_build 11 = .ok (.iload_n 1, 1) := by decide +kernel
theorem dX9_build_12 : decode cX9_build 12 = .ok (.invokevirtual 177, 3) := by decide +kernel
theorem dX9_build_15 : decode cX9_build 15 = .ok (.ifCond .eq 6, 3) := by decide +kernel
theorem dX9_build_18 : decode cX9_build 18 = .ok (.bipush (-2), 2) := by decide +kernel
theorem dX9_build_20 : decode cX9_build 20 = .ok (.ireturn, 1) := by decide +kernel
theorem dX9_build_21 : decode cX9_build 21 = .ok (.aload_n 0, 1) := by decide +kernel
theorem dX9_build_22 : decode cX9_build 22 = .ok (.getfield 69, 3) := by decide +kernel
theorem dX9_build_25 : decode cX9_build 25 = .ok (.aload_n 0, 1) := by decide +kernel
theorem dX9_build_26 : decode cX9_build 26 = .ok (.getfield 10, 3) := by decide +kernel
theorem dX9_build_29 : decode cX9_build 29 = .ok (.invokevirtual 88, 3) := by decide +kernel
theorem dX9_build_32 : decode cX9_build 32 = .ok (.aload_n 0, 1) := by decide +kernel
theorem dX9_build_33 : decode cX9_build 33 = .ok (.getfield 10, 3) := by decide +kernel
theorem dX9_build_36 : decode cX9_build 36 = .ok (.getfield 117, 3) := by decide +kernel
theorem dX9_build_39 : decode cX9_build 39 = .ok (.iload_n 1, 1) := by decide +kernel
theorem dX9_build_40 : decode cX9_build 40 = .ok (.invokestatic 106, 3) := by decide +kernel
theorem dX9_build_43 : decode cX9_build 43 = .ok (.iconst 1, 1) := by decide +kernel
theorem dX9_build_44 : decode cX9_build 44 = .ok (.iadd, 1) := by decide +kernel
theorem dX9_build_45 : decode cX9_build 45 = .ok (.istore_n 2, 1) := by decide +kernel
theorem dX9_build_46 : decode cX9_build 46 = .ok (.aload_n 0, 1) := by decide +kernel
theorem dX9_build_47 : decode cX9_build 47 = .ok (.getfield 10, 3) := by decide +kernel
theorem dX9_build_50 : decode cX9_build 50 = .ok (.getfield 117, 3) := by decide +kernel
theorem dX9_build_53 : decode cX9_build 53 = .ok (.iload_n 1, 1) := by decide +kernel
theorem dX9_build_54 : decode cX9_build 54 = .ok (.iload_n 2, 1) := by decide +kernel
theorem dX9_build_55 : decode cX9_build 55 = .ok (.invokestatic 110, 3) := by decide +kernel
theorem dX9_build_58 : decode cX9_build 58 = .ok (.iload_n 2, 1) := by decide +kernel
theorem dX9_build_59 : decode cX9_build 59 = .ok (.ireturn, 1) := by decide +kernel
set_option maxRecDepth 20000 in
theorem ggX9_take_X9_isWay : GoodIn wsX9_take wsX9_isWay := goodIn_r _ [8, 9, 10, 52, 53, 54, 55, 56, 57, 58, 59, 60, 68, 69, 70, 71, 72, 73, 74, 75, 76, 77, 78] (by decide +kernel) (by decide +kernel)
set_option maxRecDepth 20000 in
theorem gX9_take_X9_isWay : GoodIn wsX9_take (wsV RX9 150 RX9 yX9_isWay wsX9_isWay) := goodIn_app (goodIn_of _ (by decide +kernel)) ggX9_take_X9_isWay
set_option maxRecDepth 20000 in
theorem ggX9_take_X9_valueAt : GoodIn wsX9_take wsX9_valueAt := goodIn_r _ [13] (by decide +kernel) (by decide +kernel)
set_option maxRecDepth 20000 in
theorem gX9_take_X9_valueAt : GoodIn wsX9_take (va_wsS RX9 106 yX9_valueAt wsX9_valueAt) := goodIn_app (goodIn_of _ (by decide +kernel)) ggX9_take_X9_valueAt
set_option maxRecDepth 20000 in
theorem ggX9_take_X1_record : GoodIn wsX9_take wsX1_record := goodIn_r _ [18, 19, 20, 21, 22, 17, 23, 24, 25, 26, 27, 28, 29, 30, 31, 32, 33, 34, 35, 36, 37, 38, 39, 40, 41, 42, 43, 44, 45, 46, 47, 48, 79, 80, 61, 62, 63, 64, 65, 66, 67] (by decide +kernel) (by decide +kernel)
set_option maxRecDepth 20000 in
theorem gX9_take_X1_record : GoodIn wsX9_take (wsV RX9 88 RX1 yX1_record wsX1_record) := goodIn_app (goodIn_of _ (by decide +kernel)) ggX9_take_X1_record
set_option maxRecDepth 20000 in
theorem ggX9_take_X9_put : GoodIn wsX9_take wsX9_put := goodIn_r _ [51] (by decide +kernel) (by decide +kernel)
set_option maxRecDepth 20000 in
theorem gX9_take_X9_put : GoodIn wsX9_take (va_wsS RX9 110 yX9_put wsX9_put) := goodIn_app (goodIn_of _ (by decide +kernel)) ggX9_take_X9_put
theorem dX9_take_0 : decode cX9_take 0 = .ok (.aload_n 0, 1) := by decide +kernel
theorem dX9_take_1 : decode cX9_take 1 = .ok (.iload_n 1, 1) := by decide +kernel
theorem dX9_take_2 : decode cX9_take 2 = .ok (.invokevirtual 150, 3) := by decide +kernel
theorem dX9_take_5 : decode cX9_take 5 = .ok (.ifCond .ne 5, 3) := by decide +kernel
theorem dX9_take_8 : decode cX9_take 8 = .ok (.iconst (-1), 1) := by decide +kernel
theorem dX9_take_9 : decode cX9_take 9 = .ok (.ireturn, 1) := by decide +kernel
theorem dX9_take_10 : decode cX9_take 10 = .ok (.aload_n 0, 1) := by decide +kernel
theorem dX9_take_11 : decode cX9_take 11 = .ok (.getfield 10, 3) := by decide +kernel
theorem dX9_take_14 : decode cX9_take 14 = .ok (.getfield 117, 3) := by decide +kernel
theorem dX9_take_17 : decode cX9_take 17 = .ok (.iload_n 1, 1) := by decide +kernel
theorem dX9_take_18 : decode cX9_take 18 = .ok (.invokestatic 106, 3) := by decide +kernel
theorem dX9_take_21 : decode cX9_take 21 = .ok (.istore_n 2, 1) := by decide +kernel
theorem dX9_take_22 : decode cX9_take 22 = .ok (.iload_n 2, 1) := by decide +kernel
theorem dX9_take_23 : decode cX9_take 23 = .ok (.ifCond .ne 6, 3) := by decide +kernel
theorem dX9_take_26 : decode cX9_take 26 = .ok (.bipush (-2), 2) := by decide +kernel
theorem dX9_take_28 : decode cX9_take 28 = .ok (.ireturn, 1) := by decide +kernel
theorem dX9_take_29 : decode cX9_take 29 = .ok (.aload_n 0, 1) := by decide +kernel
theorem dX9_take_30 : decode cX9_take 30 = .ok (.getfield 69, 3) := by decide +kernel
theorem dX9_take_33 : decode cX9_take 33 = .ok (.aload_n 0, 1) := by decide +kernel
theorem dX9_take_34 : decode cX9_take 34 = .ok (.getfield 10, 3) := by decide +kernel
theorem dX9_take_37 : decode cX9_take 37 = .ok (.invokevirtual 88, 3) := by decide +kernel
theorem dX9_take_40 : decode cX9_take 40 = .ok (.aload_n 0, 1) := by decide +kernel
theorem dX9_take_41 : decode cX9_take 41 = .ok (.getfield 10, 3) := by decide +kernel
theorem dX9_take_44 : decode cX9_take 44 = .ok (.getfield 117, 3) := by decide +kernel
theorem dX9_take_47 : decode cX9_take 47 = .ok (.iload_n 1, 1) := by decide +kernel
theorem dX9_take_48 : decode cX9_take 48 = .ok (.iload_n 2, 1) := by decide +kernel
theorem dX9_take_49 : decode cX9_take 49 = .ok (.iconst 1, 1) := by decide +kernel
theorem dX9_take_50 : decode cX9_take 50 = .ok (.isub, 1) := by decide +kernel
theorem dX9_take_51 : decode cX9_take 51 = .ok (.invokestatic 110, 3) := by decide +kernel
theorem dX9_take_54 : decode cX9_take 54 = .ok (.iload_n 2, 1) := by decide +kernel
theorem dX9_take_55 : decode cX9_take 55 = .ok (.iconst 1, 1) := by decide +kernel
theorem dX9_take_56 : decode cX9_take 56 = .ok (.isub, 1) := by decide +kernel
theorem dX9_take_57 : decode cX9_take 57 = .ok (.ireturn, 1) := by decide +kernel
set_option maxRecDepth 20000 in
theorem ggX9_cap_X9_isWay : GoodIn wsX9_cap wsX9_isWay := goodIn_r _ [9, 10, 11, 53, 54, 55, 56, 57, 58, 59, 60, 61, 69, 70, 71, 72, 73, 74, 75, 76, 77, 78, 79] (by decide +kernel) (by decide +kernel)
set_option maxRecDepth 20000 in
theorem gX9_cap_X9_isWay : GoodIn wsX9_cap (wsV RX9 150 RX9 yX9_isWay wsX9_isWay) := goodIn_app (goodIn_of _ (by decide +kernel)) ggX9_cap_X9_isWay
set_option maxRecDepth 20000 in
theorem ggX9_cap_X9_valueAt : GoodIn wsX9_cap wsX9_valueAt := goodIn_r _ [14] (by decide +kernel) (by decide +kernel)
set_option maxRecDepth 20000 in
theorem gX9_cap_X9_valueAt : GoodIn wsX9_cap (va_wsS RX9 106 yX9_valueAt wsX9_valueAt) := goodIn_app (goodIn_of _ (by decide +kernel)) ggX9_cap_X9_valueAt
set_option maxRecDepth 20000 in
theorem ggX9_cap_X1_record : GoodIn wsX9_cap wsX1_record := goodIn_r _ [19, 20, 21, 22, 23, 18, 24, 25, 26, 27, 28, 29, 30, 31, 32, 33, 34, 35, 36, 37, 38, 39, 40, 41, 42, 43, 44, 45, 46, 47, 48, 49, 80, 81, 62, 63, 64, 65, 66, 67, 68] (by decide +kernel) (by decide +kernel)
set_option maxRecDepth 20000 in
theorem gX9_cap_X1_record : GoodIn wsX9_cap (wsV RX9 88 RX1 yX1_record wsX1_record) := goodIn_app (goodIn_of _ (by decide +kernel)) ggX9_cap_X1_record
set_option maxRecDepth 20000 in
theorem ggX9_cap_X9_put : GoodIn wsX9_cap wsX9_put := goodIn_r _ [52] (by decide +kernel) (by decide +kernel)
set_option maxRecDepth 20000 in
theorem gX9_cap_X9_put : GoodIn wsX9_cap (va_wsS RX9 110 yX9_put wsX9_put) := goodIn_app (goodIn_of _ (by decide +kernel)) ggX9_cap_X9_put
theorem dX9_cap_0 : decode cX9_cap 0 = .ok (.aload_n 0, 1) := by decide +kernel
theorem dX9_cap_1 : decode cX9_cap 1 = .ok (.iload_n 1, 1) := by decide +kernel
theorem dX9_cap_2 : decode cX9_cap 2 = .ok (.invokevirtual 150, 3) := by decide +kernel
theorem dX9_cap_5 : decode cX9_cap 5 = .ok (.ifCond .eq 12, 3) := by decide +kernel
theorem dX9_cap_8 : decode cX9_cap 8 = .ok (.iload_n 2, 1) := by decide +kernel
theorem dX9_cap_9 : decode cX9_cap 9 = .ok (.ifCond .lt 8, 3) := by decide +kernel
theorem dX9_cap_12 : decode cX9_cap 12 = .ok (.iload_n 2, 1) := by decide +kernel
theorem dX9_cap_13 : decode cX9_cap 13 = .ok (.iconst 2, 1) := by decide +kernel
theorem dX9_cap_14 : decode cX9_cap 14 = .ok (.if_icmp .le 5, 3) := by decide +kernel
theorem dX9_cap_17 : decode cX9_cap 17 = .ok (.iconst (-1), 1) := by decide +kernel
theorem dX9_cap_18 : decode cX9_cap 18 = .ok (.ireturn, 1) := by decide +kernel
theorem dX9_cap_19 : decode cX9_cap 19 = .ok (.aload_n 0, 1) := by decide +kernel
theorem dX9_cap_20 : decode cX9_cap 20 = .ok (.getfield 10, 3) := by decide +kernel
theorem dX9_cap_23 : decode cX9_cap 23 = .ok (.getfield 117, 3) := by decide +kernel
theorem dX9_cap_26 : decode cX9_cap 26 = .ok (.iload_n 1, 1) := by decide +kernel
theorem dX9_cap_27 : decode cX9_cap 27 = .ok (.invokestatic 106, 3) := by decide +kernel
theorem dX9_cap_30 : decode cX9_cap 30 = .ok (.iload_n 2, 1) := by decide +kernel
theorem dX9_cap_31 : decode cX9_cap 31 = .ok (.if_icmp .le 6, 3) := by decide +kernel
theorem dX9_cap_34 : decode cX9_cap 34 = .ok (.bipush (-2), 2) := by decide +kernel
theorem dX9_cap_36 : decode cX9_cap 36 = .ok (.ireturn, 1) := by decide +kernel
theorem dX9_cap_37 : decode cX9_cap 37 = .ok (.aload_n 0, 1) := by decide +kernel
theorem dX9_cap_38 : decode cX9_cap 38 = .ok (.getfield 69, 3) := by decide +kernel
theorem dX9_cap_41 : decode cX9_cap 41 = .ok (.aload_n 0, 1) := by decide +kernel
theorem dX9_cap_42 : decode cX9_cap 42 = .ok (.getfield 10, 3) := by decide +kernel
theorem dX9_cap_45 : decode cX9_cap 45 = .ok (.invokevirtual 88, 3) := by decide +kernel
theorem dX9_cap_48 : decode cX9_cap 48 = .ok (.aload_n 0, 1) := by decide +kernel
theorem dX9_cap_49 : decode cX9_cap 49 = .ok (.getfield 10, 3) := by decide +kernel
theorem dX9_cap_52 : decode cX9_cap 52 = .ok (.getfield 159, 3) := by decide +kernel
theorem dX9_cap_55 : decode cX9_cap 55 = .ok (.iload_n 1, 1) := by decide +kernel
theorem dX9_cap_56 : decode cX9_cap 56 = .ok (.invokestatic 106, 3) := by decide +kernel
theorem dX9_cap_59 : decode cX9_cap 59 = .ok (.istore_n 3, 1) := by decide +kernel
theorem dX9_cap_60 : decode cX9_cap 60 = .ok (.aload_n 0, 1) := by decide +kernel
theorem dX9_cap_61 : decode cX9_cap 61 = .ok (.getfield 10, 3) := by decide +kernel
theorem dX9_cap_64 : decode cX9_cap 64 = .ok (.getfield 159, 3) := by decide +kernel
theorem dX9_cap_67 : decode cX9_cap 67 = .ok (.iload_n 1, 1) := by decide +kernel
theorem dX9_cap_68 : decode cX9_cap 68 = .ok (.iload_n 2, 1) := by decide +kernel
theorem dX9_cap_69 : decode cX9_cap 69 = .ok (.invokestatic 110, 3) := by decide +kernel
theorem dX9_cap_72 : decode cX9_cap 72 = .ok (.iload_n 3, 1) := by decide +kernel
theorem dX9_cap_73 : decode cX9_cap 73 = .ok (.ireturn, 1) := by decide +kernel
set_option maxRecDepth 20000 in
theorem ggX9_clear_X9_allBridges : GoodIn wsX9_clear wsX9_allBridges := goodIn_r _ [7, 8, 9, 2, 10, 11, 12, 6, 13, 55, 56, 57, 58, 59, 60, 61, 62, 63, 64, 65, 66, 67, 68, 69, 70, 71, 72, 73, 74, 75, 76, 77, 78, 79, 80, 81] (by decide +kernel) (by decide +kernel)
set_option maxRecDepth 20000 in
theorem gX9_clear_X9_allBridges : GoodIn wsX9_clear (wsV RX9 195 RX9 yX9_allBridges wsX9_allBridges) := goodIn_app (goodIn_of _ (by decide +kernel)) ggX9_clear_X9_allBridges
set_option maxRecDepth 20000 in
theorem ggX9_clear_X1_record : GoodIn wsX9_clear wsX1_record := goodIn_r _ [18, 19, 20, 21, 22, 17, 23, 24, 25, 26, 27, 28, 29, 30, 31, 32, 33, 34, 35, 36, 37, 38, 39, 40, 41, 42, 43, 44, 45, 46, 47, 48, 82, 83, 75, 76, 77, 78, 79, 80, 81] (by decide +kernel) (by decide +kernel)
set_option maxRecDepth 20000 in
theorem gX9_clear_X1_record : GoodIn wsX9_clear (wsV RX9 88 RX1 yX1_record wsX1_record) := goodIn_app (goodIn_of _ (by decide +kernel)) ggX9_clear_X1_record
set_option maxRecDepth 20000 in
theorem ggX9_clear_X6_takeAllBridges : GoodIn wsX9_clear wsX6_takeAllBridges := goodIn_r _ [52, 47, 48, 40, 41, 53, 6, 54, 75, 76, 77, 78, 79, 80, 81] (by decide +kernel) (by decide +kernel)
set_option maxRecDepth 20000 in
theorem gX9_clear_X6_takeAllBridges : GoodIn wsX9_clear (wsV RX9 227 RX6 yX6_takeAllBridges wsX6_takeAllBridges) := goodIn_app (goodIn_of _ (by decide +kernel)) ggX9_clear_X6_takeAllBridges
theorem dX9_clear_0 : decode cX9_clear 0 = .ok (.aload_n 0, 1) := by decide +kernel
theorem dX9_clear_1 : decode cX9_clear 1 = .ok (.invokevirtual 195, 3) := by decide +kernel
theorem dX9_clear_4 : decode cX9_clear 4 = .ok (.istore_n 1, 1) := by decide +kernel
theorem dX9_clear_5 : decode cX9_clear 5 = .ok (.aload_n 0, 1) := by decide +kernel
theorem dX9_clear_6 : decode cX9_clear 6 = .ok (.getfield 69, 3) := by decide +kernel
theorem dX9_clear_9 : decode cX9_clear 9 = .ok (.aload_n 0, 1) := by decide +kernel
theorem dX9_clear_10 : decode cX9_clear 10 = .ok (.getfield 10, 3) := by decide +kernel
theorem dX9_clear_13 : decode cX9_clear 13 = .ok (.invokevirtual 88, 3) := by decide +kernel
theorem dX9_clear_16 : decode cX9_clear 16 = .ok (.aload_n 0, 1) := by decide +kernel
theorem dX9_clear_17 : decode cX9_clear 17 = .ok (.getfield 10, 3) := by decide +kernel
theorem dX9_clear_20 : decode cX9_clear 20 = .ok (.invokevirtual 227, 3) := by decide +kernel
theorem dX9_clear_23 : decode cX9_clear 23 = .ok (.iload_n 1, 1) := by decide +kernel
theorem dX9_clear_24 : decode cX9_clear 24 = .ok (.ireturn, 1) := by decide +kernel
set_option maxRecDepth 20000 in
theorem ggX9_step_X4_find : GoodIn wsX9_step wsX4_find := goodIn_r _ [8, 9, 10, 11, 12, 13, 14, 15, 16, 17, 18, 19, 20, 21, 22, 23, 24, 25, 26, 27, 28, 29, 30, 31, 32, 33, 34, 35, 36, 37, 38, 39, 40, 41, 42, 43, 44, 45, 46, 47, 48, 49, 50, 51, 52, 53, 54, 55, 56, 57, 58, 59, 60, 61, 62, 63, 64, 65, 66, 67, 68, 69, 70, 71, 72, 73, 74, 75, 76, 77, 78, 79, 80, 81, 82, 83, 84, 85, 86, 87, 88, 89, 90, 91, 92, 93, 94, 95, 96, 7, 97, 98, 99, 100, 101, 102, 103, 104, 105, 106, 107, 108, 109, 110, 111, 112, 113, 114, 115, 116, 117, 118, 119, 120, 121, 122, 123, 124, 125, 126, 178, 179, 180, 181, 182, 183, 184, 185, 186, 187, 188, 189, 190, 191, 192, 193, 194, 195, 196, 197, 198, 199, 200, 201, 202, 203, 204, 205, 206, 207, 208] (by decide +kernel) (by decide +kernel)
set_option maxRecDepth 20000 in
theorem gX9_step_X4_find : GoodIn wsX9_step (wsV RX9 230 RX4 yX4_find wsX4_find) := goodIn_app (goodIn_of _ (by decide +kernel)) ggX9_step_X4_find
set_option maxRecDepth 20000 in
theorem ggX9_step_X1_record : GoodIn wsX9_step wsX1_record := goodIn_r _ [131, 132, 133, 134, 135, 130, 136, 137, 138, 139, 140, 141, 142, 143, 144, 145, 146, 147, 148, 149, 150, 151, 152, 153, 154, 155, 156, 157, 158, 159, 160, 161, 209, 210, 183, 184, 185, 186, 187, 188, 189] (by decide +kernel) (by decide +kernel)
set_option maxRecDepth 20000 in
theorem gX9_step_X1_record : GoodIn wsX9_step (wsV RX9 88 RX1 yX1_record wsX1_record) := goodIn_app (goodIn_of _ (by decide +kernel)) ggX9_step_X1_record
set_option maxRecDepth 20000 in
theorem ggX9_step_X4_carryOut : GoodIn wsX9_step wsX4_carryOut := goodIn_r _ [165, 11, 98, 12, 9, 166, 167, 86, 83, 87, 168, 30, 31, 32, 39, 40, 104, 105, 106, 19, 107, 29, 23, 108, 82, 84, 33, 34, 35, 36, 37, 38, 49, 50, 51, 52, 53, 109, 110, 111, 112, 113, 114, 115, 116, 117, 28, 22, 26, 46, 47, 48, 178, 179, 180, 181, 182, 183, 184, 185, 186, 187, 188, 189, 201, 202, 203, 204, 205, 206, 190, 191, 192, 193, 194, 195, 196, 197, 198, 199, 200] (by decide +kernel) (by decide +kernel)
set_option maxRecDepth 20000 in
theorem gX9_step_X4_carryOut : GoodIn wsX9_step (wsV RX9 233 RX4 yX4_carryOut wsX4_carryOut) := goodIn_app (goodIn_of _ (by decide +kernel)) ggX9_step_X4_carryOut
theorem dX9_step_0 : decode cX9_step 0 = .ok (.aload_n 0, 1) := by decide +kernel
theorem dX9_step_1 : decode cX9_step 1 = .ok (.getfield 46, 3) := by decide +kernel
theorem dX9_step_4 : decode cX9_step 4 = .ok (.invokevirtual 230, 3) := by decide +kernel
theorem dX9_step_7 : decode cX9_step 7 = .ok (.istore_n 1, 1) := by decide +kernel
theorem dX9_step_8 : decode cX9_step 8 = .ok (.iload_n 1, 1) := by decide +kernel
theorem dX9_step_9 : decode cX9_step 9 = .ok (.ifCond .ge 5, 3) := by decide +kernel
theorem dX9_step_12 : decode cX9_step 12 = .ok (.iload_n 1, 1) := by decide +kernel
theorem dX9_step_13 : decode cX9_step 13 = .ok (.ireturn, 1) := by decide +kernel
theorem dX9_step_14 : decode cX9_step 14 = .ok (.aload_n 0, 1) := by decide +kernel
theorem dX9_step_15 : decode cX9_step 15 = .ok (.getfield 69, 3) := by decide +kernel
theorem dX9_step_18 : decode cX9_step 18 = .ok (.aload_n 0, 1) := by decide +kernel
theorem dX9_step_19 : decode cX9_step 19 = .ok (.getfield 10, 3) := by decide +kernel
theorem dX9_step_22 : decode cX9_step 22 = .ok (.invokevirtual 88, 3) := by decide +kernel
theorem dX9_step_25 : decode cX9_step 25 = .ok (.aload_n 0, 1) := by decide +kernel
theorem dX9_step_26 : decode cX9_step 26 = .ok (.getfield 46, 3) := by decide +kernel
theorem dX9_step_29 : decode cX9_step 29 = .ok (.iload_n 1, 1) := by decide +kernel
theorem dX9_step_30 : decode cX9_step 30 = .ok (.invokevirtual 233, 3) := by decide +kernel
theorem dX9_step_33 : decode cX9_step 33 = .ok (.iload_n 1, 1) := by decide +kernel
theorem dX9_step_34 : decode cX9_step 34 = .ok (.ireturn, 1) := by decide +kernel
set_option maxRecDepth 20000 in
theorem ggX9_hint_X4_find : GoodIn wsX9_hint wsX4_find := goodIn_r _ [6, 7, 8, 9, 10, 11, 12, 13, 14, 15, 16, 17, 18, 19, 20, 21, 22, 23, 24, 25, 26, 27, 28, 29, 30, 31, 32, 33, 34, 35, 36, 37, 38, 39, 40, 41, 42, 43, 44, 45, 46, 47, 48, 49, 50, 51, 52, 53, 54, 55, 56, 57, 58, 59, 60, 61, 62, 63, 64, 65, 66, 67, 68, 69, 70, 71, 72, 73, 74, 75, 76, 77, 78, 79, 80, 81, 82, 83, 84, 85, 86, 87, 88, 89, 90, 91, 92, 93, 94, 5, 95, 96, 97, 98, 99, 100, 101, 102, 103, 104, 105, 106, 107, 108, 109, 110, 111, 112, 113, 114, 115, 116, 117, 118, 119, 120, 121, 122, 123, 124, 134, 135, 136, 137, 138, 139, 140, 141, 142, 143, 144, 145, 146, 147, 148, 149, 150, 151, 152, 153, 154, 155, 156, 157, 158, 159, 160, 161, 162, 163, 164] (by decide +kernel) (by decide +kernel)
set_option maxRecDepth 20000 in
theorem gX9_hint_X4_find : GoodIn wsX9_hint (wsV RX9 230 RX4 yX4_find wsX4_find) := goodIn_app (goodIn_of _ (by decide +kernel)) ggX9_hint_X4_find
theorem dX9_hint_0 : decode cX9_hint 0 = .ok (.aload_n 0, 1) := by decide +kernel
theorem dX9_hint_1 : decode cX9_hint 1 = .ok (.getfield 46, 3) := by decide +kernel
theorem dX9_hint_4 : decode cX9_hint 4 = .ok (.invokevirtual 230, 3) := by decide +kernel
theorem dX9_hint_7 : decode cX9_hint 7 = .ok (.ireturn, 1) := by decide +kernel
set_option maxRecDepth 20000 in
theorem ggX9_steps_X1_record : GoodIn wsX9_steps wsX1_record := goodIn_r _ [8, 9, 10, 11, 12, 7, 13, 14, 15, 16, 17, 18, 19, 20, 21, 22, 23, 24, 25, 26, 27, 28, 29, 30, 31, 32, 33, 34, 35, 36, 37, 38, 178, 179, 180, 181, 182, 183, 184, 185, 186] (by decide +kernel) (by decide +kernel)
set_option maxRecDepth 20000 in
theorem gX9_steps_X1_record : GoodIn wsX9_steps (wsV RX9 88 RX1 yX1_record wsX1_record) := goodIn_app (goodIn_of _ (by decide +kernel)) ggX9_steps_X1_record
set_option maxRecDepth 20000 in
theorem ggX9_steps_X4_find : GoodIn wsX9_steps wsX4_find := goodIn_r _ [43, 44, 45, 46, 47, 48, 49, 50, 51, 52, 53, 54, 55, 56, 57, 58, 59, 60, 61, 62, 63, 64, 65, 66, 67, 68, 69, 70, 71, 72, 73, 74, 75, 76, 77, 78, 79, 80, 81, 82, 83, 84, 85, 86, 87, 88, 89, 90, 91, 92, 93, 94, 95, 96, 97, 98, 99, 100, 101, 102, 103, 104, 105, 106, 107, 108, 109, 110, 111, 112, 113, 114, 115, 116, 117, 118, 119, 120, 121, 122, 123, 124, 125, 126, 127, 128, 129, 130, 131, 42, 132, 133, 134, 135, 136, 137, 138, 139, 140, 141, 142, 143, 144, 145, 146, 147, 148, 149, 150, 151, 152, 153, 154, 155, 156, 157, 158, 159, 160, 161, 187, 188, 189, 190, 191, 180, 181, 182, 183, 184, 185, 186, 192, 193, 194, 195, 196, 197, 198, 199, 200, 201, 202, 203, 204, 205, 206, 207, 208, 209, 210] (by decide +kernel) (by decide +kernel)
set_option maxRecDepth 20000 in
theorem gX9_steps_X4_find : GoodIn wsX9_steps (wsV RX9 230 RX4 yX4_find wsX4_find) := goodIn_app (goodIn_of _ (by decide +kernel)) ggX9_steps_X4_find
set_option maxRecDepth 20000 in
theorem ggX9_steps_X4_carryOut : GoodIn wsX9_steps wsX4_carryOut := goodIn_r _ [165, 46, 133, 47, 44, 166, 167, 121, 118, 122, 168, 65, 66, 67, 74, 75, 139, 140, 141, 54, 142, 64, 58, 143, 117, 119, 68, 69, 70, 71, 72, 73, 84, 85, 86, 87, 88, 144, 145, 146, 147, 148, 149, 150, 151, 152, 63, 57, 61, 81, 82, 83, 187, 188, 189, 190, 191, 180, 181, 182, 183, 184, 185, 186, 203, 204, 205, 206, 207, 208, 192, 193, 194, 195, 196, 197, 198, 199, 200, 201, 202] (by decide +kernel) (by decide +kernel)
set_option maxRecDepth 20000 in
theorem gX9_steps_X4_carryOut : GoodIn wsX9_steps (wsV RX9 233 RX4 yX4_carryOut wsX4_carryOut) := goodIn_app (goodIn_of _ (by decide +kernel)) ggX9_steps_X4_carryOut
theorem dX9_steps_0 : decode cX9_steps 0 = .ok (.iload_n 1, 1) := by decide +kernel
theorem dX9_steps_1 : decode cX9_steps 1 = .ok (.iconst 1, 1) := by decide +kernel
theorem dX9_steps_2 : decode cX9_steps 2 = .ok (.if_icmp .lt 10, 3) := by decide +kernel
theorem dX9_steps_5 : decode cX9_steps 5 = .ok (.iload_n 1, 1) := by decide +kernel
theorem dX9_steps_6 : decode cX9_steps 6 = .ok (.sipush 200, 3) := by decide +kernel
theorem dX9_steps_9 : decode cX9_steps 9 = .ok (.if_icmp .le 5, 3) := by decide +kernel
theorem dX9_steps_12 : decode cX9_steps 12 = .ok (.iconst (-1), 1) := by decide +kernel
theorem dX9_steps_13 : decode cX9_steps 13 = .ok (.ireturn, 1) := by decide +kernel
theorem dX9_steps_14 : decode cX9_steps 14 = .ok (.aload_n 0, 1) := by decide +kernel
theorem dX9_steps_15 : decode cX9_steps 15 = .ok (.getfield 69, 3) := by decide +kernel
theorem dX9_steps_18 : decode cX9_steps 18 = .ok (.aload_n 0, 1) := by decide +kernel
theorem dX9_steps_19 : decode cX9_steps 19 = .ok (.getfield 10, 3) := by decide +kernel
theorem dX9_steps_22 : decode cX9_steps 22 = .ok (.invokevirtual 88, 3) := by decide +kernel
theorem dX9_steps_25 : decode cX9_steps 25 = .ok (.iconst 0, 1) := by decide +kernel
theorem dX9_steps_26 : decode cX9_steps 26 = .ok (.istore_n 2, 1) := by decide +kernel
theorem dX9_steps_27 : decode cX9_steps 27 = .ok (.iload_n 2, 1) := by decide +kernel
theorem dX9_steps_28 : decode cX9_steps 28 = .ok (.iload_n 1, 1) := by decide +kernel
theorem dX9_steps_29 : decode cX9_steps 29 = .ok (.if_icmp .ge 31, 3) := by decide +kernel
theorem dX9_steps_32 : decode cX9_steps 32 = .ok (.aload_n 0, 1) := by decide +kernel
theorem dX9_steps_33 : decode cX9_steps 33 = .ok (.getfield 46, 3) := by decide +kernel
theorem dX9_steps_36 : decode cX9_steps 36 = .ok (.invokevirtual 230, 3) := by decide +kernel
theorem dX9_steps_39 : decode cX9_steps 39 = .ok (.istore_n 3, 1) := by decide +kernel
theorem dX9_steps_40 : decode cX9_steps 40 = .ok (.iload_n 3, 1) := by decide +kernel
theorem dX9_steps_41 : decode cX9_steps 41 = .ok (.ifCond .ge 5, 3) := by decide +kernel
theorem dX9_steps_44 : decode cX9_steps 44 = .ok (.iload_n 2, 1) := by decide +kernel
theorem dX9_steps_45 : decode cX9_steps 45 = .ok (.ireturn, 1) := by decide +kernel
theorem dX9_steps_46 : decode cX9_steps 46 = .ok (.aload_n 0, 1) := by decide +kernel
theorem dX9_steps_47 : decode cX9_steps 47 = .ok (.getfield 46, 3) := by decide +kernel
theorem dX9_steps_50 : decode cX9_steps 50 = .ok (.iload_n 3, 1) := by decide +kernel
theorem dX9_steps_51 : decode cX9_steps 51 = .ok (.invokevirtual 233, 3) := by decide +kernel
theorem dX9_steps_54 : decode cX9_steps 54 = .ok (.iinc 2 1, 3) := by decide +kernel
theorem dX9_steps_57 : decode cX9_steps 57 = .ok (.goto (-30), 3) := by decide +kernel
theorem dX9_steps_60 : decode cX9_steps 60 = .ok (.iload_n 1, 1) := by decide +kernel
theorem dX9_steps_61 : decode cX9_steps 61 = .ok (.ireturn, 1) := by decide +kernel
set_option maxRecDepth 20000 in
theorem ggX9_make_X1_record : GoodIn wsX9_make wsX1_record := goodIn_r _ [13, 14, 15, 16, 17, 12, 18, 19, 20, 21, 22, 23, 24, 25, 26, 27, 28, 29, 30, 31, 32, 33, 34, 35, 36, 37, 38, 39, 40, 41, 42, 43, 186, 187, 168, 169, 170, 171, 172, 173, 174] (by decide +kernel) (by decide +kernel)
set_option maxRecDepth 20000 in
theorem gX9_make_X1_record : GoodIn wsX9_make (wsV RX9 88 RX1 yX1_record wsX1_record) := goodIn_app (goodIn_of _ (by decide +kernel)) ggX9_make_X1_record
set_option maxRecDepth 20000 in
theorem ggX9_make_X3_run : GoodIn wsX9_make wsX3_run := goodIn_r _ [48, 49, 50, 51, 52, 53, 54, 55, 56, 57, 58, 59, 60, 47, 61, 62, 63, 64, 65, 66, 67, 68, 69, 70, 71, 72, 73, 74, 75, 76, 77, 78, 79, 188, 189, 190, 191, 192, 193, 194] (by decide +kernel) (by decide +kernel)
set_option maxRecDepth 20000 in
theorem gX9_make_X3_run : GoodIn wsX9_make (wsV RX9 252 RX3 yX3_run wsX3_run) := goodIn_app (goodIn_of _ (by decide +kernel)) ggX9_make_X3_run
set_option maxRecDepth 20000 in
theorem ggX9_make_X3_giveNumbersTo : GoodIn wsX9_make wsX3_giveNumbersTo := goodIn_r _ [83, 84, 54, 51, 67, 68, 56, 69, 55, 57, 168, 169, 170, 171, 172, 173, 174, 188, 189, 190, 191, 192, 193, 194] (by decide +kernel) (by decide +kernel)
set_option maxRecDepth 20000 in
theorem gX9_make_X3_giveNumbersTo : GoodIn wsX9_make (wsV RX9 255 RX3 yX3_giveNumbersTo wsX3_giveNumbersTo) := goodIn_app (goodIn_of _ (by decide +kernel)) ggX9_make_X3_giveNumbersTo
set_option maxRecDepth 20000 in
theorem ggX9_make_X9_renewWays : GoodIn wsX9_make wsX9_renewWays := goodIn_r _ [88, 3, 7, 89, 90, 91, 31, 92, 42, 43, 35, 36, 55, 56, 57, 93, 94, 95, 96, 97, 98, 99, 100, 101, 102, 103, 104, 105, 106, 107, 108, 109, 110, 111, 33, 34, 68, 69, 112, 113, 114, 115, 116, 117, 118, 119, 120, 121, 122, 123, 124, 125, 126, 127, 128, 129, 130, 131, 132, 133, 134, 135, 136, 137, 78, 79, 138, 139, 140, 141, 142, 143, 144, 145, 146, 147, 148, 149, 150, 151, 152, 153, 154, 155, 156, 157, 158, 159, 160, 161, 162, 163, 164, 165, 166, 167, 168, 169, 170, 171, 172, 173, 174, 175, 176, 177, 178, 179, 180, 181, 182, 183, 184, 185] (by decide +kernel) (by decide +kernel)
set_option maxRecDepth 20000 in
theorem gX9_make_X9_renewWays : GoodIn wsX9_make (wsV RX9 96 RX9 yX9_renewWays wsX9_renewWays) := goodIn_app (goodIn_of _ (by decide +kernel)) ggX9_make_X9_renewWays
theorem dX9_make_0 : decode cX9_make 0 = .ok (.iload_n 1, 1) := by decide +kernel
theorem dX9_make_1 : decode cX9_make 1 = .ok (.ifCond .lt 20, 3) := by decide +kernel
theorem dX9_make_4 : decode cX9_make 4 = .ok (.iload_n 1, 1) := by decide +kernel
theorem dX9_make_5 : decode cX9_make 5 = .ok (.ldc 251, 2) := by decide +kernel
theorem dX9_make_7 : decode cX9_make 7 = .ok (.if_icmp .gt 14, 3) := by decide +kernel
theorem dX9_make_10 : decode cX9_make 10 = .ok (.iload_n 2, 1) := by decide +kernel
theorem dX9_make_11 : decode cX9_make 11 = .ok (.iconst 2, 1) := by decide +kernel
theorem dX9_make_12 : decode cX9_make 12 = .ok (.if_icmp .lt 9, 3) := by decide +kernel
theorem dX9_make_15 : decode cX9_make 15 = .ok (.iload_n 2, 1) := by decide +kernel
theorem dX9_make_16 : decode cX9_make 16 = .ok (.bipush 24, 2) := by decide +kernel
theorem dX9_make_18 : decode cX9_make 18 = .ok (.if_icmp .le 5, 3) := by decide +kernel
theorem dX9_make_21 : decode cX9_make 21 = .ok (.iconst (-1), 1) := by decide +kernel
theorem dX9_make_22 : decode cX9_make 22 = .ok (.ireturn, 1) := by decide +kernel
theorem dX9_make_23 : decode cX9_make 23 = .ok (.aload_n 0, 1) := by decide +kernel
theorem dX9_make_24 : decode cX9_make 24 = .ok (.getfield 69, 3) := by decide +kernel
theorem dX9_make_27 : decode cX9_make 27 = .ok (.aload_n 0, 1) := by decide +kernel
theorem dX9_make_28 : decode cX9_make 28 = .ok (.getfield 10, 3) := by decide +kernel
theorem dX9_make_31 : decode cX9_make 31 = .ok (.invokevirtual 88, 3) := by decide +kernel
theorem dX9_make_34 : decode cX9_make 34 = .ok (.aload_n 0, 1) := by decide +kernel
theorem dX9_make_35 : decode cX9_make 35 = .ok (.getfield 62, 3) := by decide +kernel
theorem dX9_make_38 : decode cX9_make 38 = .ok (.aload_n 0, 1) := by decide +kernel
theorem dX9_make_39 : decode cX9_make 39 = .ok (.getfield 10, 3) := by decide +kernel
theorem dX9_make_42 : decode cX9_make 42 = .ok (.getfield 189, 3) := by decide +kernel
theorem dX9_make_45 : decode cX9_make 45 = .ok (.aload_n 0, 1) := by decide +kernel
theorem dX9_make_46 : decode cX9_make 46 = .ok (.getfield 10, 3) := by decide +kernel
theorem dX9_make_49 : decode cX9_make 49 = .ok (.getfield 192, 3) := by decide +kernel
theorem dX9_make_52 : decode cX9_make 52 = .ok (.iload_n 1, 1) := by decide +kernel
theorem dX9_make_53 : decode cX9_make 53 = .ok (.iload_n 2, 1) := by decide +kernel
theorem dX9_make_54 : decode cX9_make 54 = .ok (.invokevirtual 252, 3) := by decide +kernel
theorem dX9_make_57 : decode cX9_make 57 = .ok (.aload_n 0, 1) := by decide +kernel
theorem dX9_make_58 : decode cX9_make 58 = .ok (.getfield 62, 3) := by decide +kernel
theorem dX9_make_61 : decode cX9_make 61 = .ok (.aload_n 0, 1) := by decide +kernel
theorem dX9_make_62 : decode cX9_make 62 = .ok (.getfield 10, 3) := by decide +kernel
theorem dX9_make_65 : decode cX9_make 65 = .ok (.invokevirtual 255, 3) := by decide +kernel
theorem dX9_make_68 : decode cX9_make 68 = .ok (.aload_n 0, 1) := by decide +kernel
theorem dX9_make_69 : decode cX9_make 69 = .ok (.invokevirtual 96, 3) := by decide +kernel
theorem dX9_make_72 : decode cX9_make 72 = .ok (.aload_n 0, 1) := by decide +kernel
theorem dX9_make_73 : decode cX9_make 73 = .ok (.getfield 19, 3) := by decide +kernel
theorem dX9_make_76 : decode cX9_make 76 = .ok (.getfield 84, 3) := by decide +kernel
theorem dX9_make_79 : decode cX9_make 79 = .ok (.ireturn, 1) := by decide +kernel
set_option maxRecDepth 20000 in
theorem ggX9_undo_X1_restore : GoodIn wsX9_undo wsX1_restore := goodIn_r _ [9, 10, 11, 12, 13, 8, 14, 15, 16, 17, 18, 19, 20, 21, 22, 23, 24, 25, 26, 27, 28, 29, 30, 31, 114, 115, 116, 117, 118, 119, 120, 121, 122] (by decide +kernel) (by decide +kernel)
set_option maxRecDepth 20000 in
theorem gX9_undo_X1_restore : GoodIn wsX9_undo (wsV RX9 258 RX1 yX1_restore wsX1_restore) := goodIn_app (goodIn_of _ (by decide +kernel)) ggX9_undo_X1_restore
set_option maxRecDepth 20000 in
theorem ggX9_undo_X2_read : GoodIn wsX9_undo wsX2_read := goodIn_r _ [36, 37, 38, 39, 40, 35, 41, 42, 43, 44, 45, 46, 47, 48, 49, 19, 50, 21, 22, 51, 52, 53, 54, 55, 56, 57, 58, 59, 60, 61, 62, 63, 64, 65, 66, 67, 68, 69, 70, 71, 72, 73, 74, 75, 76, 77, 78, 79, 80, 81, 82, 83, 84, 85, 86, 87, 88, 89, 90, 91, 92, 93, 94, 95, 96, 97, 98, 99, 100, 101, 102, 103, 104, 116, 117, 118, 119, 120, 121, 122, 123, 124, 125, 126, 127, 128, 129, 130, 131, 132, 133] (by decide +kernel) (by decide +kernel)
set_option maxRecDepth 20000 in
theorem gX9_undo_X2_read : GoodIn wsX9_undo (wsV RX9 261 RX2 yX2_read wsX2_read) := goodIn_app (goodIn_of _ (by decide +kernel)) ggX9_undo_X2_read
theorem dX9_undo_0 : decode cX9_undo 0 = .ok (.aload_n 0, 1) := by decide +kernel
theorem dX9_undo_1 : decode cX9_undo 1 = .ok (.getfield 69, 3) := by decide +kernel
theorem dX9_undo_4 : decode cX9_undo 4 = .ok (.getfield 221, 3) := by decide +kernel
theorem dX9_undo_7 : decode cX9_undo 7 = .ok (.ifCond .ne 6, 3) := by decide +kernel
theorem dX9_undo_10 : decode cX9_undo 10 = .ok (.bipush (-2), 2) := by decide +kernel
theorem dX9_undo_12 : decode cX9_undo 12 = .ok (.ireturn, 1) := by decide +kernel
theorem dX9_undo_13 : decode cX9_undo 13 = .ok (.aload_n 0, 1) := by decide +kernel
theorem dX9_undo_14 : decode cX9_undo 14 = .ok (.getfield 69, 3) := by decide +kernel
theorem dX9_undo_17 : decode cX9_undo 17 = .ok (.aload_n 0, 1) := by decide +kernel
theorem dX9_undo_18 : decode cX9_undo 18 = .ok (.getfield 10, 3) := by decide +kernel
theorem dX9_undo_21 : decode cX9_undo 21 = .ok (.invokevirtual 258, 3) := by decide +kernel
theorem dX9_undo_24 : decode cX9_undo 24 = .ok (.aload_n 0, 1) := by decide +kernel
theorem dX9_undo_25 : decode cX9_undo 25 = .ok (.getfield 19, 3) := by decide +kernel
theorem dX9_undo_28 : decode cX9_undo 28 = .ok (.aload_n 0, 1) := by decide +kernel
theorem dX9_undo_29 : decode cX9_undo 29 = .ok (.getfield 10, 3) := by decide +kernel
theorem dX9_undo_32 : decode cX9_undo 32 = .ok (.invokevirtual 261, 3) := by decide +kernel
theorem dX9_undo_35 : decode cX9_undo 35 = .ok (.aload_n 0, 1) := by decide +kernel
theorem dX9_undo_36 : decode cX9_undo 36 = .ok (.getfield 69, 3) := by decide +kernel
theorem dX9_undo_39 : decode cX9_undo 39 = .ok (.getfield 221, 3) := by decide +kernel
theorem dX9_undo_42 : decode cX9_undo 42 = .ok (.ireturn, 1) := by decide +kernel
set_option maxRecDepth 20000 in
theorem ggX9_renewWays_X6_takeAllBridges : GoodIn wsX9_renewWays wsX6_takeAllBridges := goodIn_r _ [7, 8, 9, 10, 11, 12, 13, 14, 96, 97, 98, 99, 100, 101, 102] (by decide +kernel) (by decide +kernel)
set_option maxRecDepth 20000 in
theorem gX9_renewWays_X6_takeAllBridges : GoodIn wsX9_renewWays (wsV RX9 227 RX6 yX6_takeAllBridges wsX6_takeAllBridges) := goodIn_app (goodIn_of _ (by decide +kernel)) ggX9_renewWays_X6_takeAllBridges
set_option maxRecDepth 20000 in
theorem ggX9_renewWays_X2_read : GoodIn wsX9_renewWays wsX2_read := goodIn_r _ [19, 20, 21, 22, 23, 18, 24, 25, 26, 27, 28, 29, 30, 31, 32, 6, 33, 34, 35, 36, 13, 37, 12, 14, 38, 39, 40, 41, 42, 43, 44, 45, 46, 47, 48, 49, 50, 51, 52, 53, 54, 55, 56, 57, 58, 59, 60, 61, 62, 63, 64, 65, 66, 67, 68, 69, 70, 71, 72, 73, 74, 75, 76, 77, 78, 79, 80, 81, 82, 83, 84, 85, 86, 96, 97, 98, 99, 100, 101, 102, 103, 104, 105, 106, 107, 108, 109, 110, 111, 112, 113] (by decide +kernel) (by decide +kernel)
set_option maxRecDepth 20000 in
theorem gX9_renewWays_X2_read : GoodIn wsX9_renewWays (wsV RX9 261 RX2 yX2_read wsX2_read) := goodIn_app (goodIn_of _ (by decide +kernel)) ggX9_renewWays_X2_read
theorem dX9_renewWays_0 : decode cX9_renewWays 0 = .ok (.aload_n 0, 1) := by decide +kernel
theorem dX9_renewWays_1 : decode cX9_renewWays 1 = .ok (.getfield 10, 3) := by decide +kernel
theorem dX9_renewWays_4 : decode cX9_renewWays 4 = .ok (.invokevirtual 227, 3) := by decide +kernel
theorem dX9_renewWays_7 : decode cX9_renewWays 7 = .ok (.aload_n 0, 1) := by decide +kernel
theorem dX9_renewWays_8 : decode cX9_renewWays 8 = .ok (.getfield 19, 3) := by decide +kernel
theorem dX9_renewWays_11 : decode cX9_renewWays 11 = .ok (.aload_n 0, 1) := by decide +kernel
theorem dX9_renewWays_12 : decode cX9_renewWays 12 = .ok (.getfield 10, 3) := by decide +kernel
theorem dX9_renewWays_15 : decode cX9_renewWays 15 = .ok (.invokevirtual 261, 3) := by decide +kernel
theorem dX9_renewWays_18 : decode cX9_renewWays 18 = .ok (.return_, 1) := by decide +kernel
theorem dX9_isSide_0 : decode cX9_isSide 0 = .ok (.iload_n 0, 1) := by decide +kernel
theorem dX9_isSide_1 : decode cX9_isSide 1 = .ok (.iconst 3, 1) := by decide +kernel
theorem dX9_isSide_2 : decode cX9_isSide 2 = .ok (.if_icmp .lt 13, 3) := by decide +kernel
theorem dX9_isSide_5 : decode cX9_isSide 5 = .ok (.iload_n 0, 1) := by decide +kernel
theorem dX9_isSide_6 : decode cX9_isSide 6 = .ok (.bipush 12, 2) := by decide +kernel
theorem dX9_isSide_8 : decode cX9_isSide 8 = .ok (.if_icmp .gt 7, 3) := by decide +kernel
theorem dX9_isSide_11 : decode cX9_isSide 11 = .ok (.iconst 1, 1) := by decide +kernel
theorem dX9_isSide_12 : decode cX9_isSide 12 = .ok (.goto 4, 3) := by decide +kernel
theorem dX9_isSide_15 : decode cX9_isSide 15 = .ok (.iconst 0, 1) := by decide +kernel
theorem dX9_isSide_16 : decode cX9_isSide 16 = .ok (.ireturn, 1) := by decide +kernel
set_option maxRecDepth 20000 in
theorem ggX9_isCell_X6_cells : GoodIn wsX9_isCell wsX6_cells := goodIn_r _ [6, 7, 8, 18, 19, 20, 21, 22, 23, 24] (by decide +kernel) (by decide +kernel)
set_option maxRecDepth 20000 in
theorem gX9_isCell_X6_cells : GoodIn wsX9_isCell (wsV RX9 278 RX6 yX6_cells wsX6_cells) := goodIn_app (goodIn_of _ (by decide +kernel)) ggX9_isCell_X6_cells
theorem dX9_isCell_0 : decode cX9_isCell 0 = .ok (.iload_n 1, 1) := by decide +kernel
theorem dX9_isCell_1 : decode cX9_isCell 1 = .ok (.ifCond .lt 18, 3) := by decide +kernel
theorem dX9_isCell_4 : decode cX9_isCell 4 = .ok (.iload_n 1, 1) := by decide +kernel
theorem dX9_isCell_5 : decode cX9_isCell 5 = .ok (.aload_n 0, 1) := by decide +kernel
theorem dX9_isCell_6 : decode cX9_isCell 6 = .ok (.getfield 10, 3) := by decide +kernel
theorem dX9_isCell_9 : decode cX9_isCell 9 = .ok (.invokevirtual 278, 3) := by decide +kernel
theorem dX9_isCell_12 : decode cX9_isCell 12 = .ok (.if_icmp .ge 7, 3) := by decide +kernel
theorem dX9_isCell_15 : decode cX9_isCell 15 = .ok (.iconst 1, 1) := by decide +kernel
theorem dX9_isCell_16 : decode cX9_isCell 16 = .ok (.goto 4, 3) := by decide +kernel
theorem dX9_isCell_19 : decode cX9_isCell 19 = .ok (.iconst 0, 1) := by decide +kernel
theorem dX9_isCell_20 : decode cX9_isCell 20 = .ok (.ireturn, 1) := by decide +kernel
theorem dX9_isWay_0 : decode cX9_isWay 0 = .ok (.iload_n 1, 1) := by decide +kernel
theorem dX9_isWay_1 : decode cX9_isWay 1 = .ok (.ifCond .lt 18, 3) := by decide +kernel
theorem dX9_isWay_4 : decode cX9_isWay 4 = .ok (.iload_n 1, 1) := by decide +kernel
theorem dX9_isWay_5 : decode cX9_isWay 5 = .ok (.aload_n 0, 1) := by decide +kernel
theorem dX9_isWay_6 : decode cX9_isWay 6 = .ok (.getfield 19, 3) := by decide +kernel
theorem dX9_isWay_9 : decode cX9_isWay 9 = .ok (.getfield 114, 3) := by decide +kernel
theorem dX9_isWay_12 : decode cX9_isWay 12 = .ok (.if_icmp .ge 7, 3) := by decide +kernel
theorem dX9_isWay_15 : decode cX9_isWay 15 = .ok (.iconst 1, 1) := by decide +kernel
theorem dX9_isWay_16 : decode cX9_isWay 16 = .ok (.goto 4, 3) := by decide +kernel
theorem dX9_isWay_19 : decode cX9_isWay 19 = .ok (.iconst 0, 1) := by decide +kernel
theorem dX9_isWay_20 : decode cX9_isWay 20 = .ok (.ireturn, 1) := by decide +kernel
set_option maxRecDepth 20000 in
theorem ggX9_reasonAgainst_X9_valueAt : GoodIn wsX9_reasonAgainst wsX9_valueAt := goodIn_r _ [9] (by decide +kernel) (by decide +kernel)
set_option maxRecDepth 20000 in
theorem gX9_reasonAgainst_X9_valueAt : GoodIn wsX9_reasonAgainst (va_wsS RX9 106 yX9_valueAt wsX9_valueAt) := goodIn_app (goodIn_of _ (by decide +kernel)) ggX9_reasonAgainst_X9_valueAt
set_option maxRecDepth 20000 in
theorem ggX9_reasonAgainst_X2_crossingsOf : GoodIn wsX9_reasonAgainst wsX2_crossingsOf := goodIn_r _ [14, 15, 84, 85, 86, 87, 88, 89, 90, 91, 92, 93, 94] (by decide +kernel) (by decide +kernel)
set_option maxRecDepth 20000 in
theorem gX9_reasonAgainst_X2_crossingsOf : GoodIn wsX9_reasonAgainst (wsV RX9 163 RX2 yX2_crossingsOf wsX2_crossingsOf) := goodIn_app (goodIn_of _ (by decide +kernel)) ggX9_reasonAgainst_X2_crossingsOf
set_option maxRecDepth 20000 in
theorem ggX9_reasonAgainst_X2_waysWith : GoodIn wsX9_reasonAgainst wsX2_waysWith := goodIn_r _ [19, 20, 7, 8, 9, 84, 85, 86, 87, 88, 89, 90, 91, 92, 93, 94] (by decide +kernel) (by decide +kernel)
set_option maxRecDepth 20000 in
theorem gX9_reasonAgainst_X2_waysWith : GoodIn wsX9_reasonAgainst (wsV RX9 173 RX2 yX2_waysWith wsX2_waysWith) := goodIn_app (goodIn_of _ (by decide +kernel)) ggX9_reasonAgainst_X2_waysWith
set_option maxRecDepth 20000 in
theorem ggX9_reasonAgainst_X7_read : GoodIn wsX9_reasonAgainst wsX7_read := goodIn_r _ [25, 26, 27, 28, 29, 30, 31, 32, 33, 34, 35, 8, 36, 37, 38, 39, 13, 40, 41, 7, 9, 42, 43, 44, 24, 45, 46, 47, 48, 49, 50, 51, 52, 53, 54, 55, 56, 57, 58, 59, 95, 96, 97, 98, 99, 100, 84, 85, 86, 87, 88, 89, 90, 91, 92, 93, 94, 77, 78, 79, 80, 81, 82, 83] (by decide +kernel) (by decide +kernel)
set_option maxRecDepth 20000 in
theorem gX9_reasonAgainst_X7_read : GoodIn wsX9_reasonAgainst (wsV RX9 131 RX7 yX7_read wsX7_read) := goodIn_app (goodIn_of _ (by decide +kernel)) ggX9_reasonAgainst_X7_read
set_option maxRecDepth 20000 in
theorem ggX9_reasonAgainst_X7_lesserLack : GoodIn wsX9_reasonAgainst wsX7_lesserLack := goodIn_r _ [63, 34, 28, 64, 65, 66, 67, 37, 38, 39, 13, 40, 41, 7, 8, 9, 50, 51, 52, 53, 54, 95, 96, 97, 98, 99, 100, 84, 85, 86, 87, 88, 89, 90, 91, 92, 93, 94] (by decide +kernel) (by decide +kernel)
set_option maxRecDepth 20000 in
theorem gX9_reasonAgainst_X7_lesserLack : GoodIn wsX9_reasonAgainst (wsV RX9 281 RX7 yX7_lesserLack wsX7_lesserLack) := goodIn_app (goodIn_of _ (by decide +kernel)) ggX9_reasonAgainst_X7_lesserLack
theorem dX9_reasonAgainst_0 : decode cX9_reasonAgainst 0 = .ok (.aload_n 0, 1) := by decide +kernel
theorem dX9_reasonAgainst_1 : decode cX9_reasonAgainst 1 = .ok (.getfield 10, 3) := by decide +kernel
theorem dX9_reasonAgainst_4 : decode cX9_reasonAgainst 4 = .ok (.getfield 117, 3) := by decide +kernel
theorem dX9_reasonAgainst_7 : decode cX9_reasonAgainst 7 = .ok (.iload_n 1, 1) := by decide +kernel
theorem dX9_reasonAgainst_8 : decode cX9_reasonAgainst 8 = .ok (.invokestatic 106, 3) := by decide +kernel
theorem dX9_reasonAgainst_11 : decode cX9_reasonAgainst 11 = .ok (.istore_n 2, 1) := by decide +kernel
theorem dX9_reasonAgainst_12 : decode cX9_reasonAgainst 12 = .ok (.iload_n 2, 1) := by decide +kernel
theorem dX9_reasonAgainst_13 : decode cX9_reasonAgainst 13 = .ok (.iconst 2, 1) := by decide +kernel
theorem dX9_reasonAgainst_14 : decode cX9_reasonAgainst 14 = .ok (.if_icmp .lt 5, 3) := by decide +kernel
theorem dX9_reasonAgainst_17 : decode cX9_reasonAgainst 17 = .ok (.iconst 1, 1) := by decide +kernel
theorem dX9_reasonAgainst_18 : decode cX9_reasonAgainst 18 = .ok (.ireturn, 1) := by decide +kernel
theorem dX9_reasonAgainst_19 : decode cX9_reasonAgainst 19 = .ok (.aload_n 0, 1) := by decide +kernel
theorem dX9_reasonAgainst_20 : decode cX9_reasonAgainst 20 = .ok (.getfield 10, 3) := by decide +kernel
theorem dX9_reasonAgainst_23 : decode cX9_reasonAgainst 23 = .ok (.getfield 159, 3) := by decide +kernel
theorem dX9_reasonAgainst_26 : decode cX9_reasonAgainst 26 = .ok (.iload_n 1, 1) := by decide +kernel
theorem dX9_reasonAgainst_27 : decode cX9_reasonAgainst 27 = .ok (.invokestatic 106, 3) := by decide +kernel
theorem dX9_reasonAgainst_30 : decode cX9_reasonAgainst 30 = .ok (.iload_n 2, 1) := by decide +kernel
theorem dX9_reasonAgainst_31 : decode cX9_reasonAgainst 31 = .ok (.if_icmp .ne 5, 3) := by decide +kernel
theorem dX9_reasonAgainst_34 : decode cX9_reasonAgainst 34 = .ok (.iconst 2, 1) := by decide +kernel
theorem dX9_reasonAgainst_35 : decode cX9_reasonAgainst 35 = .ok (.ireturn, 1) := by decide +kernel
theorem dX9_reasonAgainst_36 : decode cX9_reasonAgainst 36 = .ok (.aload_n 0, 1) := by decide +kernel
theorem dX9_reasonAgainst_37 : decode cX9_reasonAgainst 37 = .ok (.getfield 19, 3) := by decide +kernel
theorem dX9_reasonAgainst_40 : decode cX9_reasonAgainst 40 = .ok (.iload_n 1, 1) := by decide +kernel
theorem dX9_reasonAgainst_41 : decode cX9_reasonAgainst 41 = .ok (.invokevirtual 163, 3) := by decide +kernel
theorem dX9_reasonAgainst_44 : decode cX9_reasonAgainst 44 = .ok (.aload_n 0, 1) := by decide +kernel
theorem dX9_reasonAgainst_45 : decode cX9_reasonAgainst 45 = .ok (.getfield 19, 3) := by decide +kernel
theorem dX9_reasonAgainst_48 : decode cX9_reasonAgainst 48 = .ok (.aload_n 0, 1) := by decide +kernel
theorem dX9_reasonAgainst_49 : decode cX9_reasonAgainst 49 = .ok (.getfield 10, 3) := by decide +kernel
theorem dX9_reasonAgainst_52 : decode cX9_reasonAgainst 52 = .ok (.getfield 117, 3) := by decide +kernel
theorem dX9_reasonAgainst_55 : decode cX9_reasonAgainst 55 = .ok (.invokevirtual 173, 3) := by decide +kernel
theorem dX9_reasonAgainst_58 : decode cX9_reasonAgainst 58 = .ok (.land, 1) := by decide +kernel
theorem dX9_reasonAgainst_59 : decode cX9_reasonAgainst 59 = .ok (.lconst 0, 1) := by decide +kernel
theorem dX9_reasonAgainst_60 : decode cX9_reasonAgainst 60 = .ok (.lcmp, 1) := by decide +kernel
theorem dX9_reasonAgainst_61 : decode cX9_reasonAgainst 61 = .ok (.ifCond .eq 5, 3) := by decide +kernel
theorem dX9_reasonAgainst_64 : decode cX9_reasonAgainst 64 = .ok (.iconst 3, 1) := by decide +kernel
theorem dX9_reasonAgainst_65 : decode cX9_reasonAgainst 65 = .ok (.ireturn, 1) := by decide +kernel
theorem dX9_reasonAgainst_66 : decode cX9_reasonAgainst 66 = .ok (.aload_n 0, 1) := by decide +kernel
theorem dX9_reasonAgainst_67 : decode cX9_reasonAgainst 67 = .ok (.getfield 28, 3) := by decide +kernel
theorem dX9_reasonAgainst_70 : decode cX9_reasonAgainst 70 = .ok (.invokevirtual 131, 3) := by decide +kernel
theorem dX9_reasonAgainst_73 : decode cX9_reasonAgainst 73 = .ok (.aload_n 0, 1) := by decide +kernel
theorem dX9_reasonAgainst_74 : decode cX9_reasonAgainst 74 = .ok (.getfield 28, 3) := by decide +kernel
theorem dX9_reasonAgainst_77 : decode cX9_reasonAgainst 77 = .ok (.iload_n 1, 1) := by decide +kernel
theorem dX9_reasonAgainst_78 : decode cX9_reasonAgainst 78 = .ok (.invokevirtual 281, 3) := by decide +kernel
theorem dX9_reasonAgainst_81 : decode cX9_reasonAgainst 81 = .ok (.ifCond .gt 7, 3) := by decide +kernel
theorem dX9_reasonAgainst_84 : decode cX9_reasonAgainst 84 = .ok (.iconst 4, 1) := by decide +kernel
theorem dX9_reasonAgainst_85 : decode cX9_reasonAgainst 85 = .ok (.goto 4, 3) := by decide +kernel
theorem dX9_reasonAgainst_88 : decode cX9_reasonAgainst 88 = .ok (.iconst 0, 1) := by decide +kernel
theorem dX9_reasonAgainst_89 : decode cX9_reasonAgainst 89 = .ok (.ireturn, 1) := by decide +kernel
set_option maxRecDepth 20000 in
theorem ggX9_allBridges_X9_valueAt : GoodIn wsX9_allBridges wsX9_valueAt := goodIn_r _ [8] (by decide +kernel) (by decide +kernel)
set_option maxRecDepth 20000 in
theorem gX9_allBridges_X9_valueAt : GoodIn wsX9_allBridges (va_wsS RX9 106 yX9_valueAt wsX9_valueAt) := goodIn_app (goodIn_of _ (by decide +kernel)) ggX9_allBridges_X9_valueAt
theorem dX9_allBridges_0 : decode cX9_allBridges 0 = .ok (.iconst 0, 1) := by decide +kernel
theorem dX9_allBridges_1 : decode cX9_allBridges 1 = .ok (.istore_n 1, 1) := by decide +kernel
theorem dX9_allBridges_2 : decode cX9_allBridges 2 = .ok (.iconst 0, 1) := by decide +kernel
theorem dX9_allBridges_3 : decode cX9_allBridges 3 = .ok (.istore_n 2, 1) := by decide +kernel
theorem dX9_allBridges_4 : decode cX9_allBridges 4 = .ok (.iload_n 2, 1) := by decide +kernel
theorem dX9_allBridges_5 : decode cX9_allBridges 5 = .ok (.aload_n 0, 1) := by decide +kernel
theorem dX9_allBridges_6 : decode cX9_allBridges 6 = .ok (.getfield 19, 3) := by decide +kernel
theorem dX9_allBridges_9 : decode cX9_allBridges 9 = .ok (.getfield 114, 3) := by decide +kernel
theorem dX9_allBridges_12 : decode cX9_allBridges 12 = .ok (.if_icmp .ge 23, 3) := by decide +kernel
theorem dX9_allBridges_15 : decode cX9_allBridges 15 = .ok (.iload_n 1, 1) := by decide +kernel
theorem dX9_allBridges_16 : decode cX9_allBridges 16 = .ok (.aload_n 0, 1) := by decide +kernel
theorem dX9_allBridges_17 : decode cX9_allBridges 17 = .ok (.getfield 10, 3) := by decide +kernel
theorem dX9_allBridges_20 : decode cX9_allBridges 20 = .ok (.getfield 117, 3) := by decide +kernel
theorem dX9_allBridges_23 : decode cX9_allBridges 23 = .ok (.iload_n 2, 1) := by decide +kernel
theorem dX9_allBridges_24 : decode cX9_allBridges 24 = .ok (.invokestatic 106, 3) := by decide +kernel
theorem dX9_allBridges_27 : decode cX9_allBridges 27 = .ok (.iadd, 1) := by decide +kernel
theorem dX9_allBridges_28 : decode cX9_allBridges 28 = .ok (.istore_n 1, 1) := by decide +kernel
theorem dX9_allBridges_29 : decode cX9_allBridges 29 = .ok (.iinc 2 1, 3) := by decide +kernel
theorem dX9_allBridges_32 : decode cX9_allBridges 32 = .ok (.goto (-28), 3) := by decide +kernel
theorem dX9_allBridges_35 : decode cX9_allBridges 35 = .ok (.iload_n 1, 1) := by decide +kernel
theorem dX9_allBridges_36 : decode cX9_allBridges 36 = .ok (.ireturn, 1) := by decide +kernel
set_option maxRecDepth 20000 in
theorem ggX9_allNumbers_X9_valueAt : GoodIn wsX9_allNumbers wsX9_valueAt := goodIn_r _ [6] (by decide +kernel) (by decide +kernel)
set_option maxRecDepth 20000 in
theorem gX9_allNumbers_X9_valueAt : GoodIn wsX9_allNumbers (va_wsS RX9 106 yX9_valueAt wsX9_valueAt) := goodIn_app (goodIn_of _ (by decide +kernel)) ggX9_allNumbers_X9_valueAt
theorem dX9_allNumbers_0 : decode cX9_allNumbers 0 = .ok (.iconst 0, 1) := by decide +kernel
theorem dX9_allNumbers_1 : decode cX9_allNumbers 1 = .ok (.istore_n 1, 1) := by decide +kernel
theorem dX9_allNumbers_2 : decode cX9_allNumbers 2 = .ok (.iconst 0, 1) := by decide +kernel
theorem dX9_allNumbers_3 : decode cX9_allNumbers 3 = .ok (.istore_n 2, 1) := by decide +kernel
theorem dX9_allNumbers_4 : decode cX9_allNumbers 4 = .ok (.iload_n 2, 1) := by decide +kernel
theorem dX9_allNumbers_5 : decode cX9_allNumbers 5 = .ok (.sipush 144, 3) := by decide +kernel
theorem dX9_allNumbers_8 : decode cX9_allNumbers 8 = .ok (.if_icmp .ge 23, 3) := by decide +kernel
theorem dX9_allNumbers_11 : decode cX9_allNumbers 11 = .ok (.iload_n 1, 1) := by decide +kernel
theorem dX9_allNumbers_12 : decode cX9_allNumbers 12 = .ok (.aload_n 0, 1) := by decide +kernel
theorem dX9_allNumbers_13 : decode cX9_allNumbers 13 = .ok (.getfield 10, 3) := by decide +kernel
theorem dX9_allNumbers_16 : decode cX9_allNumbers 16 = .ok (.getfield 102, 3) := by decide +kernel
theorem dX9_allNumbers_19 : decode cX9_allNumbers 19 = .ok (.iload_n 2, 1) := by decide +kernel
theorem dX9_allNumbers_20 : decode cX9_allNumbers 20 = .ok (.invokestatic 106, 3) := by decide +kernel
theorem dX9_allNumbers_23 : decode cX9_allNumbers 23 = .ok (.iadd, 1) := by decide +kernel
theorem dX9_allNumbers_24 : decode cX9_allNumbers 24 = .ok (.istore_n 1, 1) := by decide +kernel
theorem dX9_allNumbers_25 : decode cX9_allNumbers 25 = .ok (.iinc 2 1, 3) := by decide +kernel
theorem dX9_allNumbers_28 : decode cX9_allNumbers 28 = .ok (.goto (-24), 3) := by decide +kernel
theorem dX9_allNumbers_31 : decode cX9_allNumbers 31 = .ok (.iload_n 1, 1) := by decide +kernel
theorem dX9_allNumbers_32 : decode cX9_allNumbers 32 = .ok (.ireturn, 1) := by decide +kernel
set_option maxRecDepth 20000 in
theorem ggX9_completeIslands_X7_read : GoodIn wsX9_completeIslands wsX7_read := goodIn_r _ [9, 10, 11, 12, 13, 14, 15, 16, 17, 18, 19, 20, 21, 22, 23, 24, 25, 26, 27, 28, 29, 30, 31, 32, 8, 33, 34, 35, 36, 37, 38, 39, 40, 41, 42, 43, 44, 45, 46, 47, 69, 70, 71, 72, 73, 74, 58, 59, 60, 61, 62, 63, 64, 65, 66, 67, 68, 75, 76, 77, 78, 79, 80, 81] (by decide +kernel) (by decide +kernel)
set_option maxRecDepth 20000 in
theorem gX9_completeIslands_X7_read : GoodIn wsX9_completeIslands (wsV RX9 131 RX7 yX7_read wsX7_read) := goodIn_app (goodIn_of _ (by decide +kernel)) ggX9_completeIslands_X7_read
set_option maxRecDepth 20000 in
theorem ggX9_completeIslands_X9_valueAt : GoodIn wsX9_completeIslands wsX9_valueAt := goodIn_r _ [29] (by decide +kernel) (by decide +kernel)
set_option maxRecDepth 20000 in
theorem gX9_completeIslands_X9_valueAt : GoodIn wsX9_completeIslands (va_wsS RX9 106 yX9_valueAt wsX9_valueAt) := goodIn_app (goodIn_of _ (by decide +kernel)) ggX9_completeIslands_X9_valueAt
theorem dX9_completeIslands_0 : decode cX9_completeIslands 0 = .ok (.aload_n 0, 1) := by decide +kernel
theorem dX9_completeIslands_1 : decode cX9_completeIslands 1 = .ok (.getfield 28, 3) := by decide +kernel
theorem dX9_completeIslands_4 : decode cX9_completeIslands 4 = .ok (.invokevirtual 131, 3) := by decide +kernel
theorem dX9_completeIslands_7 : decode cX9_completeIslands 7 = .ok (.iconst 0, 1) := by decide +kernel
theorem dX9_completeIslands_8 : decode cX9_completeIslands 8 = .ok (.istore_n 1, 1) := by decide +kernel
theorem dX9_completeIslands_9 : decode cX9_completeIslands 9 = .ok (.iconst 0, 1) := by decide +kernel
theorem dX9_completeIslands_10 : decode cX9_completeIslands 10 = .ok (.istore_n 2, 1) := by decide +kernel
theorem dX9_completeIslands_11 : decode cX9_completeIslands 11 = .ok (.iload_n 2, 1) := by decide +kernel
theorem dX9_completeIslands_12 : decode cX9_completeIslands 12 = .ok (.aload_n 0, 1) := by decide +kernel
theorem dX9_completeIslands_13 : decode cX9_completeIslands 13 = .ok (.getfield 19, 3) := by decide +kernel
theorem dX9_completeIslands_16 : decode cX9_completeIslands 16 = .ok (.getfield 84, 3) := by decide +kernel
theorem dX9_completeIslands_19 : decode cX9_completeIslands 19 = .ok (.if_icmp .ge 26, 3) := by decide +kernel
theorem dX9_completeIslands_22 : decode cX9_completeIslands 22 = .ok (.aload_n 0, 1) := by decide +kernel
theorem dX9_completeIslands_23 : decode cX9_completeIslands 23 = .ok (.getfield 28, 3) := by decide +kernel
theorem dX9_completeIslands_26 : decode cX9_completeIslands 26 = .ok (.getfield 135, 3) := by decide +kernel
theorem dX9_completeIslands_29 : decode cX9_completeIslands 29 = .ok (.iload_n 2, 1) := by decide +kernel
theorem dX9_completeIslands_30 : decode cX9_completeIslands 30 = .ok (.invokestatic 106, 3) := by decide +kernel
theorem dX9_completeIslands_33 : decode cX9_completeIslands 33 = .ok (.ifCond .ne 6, 3) := by decide +kernel
theorem dX9_completeIslands_36 : decode cX9_completeIslands 36 = .ok (.iinc 1 1, 3) := by decide +kernel
theorem dX9_completeIslands_39 : decode cX9_completeIslands 39 = .ok (.iinc 2 1, 3) := by decide +kernel
theorem dX9_completeIslands_42 : decode cX9_completeIslands 42 = .ok (.goto (-31), 3) := by decide +kernel
theorem dX9_completeIslands_45 : decode cX9_completeIslands 45 = .ok (.iload_n 1, 1) := by decide +kernel
theorem dX9_completeIslands_46 : decode cX9_completeIslands 46 = .ok (.ireturn, 1) := by decide +kernel
set_option maxRecDepth 20000 in
theorem ggX9_groupsInAll_X0_read : GoodIn wsX9_groupsInAll wsX0_read := goodIn_r _ [8, 9, 10, 11, 12, 13, 14, 15, 16, 17, 18, 19, 20, 21, 22, 23, 24, 25, 7, 26, 27, 28, 29, 30, 31, 32, 33, 34, 35, 36, 37, 38, 39, 40, 41, 42, 43, 68, 69, 70, 71, 72, 73, 74, 75, 76, 77, 78, 79, 80] (by decide +kernel) (by decide +kernel)
set_option maxRecDepth 20000 in
theorem gX9_groupsInAll_X0_read : GoodIn wsX9_groupsInAll (wsV RX9 144 RX0 yX0_read wsX0_read) := goodIn_app (goodIn_of _ (by decide +kernel)) ggX9_groupsInAll_X0_read
set_option maxRecDepth 20000 in
theorem ggX9_groupsInAll_X0_total : GoodIn wsX9_groupsInAll wsX0_total := goodIn_r _ [47, 10, 43, 48, 49, 50, 7, 51, 9, 15, 13, 16, 68, 69, 70, 71, 72, 73, 74, 75, 76, 77, 78, 79, 80] (by decide +kernel) (by decide +kernel)
set_option maxRecDepth 20000 in
theorem gX9_groupsInAll_X0_total : GoodIn wsX9_groupsInAll (wsV RX9 284 RX0 yX0_total wsX0_total) := goodIn_app (goodIn_of _ (by decide +kernel)) ggX9_groupsInAll_X0_total
theorem dX9_groupsInAll_0 : decode cX9_groupsInAll 0 = .ok (.aload_n 0, 1) := by decide +kernel
theorem dX9_groupsInAll_1 : decode cX9_groupsInAll 1 = .ok (.getfield 37, 3) := by decide +kernel
theorem dX9_groupsInAll_4 : decode cX9_groupsInAll 4 = .ok (.aload_n 0, 1) := by decide +kernel
theorem dX9_groupsInAll_5 : decode cX9_groupsInAll 5 = .ok (.getfield 10, 3) := by decide +kernel
theorem dX9_groupsInAll_8 : decode cX9_groupsInAll 8 = .ok (.getfield 117, 3) := by decide +kernel
theorem dX9_groupsInAll_11 : decode cX9_groupsInAll 11 = .ok (.invokevirtual 144, 3) := by decide +kernel
theorem dX9_groupsInAll_14 : decode cX9_groupsInAll 14 = .ok (.aload_n 0, 1) := by decide +kernel
theorem dX9_groupsInAll_15 : decode cX9_groupsInAll 15 = .ok (.getfield 37, 3) := by decide +kernel
theorem dX9_groupsInAll_18 : decode cX9_groupsInAll 18 = .ok (.invokevirtual 284, 3) := by decide +kernel
theorem dX9_groupsInAll_21 : decode cX9_groupsInAll 21 = .ok (.ireturn, 1) := by decide +kernel
set_option maxRecDepth 20000 in
theorem ggX9_isSolved_X9_completeIslands : GoodIn wsX9_isSolved wsX9_completeIslands := goodIn_r _ [7, 8, 1, 2, 9, 10, 11, 12, 13, 14, 15, 16, 17, 18, 19, 20, 21, 22, 23, 24, 6, 25, 26, 27, 28, 29, 30, 31, 32, 33, 34, 35, 36, 37, 38, 39, 40, 41, 42, 43, 44, 45, 46, 47, 48, 49, 50, 51, 52, 94, 95, 96, 97, 98, 99, 100, 101, 102, 103, 104, 105, 106, 107, 108, 109, 110, 111, 112, 113, 114, 115, 116, 117, 118, 119, 120, 121, 122, 123, 124, 125, 126] (by decide +kernel) (by decide +kernel)
set_option maxRecDepth 20000 in
theorem gX9_isSolved_X9_completeIslands : GoodIn wsX9_isSolved (wsV RX9 199 RX9 yX9_completeIslands wsX9_completeIslands) := goodIn_app (goodIn_of _ (by decide +kernel)) ggX9_isSolved_X9_completeIslands
set_option maxRecDepth 20000 in
theorem ggX9_isSolved_X9_groupsInAll : GoodIn wsX9_isSolved wsX9_groupsInAll := goodIn_r _ [56, 57, 58, 59, 60, 61, 62, 63, 64, 65, 66, 67, 24, 6, 25, 32, 33, 68, 27, 28, 29, 30, 31, 69, 70, 71, 72, 73, 43, 44, 45, 46, 74, 75, 76, 77, 78, 79, 80, 81, 82, 83, 84, 85, 86, 87, 88, 89, 90, 91, 92, 93, 94, 95, 96, 97, 98, 99, 100, 101, 102, 120, 121, 122, 123, 124, 125, 126, 127, 128, 103, 104, 105, 106, 107, 108, 109, 110, 111, 112, 113] (by decide +kernel) (by decide +kernel)
set_option maxRecDepth 20000 in
theorem gX9_isSolved_X9_groupsInAll : GoodIn wsX9_isSolved (wsV RX9 202 RX9 yX9_groupsInAll wsX9_groupsInAll) := goodIn_app (goodIn_of _ (by decide +kernel)) ggX9_isSolved_X9_groupsInAll
theorem dX9_isSolved_0 : decode cX9_isSolved 0 = .ok (.aload_n 0, 1) := by decide +kernel
theorem dX9_isSolved_1 : decode cX9_isSolved 1 = .ok (.getfield 19, 3) := by decide +kernel
theorem dX9_isSolved_4 : decode cX9_isSolved 4 = .ok (.getfield 84, 3) := by decide +kernel
theorem dX9_isSolved_7 : decode cX9_isSolved 7 = .ok (.ifCond .le 29, 3) := by decide +kernel
theorem dX9_isSolved_10 : decode cX9_isSolved 10 = .ok (.aload_n 0, 1) := by decide +kernel
theorem dX9_isSolved_11 : decode cX9_isSolved 11 = .ok (.invokevirtual 199, 3) := by decide +kernel
theorem dX9_isSolved_14 : decode cX9_isSolved 14 = .ok (.aload_n 0, 1) := by decide +kernel
theorem dX9_isSolved_15 : decode cX9_isSolved 15 = .ok (.getfield 19, 3) := by decide +kernel
theorem dX9_isSolved_18 : decode cX9_isSolved 18 = .ok (.getfield 84, 3) := by decide +kernel
theorem dX9_isSolved_21 : decode cX9_isSolved 21 = .ok (.if_icmp .ne 15, 3) := by decide +kernel
theorem dX9_isSolved_24 : decode cX9_isSolved 24 = .ok (.aload_n 0, 1) := by decide +kernel
theorem dX9_isSolved_25 : decode cX9_isSolved 25 = .ok (.invokevirtual 202, 3) := by decide +kernel
theorem dX9_isSolved_28 : decode cX9_isSolved 28 = .ok (.iconst 1, 1) := by decide +kernel
theorem dX9_isSolved_29 : decode cX9_isSolved 29 = .ok (.if_icmp .ne 7, 3) := by decide +kernel
theorem dX9_isSolved_32 : decode cX9_isSolved 32 = .ok (.iconst 1, 1) := by decide +kernel
theorem dX9_isSolved_33 : decode cX9_isSolved 33 = .ok (.goto 4, 3) := by decide +kernel
theorem dX9_isSolved_36 : decode cX9_isSolved 36 = .ok (.iconst 0, 1) := by decide +kernel
theorem dX9_isSolved_37 : decode cX9_isSolved 37 = .ok (.ireturn, 1) := by decide +kernel
set_option maxRecDepth 20000 in
theorem ggX9_isBroken_X7_read : GoodIn wsX9_isBroken wsX7_read := goodIn_r _ [6, 7, 8, 9, 10, 11, 12, 13, 14, 15, 16, 17, 18, 19, 20, 21, 22, 23, 24, 25, 26, 27, 28, 29, 5, 30, 31, 32, 33, 34, 35, 36, 37, 38, 39, 40, 41, 42, 43, 44, 58, 59, 60, 61, 62, 63, 64, 65, 66, 67, 68, 69, 70, 71, 72, 73, 74, 75, 76, 77, 78, 79, 80, 81] (by decide +kernel) (by decide +kernel)
set_option maxRecDepth 20000 in
theorem gX9_isBroken_X7_read : GoodIn wsX9_isBroken (wsV RX9 131 RX7 yX7_read wsX7_read) := goodIn_app (goodIn_of _ (by decide +kernel)) ggX9_isBroken_X7_read
set_option maxRecDepth 20000 in
theorem ggX9_isBroken_X7_areBroken : GoodIn wsX9_isBroken wsX7_areBroken := goodIn_r _ [48, 9, 11, 8, 14, 15, 25, 17, 26, 58, 59, 60, 61, 62, 63, 64, 65, 66, 67, 68, 69, 70, 71, 72, 73, 74] (by decide +kernel) (by decide +kernel)
set_option maxRecDepth 20000 in
theorem gX9_isBroken_X7_areBroken : GoodIn wsX9_isBroken (wsV RX9 287 RX7 yX7_areBroken wsX7_areBroken) := goodIn_app (goodIn_of _ (by decide +kernel)) ggX9_isBroken_X7_areBroken
theorem dX9_isBroken_0 : decode cX9_isBroken 0 = .ok (.aload_n 0, 1) := by decide +kernel
theorem dX9_isBroken_1 : decode cX9_isBroken 1 = .ok (.getfield 28, 3) := by decide +kernel
theorem dX9_isBroken_4 : decode cX9_isBroken 4 = .ok (.invokevirtual 131, 3) := by decide +kernel
theorem dX9_isBroken_7 : decode cX9_isBroken 7 = .ok (.aload_n 0, 1) := by decide +kernel
theorem dX9_isBroken_8 : decode cX9_isBroken 8 = .ok (.getfield 28, 3) := by decide +kernel
theorem dX9_isBroken_11 : decode cX9_isBroken 11 = .ok (.invokevirtual 287, 3) := by decide +kernel
theorem dX9_isBroken_14 : decode cX9_isBroken 14 = .ok (.ireturn, 1) := by decide +kernel
theorem dX9_valueAt_0 : decode cX9_valueAt 0 = .ok (.iload_n 1, 1) := by decide +kernel
theorem dX9_valueAt_1 : decode cX9_valueAt 1 = .ok (.ifCond .lt 15, 3) := by decide +kernel
theorem dX9_valueAt_4 : decode cX9_valueAt 4 = .ok (.iload_n 1, 1) := by decide +kernel
theorem dX9_valueAt_5 : decode cX9_valueAt 5 = .ok (.aload_n 0, 1) := by decide +kernel
theorem dX9_valueAt_6 : decode cX9_valueAt 6 = .ok (.arraylength, 1) := by decide +kernel
theorem dX9_valueAt_7 : decode cX9_valueAt 7 = .ok (.if_icmp .ge 9, 3) := by decide +kernel
theorem dX9_valueAt_10 : decode cX9_valueAt 10 = .ok (.aload_n 0, 1) := by decide +kernel
theorem dX9_valueAt_11 : decode cX9_valueAt 11 = .ok (.iload_n 1, 1) := by decide +kernel
theorem dX9_valueAt_12 : decode cX9_valueAt 12 = .ok (.iaload, 1) := by decide +kernel
theorem dX9_valueAt_13 : decode cX9_valueAt 13 = .ok (.goto 4, 3) := by decide +kernel
theorem dX9_valueAt_16 : decode cX9_valueAt 16 = .ok (.iconst 0, 1) := by decide +kernel
theorem dX9_valueAt_17 : decode cX9_valueAt 17 = .ok (.ireturn, 1) := by decide +kernel
theorem dX9_put_0 : decode cX9_put 0 = .ok (.iload_n 1, 1) := by decide +kernel
theorem dX9_put_1 : decode cX9_put 1 = .ok (.ifCond .lt 13, 3) := by decide +kernel
theorem dX9_put_4 : decode cX9_put 4 = .ok (.iload_n 1, 1) := by decide +kernel
theorem dX9_put_5 : decode cX9_put 5 = .ok (.aload_n 0, 1) := by decide +kernel
theorem dX9_put_6 : decode cX9_put 6 = .ok (.arraylength, 1) := by decide +kernel
theorem dX9_put_7 : decode cX9_put 7 = .ok (.if_icmp .ge 7, 3) := by decide +kernel
theorem dX9_put_10 : decode cX9_put 10 = .ok (.aload_n 0, 1) := by decide +kernel
theorem dX9_put_11 : decode cX9_put 11 = .ok (.iload_n 1, 1) := by decide +kernel
theorem dX9_put_12 : decode cX9_put 12 = .ok (.iload_n 2, 1) := by decide +kernel
theorem dX9_put_13 : decode cX9_put 13 = .ok (.iastore, 1) := by decide +kernel
theorem dX9_put_14 : decode cX9_put 14 = .ok (.return_, 1) := by decide +kernel
theorem dX9_add_0 : decode cX9_add 0 = .ok (.iload_n 1, 1) := by decide +kernel
theorem dX9_add_1 : decode cX9_add 1 = .ok (.ifCond .lt 16, 3) := by decide +kernel
theorem dX9_add_4 : decode cX9_add 4 = .ok (.iload_n 1, 1) := by decide +kernel
theorem dX9_add_5 : decode cX9_add 5 = .ok (.aload_n 0, 1) := by decide +kernel
theorem dX9_add_6 : decode cX9_add 6 = .ok (.arraylength, 1) := by decide +kernel
theorem dX9_add_7 : decode cX9_add 7 = .ok (.if_icmp .ge 10, 3) := by decide +kernel
theorem dX9_add_10 : decode cX9_add 10 = .ok (.aload_n 0, 1) := by decide +kernel
theorem dX9_add_11 : decode cX9_add 11 = .ok (.iload_n 1, 1) := by decide +kernel
theorem dX9_add_12 : decode cX9_add 12 = .ok (.dup2, 1) := by decide +kernel
theorem dX9_add_13 : decode cX9_add 13 = .ok (.iaload, 1) := by decide +kernel
theorem dX9_add_14 : decode cX9_add 14 = .ok (.iload_n 2, 1) := by decide +kernel
theorem dX9_add_15 : decode cX9_add 15 = .ok (.iadd, 1) := by decide +kernel
theorem dX9_add_16 : decode cX9_add 16 = .ok (.iastore, 1) := by decide +kernel
theorem dX9_add_17 : decode cX9_add 17 = .ok (.return_, 1) := by decide +kernel
theorem dJ9_max_7cf53_0 : decode cJ9_max_7cf53 0 = .ok (.iload_n 0, 1) := by decide +kernel
theorem dJ9_max_7cf53_1 : decode cJ9_max_7cf53 1 = .ok (.iload_n 1, 1) := by decide +kernel
theorem dJ9_max_7cf53_2 : decode cJ9_max_7cf53 2 = .ok (.if_icmp .lt 7, 3) := by decide +kernel
theorem dJ9_max_7cf53_5 : decode cJ9_max_7cf53 5 = .ok (.iload_n 0, 1) := by decide +kernel
theorem dJ9_max_7cf53_6 : decode cJ9_max_7cf53 6 = .ok (.goto 4, 3) := by decide +kernel
theorem dJ9_max_7cf53_9 : decode cJ9_max_7cf53 9 = .ok (.iload_n 1, 1) := by decide +kernel
theorem dJ9_max_7cf53_10 : decode cJ9_max_7cf53 10 = .ok (.ireturn, 1) := by decide +kernel
theorem dJ9_min_7cf53_0 : decode cJ9_min_7cf53 0 = .ok (.iload_n 0, 1) := by decide +kernel
theorem dJ9_min_7cf53_1 : decode cJ9_min_7cf53 1 = .ok (.iload_n 1, 1) := by decide +kernel
theorem dJ9_min_7cf53_2 : decode cJ9_min_7cf53 2 = .ok (.if_icmp .gt 7, 3) := by decide +kernel
theorem dJ9_min_7cf53_5 : decode cJ9_min_7cf53 5 = .ok (.iload_n 0, 1) := by decide +kernel
theorem dJ9_min_7cf53_6 : decode cJ9_min_7cf53 6 = .ok (.goto 4, 3) := by decide +kernel
theorem dJ9_min_7cf53_9 : decode cJ9_min_7cf53 9 = .ok (.iload_n 1, 1) := by decide +kernel
theorem dJ9_min_7cf53_10 : decode cJ9_min_7cf53 10 = .ok (.ireturn, 1) := by decide +kernel
abbrev vwCl : List vw_C := [(RX0, TX0, 2), (RX1, TX1, 2), (RX2, TX2, 11), (RX3, TX3, 7), (RX4, TX4, 5), (RX5, TX5, 12), (RX6, TX6, 7), (RX7, TX7, 6), (RX8, TX8, 8), (RX9, TX9, 9)]
