-- ===== PART A: goes FIRST, ahead of the names: the tables' words, and 'selects' of the private methods out of them =====
/-- a private method of a class that the tables say can be made, by its rows of tables_1 -/
def lw_okq (q : MethodName × Nat) : Prop := (q.1.cls ≠ "java/lang/invoke/MethodHandle" ∧ q.1.cls ≠ "java/lang/invoke/VarHandle") ∧ Cond.instantiable q.1.cls q.2 ∈ tables_1 ∧ Cond.privateMethod q.1 ∈ tables_1 ∧ Cond.instanceMethod q.1 ∈ tables_1
theorem lw_p0 : lw_okq (⟨"ParkDesk", "isStreet", "(I)Z"⟩, 6) := ⟨⟨by decide +kernel, by decide +kernel⟩, List.mem_of_getElem? (i := 12) (by decide +kernel), List.mem_of_getElem? (i := 230) (by decide +kernel), List.mem_of_getElem? (i := 231) (by decide +kernel)⟩
theorem lw_p1 : lw_okq (⟨"ParkDesk", "isCar", "(I)Z"⟩, 6) := ⟨⟨by decide +kernel, by decide +kernel⟩, List.mem_of_getElem? (i := 12) (by decide +kernel), List.mem_of_getElem? (i := 277) (by decide +kernel), List.mem_of_getElem? (i := 278) (by decide +kernel)⟩
theorem lw_p2 : lw_okq (⟨"ParkDesk$Laying", "openBays", "(I)V"⟩, 6) := ⟨⟨by decide +kernel, by decide +kernel⟩, List.mem_of_getElem? (i := 114) (by decide +kernel), List.mem_of_getElem? (i := 332) (by decide +kernel), List.mem_of_getElem? (i := 333) (by decide +kernel)⟩
theorem lw_p3 : lw_okq (⟨"ParkDesk$Laying", "readRights", "(I)V"⟩, 6) := ⟨⟨by decide +kernel, by decide +kernel⟩, List.mem_of_getElem? (i := 114) (by decide +kernel), List.mem_of_getElem? (i := 336) (by decide +kernel), List.mem_of_getElem? (i := 337) (by decide +kernel)⟩
theorem lw_p4 : lw_okq (⟨"ParkDesk$Laying", "layLeast", "()V"⟩, 6) := ⟨⟨by decide +kernel, by decide +kernel⟩, List.mem_of_getElem? (i := 114) (by decide +kernel), List.mem_of_getElem? (i := 341) (by decide +kernel), List.mem_of_getElem? (i := 342) (by decide +kernel)⟩
theorem lw_p5 : lw_okq (⟨"ParkDesk$Laying", "isWithin", "(II)Z"⟩, 6) := ⟨⟨by decide +kernel, by decide +kernel⟩, List.mem_of_getElem? (i := 114) (by decide +kernel), List.mem_of_getElem? (i := 345) (by decide +kernel), List.mem_of_getElem? (i := 346) (by decide +kernel)⟩
theorem lw_p6 : lw_okq (⟨"ParkDesk$Laying", "walkTo", "(II)I"⟩, 6) := ⟨⟨by decide +kernel, by decide +kernel⟩, List.mem_of_getElem? (i := 114) (by decide +kernel), List.mem_of_getElem? (i := 349) (by decide +kernel), List.mem_of_getElem? (i := 350) (by decide +kernel)⟩
theorem lw_p7 : lw_okq (⟨"ParkDesk$Cheapest", "startAt", "(I)V"⟩, 3) := ⟨⟨by decide +kernel, by decide +kernel⟩, List.mem_of_getElem? (i := 121) (by decide +kernel), List.mem_of_getElem? (i := 375) (by decide +kernel), List.mem_of_getElem? (i := 376) (by decide +kernel)⟩
theorem lw_p8 : lw_okq (⟨"ParkDesk$Cheapest", "passOn", "(II)Z"⟩, 3) := ⟨⟨by decide +kernel, by decide +kernel⟩, List.mem_of_getElem? (i := 121) (by decide +kernel), List.mem_of_getElem? (i := 380) (by decide +kernel), List.mem_of_getElem? (i := 381) (by decide +kernel)⟩
theorem lw_p9 : lw_okq (⟨"ParkDesk$Cheapest", "cheapestEnd", "([I)I"⟩, 3) := ⟨⟨by decide +kernel, by decide +kernel⟩, List.mem_of_getElem? (i := 121) (by decide +kernel), List.mem_of_getElem? (i := 384) (by decide +kernel), List.mem_of_getElem? (i := 385) (by decide +kernel)⟩
theorem lw_p10 : lw_okq (⟨"ParkDesk$Cheapest", "shift", "(II[I)V"⟩, 3) := ⟨⟨by decide +kernel, by decide +kernel⟩, List.mem_of_getElem? (i := 121) (by decide +kernel), List.mem_of_getElem? (i := 388) (by decide +kernel), List.mem_of_getElem? (i := 389) (by decide +kernel)⟩
theorem lw_p11 : lw_okq (⟨"ParkDesk$Laying", "comeHome", "()V"⟩, 6) := ⟨⟨by decide +kernel, by decide +kernel⟩, List.mem_of_getElem? (i := 114) (by decide +kernel), List.mem_of_getElem? (i := 392) (by decide +kernel), List.mem_of_getElem? (i := 393) (by decide +kernel)⟩
theorem lw_p12 : lw_okq (⟨"ParkDesk$Laying", "choose", "(I)I"⟩, 6) := ⟨⟨by decide +kernel, by decide +kernel⟩, List.mem_of_getElem? (i := 114) (by decide +kernel), List.mem_of_getElem? (i := 396) (by decide +kernel), List.mem_of_getElem? (i := 397) (by decide +kernel)⟩
theorem lw_p13 : lw_okq (⟨"ParkDesk$Laying", "isBetter", "(III)Z"⟩, 6) := ⟨⟨by decide +kernel, by decide +kernel⟩, List.mem_of_getElem? (i := 114) (by decide +kernel), List.mem_of_getElem? (i := 400) (by decide +kernel), List.mem_of_getElem? (i := 401) (by decide +kernel)⟩
theorem lw_p14 : lw_okq (⟨"ParkDesk$Laying", "tellOne", "(II)I"⟩, 6) := ⟨⟨by decide +kernel, by decide +kernel⟩, List.mem_of_getElem? (i := 114) (by decide +kernel), List.mem_of_getElem? (i := 412) (by decide +kernel), List.mem_of_getElem? (i := 413) (by decide +kernel)⟩
theorem lw_p15 : lw_okq (⟨"ParkDesk$Laying", "standsByCard", "(I)Z"⟩, 6) := ⟨⟨by decide +kernel, by decide +kernel⟩, List.mem_of_getElem? (i := 114) (by decide +kernel), List.mem_of_getElem? (i := 416) (by decide +kernel), List.mem_of_getElem? (i := 417) (by decide +kernel)⟩
def lw_privs_1 : List (MethodName × Nat) := [(⟨"ParkDesk", "isStreet", "(I)Z"⟩, 6), (⟨"ParkDesk", "isCar", "(I)Z"⟩, 6), (⟨"ParkDesk$Laying", "openBays", "(I)V"⟩, 6), (⟨"ParkDesk$Laying", "readRights", "(I)V"⟩, 6), (⟨"ParkDesk$Laying", "layLeast", "()V"⟩, 6), (⟨"ParkDesk$Laying", "isWithin", "(II)Z"⟩, 6), (⟨"ParkDesk$Laying", "walkTo", "(II)I"⟩, 6), (⟨"ParkDesk$Cheapest", "startAt", "(I)V"⟩, 3), (⟨"ParkDesk$Cheapest", "passOn", "(II)Z"⟩, 3), (⟨"ParkDesk$Cheapest", "cheapestEnd", "([I)I"⟩, 3), (⟨"ParkDesk$Cheapest", "shift", "(II[I)V"⟩, 3), (⟨"ParkDesk$Laying", "comeHome", "()V"⟩, 6), (⟨"ParkDesk$Laying", "choose", "(I)I"⟩, 6), (⟨"ParkDesk$Laying", "isBetter", "(III)Z"⟩, 6), (⟨"ParkDesk$Laying", "tellOne", "(II)I"⟩, 6), (⟨"ParkDesk$Laying", "standsByCard", "(I)Z"⟩, 6)]
theorem lw_r1 : ∀ q ∈ lw_privs_1, lw_okq q := List.forall_mem_cons.mpr ⟨lw_p0, List.forall_mem_cons.mpr ⟨lw_p1, List.forall_mem_cons.mpr ⟨lw_p2, List.forall_mem_cons.mpr ⟨lw_p3, List.forall_mem_cons.mpr ⟨lw_p4, List.forall_mem_cons.mpr ⟨lw_p5, List.forall_mem_cons.mpr ⟨lw_p6, List.forall_mem_cons.mpr ⟨lw_p7, List.forall_mem_cons.mpr ⟨lw_p8, List.forall_mem_cons.mpr ⟨lw_p9, List.forall_mem_cons.mpr ⟨lw_p10, List.forall_mem_cons.mpr ⟨lw_p11, List.forall_mem_cons.mpr ⟨lw_p12, List.forall_mem_cons.mpr ⟨lw_p13, List.forall_mem_cons.mpr ⟨lw_p14, List.forall_mem_cons.mpr ⟨lw_p15, fun _ h => absurd h List.not_mem_nil⟩⟩⟩⟩⟩⟩⟩⟩⟩⟩⟩⟩⟩⟩⟩⟩
theorem lw_p16 : lw_okq (⟨"ParkDesk$Tickets", "isSameZoneAndHour", "(II)Z"⟩, 2) := ⟨⟨by decide +kernel, by decide +kernel⟩, List.mem_of_getElem? (i := 174) (by decide +kernel), List.mem_of_getElem? (i := 506) (by decide +kernel), List.mem_of_getElem? (i := 507) (by decide +kernel)⟩
theorem lw_p17 : lw_okq (⟨"ParkDeskModel", "isStreet", "(I)Z"⟩, 30) := ⟨⟨by decide +kernel, by decide +kernel⟩, List.mem_of_getElem? (i := 527) (by decide +kernel), List.mem_of_getElem? (i := 639) (by decide +kernel), List.mem_of_getElem? (i := 640) (by decide +kernel)⟩
theorem lw_p18 : lw_okq (⟨"ParkDeskModel", "isCar", "(I)Z"⟩, 30) := ⟨⟨by decide +kernel, by decide +kernel⟩, List.mem_of_getElem? (i := 527) (by decide +kernel), List.mem_of_getElem? (i := 679) (by decide +kernel), List.mem_of_getElem? (i := 680) (by decide +kernel)⟩
theorem lw_p19 : lw_okq (⟨"ParkDeskModel", "mayIn", "(III)I"⟩, 30) := ⟨⟨by decide +kernel, by decide +kernel⟩, List.mem_of_getElem? (i := 527) (by decide +kernel), List.mem_of_getElem? (i := 699) (by decide +kernel), List.mem_of_getElem? (i := 700) (by decide +kernel)⟩
theorem lw_p20 : lw_okq (⟨"ParkDeskModel", "park", "(IIZ)V"⟩, 30) := ⟨⟨by decide +kernel, by decide +kernel⟩, List.mem_of_getElem? (i := 527) (by decide +kernel), List.mem_of_getElem? (i := 710) (by decide +kernel), List.mem_of_getElem? (i := 711) (by decide +kernel)⟩
theorem lw_p21 : lw_okq (⟨"ParkDeskModel", "parkLeast", "(II)V"⟩, 30) := ⟨⟨by decide +kernel, by decide +kernel⟩, List.mem_of_getElem? (i := 527) (by decide +kernel), List.mem_of_getElem? (i := 714) (by decide +kernel), List.mem_of_getElem? (i := 715) (by decide +kernel)⟩
theorem lw_p22 : lw_okq (⟨"ParkDeskModel", "begin", "(II)V"⟩, 30) := ⟨⟨by decide +kernel, by decide +kernel⟩, List.mem_of_getElem? (i := 527) (by decide +kernel), List.mem_of_getElem? (i := 718) (by decide +kernel), List.mem_of_getElem? (i := 719) (by decide +kernel)⟩
theorem lw_p23 : lw_okq (⟨"ParkDeskModel", "costOf", "(II)I"⟩, 30) := ⟨⟨by decide +kernel, by decide +kernel⟩, List.mem_of_getElem? (i := 527) (by decide +kernel), List.mem_of_getElem? (i := 723) (by decide +kernel), List.mem_of_getElem? (i := 724) (by decide +kernel)⟩
theorem lw_p24 : lw_okq (⟨"ParkDeskModel", "mayTake", "(II)Z"⟩, 30) := ⟨⟨by decide +kernel, by decide +kernel⟩, List.mem_of_getElem? (i := 527) (by decide +kernel), List.mem_of_getElem? (i := 727) (by decide +kernel), List.mem_of_getElem? (i := 728) (by decide +kernel)⟩
theorem lw_p25 : lw_okq (⟨"ParkDeskModel", "parkNight", "(II)V"⟩, 30) := ⟨⟨by decide +kernel, by decide +kernel⟩, List.mem_of_getElem? (i := 527) (by decide +kernel), List.mem_of_getElem? (i := 731) (by decide +kernel), List.mem_of_getElem? (i := 732) (by decide +kernel)⟩
theorem lw_p26 : lw_okq (⟨"ParkDeskModel", "parkOne", "(I)V"⟩, 30) := ⟨⟨by decide +kernel, by decide +kernel⟩, List.mem_of_getElem? (i := 527) (by decide +kernel), List.mem_of_getElem? (i := 735) (by decide +kernel), List.mem_of_getElem? (i := 736) (by decide +kernel)⟩
theorem lw_p27 : lw_okq (⟨"ParkDeskModel", "sumOf", "(I)I"⟩, 30) := ⟨⟨by decide +kernel, by decide +kernel⟩, List.mem_of_getElem? (i := 527) (by decide +kernel), List.mem_of_getElem? (i := 743) (by decide +kernel), List.mem_of_getElem? (i := 744) (by decide +kernel)⟩
theorem lw_p28 : lw_okq (⟨"ParkDeskModel", "findStake", "()V"⟩, 30) := ⟨⟨by decide +kernel, by decide +kernel⟩, List.mem_of_getElem? (i := 527) (by decide +kernel), List.mem_of_getElem? (i := 767) (by decide +kernel), List.mem_of_getElem? (i := 768) (by decide +kernel)⟩
theorem lw_p29 : lw_okq (⟨"ParkDeskModel", "judged", "(I)I"⟩, 30) := ⟨⟨by decide +kernel, by decide +kernel⟩, List.mem_of_getElem? (i := 527) (by decide +kernel), List.mem_of_getElem? (i := 789) (by decide +kernel), List.mem_of_getElem? (i := 790) (by decide +kernel)⟩
theorem lw_p30 : lw_okq (⟨"ParkDeskModel", "byLikes", "(I)I"⟩, 30) := ⟨⟨by decide +kernel, by decide +kernel⟩, List.mem_of_getElem? (i := 527) (by decide +kernel), List.mem_of_getElem? (i := 793) (by decide +kernel), List.mem_of_getElem? (i := 794) (by decide +kernel)⟩
theorem lw_p31 : lw_okq (⟨"ParkDeskModel", "likes", "(II)I"⟩, 30) := ⟨⟨by decide +kernel, by decide +kernel⟩, List.mem_of_getElem? (i := 527) (by decide +kernel), List.mem_of_getElem? (i := 797) (by decide +kernel), List.mem_of_getElem? (i := 798) (by decide +kernel)⟩
def lw_privs_2 : List (MethodName × Nat) := [(⟨"ParkDesk$Tickets", "isSameZoneAndHour", "(II)Z"⟩, 2), (⟨"ParkDeskModel", "isStreet", "(I)Z"⟩, 30), (⟨"ParkDeskModel", "isCar", "(I)Z"⟩, 30), (⟨"ParkDeskModel", "mayIn", "(III)I"⟩, 30), (⟨"ParkDeskModel", "park", "(IIZ)V"⟩, 30), (⟨"ParkDeskModel", "parkLeast", "(II)V"⟩, 30), (⟨"ParkDeskModel", "begin", "(II)V"⟩, 30), (⟨"ParkDeskModel", "costOf", "(II)I"⟩, 30), (⟨"ParkDeskModel", "mayTake", "(II)Z"⟩, 30), (⟨"ParkDeskModel", "parkNight", "(II)V"⟩, 30), (⟨"ParkDeskModel", "parkOne", "(I)V"⟩, 30), (⟨"ParkDeskModel", "sumOf", "(I)I"⟩, 30), (⟨"ParkDeskModel", "findStake", "()V"⟩, 30), (⟨"ParkDeskModel", "judged", "(I)I"⟩, 30), (⟨"ParkDeskModel", "byLikes", "(I)I"⟩, 30), (⟨"ParkDeskModel", "likes", "(II)I"⟩, 30)]
theorem lw_r2 : ∀ q ∈ lw_privs_2, lw_okq q := List.forall_mem_cons.mpr ⟨lw_p16, List.forall_mem_cons.mpr ⟨lw_p17, List.forall_mem_cons.mpr ⟨lw_p18, List.forall_mem_cons.mpr ⟨lw_p19, List.forall_mem_cons.mpr ⟨lw_p20, List.forall_mem_cons.mpr ⟨lw_p21, List.forall_mem_cons.mpr ⟨lw_p22, List.forall_mem_cons.mpr ⟨lw_p23, List.forall_mem_cons.mpr ⟨lw_p24, List.forall_mem_cons.mpr ⟨lw_p25, List.forall_mem_cons.mpr ⟨lw_p26, List.forall_mem_cons.mpr ⟨lw_p27, List.forall_mem_cons.mpr ⟨lw_p28, List.forall_mem_cons.mpr ⟨lw_p29, List.forall_mem_cons.mpr ⟨lw_p30, List.forall_mem_cons.mpr ⟨lw_p31, fun _ h => absurd h List.not_mem_nil⟩⟩⟩⟩⟩⟩⟩⟩⟩⟩⟩⟩⟩⟩⟩⟩
theorem lw_p32 : lw_okq (⟨"ParkDeskModel", "ticketsThat", "(I)I"⟩, 30) := ⟨⟨by decide +kernel, by decide +kernel⟩, List.mem_of_getElem? (i := 527) (by decide +kernel), List.mem_of_getElem? (i := 805) (by decide +kernel), List.mem_of_getElem? (i := 806) (by decide +kernel)⟩
theorem lw_p33 : lw_okq (⟨"ParkDeskModel", "allBays", "()I"⟩, 30) := ⟨⟨by decide +kernel, by decide +kernel⟩, List.mem_of_getElem? (i := 527) (by decide +kernel), List.mem_of_getElem? (i := 809) (by decide +kernel), List.mem_of_getElem? (i := 810) (by decide +kernel)⟩
theorem lw_p34 : lw_okq (⟨"ParkDeskModel", "allCards", "()I"⟩, 30) := ⟨⟨by decide +kernel, by decide +kernel⟩, List.mem_of_getElem? (i := 527) (by decide +kernel), List.mem_of_getElem? (i := 813) (by decide +kernel), List.mem_of_getElem? (i := 814) (by decide +kernel)⟩
def lw_privs_3 : List (MethodName × Nat) := [(⟨"ParkDeskModel", "ticketsThat", "(I)I"⟩, 30), (⟨"ParkDeskModel", "allBays", "()I"⟩, 30), (⟨"ParkDeskModel", "allCards", "()I"⟩, 30)]
theorem lw_r3 : ∀ q ∈ lw_privs_3, lw_okq q := List.forall_mem_cons.mpr ⟨lw_p32, List.forall_mem_cons.mpr ⟨lw_p33, List.forall_mem_cons.mpr ⟨lw_p34, fun _ h => absurd h List.not_mem_nil⟩⟩⟩
def lw_privs : List (MethodName × Nat) := lw_privs_1 ++ (lw_privs_2 ++ (lw_privs_3))
def lw_tbl : List Cond := k2_sels lw_privs ++ tables_1
theorem lw_privs_ok : ∀ q ∈ lw_privs, lw_okq q := by
  show ∀ q ∈ lw_privs_1 ++ (lw_privs_2 ++ (lw_privs_3)), lw_okq q
  exact List.forall_mem_append.mpr ⟨lw_r1, List.forall_mem_append.mpr ⟨lw_r2, lw_r3⟩⟩
def RX0 : String := "ParkDesk$Cars"
def TX0 : u_T := fun k => match k with
  | 0 => ("ParkDesk$Cars", "zones", "LParkDesk$Zones;", true)
  | 1 => ("ParkDesk$Cars", "count", "I", false)
  | 2 => ("ParkDesk$Cars", "home", "[I", true)
  | 3 => ("ParkDesk$Cars", "limit", "[I", true)
  | 4 => ("ParkDesk$Cars", "permits", "[I", true)
  | 5 => ("ParkDesk$Cars", "cards", "[[I", true)
  | _ => ("ParkDesk$Cars", "order", "[I", true)
def tyX0 : Nat → FieldType := fun k => match k with
  | 0 => .object "ParkDesk$Zones"
  | 1 => .int
  | 2 => .array .int
  | 3 => .array .int
  | 4 => .array .int
  | 5 => .array (.array .int)
  | _ => .array .int
abbrev wsX00 : List Cond := u_ws RX0 TX0 7
theorem nmX0 : ∀ a, a < 7 → ∀ b, b < 7 → a ≠ b → (TX0 a).2.1 ≠ (TX0 b).2.1 := by decide +kernel
theorem tyX0_ok : ∀ k, k < 7 → parseFieldDescriptor (TX0 k).2.2.1 = some (tyX0 k) := by decide +kernel
abbrev cX0_init : ByteArray := prog_2_method_1_code
def yX0_init : MethodName := ⟨RX0, "<init>", "(LParkDesk$Zones;)V"⟩
abbrev cX0_add : ByteArray := prog_2_method_2_code
def yX0_add : MethodName := ⟨RX0, "add", "(I)I"⟩
abbrev cX0_permitBit : ByteArray := prog_2_method_3_code
def yX0_permitBit : MethodName := ⟨RX0, "permitBit", "(II)I"⟩
abbrev cX0_hasPermit : ByteArray := prog_2_method_4_code
def yX0_hasPermit : MethodName := ⟨RX0, "hasPermit", "(III)Z"⟩
abbrev cX0_setPermit : ByteArray := prog_2_method_5_code
def yX0_setPermit : MethodName := ⟨RX0, "setPermit", "(IIIZ)Z"⟩
abbrev cX0_right : ByteArray := prog_2_method_6_code
def yX0_right : MethodName := ⟨RX0, "right", "(III)I"⟩
abbrev cX0_putLast : ByteArray := prog_2_method_7_code
def yX0_putLast : MethodName := ⟨RX0, "putLast", "(I)I"⟩
abbrev cX0_countCards : ByteArray := prog_2_method_8_code
def yX0_countCards : MethodName := ⟨RX0, "countCards", "()I"⟩
def RX1 : String := "ParkDesk$Cheapest"
def TX1 : u_T := fun k => match k with
  | 0 => ("ParkDesk$Cheapest", "price", "[[J", true)
  | 1 => ("ParkDesk$Cheapest", "reach", "[J", true)
  | _ => ("ParkDesk$Cheapest", "comer", "[I", true)
def tyX1 : Nat → FieldType := fun k => match k with
  | 0 => .array (.array .long)
  | 1 => .array .long
  | _ => .array .int
abbrev wsX10 : List Cond := u_ws RX1 TX1 3
theorem nmX1 : ∀ a, a < 3 → ∀ b, b < 3 → a ≠ b → (TX1 a).2.1 ≠ (TX1 b).2.1 := by decide +kernel
theorem tyX1_ok : ∀ k, k < 3 → parseFieldDescriptor (TX1 k).2.2.1 = some (tyX1 k) := by decide +kernel
abbrev cX1_init : ByteArray := prog_3_method_1_code
def yX1_init : MethodName := ⟨RX1, "<init>", "()V"⟩
abbrev cX1_setPrice : ByteArray := prog_3_method_2_code
def yX1_setPrice : MethodName := ⟨RX1, "setPrice", "(III)V"⟩
abbrev cX1_setPriceOut : ByteArray := prog_3_method_3_code
def yX1_setPriceOut : MethodName := ⟨RX1, "setPriceOut", "(I)V"⟩
abbrev cX1_forbid : ByteArray := prog_3_method_4_code
def yX1_forbid : MethodName := ⟨RX1, "forbid", "(II)V"⟩
abbrev cX1_add : ByteArray := prog_3_method_5_code
def yX1_add : MethodName := ⟨RX1, "add", "(I[I[I)V"⟩
abbrev cX1_startAt : ByteArray := prog_3_method_6_code
def yX1_startAt : MethodName := ⟨RX1, "startAt", "(I)V"⟩
abbrev cX1_passOn : ByteArray := prog_3_method_7_code
def yX1_passOn : MethodName := ⟨RX1, "passOn", "(II)Z"⟩
abbrev cX1_cheapestEnd : ByteArray := prog_3_method_8_code
def yX1_cheapestEnd : MethodName := ⟨RX1, "cheapestEnd", "([I)I"⟩
abbrev cX1_shift : ByteArray := prog_3_method_9_code
def yX1_shift : MethodName := ⟨RX1, "shift", "(II[I)V"⟩
def RX2 : String := "ParkDesk$Laying"
def TX2 : u_T := fun k => match k with
  | 0 => ("ParkDesk$Laying", "streets", "LParkDesk$Streets;", true)
  | 1 => ("ParkDesk$Laying", "cars", "LParkDesk$Cars;", true)
  | 2 => ("ParkDesk$Laying", "place", "[I", true)
  | 3 => ("ParkDesk$Laying", "right", "[[I", true)
  | 4 => ("ParkDesk$Laying", "left", "[I", true)
  | _ => ("ParkDesk$Laying", "cheapest", "LParkDesk$Cheapest;", true)
def tyX2 : Nat → FieldType := fun k => match k with
  | 0 => .object "ParkDesk$Streets"
  | 1 => .object "ParkDesk$Cars"
  | 2 => .array .int
  | 3 => .array (.array .int)
  | 4 => .array .int
  | _ => .object "ParkDesk$Cheapest"
abbrev wsX20 : List Cond := u_ws RX2 TX2 6
theorem nmX2 : ∀ a, a < 6 → ∀ b, b < 6 → a ≠ b → (TX2 a).2.1 ≠ (TX2 b).2.1 := by decide +kernel
theorem tyX2_ok : ∀ k, k < 6 → parseFieldDescriptor (TX2 k).2.2.1 = some (tyX2 k) := by decide +kernel
abbrev cX2_init : ByteArray := prog_4_method_1_code
def yX2_init : MethodName := ⟨RX2, "<init>", "(LParkDesk$Streets;LParkDesk$Cars;)V"⟩
abbrev cX2_lay : ByteArray := prog_4_method_2_code
def yX2_lay : MethodName := ⟨RX2, "lay", "(IIZ)V"⟩
abbrev cX2_openBays : ByteArray := prog_4_method_3_code
def yX2_openBays : MethodName := ⟨RX2, "openBays", "(I)V"⟩
abbrev cX2_readRights : ByteArray := prog_4_method_4_code
def yX2_readRights : MethodName := ⟨RX2, "readRights", "(I)V"⟩
abbrev cX2_comeHome : ByteArray := prog_4_method_5_code
def yX2_comeHome : MethodName := ⟨RX2, "comeHome", "()V"⟩
abbrev cX2_choose : ByteArray := prog_4_method_6_code
def yX2_choose : MethodName := ⟨RX2, "choose", "(I)I"⟩
abbrev cX2_isBetter : ByteArray := prog_4_method_7_code
def yX2_isBetter : MethodName := ⟨RX2, "isBetter", "(III)Z"⟩
abbrev cX2_isWithin : ByteArray := prog_4_method_8_code
def yX2_isWithin : MethodName := ⟨RX2, "isWithin", "(II)Z"⟩
abbrev cX2_walkTo : ByteArray := prog_4_method_9_code
def yX2_walkTo : MethodName := ⟨RX2, "walkTo", "(II)I"⟩
abbrev cX2_layLeast : ByteArray := prog_4_method_10_code
def yX2_layLeast : MethodName := ⟨RX2, "layLeast", "()V"⟩
abbrev cX2_tell : ByteArray := prog_4_method_11_code
def yX2_tell : MethodName := ⟨RX2, "tell", "(I)I"⟩
abbrev cX2_tellOne : ByteArray := prog_4_method_12_code
def yX2_tellOne : MethodName := ⟨RX2, "tellOne", "(II)I"⟩
abbrev cX2_standsByCard : ByteArray := prog_4_method_13_code
def yX2_standsByCard : MethodName := ⟨RX2, "standsByCard", "(I)Z"⟩
abbrev cX2_useCards : ByteArray := prog_4_method_14_code
def yX2_useCards : MethodName := ⟨RX2, "useCards", "()I"⟩
def RX3 : String := "ParkDesk$Ratio"
def TX3 : u_T := fun k => match k with
  | 0 => ("ParkDesk$Ratio", "above", "I", true)
  | _ => ("ParkDesk$Ratio", "below", "I", true)
def tyX3 : Nat → FieldType := fun k => match k with
  | 0 => .int
  | _ => .int
abbrev wsX30 : List Cond := u_ws RX3 TX3 2
theorem nmX3 : ∀ a, a < 2 → ∀ b, b < 2 → a ≠ b → (TX3 a).2.1 ≠ (TX3 b).2.1 := by decide +kernel
theorem tyX3_ok : ∀ k, k < 2 → parseFieldDescriptor (TX3 k).2.2.1 = some (tyX3 k) := by decide +kernel
abbrev cX3_init : ByteArray := prog_5_method_1_code
def yX3_init : MethodName := ⟨RX3, "<init>", "(II)V"⟩
abbrev cX3_commonDivisor : ByteArray := prog_5_method_2_code
def yX3_commonDivisor : MethodName := ⟨RX3, "commonDivisor", "(II)I"⟩
abbrev cX3_isBelow : ByteArray := prog_5_method_3_code
def yX3_isBelow : MethodName := ⟨RX3, "isBelow", "(II)Z"⟩
abbrev cX3_part : ByteArray := prog_5_method_4_code
def yX3_part : MethodName := ⟨RX3, "part", "(I)I"⟩
def RX4 : String := "ParkDesk$Streets"
def TX4 : u_T := fun k => match k with
  | 0 => ("ParkDesk$Streets", "count", "I", false)
  | 1 => ("ParkDesk$Streets", "zone", "[I", true)
  | 2 => ("ParkDesk$Streets", "bays", "[I", true)
  | 3 => ("ParkDesk$Streets", "closed", "[[I", true)
  | 4 => ("ParkDesk$Streets", "walk", "[[I", true)
  | _ => ("ParkDesk$Streets", "gain", "[I", true)
def tyX4 : Nat → FieldType := fun k => match k with
  | 0 => .int
  | 1 => .array .int
  | 2 => .array .int
  | 3 => .array (.array .int)
  | 4 => .array (.array .int)
  | _ => .array .int
abbrev wsX40 : List Cond := u_ws RX4 TX4 6
theorem nmX4 : ∀ a, a < 6 → ∀ b, b < 6 → a ≠ b → (TX4 a).2.1 ≠ (TX4 b).2.1 := by decide +kernel
theorem tyX4_ok : ∀ k, k < 6 → parseFieldDescriptor (TX4 k).2.2.1 = some (tyX4 k) := by decide +kernel
abbrev cX4_init : ByteArray := prog_6_method_1_code
def yX4_init : MethodName := ⟨RX4, "<init>", "()V"⟩
abbrev cX4_add : ByteArray := prog_6_method_2_code
def yX4_add : MethodName := ⟨RX4, "add", "(II)I"⟩
abbrev cX4_countBays : ByteArray := prog_6_method_3_code
def yX4_countBays : MethodName := ⟨RX4, "countBays", "()I"⟩
def RX5 : String := "ParkDesk$Tickets"
def TX5 : u_T := fun k => match k with
  | 0 => ("ParkDesk$Tickets", "count", "I", false)
  | _ => ("ParkDesk$Tickets", "row", "[[I", true)
def tyX5 : Nat → FieldType := fun k => match k with
  | 0 => .int
  | _ => .array (.array .int)
abbrev wsX50 : List Cond := u_ws RX5 TX5 2
theorem nmX5 : ∀ a, a < 2 → ∀ b, b < 2 → a ≠ b → (TX5 a).2.1 ≠ (TX5 b).2.1 := by decide +kernel
theorem tyX5_ok : ∀ k, k < 2 → parseFieldDescriptor (TX5 k).2.2.1 = some (tyX5 k) := by decide +kernel
abbrev cX5_init : ByteArray := prog_7_method_1_code
def yX5_init : MethodName := ⟨RX5, "<init>", "()V"⟩
abbrev cX5_add : ByteArray := prog_7_method_2_code
def yX5_add : MethodName := ⟨RX5, "add", "(IIIIII)I"⟩
abbrev cX5_judge : ByteArray := prog_7_method_3_code
def yX5_judge : MethodName := ⟨RX5, "judge", "(II)I"⟩
abbrev cX5_countState : ByteArray := prog_7_method_4_code
def yX5_countState : MethodName := ⟨RX5, "countState", "(I)I"⟩
abbrev cX5_countLikes : ByteArray := prog_7_method_5_code
def yX5_countLikes : MethodName := ⟨RX5, "countLikes", "(II)I"⟩
abbrev cX5_isSameZoneAndHour : ByteArray := prog_7_method_6_code
def yX5_isSameZoneAndHour : MethodName := ⟨RX5, "isSameZoneAndHour", "(II)Z"⟩
abbrev cX5_stateByLikes : ByteArray := prog_7_method_7_code
def yX5_stateByLikes : MethodName := ⟨RX5, "stateByLikes", "(I)I"⟩
def RX6 : String := "ParkDesk$Wardens"
def TX6 : u_T := fun k => match k with
  | 0 => ("ParkDesk$Wardens", "streets", "LParkDesk$Streets;", true)
  | _ => ("ParkDesk$Wardens", "fine", "I", false)
def tyX6 : Nat → FieldType := fun k => match k with
  | 0 => .object "ParkDesk$Streets"
  | _ => .int
abbrev wsX60 : List Cond := u_ws RX6 TX6 2
theorem nmX6 : ∀ a, a < 2 → ∀ b, b < 2 → a ≠ b → (TX6 a).2.1 ≠ (TX6 b).2.1 := by decide +kernel
theorem tyX6_ok : ∀ k, k < 2 → parseFieldDescriptor (TX6 k).2.2.1 = some (tyX6 k) := by decide +kernel
abbrev cX6_init : ByteArray := prog_8_method_1_code
def yX6_init : MethodName := ⟨RX6, "<init>", "(LParkDesk$Streets;)V"⟩
abbrev cX6_greatest : ByteArray := prog_8_method_2_code
def yX6_greatest : MethodName := ⟨RX6, "greatest", "()LParkDesk$Ratio;"⟩
abbrev cX6_chance : ByteArray := prog_8_method_3_code
def yX6_chance : MethodName := ⟨RX6, "chance", "(I)LParkDesk$Ratio;"⟩
def RX7 : String := "ParkDesk$Zones"
def TX7 : u_T := fun k => match k with
  | 0 => ("ParkDesk$Zones", "ruled", "[I", true)
  | _ => ("ParkDesk$Zones", "good", "[[I", true)
def tyX7 : Nat → FieldType := fun k => match k with
  | 0 => .array .int
  | _ => .array (.array .int)
abbrev wsX70 : List Cond := u_ws RX7 TX7 2
theorem nmX7 : ∀ a, a < 2 → ∀ b, b < 2 → a ≠ b → (TX7 a).2.1 ≠ (TX7 b).2.1 := by decide +kernel
theorem tyX7_ok : ∀ k, k < 2 → parseFieldDescriptor (TX7 k).2.2.1 = some (tyX7 k) := by decide +kernel
abbrev cX7_init : ByteArray := prog_9_method_1_code
def yX7_init : MethodName := ⟨RX7, "<init>", "()V"⟩
abbrev cX7_isRuled : ByteArray := prog_9_method_2_code
def yX7_isRuled : MethodName := ⟨RX7, "isRuled", "(II)Z"⟩
abbrev cX7_isGood : ByteArray := prog_9_method_3_code
def yX7_isGood : MethodName := ⟨RX7, "isGood", "(III)Z"⟩
def RX8 : String := "ParkDesk"
def TX8 : u_T := fun k => match k with
  | 0 => ("ParkDesk", "zones", "LParkDesk$Zones;", true)
  | 1 => ("ParkDesk", "streets", "LParkDesk$Streets;", true)
  | 2 => ("ParkDesk", "cars", "LParkDesk$Cars;", true)
  | 3 => ("ParkDesk", "laying", "LParkDesk$Laying;", true)
  | 4 => ("ParkDesk", "wardens", "LParkDesk$Wardens;", true)
  | _ => ("ParkDesk", "tickets", "LParkDesk$Tickets;", true)
def tyX8 : Nat → FieldType := fun k => match k with
  | 0 => .object "ParkDesk$Zones"
  | 1 => .object "ParkDesk$Streets"
  | 2 => .object "ParkDesk$Cars"
  | 3 => .object "ParkDesk$Laying"
  | 4 => .object "ParkDesk$Wardens"
  | _ => .object "ParkDesk$Tickets"
abbrev wsX80 : List Cond := u_ws RX8 TX8 6
theorem nmX8 : ∀ a, a < 6 → ∀ b, b < 6 → a ≠ b → (TX8 a).2.1 ≠ (TX8 b).2.1 := by decide +kernel
theorem tyX8_ok : ∀ k, k < 6 → parseFieldDescriptor (TX8 k).2.2.1 = some (tyX8 k) := by decide +kernel
abbrev cX8_init : ByteArray := prog_1_method_1_code
def yX8_init : MethodName := ⟨RX8, "<init>", "()V"⟩
abbrev cX8_street : ByteArray := prog_1_method_2_code
def yX8_street : MethodName := ⟨RX8, "street", "(II)I"⟩
abbrev cX8_move : ByteArray := prog_1_method_3_code
def yX8_move : MethodName := ⟨RX8, "move", "(II)I"⟩
abbrev cX8_walk : ByteArray := prog_1_method_4_code
def yX8_walk : MethodName := ⟨RX8, "walk", "(III)I"⟩
abbrev cX8_close : ByteArray := prog_1_method_5_code
def yX8_close : MethodName := ⟨RX8, "close", "(III)I"⟩
abbrev cX8_rule : ByteArray := prog_1_method_6_code
def yX8_rule : MethodName := ⟨RX8, "rule", "(III)I"⟩
abbrev cX8_hours : ByteArray := prog_1_method_7_code
def yX8_hours : MethodName := ⟨RX8, "hours", "(IIII)I"⟩
abbrev cX8_car : ByteArray := prog_1_method_8_code
def yX8_car : MethodName := ⟨RX8, "car", "(I)I"⟩
abbrev cX8_permit : ByteArray := prog_1_method_9_code
def yX8_permit : MethodName := ⟨RX8, "permit", "(IIIZ)I"⟩
abbrev cX8_cards : ByteArray := prog_1_method_10_code
def yX8_cards : MethodName := ⟨RX8, "cards", "(III)I"⟩
abbrev cX8_limit : ByteArray := prog_1_method_11_code
def yX8_limit : MethodName := ⟨RX8, "limit", "(II)I"⟩
abbrev cX8_late : ByteArray := prog_1_method_12_code
def yX8_late : MethodName := ⟨RX8, "late", "(I)I"⟩
abbrev cX8_may : ByteArray := prog_1_method_13_code
def yX8_may : MethodName := ⟨RX8, "may", "(III)I"⟩
abbrev cX8_stands : ByteArray := prog_1_method_14_code
def yX8_stands : MethodName := ⟨RX8, "stands", "(IIIZ)I"⟩
abbrev cX8_told : ByteArray := prog_1_method_15_code
def yX8_told : MethodName := ⟨RX8, "told", "(IIIZ)I"⟩
abbrev cX8_keep : ByteArray := prog_1_method_16_code
def yX8_keep : MethodName := ⟨RX8, "keep", "(II)I"⟩
abbrev cX8_moved : ByteArray := prog_1_method_17_code
def yX8_moved : MethodName := ⟨RX8, "moved", "(IIIII)I"⟩
abbrev cX8_gain : ByteArray := prog_1_method_18_code
def yX8_gain : MethodName := ⟨RX8, "gain", "(II)I"⟩
abbrev cX8_fine : ByteArray := prog_1_method_19_code
def yX8_fine : MethodName := ⟨RX8, "fine", "(I)I"⟩
abbrev cX8_turn : ByteArray := prog_1_method_20_code
def yX8_turn : MethodName := ⟨RX8, "turn", "(II)I"⟩
abbrev cX8_stake : ByteArray := prog_1_method_21_code
def yX8_stake : MethodName := ⟨RX8, "stake", "(I)I"⟩
abbrev cX8_ticket : ByteArray := prog_1_method_22_code
def yX8_ticket : MethodName := ⟨RX8, "ticket", "(IIII)I"⟩
abbrev cX8_of : ByteArray := prog_1_method_23_code
def yX8_of : MethodName := ⟨RX8, "of", "(II)I"⟩
abbrev cX8_many : ByteArray := prog_1_method_24_code
def yX8_many : MethodName := ⟨RX8, "many", "(I)I"⟩
abbrev cX8_isUpTo : ByteArray := prog_1_method_25_code
def yX8_isUpTo : MethodName := ⟨RX8, "isUpTo", "(II)Z"⟩
abbrev cX8_isNumbered : ByteArray := prog_1_method_26_code
def yX8_isNumbered : MethodName := ⟨RX8, "isNumbered", "(II)Z"⟩
abbrev cX8_isStreet : ByteArray := prog_1_method_27_code
def yX8_isStreet : MethodName := ⟨RX8, "isStreet", "(I)Z"⟩
abbrev cX8_isCar : ByteArray := prog_1_method_28_code
def yX8_isCar : MethodName := ⟨RX8, "isCar", "(I)Z"⟩
abbrev cX8_isZone : ByteArray := prog_1_method_29_code
def yX8_isZone : MethodName := ⟨RX8, "isZone", "(I)Z"⟩
abbrev cX8_isSort : ByteArray := prog_1_method_30_code
def yX8_isSort : MethodName := ⟨RX8, "isSort", "(I)Z"⟩
abbrev cX8_isNight : ByteArray := prog_1_method_31_code
def yX8_isNight : MethodName := ⟨RX8, "isNight", "(I)Z"⟩
abbrev cX8_isHour : ByteArray := prog_1_method_32_code
def yX8_isHour : MethodName := ⟨RX8, "isHour", "(I)Z"⟩
abbrev cX8_isSpan : ByteArray := prog_1_method_33_code
def yX8_isSpan : MethodName := ⟨RX8, "isSpan", "(II)Z"⟩
abbrev cX8_span : ByteArray := prog_1_method_34_code
def yX8_span : MethodName := ⟨RX8, "span", "(II)I"⟩
def RX9 : String := "ParkDeskModel"
def TX9 : u_T := fun k => match k with
  | 0 => ("ParkDeskModel", "streets", "I", false)
  | 1 => ("ParkDeskModel", "zoneOf", "[I", true)
  | 2 => ("ParkDeskModel", "bays", "[I", true)
  | 3 => ("ParkDeskModel", "closed", "[I", true)
  | 4 => ("ParkDeskModel", "walks", "[I", true)
  | 5 => ("ParkDeskModel", "gains", "[I", true)
  | 6 => ("ParkDeskModel", "cars", "I", false)
  | 7 => ("ParkDeskModel", "homes", "[I", true)
  | 8 => ("ParkDeskModel", "permits", "[Z", true)
  | 9 => ("ParkDeskModel", "cards", "[I", true)
  | 10 => ("ParkDeskModel", "limits", "[I", true)
  | 11 => ("ParkDeskModel", "order", "[I", true)
  | 12 => ("ParkDeskModel", "ruledFrom", "[I", true)
  | 13 => ("ParkDeskModel", "ruledTo", "[I", true)
  | 14 => ("ParkDeskModel", "goodFrom", "[I", true)
  | 15 => ("ParkDeskModel", "goodTo", "[I", true)
  | 16 => ("ParkDeskModel", "fine", "I", false)
  | 17 => ("ParkDeskModel", "tickets", "I", false)
  | 18 => ("ParkDeskModel", "ticketCar", "[I", true)
  | 19 => ("ParkDeskModel", "ticketStreet", "[I", true)
  | 20 => ("ParkDeskModel", "ticketHour", "[I", true)
  | 21 => ("ParkDeskModel", "ticketSign", "[I", true)
  | 22 => ("ParkDeskModel", "ticketZone", "[I", true)
  | 23 => ("ParkDeskModel", "ticketMay", "[I", true)
  | 24 => ("ParkDeskModel", "stand", "[I", true)
  | 25 => ("ParkDeskModel", "best", "[I", true)
  | 26 => ("ParkDeskModel", "free", "[I", true)
  | 27 => ("ParkDeskModel", "mayAt", "[I", true)
  | 28 => ("ParkDeskModel", "above", "I", false)
  | _ => ("ParkDeskModel", "below", "I", false)
def tyX9 : Nat → FieldType := fun k => match k with
  | 0 => .int
  | 1 => .array .int
  | 2 => .array .int
  | 3 => .array .int
  | 4 => .array .int
  | 5 => .array .int
  | 6 => .int
  | 7 => .array .int
  | 8 => .array .boolean
  | 9 => .array .int
  | 10 => .array .int
  | 11 => .array .int
  | 12 => .array .int
  | 13 => .array .int
  | 14 => .array .int
  | 15 => .array .int
  | 16 => .int
  | 17 => .int
  | 18 => .array .int
  | 19 => .array .int
  | 20 => .array .int
  | 21 => .array .int
  | 22 => .array .int
  | 23 => .array .int
  | 24 => .array .int
  | 25 => .array .int
  | 26 => .array .int
  | 27 => .array .int
  | 28 => .int
  | _ => .int
abbrev wsX90 : List Cond := u_ws RX9 TX9 30
theorem nmX9 : ∀ a, a < 30 → ∀ b, b < 30 → a ≠ b → (TX9 a).2.1 ≠ (TX9 b).2.1 := by decide +kernel
theorem tyX9_ok : ∀ k, k < 30 → parseFieldDescriptor (TX9 k).2.2.1 = some (tyX9 k) := by decide +kernel
abbrev cX9_init : ByteArray := prog_11_method_1_code
def yX9_init : MethodName := ⟨RX9, "<init>", "()V"⟩
abbrev cX9_in : ByteArray := prog_11_method_2_code
def yX9_in : MethodName := ⟨RX9, "in", "(III)Z"⟩
abbrev cX9_isStreet : ByteArray := prog_11_method_3_code
def yX9_isStreet : MethodName := ⟨RX9, "isStreet", "(I)Z"⟩
abbrev cX9_isCar : ByteArray := prog_11_method_4_code
def yX9_isCar : MethodName := ⟨RX9, "isCar", "(I)Z"⟩
abbrev cX9_isZone : ByteArray := prog_11_method_5_code
def yX9_isZone : MethodName := ⟨RX9, "isZone", "(I)Z"⟩
abbrev cX9_isSort : ByteArray := prog_11_method_6_code
def yX9_isSort : MethodName := ⟨RX9, "isSort", "(I)Z"⟩
abbrev cX9_isNight : ByteArray := prog_11_method_7_code
def yX9_isNight : MethodName := ⟨RX9, "isNight", "(I)Z"⟩
abbrev cX9_isHour : ByteArray := prog_11_method_8_code
def yX9_isHour : MethodName := ⟨RX9, "isHour", "(I)Z"⟩
abbrev cX9_street : ByteArray := prog_11_method_9_code
def yX9_street : MethodName := ⟨RX9, "street", "(II)I"⟩
abbrev cX9_move : ByteArray := prog_11_method_10_code
def yX9_move : MethodName := ⟨RX9, "move", "(II)I"⟩
abbrev cX9_walk : ByteArray := prog_11_method_11_code
def yX9_walk : MethodName := ⟨RX9, "walk", "(III)I"⟩
abbrev cX9_close : ByteArray := prog_11_method_12_code
def yX9_close : MethodName := ⟨RX9, "close", "(III)I"⟩
abbrev cX9_areHours : ByteArray := prog_11_method_13_code
def yX9_areHours : MethodName := ⟨RX9, "areHours", "(II)Z"⟩
abbrev cX9_rule : ByteArray := prog_11_method_14_code
def yX9_rule : MethodName := ⟨RX9, "rule", "(III)I"⟩
abbrev cX9_hours : ByteArray := prog_11_method_15_code
def yX9_hours : MethodName := ⟨RX9, "hours", "(IIII)I"⟩
abbrev cX9_isWithin : ByteArray := prog_11_method_16_code
def yX9_isWithin : MethodName := ⟨RX9, "isWithin", "(III)Z"⟩
abbrev cX9_car : ByteArray := prog_11_method_17_code
def yX9_car : MethodName := ⟨RX9, "car", "(I)I"⟩
abbrev cX9_permit : ByteArray := prog_11_method_18_code
def yX9_permit : MethodName := ⟨RX9, "permit", "(IIIZ)I"⟩
abbrev cX9_cards : ByteArray := prog_11_method_19_code
def yX9_cards : MethodName := ⟨RX9, "cards", "(III)I"⟩
abbrev cX9_limit : ByteArray := prog_11_method_20_code
def yX9_limit : MethodName := ⟨RX9, "limit", "(II)I"⟩
abbrev cX9_late : ByteArray := prog_11_method_21_code
def yX9_late : MethodName := ⟨RX9, "late", "(I)I"⟩
abbrev cX9_mayIn : ByteArray := prog_11_method_22_code
def yX9_mayIn : MethodName := ⟨RX9, "mayIn", "(III)I"⟩
abbrev cX9_may : ByteArray := prog_11_method_23_code
def yX9_may : MethodName := ⟨RX9, "may", "(III)I"⟩
abbrev cX9_begin : ByteArray := prog_11_method_24_code
def yX9_begin : MethodName := ⟨RX9, "begin", "(II)V"⟩
abbrev cX9_parkOne : ByteArray := prog_11_method_25_code
def yX9_parkOne : MethodName := ⟨RX9, "parkOne", "(I)V"⟩
abbrev cX9_parkNight : ByteArray := prog_11_method_26_code
def yX9_parkNight : MethodName := ⟨RX9, "parkNight", "(II)V"⟩
abbrev cX9_costOf : ByteArray := prog_11_method_27_code
def yX9_costOf : MethodName := ⟨RX9, "costOf", "(II)I"⟩
abbrev cX9_mayTake : ByteArray := prog_11_method_28_code
def yX9_mayTake : MethodName := ⟨RX9, "mayTake", "(II)Z"⟩
abbrev cX9_parkLeast : ByteArray := prog_11_method_29_code
def yX9_parkLeast : MethodName := ⟨RX9, "parkLeast", "(II)V"⟩
abbrev cX9_park : ByteArray := prog_11_method_30_code
def yX9_park : MethodName := ⟨RX9, "park", "(IIZ)V"⟩
abbrev cX9_stands : ByteArray := prog_11_method_31_code
def yX9_stands : MethodName := ⟨RX9, "stands", "(IIIZ)I"⟩
abbrev cX9_sumOf : ByteArray := prog_11_method_32_code
def yX9_sumOf : MethodName := ⟨RX9, "sumOf", "(I)I"⟩
abbrev cX9_told : ByteArray := prog_11_method_33_code
def yX9_told : MethodName := ⟨RX9, "told", "(IIIZ)I"⟩
abbrev cX9_keep : ByteArray := prog_11_method_34_code
def yX9_keep : MethodName := ⟨RX9, "keep", "(II)I"⟩
abbrev cX9_moved : ByteArray := prog_11_method_35_code
def yX9_moved : MethodName := ⟨RX9, "moved", "(IIIII)I"⟩
abbrev cX9_gain : ByteArray := prog_11_method_36_code
def yX9_gain : MethodName := ⟨RX9, "gain", "(II)I"⟩
abbrev cX9_fine : ByteArray := prog_11_method_37_code
def yX9_fine : MethodName := ⟨RX9, "fine", "(I)I"⟩
abbrev cX9_findStake : ByteArray := prog_11_method_38_code
def yX9_findStake : MethodName := ⟨RX9, "findStake", "()V"⟩
abbrev cX9_common : ByteArray := prog_11_method_39_code
def yX9_common : MethodName := ⟨RX9, "common", "(II)I"⟩
abbrev cX9_part : ByteArray := prog_11_method_40_code
def yX9_part : MethodName := ⟨RX9, "part", "(III)I"⟩
abbrev cX9_turn : ByteArray := prog_11_method_41_code
def yX9_turn : MethodName := ⟨RX9, "turn", "(II)I"⟩
abbrev cX9_stake : ByteArray := prog_11_method_42_code
def yX9_stake : MethodName := ⟨RX9, "stake", "(I)I"⟩
abbrev cX9_ticket : ByteArray := prog_11_method_43_code
def yX9_ticket : MethodName := ⟨RX9, "ticket", "(IIII)I"⟩
abbrev cX9_judged : ByteArray := prog_11_method_44_code
def yX9_judged : MethodName := ⟨RX9, "judged", "(I)I"⟩
abbrev cX9_likes : ByteArray := prog_11_method_45_code
def yX9_likes : MethodName := ⟨RX9, "likes", "(II)I"⟩
abbrev cX9_byLikes : ByteArray := prog_11_method_46_code
def yX9_byLikes : MethodName := ⟨RX9, "byLikes", "(I)I"⟩
abbrev cX9_of : ByteArray := prog_11_method_47_code
def yX9_of : MethodName := ⟨RX9, "of", "(II)I"⟩
abbrev cX9_ticketsThat : ByteArray := prog_11_method_48_code
def yX9_ticketsThat : MethodName := ⟨RX9, "ticketsThat", "(I)I"⟩
abbrev cX9_allBays : ByteArray := prog_11_method_49_code
def yX9_allBays : MethodName := ⟨RX9, "allBays", "()I"⟩
abbrev cX9_allCards : ByteArray := prog_11_method_50_code
def yX9_allCards : MethodName := ⟨RX9, "allCards", "()I"⟩
abbrev cX9_many : ByteArray := prog_11_method_51_code
def yX9_many : MethodName := ⟨RX9, "many", "(I)I"⟩
def RL : String := "ParkDeskLaw"
abbrev cL_law : ByteArray := code
def yL_law : MethodName := ⟨RL, "law", "([I)Z"⟩
abbrev vwCl : List vw_C := [(RX0, TX0, 7), (RX1, TX1, 3), (RX2, TX2, 6), (RX3, TX3, 2), (RX4, TX4, 6), (RX5, TX5, 2), (RX6, TX6, 2), (RX7, TX7, 2), (RX8, TX8, 6), (RX9, TX9, 30)]
