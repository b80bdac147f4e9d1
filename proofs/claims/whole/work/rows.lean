section
-- ===== PART A: goes FIRST, ahead of the names: the tables' words, and 'selects' of the private methods out of them =====
/-- a private method of a class that the tables say can be made, by its rows of tables_1 -/
def lw_okq (q : MethodName × Nat) : Prop := (q.1.cls ≠ "java/lang/invoke/MethodHandle" ∧ q.1.cls ≠ "java/lang/invoke/VarHandle") ∧ Cond.instantiable q.1.cls q.2 ∈ tables_1 ∧ Cond.privateMethod q.1 ∈ tables_1 ∧ Cond.instanceMethod q.1 ∈ tables_1
theorem lw_p0 : lw_okq (⟨"ParkDesk", "isStreet", "(I)Z"⟩, 6) := ⟨⟨by decide +kernel, by decide +kernel⟩, List.mem_of_getElem? (i := 12) (by decide +kernel), List.mem_of_getElem? (i := 230) (by decide +kernel), List.mem_of_getElem? (i := 231) (by decide +kernel)⟩
theorem lw_p1 : lw_okq (⟨"ParkDesk", "isCar", "(I)Z"⟩, 6) := ⟨⟨by decide +kernel, by decide +kernel⟩, List.mem_of_getElem? (i := 12) (by decide +kernel), List.mem_of_getElem? (i := 277) (by decide +kernel), List.mem_of_getElem? (i := 278) (by decide +kernel)⟩
theorem lw_p2 : lw_okq (⟨"ParkDesk$Laying", "openBays", "(I)V"⟩, 6) := ⟨⟨by decide +kernel, by decide +kernel⟩, List.mem_of_getElem? (i := 114) (by decide +kernel), List.mem_of_getElem? (i := 332) (by decide +kernel), List.mem_of_getElem? (i := 333) (by decide +kernel)⟩
theorem lw_p3 : lw_okq (⟨"ParkDesk$Laying", "readRights", "(I)V"⟩, 6) := ⟨⟨by decide +kernel, by decide +kernel⟩, List.mem_of_getElem? (i := 114) (by decide +kernel), List.mem_of_getElem? (i := 336) (by decide +kernel), List.mem_of_getElem? (i := 337) (by decide +kernel)⟩
theorem lw_p4 : lw_okq (⟨"ParkDesk$Laying", "layLeast", "()V"⟩, 6) := ⟨⟨by decide +kernel, by decide +kernel⟩, List.mem_of_getElem? (i := 114) (by decide +kernel), List.mem_of_getElem? (i := 341) (by decide +kernel), List.mem_of_getElem? (i := 342) (by decide +kernel)⟩
theorem lw_p5 : lw_okq (⟨"ParkDesk$Laying", "isWithin", "(II)Z"⟩, 6) := ⟨⟨by decide +kernel, by decide +kernel⟩, List.mem_of_getElem? (i := 114) (by decide +kernel), List.mem_of_getElem? (i := 345) (by decide +kernel), List.mem_of_getElem? (i := 346) (by decide +kernel)⟩
theorem lw_p6 : lw_okq (⟨"ParkDesk$Laying", "walkTo", "(II)I"⟩, 6) := ⟨⟨by decide +kernel, by decide +kernel⟩, List.mem_of_getElem? (i := 114) (by decide +kernel), List.mem_of_getElem? (i := 349) (by decide +kernel), List.mem_of_getElem? (i := 350) (by decide +kernel)⟩
theorem lw_p7 : lw_okq (⟨"ParkDesk$Cheapest", "startAt", "(I)V"⟩, 3) := ⟨⟨by decide +kernel, by decide +kernel⟩, List.mem_of_getElem? (i := 121) (by decide +kernel), List.mem_of_getElem? (i := 375) (by decide +kernel), List.mem_of_getElem? (i := 376) (by decide +kernel)⟩
theorem lw_p8 : lw_okq (⟨"ParkDesk$Cheapest", "passOn", "(II)Z"⟩, 3) := ⟨⟨by decide +kernel, by decide +kernel⟩, List.mem_of_getElem? (i := 121) (by decide +kernel), List.mem_of_getElem? (i := 380) (by decide +kernel), List.mem_of_getElem? (i := 381) (by decide +kernel)⟩
theorem lw_p9 : lw_okq (⟨"ParkDesk$Cheapest", "cheapestEnd", "([I)I"⟩, 3) := ⟨⟨by decide +kernel, by decide +kernel⟩, List.mem_of_getElem? (i := 121) (by decide +kernel), List.mem_of_getElem? (i := 384) (by decide +kernel), List.mem_of_getElem? (i := 385) (by decide +kernel)⟩
theorem lw_p10 : lw_okq (⟨"ParkDesk$Cheapest", "shift", "(II[I)V"⟩, 3) := ⟨⟨by decide +kernel, by decide +kernel⟩, List.mem_of_getElem? (i := 121) (by decide +kernel), List.mem_of_getElem? (i := 388) (by decide +kernel), List.mem_of_getElem? (i := 389) (by decide +kernel)⟩
theorem lw_p11 : lw_okq (⟨"ParkDesk$Laying", "comeHome", "()V"⟩, 6) := ⟨⟨by decide +kernel, by decide +kernel⟩, List.mem_of_getElem? (i := 114) (by decide +kernel), List.mem_of_getElem? (i := 392) (by decide +kernel), List.mem_of_getElem? (i := 393) (by decide +kernel)⟩
theorem lw_p12 : lw_okq (⟨"ParkDesk$Laying", "choose", "(I)I"⟩, 6) := ⟨⟨by decide +kernel, by decide +kernel⟩, List.mem_of_getElem? (i := 114) (by decide +kernel), List.mem_of_getElem? (i := 396) (by decide +kernel), List.mem_of_getElem? (i := 397) (by decide +kernel)⟩
theorem lw_p13 : lw_okq (⟨"ParkDesk$Laying", "isBetter", "(III)Z"⟩, 6) := ⟨⟨by decide +kernel, by decide +kernel⟩, List.mem_of_getElem? (i := 114) (by decide +kernel), List.mem_of_getElem? (i := 400) (by decide +kernel), List.mem_of_getElem? (i := 401) (by decide +kernel)⟩
theorem lw_p14 : lw_okq (⟨"ParkDesk$Laying", "tellOne", "(II)I"⟩, 6) := ⟨⟨by decide +kernel, by decide +kernel⟩, List.mem_of_getElem? (i := 114) (by decide +kernel), List.mem_of_getElem? (i := 412) (by decide +kernel), List.mem_of_getElem? (i := 413) (by decide +kernel)⟩
theorem lw_p15 : lw_okq (⟨"ParkDesk$Laying", "standsByCard", "(I)Z"⟩, 6) := ⟨⟨by decide +kernel, by decide +kernel⟩, List.mem_of_getElem? (i := 114) (by decide +kernel), List.mem_of_getElem? (i := 416) (by decide +kernel), List.mem_of_getElem? (i := 417) (by decide +kernel)⟩
def lw_privs_1 : List (MethodName × Nat) := [(⟨"ParkDesk", "isStreet", "(I)Z"⟩, 6), (⟨"ParkDesk", "isCar", "(I)Z"⟩, 6), (⟨"ParkDesk$Laying", "openBays", "(I)V"⟩, 6), (⟨"ParkDesk$Laying", "readRights", "(I)V"⟩, 6), (⟨"ParkDesk$Laying", "layLeast", "()V"⟩, 6), (⟨"ParkDesk$Laying", "isWithin", "(II)Z"⟩, 6), (⟨"ParkDesk$Laying", "walkTo", "(II)I"⟩, 6), (⟨"ParkDesk$Cheapest", "startAt", "(I)V"⟩, 3), (⟨"ParkDesk$Cheapest", "passOn", "(II)Z"⟩, 3), (⟨"ParkDesk$Cheapest", "cheapestEnd", "([I)I"⟩, 3), (⟨"ParkDesk$Cheapest", "shift", "(II[I)V"⟩, 3), (⟨"ParkDesk$Laying", "comeHome", "()V"⟩, 6), (⟨"ParkDesk$Laying", "choose", "(I)I"⟩, 6), (⟨"ParkDesk$Laying", "isBetter", "(III)Z"⟩, 6), (⟨"ParkDesk$Laying", "tellOne", "(II)I"⟩, 6), (⟨"ParkDesk$Laying", "standsByCard", "(I)Z"⟩, 6)]
theorem lw_r1 : ∀ q ∈ lw_privs_1, lw_okq q := List.forall_mem_cons.mpr ⟨lw_p0, List.forall_mem_cons.mpr ⟨lw_p1, List.forall_mem_cons.mpr ⟨lw_p2, List.forall_mem_cons.mpr ⟨lw_p3, List.forall_mem_cons.mpr ⟨lw_p4, List.forall_mem_cons.mpr ⟨lw_p5, List.forall_mem_cons.mpr ⟨lw_p6, List.forall_mem_cons.mpr ⟨lw_p7, List.forall_mem_cons.mpr ⟨lw_p8, List.forall_mem_cons.mpr ⟨lw_p9, List.forall_mem_cons.mpr ⟨lw_p10, List.forall_mem_cons.mpr ⟨lw_p11, List.forall_mem_cons.mpr ⟨lw_p12, List.forall_mem_cons.mpr ⟨lw_p13, List.forall_mem_cons.mpr ⟨lw_p14, List.forall_mem_cons.mpr ⟨lw_p15, fun _ h => absurd h List.not_mem_nil⟩⟩⟩⟩⟩⟩⟩⟩⟩⟩⟩⟩⟩⟩⟩⟩
theorem lw_p16 : lw_okq (⟨"ParkDesk$Tickets", "isSameZoneAndHour", "(II)Z"⟩, 2) := ⟨⟨by decide +kernel, by decide +kernel⟩, List.mem_of_getElem? (i := 174) (by decide +kernel), List.mem_of_getElem? (i := 506) (by decide +kernel), List.mem_of_getElem? (i := 507) (by decide +kernel)⟩
theorem lw_p17 : lw_okq (⟨"ParkDeskModel", "isStreet", "(I)Z"⟩, 30) := ⟨⟨by decide +kernel, by decide +kernel⟩, List.mem_of_getElem? (i := 527) (by decide +kernel), List.mem_of_getElem? (i := 639) (by decide +kernel), List.mem_of_getElem? (i := 640) (by decide +kernel)⟩
theorem lw_p18 : lw_okq (⟨"ParkDeskModel", "isCar", "(I)Z"⟩, 30) := ⟨⟨by decide +kernel, by decide +kernel⟩, List.mem_of_getElem? (i := 527) (by decide +kernel), List.mem_of_getElem? (i := 679) (by decide +kernel), List.mem_of_getElem? (i := 680) (by decide +kernel)⟩
theorem lw_p19 : lw_okq (⟨"ParkDeskModel", "mayIn", "(III)I"⟩, 30) := ⟨⟨by decide +kernel, by decide +kernel⟩, List.mem_of_getElem? (i := 527) (by decide +kernel), List.mem_of_getElem? (i := 699) (by decide +kernel), List.mem_of_getElem? (i := 700) (by decide +kernel)⟩
theorem lw_p20 : lw_okq (⟨"ParkDeskModel", "park", "(IIZ)V"⟩, 30) := ⟨⟨by decide +kernel, by decide +kernel⟩, List.mem_of_getElem? (i := 527) (by decide +kernel), List.mem_of_getElem? (i := 710) (by decide +kernel), List.mem_of_getElem? (i := 711) (by decide +kernel)⟩
theorem lw_p21 : lw_okq (⟨"ParkDeskModel", "parkLeast", "(II)V"⟩, 30) := ⟨⟨by decide +kernel, by decide +kernel⟩, List.mem_of_getElem? (i := 527) (by decide +kernel), List.mem_of_getElem? (i := 714) (by decide +kernel), List.mem_of_getElem? (i := 715) (by decide +kernel)⟩
theorem lw_p22 : lw_okq (⟨"ParkDeskModel", "begin", "(II)V"⟩, 30) := ⟨⟨by decide +kernel, by decide +kernel⟩, List.mem_of_getElem? (i := 527) (by decide +kernel), List.mem_of_getElem? (i := 718) (by decide +kernel), List.mem_of_getElem? (i := 719) (by decide +kernel)⟩
theorem lw_p23 : lw_okq (⟨"ParkDeskModel", "costOf", "(II)I"⟩, 30) := ⟨⟨by decide +kernel, by decide +kernel⟩, List.mem_of_getElem? (i := 527) (by decide +kernel), List.mem_of_getElem? (i := 723) (by decide +kernel), List.mem_of_getElem? (i := 724) (by decide +kernel)⟩
theorem lw_p24 : lw_okq (⟨"ParkDeskModel", "mayTake", "(II)Z"⟩, 30) := ⟨⟨by decide +kernel, by decide +kernel⟩, List.mem_of_getElem? (i := 527) (by decide +kernel), List.mem_of_getElem? (i := 727) (by decide +kernel), List.mem_of_getElem? (i := 728) (by decide +kernel)⟩
theorem lw_p25 : lw_okq (⟨"ParkDeskModel", "parkNight", "(II)V"⟩, 30) := ⟨⟨by decide +kernel, by decide +kernel⟩, List.mem_of_getElem? (i := 527) (by decide +kernel), List.mem_of_getElem? (i := 731) (by decide +kernel), List.mem_of_getElem? (i := 732) (by decide +kernel)⟩
theorem lw_p26 : lw_okq (⟨"ParkDeskModel", "parkOne", "(I)V"⟩, 30) := ⟨⟨by decide +kernel, by decide +kernel⟩, List.mem_of_getElem? (i := 527) (by decide +kernel), List.mem_of_getElem? (i := 735) (by decide +kernel), List.mem_of_getElem? (i := 736) (by decide +kernel)⟩
theorem lw_p27 : lw_okq (⟨"ParkDeskModel", "sumOf", "(I)I"⟩, 30) := ⟨⟨by decide +kernel, by decide +kernel⟩, List.mem_of_getElem? (i := 527) (by decide +kernel), List.mem_of_getElem? (i := 743) (by decide +kernel), List.mem_of_getElem? (i := 744) (by decide +kernel)⟩
theorem lw_p28 : lw_okq (⟨"ParkDeskModel", "findStake", "()V"⟩, 30) := ⟨⟨by decide +kernel, by decide +kernel⟩, List.mem_of_getElem? (i := 527) (by decide +kernel), List.mem_of_getElem? (i := 767) (by decide +kernel), List.mem_of_getElem? (i := 768) (by decide +kernel)⟩
theorem lw_p29 : lw_okq (⟨"ParkDeskModel", "judged", "(I)I"⟩, 30) := ⟨⟨by decide +kernel, by decide +kernel⟩, List.mem_of_getElem? (i := 527) (by decide +kernel), List.mem_of_getElem? (i := 789) (by decide +kernel), List.mem_of_getElem? (i := 790) (by decide +kernel)⟩
theorem lw_p30 : lw_okq (⟨"ParkDeskModel", "byLikes", "(I)I"⟩, 30) := ⟨⟨by decide +kernel, by decide +kernel⟩, List.mem_of_getElem? (i := 527) (by decide +kernel), List.mem_of_getElem? (i := 793) (by decide +kernel), List.mem_of_getElem? (i := 794) (by decide +kernel)⟩
theorem lw_p31 : lw_okq (⟨"ParkDeskModel", "likes", "(II)I"⟩, 30) := ⟨⟨by decide +kernel, by decide +kernel⟩, List.mem_of_getElem? (i := 527) (by decide +kernel), List.mem_of_getElem? (i := 797) (by decide +kernel), List.mem_of_getElem? (i := 798) (by decide +kernel)⟩
def lw_privs_2 : List (MethodName × Nat) := [(⟨"ParkDesk$Tickets", "isSameZoneAndHour", "(II)Z"⟩, 2), (⟨"ParkDeskModel", "isStreet", "(I)Z"⟩, 30), (⟨"ParkDeskModel", "isCar", "(I)Z"⟩, 30), (⟨"ParkDeskModel", "mayIn", "(III)I"⟩, 30), (⟨"ParkDeskModel", "park", "(IIZ)V"⟩, 30), (⟨"ParkDeskModel", "parkLeast", "(II)V"⟩, 30), (⟨"ParkDeskModel", "begin", "(II)V"⟩, 30), (⟨"ParkDeskModel", "costOf", "(II)I"⟩, 30), (⟨"ParkDeskModel", "mayTake", "(II)Z"⟩, 30), (⟨"ParkDeskModel", "parkNight", "(II)V"⟩, 30), (⟨"ParkDeskModel", "parkOne", "(I)V"⟩, 30), (⟨"ParkDeskModel", "sumOf", "(I)I"⟩, 30), (⟨"ParkDeskModel", "findStake", "()V"⟩, 30), (⟨"ParkDeskModel", "judged", "(I)I"⟩, 30), (⟨"ParkDeskModel", "byLikes", "(I)I"⟩, 30), (⟨"ParkDeskModel", "likes", "(II)I"⟩, 30)]
theorem lw_r2 : ∀ q ∈ lw_privs_2, lw_okq q := List.forall_mem_cons.mpr ⟨lw_p16, List.forall_mem_cons.mpr ⟨lw_p17, List.forall_mem_cons.mpr ⟨lw_p18, List.forall_mem_cons.mpr ⟨lw_p19, List.forall_mem_cons.mpr ⟨lw_p20, List.forall_mem_cons.mpr ⟨lw_p21, List.forall_mem_cons.mpr ⟨lw_p22, List.forall_mem_cons.mpr ⟨lw_p23, List.forall_mem_cons.mpr ⟨lw_p24, List.forall_mem_cons.mpr ⟨lw_p25, List.forall_mem_cons.mpr ⟨lw_p26, List.forall_mem_cons.mpr ⟨lw_p27, List.forall_mem_cons.mpr ⟨lw_p28, List.forall_mem_cons.mpr ⟨lw_p29, List.forall_mem_cons.mpr ⟨lw_p30, List.forall_mem_cons.mpr ⟨lw_p31, fun _ h => absurd h List.not_mem_nil⟩⟩⟩⟩⟩⟩⟩⟩⟩⟩⟩⟩⟩⟩⟩⟩
theorem lw_p32 : lw_okq (⟨"ParkDeskModel", "ticketsThat", "(I)I"⟩, 30) := ⟨⟨by decide +kernel, by decide +kernel⟩, List.mem_of_getElem? (i := 527) (by decide +kernel), List.mem_of_getElem? (i := 805) (by decide +kernel), List.mem_of_getElem? (i := 806) (by decide +kernel)⟩
theorem lw_p33 : lw_okq (⟨"ParkDeskModel", "allBays", "()I"⟩, 30) := ⟨⟨by decide +kernel, by decide +kernel⟩, List.mem_of_getElem? (i := 527) (by decide +kernel), List.mem_of_getElem? (i := 809) (by decide +kernel), List.mem_of_getElem? (i := 810) (by decide +kernel)⟩
theorem lw_p34 : lw_okq (⟨"ParkDeskModel", "allCards", "()I"⟩, 30) := ⟨⟨by decide +kernel, by decide +kernel⟩, List.mem_of_getElem? (i := 527) (by decide +kernel), List.mem_of_getElem? (i := 813) (by decide +kernel), List.mem_of_getElem? (i := 814) (by decide +kernel)⟩
def lw_privs_3 : List (MethodName × Nat) := [(⟨"ParkDeskModel", "ticketsThat", "(I)I"⟩, 30), (⟨"ParkDeskModel", "allBays", "()I"⟩, 30), (⟨"ParkDeskModel", "allCards", "()I"⟩, 30)]
theorem lw_r3 : ∀ q ∈ lw_privs_3, lw_okq q := List.forall_mem_cons.mpr ⟨lw_p32, List.forall_mem_cons.mpr ⟨lw_p33, List.forall_mem_cons.mpr ⟨lw_p34, fun _ h => absurd h List.not_mem_nil⟩⟩⟩
def lw_privs : List (MethodName × Nat) := lw_privs_1 ++ (lw_privs_2 ++ (lw_privs_3))
def lw_tbl : List Cond := k2_sels lw_privs ++ tables_1
theorem lw_privs_ok : ∀ q ∈ lw_privs, lw_okq q := by
  show ∀ q ∈ lw_privs_1 ++ (lw_privs_2 ++ (lw_privs_3)), lw_okq q
  exact List.forall_mem_append.mpr ⟨lw_r1, List.forall_mem_append.mpr ⟨lw_r2, lw_r3⟩⟩
def RX0 : String := "ParkDesk$Cars"
def TX0 : u_T := fun k => match k with
  | 0 => ("ParkDesk$Cars", "zones", "LParkDesk$Zones;", true)
  | 1 => ("ParkDesk$Cars", "count", "I", false)
  | 2 => ("ParkDesk$Cars", "home", "[I", true)
  | 3 => ("ParkDesk$Cars", "limit", "[I", true)
  | 4 => ("ParkDesk$Cars", "permits", "[I", true)
  | 5 => ("ParkDesk$Cars", "cards", "[[I", true)
  | _ => ("ParkDesk$Cars", "order", "[I", true)
def tyX0 : Nat → FieldType := fun k => match k with
  | 0 => .object "ParkDesk$Zones"
  | 1 => .int
  | 2 => .array .int
  | 3 => .array .int
  | 4 => .array .int
  | 5 => .array (.array .int)
  | _ => .array .int
abbrev wsX00 : List Cond := u_ws RX0 TX0 7
theorem nmX0 : ∀ a, a < 7 → ∀ b, b < 7 → a ≠ b → (TX0 a).2.1 ≠ (TX0 b).2.1 := by decide +kernel
theorem tyX0_ok : ∀ k, k < 7 → parseFieldDescriptor (TX0 k).2.2.1 = some (tyX0 k) := by decide +kernel
abbrev cX0_init : ByteArray := prog_2_method_1_code
def yX0_init : MethodName := ⟨RX0, "<init>", "(LParkDesk$Zones;)V"⟩
abbrev cX0_add : ByteArray := prog_2_method_2_code
def yX0_add : MethodName := ⟨RX0, "add", "(I)I"⟩
abbrev cX0_permitBit : ByteArray := prog_2_method_3_code
def yX0_permitBit : MethodName := ⟨RX0, "permitBit", "(II)I"⟩
abbrev cX0_hasPermit : ByteArray := prog_2_method_4_code
def yX0_hasPermit : MethodName := ⟨RX0, "hasPermit", "(III)Z"⟩
abbrev cX0_setPermit : ByteArray := prog_2_method_5_code
def yX0_setPermit : MethodName := ⟨RX0, "setPermit", "(IIIZ)Z"⟩
abbrev cX0_right : ByteArray := prog_2_method_6_code
def yX0_right : MethodName := ⟨RX0, "right", "(III)I"⟩
abbrev cX0_putLast : ByteArray := prog_2_method_7_code
def yX0_putLast : MethodName := ⟨RX0, "putLast", "(I)I"⟩
abbrev cX0_countCards : ByteArray := prog_2_method_8_code
def yX0_countCards : MethodName := ⟨RX0, "countCards", "()I"⟩
def RX1 : String := "ParkDesk$Cheapest"
def TX1 : u_T := fun k => match k with
  | 0 => ("ParkDesk$Cheapest", "price", "[[J", true)
  | 1 => ("ParkDesk$Cheapest", "reach", "[J", true)
  | _ => ("ParkDesk$Cheapest", "comer", "[I", true)
def tyX1 : Nat → FieldType := fun k => match k with
  | 0 => .array (.array .long)
  | 1 => .array .long
  | _ => .array .int
abbrev wsX10 : List Cond := u_ws RX1 TX1 3
theorem nmX1 : ∀ a, a < 3 → ∀ b, b < 3 → a ≠ b → (TX1 a).2.1 ≠ (TX1 b).2.1 := by decide +kernel
theorem tyX1_ok : ∀ k, k < 3 → parseFieldDescriptor (TX1 k).2.2.1 = some (tyX1 k) := by decide +kernel
abbrev cX1_init : ByteArray := prog_3_method_1_code
def yX1_init : MethodName := ⟨RX1, "<init>", "()V"⟩
abbrev cX1_setPrice : ByteArray := prog_3_method_2_code
def yX1_setPrice : MethodName := ⟨RX1, "setPrice", "(III)V"⟩
abbrev cX1_setPriceOut : ByteArray := prog_3_method_3_code
def yX1_setPriceOut : MethodName := ⟨RX1, "setPriceOut", "(I)V"⟩
abbrev cX1_forbid : ByteArray := prog_3_method_4_code
def yX1_forbid : MethodName := ⟨RX1, "forbid", "(II)V"⟩
abbrev cX1_add : ByteArray := prog_3_method_5_code
def yX1_add : MethodName := ⟨RX1, "add", "(I[I[I)V"⟩
abbrev cX1_startAt : ByteArray := prog_3_method_6_code
def yX1_startAt : MethodName := ⟨RX1, "startAt", "(I)V"⟩
abbrev cX1_passOn : ByteArray := prog_3_method_7_code
def yX1_passOn : MethodName := ⟨RX1, "passOn", "(II)Z"⟩
abbrev cX1_cheapestEnd : ByteArray := prog_3_method_8_code
def yX1_cheapestEnd : MethodName := ⟨RX1, "cheapestEnd", "([I)I"⟩
abbrev cX1_shift : ByteArray := prog_3_method_9_code
def yX1_shift : MethodName := ⟨RX1, "shift", "(II[I)V"⟩
def RX2 : String := "ParkDesk$Laying"
def TX2 : u_T := fun k => match k with
  | 0 => ("ParkDesk$Laying", "streets", "LParkDesk$Streets;", true)
  | 1 => ("ParkDesk$Laying", "cars", "LParkDesk$Cars;", true)
  | 2 => ("ParkDesk$Laying", "place", "[I", true)
  | 3 => ("ParkDesk$Laying", "right", "[[I", true)
  | 4 => ("ParkDesk$Laying", "left", "[I", true)
  | _ => ("ParkDesk$Laying", "cheapest", "LParkDesk$Cheapest;", true)
def tyX2 : Nat → FieldType := fun k => match k with
  | 0 => .object "ParkDesk$Streets"
  | 1 => .object "ParkDesk$Cars"
  | 2 => .array .int
  | 3 => .array (.array .int)
  | 4 => .array .int
  | _ => .object "ParkDesk$Cheapest"
abbrev wsX20 : List Cond := u_ws RX2 TX2 6
theorem nmX2 : ∀ a, a < 6 → ∀ b, b < 6 → a ≠ b → (TX2 a).2.1 ≠ (TX2 b).2.1 := by decide +kernel
theorem tyX2_ok : ∀ k, k < 6 → parseFieldDescriptor (TX2 k).2.2.1 = some (tyX2 k) := by decide +kernel
abbrev cX2_init : ByteArray := prog_4_method_1_code
def yX2_init : MethodName := ⟨RX2, "<init>", "(LParkDesk$Streets;LParkDesk$Cars;)V"⟩
abbrev cX2_lay : ByteArray := prog_4_method_2_code
def yX2_lay : MethodName := ⟨RX2, "lay", "(IIZ)V"⟩
abbrev cX2_openBays : ByteArray := prog_4_method_3_code
def yX2_openBays : MethodName := ⟨RX2, "openBays", "(I)V"⟩
abbrev cX2_readRights : ByteArray := prog_4_method_4_code
def yX2_readRights : MethodName := ⟨RX2, "readRights", "(I)V"⟩
abbrev cX2_comeHome : ByteArray := prog_4_method_5_code
def yX2_comeHome : MethodName := ⟨RX2, "comeHome", "()V"⟩
abbrev cX2_choose : ByteArray := prog_4_method_6_code
def yX2_choose : MethodName := ⟨RX2, "choose", "(I)I"⟩
abbrev cX2_isBetter : ByteArray := prog_4_method_7_code
def yX2_isBetter : MethodName := ⟨RX2, "isBetter", "(III)Z"⟩
abbrev cX2_isWithin : ByteArray := prog_4_method_8_code
def yX2_isWithin : MethodName := ⟨RX2, "isWithin", "(II)Z"⟩
abbrev cX2_walkTo : ByteArray := prog_4_method_9_code
def yX2_walkTo : MethodName := ⟨RX2, "walkTo", "(II)I"⟩
abbrev cX2_layLeast : ByteArray := prog_4_method_10_code
def yX2_layLeast : MethodName := ⟨RX2, "layLeast", "()V"⟩
abbrev cX2_tell : ByteArray := prog_4_method_11_code
def yX2_tell : MethodName := ⟨RX2, "tell", "(I)I"⟩
abbrev cX2_tellOne : ByteArray := prog_4_method_12_code
def yX2_tellOne : MethodName := ⟨RX2, "tellOne", "(II)I"⟩
abbrev cX2_standsByCard : ByteArray := prog_4_method_13_code
def yX2_standsByCard : MethodName := ⟨RX2, "standsByCard", "(I)Z"⟩
abbrev cX2_useCards : ByteArray := prog_4_method_14_code
def yX2_useCards : MethodName := ⟨RX2, "useCards", "()I"⟩
def RX3 : String := "ParkDesk$Ratio"
def TX3 : u_T := fun k => match k with
  | 0 => ("ParkDesk$Ratio", "above", "I", true)
  | _ => ("ParkDesk$Ratio", "below", "I", true)
def tyX3 : Nat → FieldType := fun k => match k with
  | 0 => .int
  | _ => .int
abbrev wsX30 : List Cond := u_ws RX3 TX3 2
theorem nmX3 : ∀ a, a < 2 → ∀ b, b < 2 → a ≠ b → (TX3 a).2.1 ≠ (TX3 b).2.1 := by decide +kernel
theorem tyX3_ok : ∀ k, k < 2 → parseFieldDescriptor (TX3 k).2.2.1 = some (tyX3 k) := by decide +kernel
abbrev cX3_init : ByteArray := prog_5_method_1_code
def yX3_init : MethodName := ⟨RX3, "<init>", "(II)V"⟩
abbrev cX3_commonDivisor : ByteArray := prog_5_method_2_code
def yX3_commonDivisor : MethodName := ⟨RX3, "commonDivisor", "(II)I"⟩
abbrev cX3_isBelow : ByteArray := prog_5_method_3_code
def yX3_isBelow : MethodName := ⟨RX3, "isBelow", "(II)Z"⟩
abbrev cX3_part : ByteArray := prog_5_method_4_code
def yX3_part : MethodName := ⟨RX3, "part", "(I)I"⟩
def RX4 : String := "ParkDesk$Streets"
def TX4 : u_T := fun k => match k with
  | 0 => ("ParkDesk$Streets", "count", "I", false)
  | 1 => ("ParkDesk$Streets", "zone", "[I", true)
  | 2 => ("ParkDesk$Streets", "bays", "[I", true)
  | 3 => ("ParkDesk$Streets", "closed", "[[I", true)
  | 4 => ("ParkDesk$Streets", "walk", "[[I", true)
  | _ => ("ParkDesk$Streets", "gain", "[I", true)
def tyX4 : Nat → FieldType := fun k => match k with
  | 0 => .int
  | 1 => .array .int
  | 2 => .array .int
  | 3 => .array (.array .int)
  | 4 => .array (.array .int)
  | _ => .array .int
abbrev wsX40 : List Cond := u_ws RX4 TX4 6
theorem nmX4 : ∀ a, a < 6 → ∀ b, b < 6 → a ≠ b → (TX4 a).2.1 ≠ (TX4 b).2.1 := by decide +kernel
theorem tyX4_ok : ∀ k, k < 6 → parseFieldDescriptor (TX4 k).2.2.1 = some (tyX4 k) := by decide +kernel
abbrev cX4_init : ByteArray := prog_6_method_1_code
def yX4_init : MethodName := ⟨RX4, "<init>", "()V"⟩
abbrev cX4_add : ByteArray := prog_6_method_2_code
def yX4_add : MethodName := ⟨RX4, "add", "(II)I"⟩
abbrev cX4_countBays : ByteArray := prog_6_method_3_code
def yX4_countBays : MethodName := ⟨RX4, "countBays", "()I"⟩
def RX5 : String := "ParkDesk$Tickets"
def TX5 : u_T := fun k => match k with
  | 0 => ("ParkDesk$Tickets", "count", "I", false)
  | _ => ("ParkDesk$Tickets", "row", "[[I", true)
def tyX5 : Nat → FieldType := fun k => match k with
  | 0 => .int
  | _ => .array (.array .int)
abbrev wsX50 : List Cond := u_ws RX5 TX5 2
theorem nmX5 : ∀ a, a < 2 → ∀ b, b < 2 → a ≠ b → (TX5 a).2.1 ≠ (TX5 b).2.1 := by decide +kernel
theorem tyX5_ok : ∀ k, k < 2 → parseFieldDescriptor (TX5 k).2.2.1 = some (tyX5 k) := by decide +kernel
abbrev cX5_init : ByteArray := prog_7_method_1_code
def yX5_init : MethodName := ⟨RX5, "<init>", "()V"⟩
abbrev cX5_add : ByteArray := prog_7_method_2_code
def yX5_add : MethodName := ⟨RX5, "add", "(IIIIII)I"⟩
abbrev cX5_judge : ByteArray := prog_7_method_3_code
def yX5_judge : MethodName := ⟨RX5, "judge", "(II)I"⟩
abbrev cX5_countState : ByteArray := prog_7_method_4_code
def yX5_countState : MethodName := ⟨RX5, "countState", "(I)I"⟩
abbrev cX5_countLikes : ByteArray := prog_7_method_5_code
def yX5_countLikes : MethodName := ⟨RX5, "countLikes", "(II)I"⟩
abbrev cX5_isSameZoneAndHour : ByteArray := prog_7_method_6_code
def yX5_isSameZoneAndHour : MethodName := ⟨RX5, "isSameZoneAndHour", "(II)Z"⟩
abbrev cX5_stateByLikes : ByteArray := prog_7_method_7_code
def yX5_stateByLikes : MethodName := ⟨RX5, "stateByLikes", "(I)I"⟩
def RX6 : String := "ParkDesk$Wardens"
def TX6 : u_T := fun k => match k with
  | 0 => ("ParkDesk$Wardens", "streets", "LParkDesk$Streets;", true)
  | _ => ("ParkDesk$Wardens", "fine", "I", false)
def tyX6 : Nat → FieldType := fun k => match k with
  | 0 => .object "ParkDesk$Streets"
  | _ => .int
abbrev wsX60 : List Cond := u_ws RX6 TX6 2
theorem nmX6 : ∀ a, a < 2 → ∀ b, b < 2 → a ≠ b → (TX6 a).2.1 ≠ (TX6 b).2.1 := by decide +kernel
theorem tyX6_ok : ∀ k, k < 2 → parseFieldDescriptor (TX6 k).2.2.1 = some (tyX6 k) := by decide +kernel
abbrev cX6_init : ByteArray := prog_8_method_1_code
def yX6_init : MethodName := ⟨RX6, "<init>", "(LParkDesk$Streets;)V"⟩
abbrev cX6_greatest : ByteArray := prog_8_method_2_code
def yX6_greatest : MethodName := ⟨RX6, "greatest", "()LParkDesk$Ratio;"⟩
abbrev cX6_chance : ByteArray := prog_8_method_3_code
def yX6_chance : MethodName := ⟨RX6, "chance", "(I)LParkDesk$Ratio;"⟩
def RX7 : String := "ParkDesk$Zones"
def TX7 : u_T := fun k => match k with
  | 0 => ("ParkDesk$Zones", "ruled", "[I", true)
  | _ => ("ParkDesk$Zones", "good", "[[I", true)
def tyX7 : Nat → FieldType := fun k => match k with
  | 0 => .array .int
  | _ => .array (.array .int)
abbrev wsX70 : List Cond := u_ws RX7 TX7 2
theorem nmX7 : ∀ a, a < 2 → ∀ b, b < 2 → a ≠ b → (TX7 a).2.1 ≠ (TX7 b).2.1 := by decide +kernel
theorem tyX7_ok : ∀ k, k < 2 → parseFieldDescriptor (TX7 k).2.2.1 = some (tyX7 k) := by decide +kernel
abbrev cX7_init : ByteArray := prog_9_method_1_code
def yX7_init : MethodName := ⟨RX7, "<init>", "()V"⟩
abbrev cX7_isRuled : ByteArray := prog_9_method_2_code
def yX7_isRuled : MethodName := ⟨RX7, "isRuled", "(II)Z"⟩
abbrev cX7_isGood : ByteArray := prog_9_method_3_code
def yX7_isGood : MethodName := ⟨RX7, "isGood", "(III)Z"⟩
def RX8 : String := "ParkDesk"
def TX8 : u_T := fun k => match k with
  | 0 => ("ParkDesk", "zones", "LParkDesk$Zones;", true)
  | 1 => ("ParkDesk", "streets", "LParkDesk$Streets;", true)
  | 2 => ("ParkDesk", "cars", "LParkDesk$Cars;", true)
  | 3 => ("ParkDesk", "laying", "LParkDesk$Laying;", true)
  | 4 => ("ParkDesk", "wardens", "LParkDesk$Wardens;", true)
  | _ => ("ParkDesk", "tickets", "LParkDesk$Tickets;", true)
def tyX8 : Nat → FieldType := fun k => match k with
  | 0 => .object "ParkDesk$Zones"
  | 1 => .object "ParkDesk$Streets"
  | 2 => .object "ParkDesk$Cars"
  | 3 => .object "ParkDesk$Laying"
  | 4 => .object "ParkDesk$Wardens"
  | _ => .object "ParkDesk$Tickets"
abbrev wsX80 : List Cond := u_ws RX8 TX8 6
theorem nmX8 : ∀ a, a < 6 → ∀ b, b < 6 → a ≠ b → (TX8 a).2.1 ≠ (TX8 b).2.1 := by decide +kernel
theorem tyX8_ok : ∀ k, k < 6 → parseFieldDescriptor (TX8 k).2.2.1 = some (tyX8 k) := by decide +kernel
abbrev cX8_init : ByteArray := prog_1_method_1_code
def yX8_init : MethodName := ⟨RX8, "<init>", "()V"⟩
abbrev cX8_street : ByteArray := prog_1_method_2_code
def yX8_street : MethodName := ⟨RX8, "street", "(II)I"⟩
abbrev cX8_move : ByteArray := prog_1_method_3_code
def yX8_move : MethodName := ⟨RX8, "move", "(II)I"⟩
abbrev cX8_walk : ByteArray := prog_1_method_4_code
def yX8_walk : MethodName := ⟨RX8, "walk", "(III)I"⟩
abbrev cX8_close : ByteArray := prog_1_method_5_code
def yX8_close : MethodName := ⟨RX8, "close", "(III)I"⟩
abbrev cX8_rule : ByteArray := prog_1_method_6_code
def yX8_rule : MethodName := ⟨RX8, "rule", "(III)I"⟩
abbrev cX8_hours : ByteArray := prog_1_method_7_code
def yX8_hours : MethodName := ⟨RX8, "hours", "(IIII)I"⟩
abbrev cX8_car : ByteArray := prog_1_method_8_code
def yX8_car : MethodName := ⟨RX8, "car", "(I)I"⟩
abbrev cX8_permit : ByteArray := prog_1_method_9_code
def yX8_permit : MethodName := ⟨RX8, "permit", "(IIIZ)I"⟩
abbrev cX8_cards : ByteArray := prog_1_method_10_code
def yX8_cards : MethodName := ⟨RX8, "cards", "(III)I"⟩
abbrev cX8_limit : ByteArray := prog_1_method_11_code
def yX8_limit : MethodName := ⟨RX8, "limit", "(II)I"⟩
abbrev cX8_late : ByteArray := prog_1_method_12_code
def yX8_late : MethodName := ⟨RX8, "late", "(I)I"⟩
abbrev cX8_may : ByteArray := prog_1_method_13_code
def yX8_may : MethodName := ⟨RX8, "may", "(III)I"⟩
abbrev cX8_stands : ByteArray := prog_1_method_14_code
def yX8_stands : MethodName := ⟨RX8, "stands", "(IIIZ)I"⟩
abbrev cX8_told : ByteArray := prog_1_method_15_code
def yX8_told : MethodName := ⟨RX8, "told", "(IIIZ)I"⟩
abbrev cX8_keep : ByteArray := prog_1_method_16_code
def yX8_keep : MethodName := ⟨RX8, "keep", "(II)I"⟩
abbrev cX8_moved : ByteArray := prog_1_method_17_code
def yX8_moved : MethodName := ⟨RX8, "moved", "(IIIII)I"⟩
abbrev cX8_gain : ByteArray := prog_1_method_18_code
def yX8_gain : MethodName := ⟨RX8, "gain", "(II)I"⟩
abbrev cX8_fine : ByteArray := prog_1_method_19_code
def yX8_fine : MethodName := ⟨RX8, "fine", "(I)I"⟩
abbrev cX8_turn : ByteArray := prog_1_method_20_code
def yX8_turn : MethodName := ⟨RX8, "turn", "(II)I"⟩
abbrev cX8_stake : ByteArray := prog_1_method_21_code
def yX8_stake : MethodName := ⟨RX8, "stake", "(I)I"⟩
abbrev cX8_ticket : ByteArray := prog_1_method_22_code
def yX8_ticket : MethodName := ⟨RX8, "ticket", "(IIII)I"⟩
abbrev cX8_of : ByteArray := prog_1_method_23_code
def yX8_of : MethodName := ⟨RX8, "of", "(II)I"⟩
abbrev cX8_many : ByteArray := prog_1_method_24_code
def yX8_many : MethodName := ⟨RX8, "many", "(I)I"⟩
abbrev cX8_isUpTo : ByteArray := prog_1_method_25_code
def yX8_isUpTo : MethodName := ⟨RX8, "isUpTo", "(II)Z"⟩
abbrev cX8_isNumbered : ByteArray := prog_1_method_26_code
def yX8_isNumbered : MethodName := ⟨RX8, "isNumbered", "(II)Z"⟩
abbrev cX8_isStreet : ByteArray := prog_1_method_27_code
def yX8_isStreet : MethodName := ⟨RX8, "isStreet", "(I)Z"⟩
abbrev cX8_isCar : ByteArray := prog_1_method_28_code
def yX8_isCar : MethodName := ⟨RX8, "isCar", "(I)Z"⟩
abbrev cX8_isZone : ByteArray := prog_1_method_29_code
def yX8_isZone : MethodName := ⟨RX8, "isZone", "(I)Z"⟩
abbrev cX8_isSort : ByteArray := prog_1_method_30_code
def yX8_isSort : MethodName := ⟨RX8, "isSort", "(I)Z"⟩
abbrev cX8_isNight : ByteArray := prog_1_method_31_code
def yX8_isNight : MethodName := ⟨RX8, "isNight", "(I)Z"⟩
abbrev cX8_isHour : ByteArray := prog_1_method_32_code
def yX8_isHour : MethodName := ⟨RX8, "isHour", "(I)Z"⟩
abbrev cX8_isSpan : ByteArray := prog_1_method_33_code
def yX8_isSpan : MethodName := ⟨RX8, "isSpan", "(II)Z"⟩
abbrev cX8_span : ByteArray := prog_1_method_34_code
def yX8_span : MethodName := ⟨RX8, "span", "(II)I"⟩
def RX9 : String := "ParkDeskModel"
def TX9 : u_T := fun k => match k with
  | 0 => ("ParkDeskModel", "streets", "I", false)
  | 1 => ("ParkDeskModel", "zoneOf", "[I", true)
  | 2 => ("ParkDeskModel", "bays", "[I", true)
  | 3 => ("ParkDeskModel", "closed", "[I", true)
  | 4 => ("ParkDeskModel", "walks", "[I", true)
  | 5 => ("ParkDeskModel", "gains", "[I", true)
  | 6 => ("ParkDeskModel", "cars", "I", false)
  | 7 => ("ParkDeskModel", "homes", "[I", true)
  | 8 => ("ParkDeskModel", "permits", "[Z", true)
  | 9 => ("ParkDeskModel", "cards", "[I", true)
  | 10 => ("ParkDeskModel", "limits", "[I", true)
  | 11 => ("ParkDeskModel", "order", "[I", true)
  | 12 => ("ParkDeskModel", "ruledFrom", "[I", true)
  | 13 => ("ParkDeskModel", "ruledTo", "[I", true)
  | 14 => ("ParkDeskModel", "goodFrom", "[I", true)
  | 15 => ("ParkDeskModel", "goodTo", "[I", true)
  | 16 => ("ParkDeskModel", "fine", "I", false)
  | 17 => ("ParkDeskModel", "tickets", "I", false)
  | 18 => ("ParkDeskModel", "ticketCar", "[I", true)
  | 19 => ("ParkDeskModel", "ticketStreet", "[I", true)
  | 20 => ("ParkDeskModel", "ticketHour", "[I", true)
  | 21 => ("ParkDeskModel", "ticketSign", "[I", true)
  | 22 => ("ParkDeskModel", "ticketZone", "[I", true)
  | 23 => ("ParkDeskModel", "ticketMay", "[I", true)
  | 24 => ("ParkDeskModel", "stand", "[I", true)
  | 25 => ("ParkDeskModel", "best", "[I", true)
  | 26 => ("ParkDeskModel", "free", "[I", true)
  | 27 => ("ParkDeskModel", "mayAt", "[I", true)
  | 28 => ("ParkDeskModel", "above", "I", false)
  | _ => ("ParkDeskModel", "below", "I", false)
def tyX9 : Nat → FieldType := fun k => match k with
  | 0 => .int
  | 1 => .array .int
  | 2 => .array .int
  | 3 => .array .int
  | 4 => .array .int
  | 5 => .array .int
  | 6 => .int
  | 7 => .array .int
  | 8 => .array .boolean
  | 9 => .array .int
  | 10 => .array .int
  | 11 => .array .int
  | 12 => .array .int
  | 13 => .array .int
  | 14 => .array .int
  | 15 => .array .int
  | 16 => .int
  | 17 => .int
  | 18 => .array .int
  | 19 => .array .int
  | 20 => .array .int
  | 21 => .array .int
  | 22 => .array .int
  | 23 => .array .int
  | 24 => .array .int
  | 25 => .array .int
  | 26 => .array .int
  | 27 => .array .int
  | 28 => .int
  | _ => .int
abbrev wsX90 : List Cond := u_ws RX9 TX9 30
theorem nmX9 : ∀ a, a < 30 → ∀ b, b < 30 → a ≠ b → (TX9 a).2.1 ≠ (TX9 b).2.1 := by decide +kernel
theorem tyX9_ok : ∀ k, k < 30 → parseFieldDescriptor (TX9 k).2.2.1 = some (tyX9 k) := by decide +kernel
abbrev cX9_init : ByteArray := prog_11_method_1_code
def yX9_init : MethodName := ⟨RX9, "<init>", "()V"⟩
abbrev cX9_in : ByteArray := prog_11_method_2_code
def yX9_in : MethodName := ⟨RX9, "in", "(III)Z"⟩
abbrev cX9_isStreet : ByteArray := prog_11_method_3_code
def yX9_isStreet : MethodName := ⟨RX9, "isStreet", "(I)Z"⟩
abbrev cX9_isCar : ByteArray := prog_11_method_4_code
def yX9_isCar : MethodName := ⟨RX9, "isCar", "(I)Z"⟩
abbrev cX9_isZone : ByteArray := prog_11_method_5_code
def yX9_isZone : MethodName := ⟨RX9, "isZone", "(I)Z"⟩
abbrev cX9_isSort : ByteArray := prog_11_method_6_code
def yX9_isSort : MethodName := ⟨RX9, "isSort", "(I)Z"⟩
abbrev cX9_isNight : ByteArray := prog_11_method_7_code
def yX9_isNight : MethodName := ⟨RX9, "isNight", "(I)Z"⟩
abbrev cX9_isHour : ByteArray := prog_11_method_8_code
def yX9_isHour : MethodName := ⟨RX9, "isHour", "(I)Z"⟩
abbrev cX9_street : ByteArray := prog_11_method_9_code
def yX9_street : MethodName := ⟨RX9, "street", "(II)I"⟩
abbrev cX9_move : ByteArray := prog_11_method_10_code
def yX9_move : MethodName := ⟨RX9, "move", "(II)I"⟩
abbrev cX9_walk : ByteArray := prog_11_method_11_code
def yX9_walk : MethodName := ⟨RX9, "walk", "(III)I"⟩
abbrev cX9_close : ByteArray := prog_11_method_12_code
def yX9_close : MethodName := ⟨RX9, "close", "(III)I"⟩
abbrev cX9_areHours : ByteArray := prog_11_method_13_code
def yX9_areHours : MethodName := ⟨RX9, "areHours", "(II)Z"⟩
abbrev cX9_rule : ByteArray := prog_11_method_14_code
def yX9_rule : MethodName := ⟨RX9, "rule", "(III)I"⟩
abbrev cX9_hours : ByteArray := prog_11_method_15_code
def yX9_hours : MethodName := ⟨RX9, "hours", "(IIII)I"⟩
abbrev cX9_isWithin : ByteArray := prog_11_method_16_code
def yX9_isWithin : MethodName := ⟨RX9, "isWithin", "(III)Z"⟩
abbrev cX9_car : ByteArray := prog_11_method_17_code
def yX9_car : MethodName := ⟨RX9, "car", "(I)I"⟩
abbrev cX9_permit : ByteArray := prog_11_method_18_code
def yX9_permit : MethodName := ⟨RX9, "permit", "(IIIZ)I"⟩
abbrev cX9_cards : ByteArray := prog_11_method_19_code
def yX9_cards : MethodName := ⟨RX9, "cards", "(III)I"⟩
abbrev cX9_limit : ByteArray := prog_11_method_20_code
def yX9_limit : MethodName := ⟨RX9, "limit", "(II)I"⟩
abbrev cX9_late : ByteArray := prog_11_method_21_code
def yX9_late : MethodName := ⟨RX9, "late", "(I)I"⟩
abbrev cX9_mayIn : ByteArray := prog_11_method_22_code
def yX9_mayIn : MethodName := ⟨RX9, "mayIn", "(III)I"⟩
abbrev cX9_may : ByteArray := prog_11_method_23_code
def yX9_may : MethodName := ⟨RX9, "may", "(III)I"⟩
abbrev cX9_begin : ByteArray := prog_11_method_24_code
def yX9_begin : MethodName := ⟨RX9, "begin", "(II)V"⟩
abbrev cX9_parkOne : ByteArray := prog_11_method_25_code
def yX9_parkOne : MethodName := ⟨RX9, "parkOne", "(I)V"⟩
abbrev cX9_parkNight : ByteArray := prog_11_method_26_code
def yX9_parkNight : MethodName := ⟨RX9, "parkNight", "(II)V"⟩
abbrev cX9_costOf : ByteArray := prog_11_method_27_code
def yX9_costOf : MethodName := ⟨RX9, "costOf", "(II)I"⟩
abbrev cX9_mayTake : ByteArray := prog_11_method_28_code
def yX9_mayTake : MethodName := ⟨RX9, "mayTake", "(II)Z"⟩
abbrev cX9_parkLeast : ByteArray := prog_11_method_29_code
def yX9_parkLeast : MethodName := ⟨RX9, "parkLeast", "(II)V"⟩
abbrev cX9_park : ByteArray := prog_11_method_30_code
def yX9_park : MethodName := ⟨RX9, "park", "(IIZ)V"⟩
abbrev cX9_stands : ByteArray := prog_11_method_31_code
def yX9_stands : MethodName := ⟨RX9, "stands", "(IIIZ)I"⟩
abbrev cX9_sumOf : ByteArray := prog_11_method_32_code
def yX9_sumOf : MethodName := ⟨RX9, "sumOf", "(I)I"⟩
abbrev cX9_told : ByteArray := prog_11_method_33_code
def yX9_told : MethodName := ⟨RX9, "told", "(IIIZ)I"⟩
abbrev cX9_keep : ByteArray := prog_11_method_34_code
def yX9_keep : MethodName := ⟨RX9, "keep", "(II)I"⟩
abbrev cX9_moved : ByteArray := prog_11_method_35_code
def yX9_moved : MethodName := ⟨RX9, "moved", "(IIIII)I"⟩
abbrev cX9_gain : ByteArray := prog_11_method_36_code
def yX9_gain : MethodName := ⟨RX9, "gain", "(II)I"⟩
abbrev cX9_fine : ByteArray := prog_11_method_37_code
def yX9_fine : MethodName := ⟨RX9, "fine", "(I)I"⟩
abbrev cX9_findStake : ByteArray := prog_11_method_38_code
def yX9_findStake : MethodName := ⟨RX9, "findStake", "()V"⟩
abbrev cX9_common : ByteArray := prog_11_method_39_code
def yX9_common : MethodName := ⟨RX9, "common", "(II)I"⟩
abbrev cX9_part : ByteArray := prog_11_method_40_code
def yX9_part : MethodName := ⟨RX9, "part", "(III)I"⟩
abbrev cX9_turn : ByteArray := prog_11_method_41_code
def yX9_turn : MethodName := ⟨RX9, "turn", "(II)I"⟩
abbrev cX9_stake : ByteArray := prog_11_method_42_code
def yX9_stake : MethodName := ⟨RX9, "stake", "(I)I"⟩
abbrev cX9_ticket : ByteArray := prog_11_method_43_code
def yX9_ticket : MethodName := ⟨RX9, "ticket", "(IIII)I"⟩
abbrev cX9_judged : ByteArray := prog_11_method_44_code
def yX9_judged : MethodName := ⟨RX9, "judged", "(I)I"⟩
abbrev cX9_likes : ByteArray := prog_11_method_45_code
def yX9_likes : MethodName := ⟨RX9, "likes", "(II)I"⟩
abbrev cX9_byLikes : ByteArray := prog_11_method_46_code
def yX9_byLikes : MethodName := ⟨RX9, "byLikes", "(I)I"⟩
abbrev cX9_of : ByteArray := prog_11_method_47_code
def yX9_of : MethodName := ⟨RX9, "of", "(II)I"⟩
abbrev cX9_ticketsThat : ByteArray := prog_11_method_48_code
def yX9_ticketsThat : MethodName := ⟨RX9, "ticketsThat", "(I)I"⟩
abbrev cX9_allBays : ByteArray := prog_11_method_49_code
def yX9_allBays : MethodName := ⟨RX9, "allBays", "()I"⟩
abbrev cX9_allCards : ByteArray := prog_11_method_50_code
def yX9_allCards : MethodName := ⟨RX9, "allCards", "()I"⟩
abbrev cX9_many : ByteArray := prog_11_method_51_code
def yX9_many : MethodName := ⟨RX9, "many", "(I)I"⟩
def RL : String := "ParkDeskLaw"
abbrev cL_law : ByteArray := code
def yL_law : MethodName := ⟨RL, "law", "([I)Z"⟩
abbrev vwCl : List vw_C := [(RX0, TX0, 7), (RX1, TX1, 3), (RX2, TX2, 6), (RX3, TX3, 2), (RX4, TX4, 6), (RX5, TX5, 2), (RX6, TX6, 2), (RX7, TX7, 2), (RX8, TX8, 6), (RX9, TX9, 30)]
end
section
theorem dX0_init_0 : decode cX0_init 0 = .ok (.aload_n 0, 1) := by decide +kernel
theorem dX0_init_1 : decode cX0_init 1 = .ok (.invokespecial 3, 3) := by decide +kernel
theorem dX0_init_4 : decode cX0_init 4 = .ok (.aload_n 0, 1) := by decide +kernel
theorem dX0_init_5 : decode cX0_init 5 = .ok (.iconst 0, 1) := by decide +kernel
theorem dX0_init_6 : decode cX0_init 6 = .ok (.putfield 9, 3) := by decide +kernel
theorem dX0_init_9 : decode cX0_init 9 = .ok (.aload_n 0, 1) := by decide +kernel
theorem dX0_init_10 : decode cX0_init 10 = .ok (.bipush 7, 2) := by decide +kernel
theorem dX0_init_12 : decode cX0_init 12 = .ok (.newarray .int, 2) := by decide +kernel
theorem dX0_init_14 : decode cX0_init 14 = .ok (.putfield 15, 3) := by decide +kernel
theorem dX0_init_17 : decode cX0_init 17 = .ok (.aload_n 0, 1) := by decide +kernel
theorem dX0_init_18 : decode cX0_init 18 = .ok (.bipush 7, 2) := by decide +kernel
theorem dX0_init_20 : decode cX0_init 20 = .ok (.newarray .int, 2) := by decide +kernel
theorem dX0_init_22 : decode cX0_init 22 = .ok (.putfield 19, 3) := by decide +kernel
theorem dX0_init_25 : decode cX0_init 25 = .ok (.aload_n 0, 1) := by decide +kernel
theorem dX0_init_26 : decode cX0_init 26 = .ok (.bipush 7, 2) := by decide +kernel
theorem dX0_init_28 : decode cX0_init 28 = .ok (.newarray .int, 2) := by decide +kernel
theorem dX0_init_30 : decode cX0_init 30 = .ok (.putfield 22, 3) := by decide +kernel
theorem dX0_init_33 : decode cX0_init 33 = .ok (.aload_n 0, 1) := by decide +kernel
theorem dX0_init_34 : decode cX0_init 34 = .ok (.bipush 7, 2) := by decide +kernel
theorem dX0_init_36 : decode cX0_init 36 = .ok (.iconst 4, 1) := by decide +kernel
theorem dX0_init_37 : decode cX0_init 37 = .ok (.multianewarray 25 2, 4) := by decide +kernel
theorem dX0_init_41 : decode cX0_init 41 = .ok (.putfield 27, 3) := by decide +kernel
theorem dX0_init_44 : decode cX0_init 44 = .ok (.aload_n 0, 1) := by decide +kernel
theorem dX0_init_45 : decode cX0_init 45 = .ok (.bipush 7, 2) := by decide +kernel
theorem dX0_init_47 : decode cX0_init 47 = .ok (.newarray .int, 2) := by decide +kernel
theorem dX0_init_49 : decode cX0_init 49 = .ok (.putfield 30, 3) := by decide +kernel
theorem dX0_init_52 : decode cX0_init 52 = .ok (.aload_n 0, 1) := by decide +kernel
theorem dX0_init_53 : decode cX0_init 53 = .ok (.aload_n 1, 1) := by decide +kernel
theorem dX0_init_54 : decode cX0_init 54 = .ok (.putfield 33, 3) := by decide +kernel
theorem dX0_init_57 : decode cX0_init 57 = .ok (.return_, 1) := by decide +kernel
theorem dX0_add_0 : decode cX0_add 0 = .ok (.aload_n 0, 1) := by decide +kernel
theorem dX0_add_1 : decode cX0_add 1 = .ok (.getfield 9, 3) := by decide +kernel
theorem dX0_add_4 : decode cX0_add 4 = .ok (.bipush 7, 2) := by decide +kernel
theorem dX0_add_6 : decode cX0_add 6 = .ok (.if_icmp .lt 6, 3) := by decide +kernel
theorem dX0_add_9 : decode cX0_add 9 = .ok (.bipush (-2), 2) := by decide +kernel
theorem dX0_add_11 : decode cX0_add 11 = .ok (.ireturn, 1) := by decide +kernel
theorem dX0_add_12 : decode cX0_add 12 = .ok (.aload_n 0, 1) := by decide +kernel
theorem dX0_add_13 : decode cX0_add 13 = .ok (.getfield 15, 3) := by decide +kernel
theorem dX0_add_16 : decode cX0_add 16 = .ok (.aload_n 0, 1) := by decide +kernel
theorem dX0_add_17 : decode cX0_add 17 = .ok (.getfield 9, 3) := by decide +kernel
theorem dX0_add_20 : decode cX0_add 20 = .ok (.iload_n 1, 1) := by decide +kernel
theorem dX0_add_21 : decode cX0_add 21 = .ok (.iastore, 1) := by decide +kernel
theorem dX0_add_22 : decode cX0_add 22 = .ok (.aload_n 0, 1) := by decide +kernel
theorem dX0_add_23 : decode cX0_add 23 = .ok (.getfield 19, 3) := by decide +kernel
theorem dX0_add_26 : decode cX0_add 26 = .ok (.aload_n 0, 1) := by decide +kernel
theorem dX0_add_27 : decode cX0_add 27 = .ok (.getfield 9, 3) := by decide +kernel
theorem dX0_add_30 : decode cX0_add 30 = .ok (.bipush 99, 2) := by decide +kernel
theorem dX0_add_32 : decode cX0_add 32 = .ok (.iastore, 1) := by decide +kernel
theorem dX0_add_33 : decode cX0_add 33 = .ok (.aload_n 0, 1) := by decide +kernel
theorem dX0_add_34 : decode cX0_add 34 = .ok (.getfield 30, 3) := by decide +kernel
theorem dX0_add_37 : decode cX0_add 37 = .ok (.aload_n 0, 1) := by decide +kernel
theorem dX0_add_38 : decode cX0_add 38 = .ok (.getfield 9, 3) := by decide +kernel
theorem dX0_add_41 : decode cX0_add 41 = .ok (.aload_n 0, 1) := by decide +kernel
theorem dX0_add_42 : decode cX0_add 42 = .ok (.getfield 9, 3) := by decide +kernel
theorem dX0_add_45 : decode cX0_add 45 = .ok (.iastore, 1) := by decide +kernel
theorem dX0_add_46 : decode cX0_add 46 = .ok (.aload_n 0, 1) := by decide +kernel
theorem dX0_add_47 : decode cX0_add 47 = .ok (.dup, 1) := by decide +kernel
theorem dX0_add_48 : decode cX0_add 48 = .ok (.getfield 9, 3) := by decide +kernel
theorem dX0_add_51 : decode cX0_add 51 = .ok (.iconst 1, 1) := by decide +kernel
theorem dX0_add_52 : decode cX0_add 52 = .ok (.iadd, 1) := by decide +kernel
theorem dX0_add_53 : decode cX0_add 53 = .ok (.putfield 9, 3) := by decide +kernel
theorem dX0_add_56 : decode cX0_add 56 = .ok (.aload_n 0, 1) := by decide +kernel
theorem dX0_add_57 : decode cX0_add 57 = .ok (.getfield 9, 3) := by decide +kernel
theorem dX0_add_60 : decode cX0_add 60 = .ok (.iconst 1, 1) := by decide +kernel
theorem dX0_add_61 : decode cX0_add 61 = .ok (.isub, 1) := by decide +kernel
theorem dX0_add_62 : decode cX0_add 62 = .ok (.ireturn, 1) := by decide +kernel
theorem dX0_permitBit_0 : decode cX0_permitBit 0 = .ok (.iconst 1, 1) := by decide +kernel
theorem dX0_permitBit_1 : decode cX0_permitBit 1 = .ok (.iload_n 1, 1) := by decide +kernel
theorem dX0_permitBit_2 : decode cX0_permitBit 2 = .ok (.iconst 3, 1) := by decide +kernel
theorem dX0_permitBit_3 : decode cX0_permitBit 3 = .ok (.imul, 1) := by decide +kernel
theorem dX0_permitBit_4 : decode cX0_permitBit 4 = .ok (.iload_n 0, 1) := by decide +kernel
theorem dX0_permitBit_5 : decode cX0_permitBit 5 = .ok (.iadd, 1) := by decide +kernel
theorem dX0_permitBit_6 : decode cX0_permitBit 6 = .ok (.ishl, 1) := by decide +kernel
theorem dX0_permitBit_7 : decode cX0_permitBit 7 = .ok (.ireturn, 1) := by decide +kernel
theorem dX0_hasPermit_0 : decode cX0_hasPermit 0 = .ok (.aload_n 0, 1) := by decide +kernel
theorem dX0_hasPermit_1 : decode cX0_hasPermit 1 = .ok (.getfield 22, 3) := by decide +kernel
theorem dX0_hasPermit_4 : decode cX0_hasPermit 4 = .ok (.iload_n 1, 1) := by decide +kernel
theorem dX0_hasPermit_5 : decode cX0_hasPermit 5 = .ok (.iaload, 1) := by decide +kernel
theorem dX0_hasPermit_6 : decode cX0_hasPermit 6 = .ok (.iload_n 2, 1) := by decide +kernel
theorem dX0_hasPermit_7 : decode cX0_hasPermit 7 = .ok (.iload_n 3, 1) := by decide +kernel
theorem dX0_hasPermit_8 : decode cX0_hasPermit 8 = .ok (.invokestatic 37, 3) := by decide +kernel
theorem dX0_hasPermit_11 : decode cX0_hasPermit 11 = .ok (.iand, 1) := by decide +kernel
theorem dX0_hasPermit_12 : decode cX0_hasPermit 12 = .ok (.ifCond .eq 7, 3) := by decide +kernel
theorem dX0_hasPermit_15 : decode cX0_hasPermit 15 = .ok (.iconst 1, 1) := by decide +kernel
theorem dX0_hasPermit_16 : decode cX0_hasPermit 16 = .ok (.goto 4, 3) := by decide +kernel
theorem dX0_hasPermit_19 : decode cX0_hasPermit 19 = .ok (.iconst 0, 1) := by decide +kernel
theorem dX0_hasPermit_20 : decode cX0_hasPermit 20 = .ok (.ireturn, 1) := by decide +kernel
theorem dX0_setPermit_0 : decode cX0_setPermit 0 = .ok (.aload_n 0, 1) := by decide +kernel
theorem dX0_setPermit_1 : decode cX0_setPermit 1 = .ok (.iload_n 1, 1) := by decide +kernel
theorem dX0_setPermit_2 : decode cX0_setPermit 2 = .ok (.iload_n 2, 1) := by decide +kernel
theorem dX0_setPermit_3 : decode cX0_setPermit 3 = .ok (.iload_n 3, 1) := by decide +kernel
theorem dX0_setPermit_4 : decode cX0_setPermit 4 = .ok (.invokevirtual 41, 3) := by decide +kernel
theorem dX0_setPermit_7 : decode cX0_setPermit 7 = .ok (.iload 4, 2) := by decide +kernel
theorem dX0_setPermit_9 : decode cX0_setPermit 9 = .ok (.if_icmp .ne 5, 3) := by decide +kernel
theorem dX0_setPermit_12 : decode cX0_setPermit 12 = .ok (.iconst 0, 1) := by decide +kernel
theorem dX0_setPermit_13 : decode cX0_setPermit 13 = .ok (.ireturn, 1) := by decide +kernel
theorem dX0_setPermit_14 : decode cX0_setPermit 14 = .ok (.aload_n 0, 1) := by decide +kernel
theorem dX0_setPermit_15 : decode cX0_setPermit 15 = .ok (.getfield 22, 3) := by decide +kernel
theorem dX0_setPermit_18 : decode cX0_setPermit 18 = .ok (.iload_n 1, 1) := by decide +kernel
theorem dX0_setPermit_19 : decode cX0_setPermit 19 = .ok (.dup2, 1) := by decide +kernel
theorem dX0_setPermit_20 : decode cX0_setPermit 20 = .ok (.iaload, 1) := by decide +kernel
theorem dX0_setPermit_21 : decode cX0_setPermit 21 = .ok (.iload_n 2, 1) := by decide +kernel
theorem dX0_setPermit_22 : decode cX0_setPermit 22 = .ok (.iload_n 3, 1) := by decide +kernel
theorem dX0_setPermit_23 : decode cX0_setPermit 23 = .ok (.invokestatic 37, 3) := by decide +kernel
theorem dX0_setPermit_26 : decode cX0_setPermit 26 = .ok (.ixor, 1) := by decide +kernel
theorem dX0_setPermit_27 : decode cX0_setPermit 27 = .ok (.iastore, 1) := by decide +kernel
theorem dX0_setPermit_28 : decode cX0_setPermit 28 = .ok (.iconst 1, 1) := by decide +kernel
theorem dX0_setPermit_29 : decode cX0_setPermit 29 = .ok (.ireturn, 1) := by decide +kernel
theorem dX0_right_0 : decode cX0_right 0 = .ok (.aload_n 0, 1) := by decide +kernel
theorem dX0_right_1 : decode cX0_right 1 = .ok (.getfield 33, 3) := by decide +kernel
theorem dX0_right_4 : decode cX0_right 4 = .ok (.iload_n 2, 1) := by decide +kernel
theorem dX0_right_5 : decode cX0_right 5 = .ok (.iload_n 3, 1) := by decide +kernel
theorem dX0_right_6 : decode cX0_right 6 = .ok (.invokevirtual 45, 3) := by decide +kernel
theorem dX0_right_9 : decode cX0_right 9 = .ok (.ifCond .ne 5, 3) := by decide +kernel
theorem dX0_right_12 : decode cX0_right 12 = .ok (.iconst 2, 1) := by decide +kernel
theorem dX0_right_13 : decode cX0_right 13 = .ok (.ireturn, 1) := by decide +kernel
theorem dX0_right_14 : decode cX0_right 14 = .ok (.iconst 0, 1) := by decide +kernel
theorem dX0_right_15 : decode cX0_right 15 = .ok (.istore 4, 2) := by decide +kernel
theorem dX0_right_17 : decode cX0_right 17 = .ok (.iload 4, 2) := by decide +kernel
theorem dX0_right_19 : decode cX0_right 19 = .ok (.iconst 3, 1) := by decide +kernel
theorem dX0_right_20 : decode cX0_right 20 = .ok (.if_icmp .ge 36, 3) := by decide +kernel
theorem dX0_right_23 : decode cX0_right 23 = .ok (.aload_n 0, 1) := by decide +kernel
theorem dX0_right_24 : decode cX0_right 24 = .ok (.iload_n 1, 1) := by decide +kernel
theorem dX0_right_25 : decode cX0_right 25 = .ok (.iload 4, 2) := by decide +kernel
theorem dX0_right_27 : decode cX0_right 27 = .ok (.iload_n 2, 1) := by decide +kernel
theorem dX0_right_28 : decode cX0_right 28 = .ok (.invokevirtual 41, 3) := by decide +kernel
theorem dX0_right_31 : decode cX0_right 31 = .ok (.ifCond .eq 19, 3) := by decide +kernel
theorem dX0_right_34 : decode cX0_right 34 = .ok (.aload_n 0, 1) := by decide +kernel
theorem dX0_right_35 : decode cX0_right 35 = .ok (.getfield 33, 3) := by decide +kernel
theorem dX0_right_38 : decode cX0_right 38 = .ok (.iload_n 2, 1) := by decide +kernel
theorem dX0_right_39 : decode cX0_right 39 = .ok (.iload 4, 2) := by decide +kernel
theorem dX0_right_41 : decode cX0_right 41 = .ok (.iload_n 3, 1) := by decide +kernel
theorem dX0_right_42 : decode cX0_right 42 = .ok (.invokevirtual 51, 3) := by decide +kernel
theorem dX0_right_45 : decode cX0_right 45 = .ok (.ifCond .eq 5, 3) := by decide +kernel
theorem dX0_right_48 : decode cX0_right 48 = .ok (.iconst 2, 1) := by decide +kernel
theorem dX0_right_49 : decode cX0_right 49 = .ok (.ireturn, 1) := by decide +kernel
theorem dX0_right_50 : decode cX0_right 50 = .ok (.iinc 4 1, 3) := by decide +kernel
theorem dX0_right_53 : decode cX0_right 53 = .ok (.goto (-36), 3) := by decide +kernel
theorem dX0_right_56 : decode cX0_right 56 = .ok (.aload_n 0, 1) := by decide +kernel
theorem dX0_right_57 : decode cX0_right 57 = .ok (.getfield 27, 3) := by decide +kernel
theorem dX0_right_60 : decode cX0_right 60 = .ok (.iload_n 1, 1) := by decide +kernel
theorem dX0_right_61 : decode cX0_right 61 = .ok (.aaload, 1) := by decide +kernel
theorem dX0_right_62 : decode cX0_right 62 = .ok (.iload_n 2, 1) := by decide +kernel
theorem dX0_right_63 : decode cX0_right 63 = .ok (.iaload, 1) := by decide +kernel
theorem dX0_right_64 : decode cX0_right 64 = .ok (.ifCond .le 7, 3) := by decide +kernel
theorem dX0_right_67 : decode cX0_right 67 = .ok (.iconst 1, 1) := by decide +kernel
theorem dX0_right_68 : decode cX0_right 68 = .ok (.goto 4, 3) := by decide +kernel
theorem dX0_right_71 : decode cX0_right 71 = .ok (.iconst 0, 1) := by decide +kernel
theorem dX0_right_72 : decode cX0_right 72 = .ok (.ireturn, 1) := by decide +kernel
theorem dX0_putLast_0 : decode cX0_putLast 0 = .ok (.iconst 0, 1) := by decide +kernel
theorem dX0_putLast_1 : decode cX0_putLast 1 = .ok (.istore_n 2, 1) := by decide +kernel
theorem dX0_putLast_2 : decode cX0_putLast 2 = .ok (.iconst 0, 1) := by decide +kernel
theorem dX0_putLast_3 : decode cX0_putLast 3 = .ok (.istore_n 3, 1) := by decide +kernel
theorem dX0_putLast_4 : decode cX0_putLast 4 = .ok (.iconst 0, 1) := by decide +kernel
theorem dX0_putLast_5 : decode cX0_putLast 5 = .ok (.istore 4, 2) := by decide +kernel
theorem dX0_putLast_7 : decode cX0_putLast 7 = .ok (.iload 4, 2) := by decide +kernel
theorem dX0_putLast_9 : decode cX0_putLast 9 = .ok (.aload_n 0, 1) := by decide +kernel
theorem dX0_putLast_10 : decode cX0_putLast 10 = .ok (.getfield 9, 3) := by decide +kernel
theorem dX0_putLast_13 : decode cX0_putLast 13 = .ok (.if_icmp .ge 52, 3) := by decide +kernel
theorem dX0_putLast_16 : decode cX0_putLast 16 = .ok (.iload_n 3, 1) := by decide +kernel
theorem dX0_putLast_17 : decode cX0_putLast 17 = .ok (.ifCond .eq 25, 3) := by decide +kernel
theorem dX0_putLast_20 : decode cX0_putLast 20 = .ok (.aload_n 0, 1) := by decide +kernel
theorem dX0_putLast_21 : decode cX0_putLast 21 = .ok (.getfield 30, 3) := by decide +kernel
theorem dX0_putLast_24 : decode cX0_putLast 24 = .ok (.iload 4, 2) := by decide +kernel
theorem dX0_putLast_26 : decode cX0_putLast 26 = .ok (.iconst 1, 1) := by decide +kernel
theorem dX0_putLast_27 : decode cX0_putLast 27 = .ok (.isub, 1) := by decide +kernel
theorem dX0_putLast_28 : decode cX0_putLast 28 = .ok (.aload_n 0, 1) := by decide +kernel
theorem dX0_putLast_29 : decode cX0_putLast 29 = .ok (.getfield 30, 3) := by decide +kernel
theorem dX0_putLast_32 : decode cX0_putLast 32 = .ok (.iload 4, 2) := by decide +kernel
theorem dX0_putLast_34 : decode cX0_putLast 34 = .ok (.iaload, 1) := by decide +kernel
theorem dX0_putLast_35 : decode cX0_putLast 35 = .ok (.iastore, 1) := by decide +kernel
theorem dX0_putLast_36 : decode cX0_putLast 36 = .ok (.iinc 2 1, 3) := by decide +kernel
theorem dX0_putLast_39 : decode cX0_putLast 39 = .ok (.goto 20, 3) := by decide +kernel
theorem dX0_putLast_42 : decode cX0_putLast 42 = .ok (.aload_n 0, 1) := by decide +kernel
theorem dX0_putLast_43 : decode cX0_putLast 43 = .ok (.getfield 30, 3) := by decide +kernel
theorem dX0_putLast_46 : decode cX0_putLast 46 = .ok (.iload 4, 2) := by decide +kernel
theorem dX0_putLast_48 : decode cX0_putLast 48 = .ok (.iaload, 1) := by decide +kernel
theorem dX0_putLast_49 : decode cX0_putLast 49 = .ok (.iload_n 1, 1) := by decide +kernel
theorem dX0_putLast_50 : decode cX0_putLast 50 = .ok (.if_icmp .ne 7, 3) := by decide +kernel
theorem dX0_putLast_53 : decode cX0_putLast 53 = .ok (.iconst 1, 1) := by decide +kernel
theorem dX0_putLast_54 : decode cX0_putLast 54 = .ok (.goto 4, 3) := by decide +kernel
theorem dX0_putLast_57 : decode cX0_putLast 57 = .ok (.iconst 0, 1) := by decide +kernel
theorem dX0_putLast_58 : decode cX0_putLast 58 = .ok (.istore_n 3, 1) := by decide +kernel
theorem dX0_putLast_59 : decode cX0_putLast 59 = .ok (.iinc 4 1, 3) := by decide +kernel
theorem dX0_putLast_62 : decode cX0_putLast 62 = .ok (.goto (-55), 3) := by decide +kernel
theorem dX0_putLast_65 : decode cX0_putLast 65 = .ok (.aload_n 0, 1) := by decide +kernel
theorem dX0_putLast_66 : decode cX0_putLast 66 = .ok (.getfield 30, 3) := by decide +kernel
theorem dX0_putLast_69 : decode cX0_putLast 69 = .ok (.aload_n 0, 1) := by decide +kernel
theorem dX0_putLast_70 : decode cX0_putLast 70 = .ok (.getfield 9, 3) := by decide +kernel
theorem dX0_putLast_73 : decode cX0_putLast 73 = .ok (.iconst 1, 1) := by decide +kernel
theorem dX0_putLast_74 : decode cX0_putLast 74 = .ok (.isub, 1) := by decide +kernel
theorem dX0_putLast_75 : decode cX0_putLast 75 = .ok (.iload_n 1, 1) := by decide +kernel
theorem dX0_putLast_76 : decode cX0_putLast 76 = .ok (.iastore, 1) := by decide +kernel
theorem dX0_putLast_77 : decode cX0_putLast 77 = .ok (.iload_n 2, 1) := by decide +kernel
theorem dX0_putLast_78 : decode cX0_putLast 78 = .ok (.ireturn, 1) := by decide +kernel
theorem dX0_countCards_0 : decode cX0_countCards 0 = .ok (.iconst 0, 1) := by decide +kernel
theorem dX0_countCards_1 : decode cX0_countCards 1 = .ok (.istore_n 1, 1) := by decide +kernel
theorem dX0_countCards_2 : decode cX0_countCards 2 = .ok (.iconst 0, 1) := by decide +kernel
theorem dX0_countCards_3 : decode cX0_countCards 3 = .ok (.istore_n 2, 1) := by decide +kernel
theorem dX0_countCards_4 : decode cX0_countCards 4 = .ok (.iload_n 2, 1) := by decide +kernel
theorem dX0_countCards_5 : decode cX0_countCards 5 = .ok (.aload_n 0, 1) := by decide +kernel
theorem dX0_countCards_6 : decode cX0_countCards 6 = .ok (.getfield 9, 3) := by decide +kernel
theorem dX0_countCards_9 : decode cX0_countCards 9 = .ok (.if_icmp .ge 33, 3) := by decide +kernel
theorem dX0_countCards_12 : decode cX0_countCards 12 = .ok (.iconst 0, 1) := by decide +kernel
theorem dX0_countCards_13 : decode cX0_countCards 13 = .ok (.istore_n 3, 1) := by decide +kernel
theorem dX0_countCards_14 : decode cX0_countCards 14 = .ok (.iload_n 3, 1) := by decide +kernel
theorem dX0_countCards_15 : decode cX0_countCards 15 = .ok (.iconst 4, 1) := by decide +kernel
theorem dX0_countCards_16 : decode cX0_countCards 16 = .ok (.if_icmp .ge 20, 3) := by decide +kernel
theorem dX0_countCards_19 : decode cX0_countCards 19 = .ok (.iload_n 1, 1) := by decide +kernel
theorem dX0_countCards_20 : decode cX0_countCards 20 = .ok (.aload_n 0, 1) := by decide +kernel
theorem dX0_countCards_21 : decode cX0_countCards 21 = .ok (.getfield 27, 3) := by decide +kernel
theorem dX0_countCards_24 : decode cX0_countCards 24 = .ok (.iload_n 2, 1) := by decide +kernel
theorem dX0_countCards_25 : decode cX0_countCards 25 = .ok (.aaload, 1) := by decide +kernel
theorem dX0_countCards_26 : decode cX0_countCards 26 = .ok (.iload_n 3, 1) := by decide +kernel
theorem dX0_countCards_27 : decode cX0_countCards 27 = .ok (.iaload, 1) := by decide +kernel
theorem dX0_countCards_28 : decode cX0_countCards 28 = .ok (.iadd, 1) := by decide +kernel
theorem dX0_countCards_29 : decode cX0_countCards 29 = .ok (.istore_n 1, 1) := by decide +kernel
theorem dX0_countCards_30 : decode cX0_countCards 30 = .ok (.iinc 3 1, 3) := by decide +kernel
theorem dX0_countCards_33 : decode cX0_countCards 33 = .ok (.goto (-19), 3) := by decide +kernel
theorem dX0_countCards_36 : decode cX0_countCards 36 = .ok (.iinc 2 1, 3) := by decide +kernel
theorem dX0_countCards_39 : decode cX0_countCards 39 = .ok (.goto (-35), 3) := by decide +kernel
theorem dX0_countCards_42 : decode cX0_countCards 42 = .ok (.iload_n 1, 1) := by decide +kernel
theorem dX0_countCards_43 : decode cX0_countCards 43 = .ok (.ireturn, 1) := by decide +kernel
theorem dX1_init_0 : decode cX1_init 0 = .ok (.aload_n 0, 1) := by decide +kernel
theorem dX1_init_1 : decode cX1_init 1 = .ok (.invokespecial 5, 3) := by decide +kernel
theorem dX1_init_4 : decode cX1_init 4 = .ok (.aload_n 0, 1) := by decide +kernel
theorem dX1_init_5 : decode cX1_init 5 = .ok (.bipush 7, 2) := by decide +kernel
theorem dX1_init_7 : decode cX1_init 7 = .ok (.bipush 6, 2) := by decide +kernel
theorem dX1_init_9 : decode cX1_init 9 = .ok (.multianewarray 11 2, 4) := by decide +kernel
theorem dX1_init_13 : decode cX1_init 13 = .ok (.putfield 13, 3) := by decide +kernel
theorem dX1_init_16 : decode cX1_init 16 = .ok (.aload_n 0, 1) := by decide +kernel
theorem dX1_init_17 : decode cX1_init 17 = .ok (.bipush 6, 2) := by decide +kernel
theorem dX1_init_19 : decode cX1_init 19 = .ok (.newarray .long, 2) := by decide +kernel
theorem dX1_init_21 : decode cX1_init 21 = .ok (.putfield 16, 3) := by decide +kernel
theorem dX1_init_24 : decode cX1_init 24 = .ok (.aload_n 0, 1) := by decide +kernel
theorem dX1_init_25 : decode cX1_init 25 = .ok (.bipush 6, 2) := by decide +kernel
theorem dX1_init_27 : decode cX1_init 27 = .ok (.newarray .int, 2) := by decide +kernel
theorem dX1_init_29 : decode cX1_init 29 = .ok (.putfield 20, 3) := by decide +kernel
theorem dX1_init_32 : decode cX1_init 32 = .ok (.return_, 1) := by decide +kernel
theorem dX1_setPrice_0 : decode cX1_setPrice 0 = .ok (.aload_n 0, 1) := by decide +kernel
theorem dX1_setPrice_1 : decode cX1_setPrice 1 = .ok (.getfield 13, 3) := by decide +kernel
theorem dX1_setPrice_4 : decode cX1_setPrice 4 = .ok (.iload_n 1, 1) := by decide +kernel
theorem dX1_setPrice_5 : decode cX1_setPrice 5 = .ok (.aaload, 1) := by decide +kernel
theorem dX1_setPrice_6 : decode cX1_setPrice 6 = .ok (.iload_n 2, 1) := by decide +kernel
theorem dX1_setPrice_7 : decode cX1_setPrice 7 = .ok (.iload_n 3, 1) := by decide +kernel
theorem dX1_setPrice_8 : decode cX1_setPrice 8 = .ok (.i2l, 1) := by decide +kernel
theorem dX1_setPrice_9 : decode cX1_setPrice 9 = .ok (.ldc2_w 24, 3) := by decide +kernel
theorem dX1_setPrice_12 : decode cX1_setPrice 12 = .ok (.lmul, 1) := by decide +kernel
theorem dX1_setPrice_13 : decode cX1_setPrice 13 = .ok (.iload_n 2, 1) := by decide +kernel
theorem dX1_setPrice_14 : decode cX1_setPrice 14 = .ok (.i2l, 1) := by decide +kernel
theorem dX1_setPrice_15 : decode cX1_setPrice 15 = .ok (.getstatic 26, 3) := by decide +kernel
theorem dX1_setPrice_18 : decode cX1_setPrice 18 = .ok (.iload_n 1, 1) := by decide +kernel
theorem dX1_setPrice_19 : decode cX1_setPrice 19 = .ok (.iaload, 1) := by decide +kernel
theorem dX1_setPrice_20 : decode cX1_setPrice 20 = .ok (.i2l, 1) := by decide +kernel
theorem dX1_setPrice_21 : decode cX1_setPrice 21 = .ok (.lmul, 1) := by decide +kernel
theorem dX1_setPrice_22 : decode cX1_setPrice 22 = .ok (.ladd, 1) := by decide +kernel
theorem dX1_setPrice_23 : decode cX1_setPrice 23 = .ok (.lastore, 1) := by decide +kernel
theorem dX1_setPrice_24 : decode cX1_setPrice 24 = .ok (.return_, 1) := by decide +kernel
theorem dX1_setPriceOut_0 : decode cX1_setPriceOut 0 = .ok (.aload_n 0, 1) := by decide +kernel
theorem dX1_setPriceOut_1 : decode cX1_setPriceOut 1 = .ok (.getfield 13, 3) := by decide +kernel
theorem dX1_setPriceOut_4 : decode cX1_setPriceOut 4 = .ok (.iload_n 1, 1) := by decide +kernel
theorem dX1_setPriceOut_5 : decode cX1_setPriceOut 5 = .ok (.aaload, 1) := by decide +kernel
theorem dX1_setPriceOut_6 : decode cX1_setPriceOut 6 = .ok (.iconst 5, 1) := by decide +kernel
theorem dX1_setPriceOut_7 : decode cX1_setPriceOut 7 = .ok (.ldc2_w 29, 3) := by decide +kernel
theorem dX1_setPriceOut_10 : decode cX1_setPriceOut 10 = .ok (.ldc2_w 31, 3) := by decide +kernel
theorem dX1_setPriceOut_13 : decode cX1_setPriceOut 13 = .ok (.getstatic 26, 3) := by decide +kernel
theorem dX1_setPriceOut_16 : decode cX1_setPriceOut 16 = .ok (.iload_n 1, 1) := by decide +kernel
theorem dX1_setPriceOut_17 : decode cX1_setPriceOut 17 = .ok (.iaload, 1) := by decide +kernel
theorem dX1_setPriceOut_18 : decode cX1_setPriceOut 18 = .ok (.i2l, 1) := by decide +kernel
theorem dX1_setPriceOut_19 : decode cX1_setPriceOut 19 = .ok (.lmul, 1) := by decide +kernel
theorem dX1_setPriceOut_20 : decode cX1_setPriceOut 20 = .ok (.ladd, 1) := by decide +kernel
theorem dX1_setPriceOut_21 : decode cX1_setPriceOut 21 = .ok (.lastore, 1) := by decide +kernel
theorem dX1_setPriceOut_22 : decode cX1_setPriceOut 22 = .ok (.return_, 1) := by decide +kernel
theorem dX1_forbid_0 : decode cX1_forbid 0 = .ok (.aload_n 0, 1) := by decide +kernel
theorem dX1_forbid_1 : decode cX1_forbid 1 = .ok (.getfield 13, 3) := by decide +kernel
theorem dX1_forbid_4 : decode cX1_forbid 4 = .ok (.iload_n 1, 1) := by decide +kernel
theorem dX1_forbid_5 : decode cX1_forbid 5 = .ok (.aaload, 1) := by decide +kernel
theorem dX1_forbid_6 : decode cX1_forbid 6 = .ok (.iload_n 2, 1) := by decide +kernel
theorem dX1_forbid_7 : decode cX1_forbid 7 = .ok (.ldc2_w 33, 3) := by decide +kernel
theorem dX1_forbid_10 : decode cX1_forbid 10 = .ok (.lastore, 1) := by decide +kernel
theorem dX1_forbid_11 : decode cX1_forbid 11 = .ok (.return_, 1) := by decide +kernel
theorem dX1_add_0 : decode cX1_add 0 = .ok (.aload_n 0, 1) := by decide +kernel
theorem dX1_add_1 : decode cX1_add 1 = .ok (.iload_n 1, 1) := by decide +kernel
theorem dX1_add_2 : decode cX1_add 2 = .ok (.invokevirtual 35, 3) := by decide +kernel
theorem dX1_add_5 : decode cX1_add 5 = .ok (.iconst 1, 1) := by decide +kernel
theorem dX1_add_6 : decode cX1_add 6 = .ok (.istore 4, 2) := by decide +kernel
theorem dX1_add_8 : decode cX1_add 8 = .ok (.iconst 0, 1) := by decide +kernel
theorem dX1_add_9 : decode cX1_add 9 = .ok (.istore 5, 2) := by decide +kernel
theorem dX1_add_11 : decode cX1_add 11 = .ok (.iload 4, 2) := by decide +kernel
theorem dX1_add_13 : decode cX1_add 13 = .ok (.ifCond .eq 50, 3) := by decide +kernel
theorem dX1_add_16 : decode cX1_add 16 = .ok (.iload 5, 2) := by decide +kernel
theorem dX1_add_18 : decode cX1_add 18 = .ok (.bipush 6, 2) := by decide +kernel
theorem dX1_add_20 : decode cX1_add 20 = .ok (.if_icmp .ge 43, 3) := by decide +kernel
theorem dX1_add_23 : decode cX1_add 23 = .ok (.iconst 0, 1) := by decide +kernel
theorem dX1_add_24 : decode cX1_add 24 = .ok (.istore 4, 2) := by decide +kernel
theorem dX1_add_26 : decode cX1_add 26 = .ok (.iconst 0, 1) := by decide +kernel
theorem dX1_add_27 : decode cX1_add 27 = .ok (.istore 6, 2) := by decide +kernel
theorem dX1_add_29 : decode cX1_add 29 = .ok (.iload 6, 2) := by decide +kernel
theorem dX1_add_31 : decode cX1_add 31 = .ok (.iload_n 1, 1) := by decide +kernel
theorem dX1_add_32 : decode cX1_add 32 = .ok (.if_icmp .ge 25, 3) := by decide +kernel
theorem dX1_add_35 : decode cX1_add 35 = .ok (.aload_n 0, 1) := by decide +kernel
theorem dX1_add_36 : decode cX1_add 36 = .ok (.iload 6, 2) := by decide +kernel
theorem dX1_add_38 : decode cX1_add 38 = .ok (.aload_n 2, 1) := by decide +kernel
theorem dX1_add_39 : decode cX1_add 39 = .ok (.iload 6, 2) := by decide +kernel
theorem dX1_add_41 : decode cX1_add 41 = .ok (.iaload, 1) := by decide +kernel
theorem dX1_add_42 : decode cX1_add 42 = .ok (.invokevirtual 39, 3) := by decide +kernel
theorem dX1_add_45 : decode cX1_add 45 = .ok (.ifCond .eq 6, 3) := by decide +kernel
theorem dX1_add_48 : decode cX1_add 48 = .ok (.iconst 1, 1) := by decide +kernel
theorem dX1_add_49 : decode cX1_add 49 = .ok (.istore 4, 2) := by decide +kernel
theorem dX1_add_51 : decode cX1_add 51 = .ok (.iinc 6 1, 3) := by decide +kernel
theorem dX1_add_54 : decode cX1_add 54 = .ok (.goto (-25), 3) := by decide +kernel
theorem dX1_add_57 : decode cX1_add 57 = .ok (.iinc 5 1, 3) := by decide +kernel
theorem dX1_add_60 : decode cX1_add 60 = .ok (.goto (-49), 3) := by decide +kernel
theorem dX1_add_63 : decode cX1_add 63 = .ok (.aload_n 0, 1) := by decide +kernel
theorem dX1_add_64 : decode cX1_add 64 = .ok (.aload_n 3, 1) := by decide +kernel
theorem dX1_add_65 : decode cX1_add 65 = .ok (.invokevirtual 43, 3) := by decide +kernel
theorem dX1_add_68 : decode cX1_add 68 = .ok (.istore 5, 2) := by decide +kernel
theorem dX1_add_70 : decode cX1_add 70 = .ok (.aload_n 3, 1) := by decide +kernel
theorem dX1_add_71 : decode cX1_add 71 = .ok (.iload 5, 2) := by decide +kernel
theorem dX1_add_73 : decode cX1_add 73 = .ok (.dup2, 1) := by decide +kernel
theorem dX1_add_74 : decode cX1_add 74 = .ok (.iaload, 1) := by decide +kernel
theorem dX1_add_75 : decode cX1_add 75 = .ok (.iconst 1, 1) := by decide +kernel
theorem dX1_add_76 : decode cX1_add 76 = .ok (.isub, 1) := by decide +kernel
theorem dX1_add_77 : decode cX1_add 77 = .ok (.iastore, 1) := by decide +kernel
theorem dX1_add_78 : decode cX1_add 78 = .ok (.aload_n 0, 1) := by decide +kernel
theorem dX1_add_79 : decode cX1_add 79 = .ok (.iload_n 1, 1) := by decide +kernel
theorem dX1_add_80 : decode cX1_add 80 = .ok (.iload 5, 2) := by decide +kernel
theorem dX1_add_82 : decode cX1_add 82 = .ok (.aload_n 2, 1) := by decide +kernel
theorem dX1_add_83 : decode cX1_add 83 = .ok (.invokevirtual 47, 3) := by decide +kernel
theorem dX1_add_86 : decode cX1_add 86 = .ok (.return_, 1) := by decide +kernel
theorem dX1_startAt_0 : decode cX1_startAt 0 = .ok (.iconst 0, 1) := by decide +kernel
theorem dX1_startAt_1 : decode cX1_startAt 1 = .ok (.istore_n 2, 1) := by decide +kernel
theorem dX1_startAt_2 : decode cX1_startAt 2 = .ok (.iload_n 2, 1) := by decide +kernel
theorem dX1_startAt_3 : decode cX1_startAt 3 = .ok (.bipush 6, 2) := by decide +kernel
theorem dX1_startAt_5 : decode cX1_startAt 5 = .ok (.if_icmp .ge 51, 3) := by decide +kernel
theorem dX1_startAt_8 : decode cX1_startAt 8 = .ok (.aload_n 0, 1) := by decide +kernel
theorem dX1_startAt_9 : decode cX1_startAt 9 = .ok (.getfield 16, 3) := by decide +kernel
theorem dX1_startAt_12 : decode cX1_startAt 12 = .ok (.iload_n 2, 1) := by decide +kernel
theorem dX1_startAt_13 : decode cX1_startAt 13 = .ok (.aload_n 0, 1) := by decide +kernel
theorem dX1_startAt_14 : decode cX1_startAt 14 = .ok (.getfield 13, 3) := by decide +kernel
theorem dX1_startAt_17 : decode cX1_startAt 17 = .ok (.iload_n 1, 1) := by decide +kernel
theorem dX1_startAt_18 : decode cX1_startAt 18 = .ok (.aaload, 1) := by decide +kernel
theorem dX1_startAt_19 : decode cX1_startAt 19 = .ok (.iload_n 2, 1) := by decide +kernel
theorem dX1_startAt_20 : decode cX1_startAt 20 = .ok (.laload, 1) := by decide +kernel
theorem dX1_startAt_21 : decode cX1_startAt 21 = .ok (.ldc2_w 33, 3) := by decide +kernel
theorem dX1_startAt_24 : decode cX1_startAt 24 = .ok (.lcmp, 1) := by decide +kernel
theorem dX1_startAt_25 : decode cX1_startAt 25 = .ok (.ifCond .ne 9, 3) := by decide +kernel
theorem dX1_startAt_28 : decode cX1_startAt 28 = .ok (.ldc2_w 51, 3) := by decide +kernel
theorem dX1_startAt_31 : decode cX1_startAt 31 = .ok (.goto 11, 3) := by decide +kernel
theorem dX1_startAt_34 : decode cX1_startAt 34 = .ok (.aload_n 0, 1) := by decide +kernel
theorem dX1_startAt_35 : decode cX1_startAt 35 = .ok (.getfield 13, 3) := by decide +kernel
theorem dX1_startAt_38 : decode cX1_startAt 38 = .ok (.iload_n 1, 1) := by decide +kernel
theorem dX1_startAt_39 : decode cX1_startAt 39 = .ok (.aaload, 1) := by decide +kernel
theorem dX1_startAt_40 : decode cX1_startAt 40 = .ok (.iload_n 2, 1) := by decide +kernel
theorem dX1_startAt_41 : decode cX1_startAt 41 = .ok (.laload, 1) := by decide +kernel
theorem dX1_startAt_42 : decode cX1_startAt 42 = .ok (.lastore, 1) := by decide +kernel
theorem dX1_startAt_43 : decode cX1_startAt 43 = .ok (.aload_n 0, 1) := by decide +kernel
theorem dX1_startAt_44 : decode cX1_startAt 44 = .ok (.getfield 20, 3) := by decide +kernel
theorem dX1_startAt_47 : decode cX1_startAt 47 = .ok (.iload_n 2, 1) := by decide +kernel
theorem dX1_startAt_48 : decode cX1_startAt 48 = .ok (.iload_n 1, 1) := by decide +kernel
theorem dX1_startAt_49 : decode cX1_startAt 49 = .ok (.iastore, 1) := by decide +kernel
theorem dX1_startAt_50 : decode cX1_startAt 50 = .ok (.iinc 2 1, 3) := by decide +kernel
theorem dX1_startAt_53 : decode cX1_startAt 53 = .ok (.goto (-51), 3) := by decide +kernel
theorem dX1_startAt_56 : decode cX1_startAt 56 = .ok (.return_, 1) := by decide +kernel
theorem dX1_passOn_0 : decode cX1_passOn 0 = .ok (.aload_n 0, 1) := by decide +kernel
theorem dX1_passOn_1 : decode cX1_passOn 1 = .ok (.getfield 16, 3) := by decide +kernel
theorem dX1_passOn_4 : decode cX1_passOn 4 = .ok (.iload_n 2, 1) := by decide +kernel
theorem dX1_passOn_5 : decode cX1_passOn 5 = .ok (.laload, 1) := by decide +kernel
theorem dX1_passOn_6 : decode cX1_passOn 6 = .ok (.ldc2_w 51, 3) := by decide +kernel
theorem dX1_passOn_9 : decode cX1_passOn 9 = .ok (.lcmp, 1) := by decide +kernel
theorem dX1_passOn_10 : decode cX1_passOn 10 = .ok (.ifCond .ne 5, 3) := by decide +kernel
theorem dX1_passOn_13 : decode cX1_passOn 13 = .ok (.iconst 0, 1) := by decide +kernel
theorem dX1_passOn_14 : decode cX1_passOn 14 = .ok (.ireturn, 1) := by decide +kernel
theorem dX1_passOn_15 : decode cX1_passOn 15 = .ok (.iconst 0, 1) := by decide +kernel
theorem dX1_passOn_16 : decode cX1_passOn 16 = .ok (.istore_n 3, 1) := by decide +kernel
theorem dX1_passOn_17 : decode cX1_passOn 17 = .ok (.iconst 0, 1) := by decide +kernel
theorem dX1_passOn_18 : decode cX1_passOn 18 = .ok (.istore 4, 2) := by decide +kernel
theorem dX1_passOn_20 : decode cX1_passOn 20 = .ok (.iload 4, 2) := by decide +kernel
theorem dX1_passOn_22 : decode cX1_passOn 22 = .ok (.bipush 6, 2) := by decide +kernel
theorem dX1_passOn_24 : decode cX1_passOn 24 = .ok (.if_icmp .ge 84, 3) := by decide +kernel
theorem dX1_passOn_27 : decode cX1_passOn 27 = .ok (.aload_n 0, 1) := by decide +kernel
theorem dX1_passOn_28 : decode cX1_passOn 28 = .ok (.getfield 16, 3) := by decide +kernel
theorem dX1_passOn_31 : decode cX1_passOn 31 = .ok (.iload_n 2, 1) := by decide +kernel
theorem dX1_passOn_32 : decode cX1_passOn 32 = .ok (.laload, 1) := by decide +kernel
theorem dX1_passOn_33 : decode cX1_passOn 33 = .ok (.aload_n 0, 1) := by decide +kernel
theorem dX1_passOn_34 : decode cX1_passOn 34 = .ok (.getfield 13, 3) := by decide +kernel
theorem dX1_passOn_37 : decode cX1_passOn 37 = .ok (.iload_n 1, 1) := by decide +kernel
theorem dX1_passOn_38 : decode cX1_passOn 38 = .ok (.aaload, 1) := by decide +kernel
theorem dX1_passOn_39 : decode cX1_passOn 39 = .ok (.iload_n 2, 1) := by decide +kernel
theorem dX1_passOn_40 : decode cX1_passOn 40 = .ok (.laload, 1) := by decide +kernel
theorem dX1_passOn_41 : decode cX1_passOn 41 = .ok (.lsub, 1) := by decide +kernel
theorem dX1_passOn_42 : decode cX1_passOn 42 = .ok (.aload_n 0, 1) := by decide +kernel
theorem dX1_passOn_43 : decode cX1_passOn 43 = .ok (.getfield 13, 3) := by decide +kernel
theorem dX1_passOn_46 : decode cX1_passOn 46 = .ok (.iload_n 1, 1) := by decide +kernel
theorem dX1_passOn_47 : decode cX1_passOn 47 = .ok (.aaload, 1) := by decide +kernel
theorem dX1_passOn_48 : decode cX1_passOn 48 = .ok (.iload 4, 2) := by decide +kernel
theorem dX1_passOn_50 : decode cX1_passOn 50 = .ok (.laload, 1) := by decide +kernel
theorem dX1_passOn_51 : decode cX1_passOn 51 = .ok (.ladd, 1) := by decide +kernel
theorem dX1_passOn_52 : decode cX1_passOn 52 = .ok (.lstore 5, 2) := by decide +kernel
theorem dX1_passOn_54 : decode cX1_passOn 54 = .ok (.aload_n 0, 1) := by decide +kernel
theorem dX1_passOn_55 : decode cX1_passOn 55 = .ok (.getfield 13, 3) := by decide +kernel
theorem dX1_passOn_58 : decode cX1_passOn 58 = .ok (.iload_n 1, 1) := by decide +kernel
theorem dX1_passOn_59 : decode cX1_passOn 59 = .ok (.aaload, 1) := by decide +kernel
theorem dX1_passOn_60 : decode cX1_passOn 60 = .ok (.iload 4, 2) := by decide +kernel
theorem dX1_passOn_62 : decode cX1_passOn 62 = .ok (.laload, 1) := by decide +kernel
theorem dX1_passOn_63 : decode cX1_passOn 63 = .ok (.ldc2_w 33, 3) := by decide +kernel
theorem dX1_passOn_66 : decode cX1_passOn 66 = .ok (.lcmp, 1) := by decide +kernel
theorem dX1_passOn_67 : decode cX1_passOn 67 = .ok (.ifCond .eq 35, 3) := by decide +kernel
theorem dX1_passOn_70 : decode cX1_passOn 70 = .ok (.lload 5, 2) := by decide +kernel
theorem dX1_passOn_72 : decode cX1_passOn 72 = .ok (.aload_n 0, 1) := by decide +kernel
theorem dX1_passOn_73 : decode cX1_passOn 73 = .ok (.getfield 16, 3) := by decide +kernel
theorem dX1_passOn_76 : decode cX1_passOn 76 = .ok (.iload 4, 2) := by decide +kernel
theorem dX1_passOn_78 : decode cX1_passOn 78 = .ok (.laload, 1) := by decide +kernel
theorem dX1_passOn_79 : decode cX1_passOn 79 = .ok (.lcmp, 1) := by decide +kernel
theorem dX1_passOn_80 : decode cX1_passOn 80 = .ok (.ifCond .ge 22, 3) := by decide +kernel
theorem dX1_passOn_83 : decode cX1_passOn 83 = .ok (.aload_n 0, 1) := by decide +kernel
theorem dX1_passOn_84 : decode cX1_passOn 84 = .ok (.getfield 16, 3) := by decide +kernel
theorem dX1_passOn_87 : decode cX1_passOn 87 = .ok (.iload 4, 2) := by decide +kernel
theorem dX1_passOn_89 : decode cX1_passOn 89 = .ok (.lload 5, 2) := by decide +kernel
theorem dX1_passOn_91 : decode cX1_passOn 91 = .ok (.lastore, 1) := by decide +kernel
theorem dX1_passOn_92 : decode cX1_passOn 92 = .ok (.aload_n 0, 1) := by decide +kernel
theorem dX1_passOn_93 : decode cX1_passOn 93 = .ok (.getfield 20, 3) := by decide +kernel
theorem dX1_passOn_96 : decode cX1_passOn 96 = .ok (.iload 4, 2) := by decide +kernel
theorem dX1_passOn_98 : decode cX1_passOn 98 = .ok (.iload_n 1, 1) := by decide +kernel
theorem dX1_passOn_99 : decode cX1_passOn 99 = .ok (.iastore, 1) := by decide +kernel
theorem dX1_passOn_100 : decode cX1_passOn 100 = .ok (.iconst 1, 1) := by decide +kernel
theorem dX1_passOn_101 : decode cX1_passOn 101 = .ok (.istore_n 3, 1) := by decide +kernel
theorem dX1_passOn_102 : decode cX1_passOn 102 = .ok (.iinc 4 1, 3) := by decide +kernel
theorem dX1_passOn_105 : decode cX1_passOn 105 = .ok (.goto (-85), 3) := by decide +kernel
theorem dX1_passOn_108 : decode cX1_passOn 108 = .ok (.iload_n 3, 1) := by decide +kernel
theorem dX1_passOn_109 : decode cX1_passOn 109 = .ok (.ireturn, 1) := by decide +kernel
theorem dX1_cheapestEnd_0 : decode cX1_cheapestEnd 0 = .ok (.iconst 5, 1) := by decide +kernel
theorem dX1_cheapestEnd_1 : decode cX1_cheapestEnd 1 = .ok (.istore_n 2, 1) := by decide +kernel
theorem dX1_cheapestEnd_2 : decode cX1_cheapestEnd 2 = .ok (.iconst 0, 1) := by decide +kernel
theorem dX1_cheapestEnd_3 : decode cX1_cheapestEnd 3 = .ok (.istore_n 3, 1) := by decide +kernel
theorem dX1_cheapestEnd_4 : decode cX1_cheapestEnd 4 = .ok (.iload_n 3, 1) := by decide +kernel
theorem dX1_cheapestEnd_5 : decode cX1_cheapestEnd 5 = .ok (.iconst 5, 1) := by decide +kernel
theorem dX1_cheapestEnd_6 : decode cX1_cheapestEnd 6 = .ok (.if_icmp .ge 33, 3) := by decide +kernel
theorem dX1_cheapestEnd_9 : decode cX1_cheapestEnd 9 = .ok (.aload_n 1, 1) := by decide +kernel
theorem dX1_cheapestEnd_10 : decode cX1_cheapestEnd 10 = .ok (.iload_n 3, 1) := by decide +kernel
theorem dX1_cheapestEnd_11 : decode cX1_cheapestEnd 11 = .ok (.iaload, 1) := by decide +kernel
theorem dX1_cheapestEnd_12 : decode cX1_cheapestEnd 12 = .ok (.ifCond .le 21, 3) := by decide +kernel
theorem dX1_cheapestEnd_15 : decode cX1_cheapestEnd 15 = .ok (.aload_n 0, 1) := by decide +kernel
theorem dX1_cheapestEnd_16 : decode cX1_cheapestEnd 16 = .ok (.getfield 16, 3) := by decide +kernel
theorem dX1_cheapestEnd_19 : decode cX1_cheapestEnd 19 = .ok (.iload_n 3, 1) := by decide +kernel
theorem dX1_cheapestEnd_20 : decode cX1_cheapestEnd 20 = .ok (.laload, 1) := by decide +kernel
theorem dX1_cheapestEnd_21 : decode cX1_cheapestEnd 21 = .ok (.aload_n 0, 1) := by decide +kernel
theorem dX1_cheapestEnd_22 : decode cX1_cheapestEnd 22 = .ok (.getfield 16, 3) := by decide +kernel
theorem dX1_cheapestEnd_25 : decode cX1_cheapestEnd 25 = .ok (.iload_n 2, 1) := by decide +kernel
theorem dX1_cheapestEnd_26 : decode cX1_cheapestEnd 26 = .ok (.laload, 1) := by decide +kernel
theorem dX1_cheapestEnd_27 : decode cX1_cheapestEnd 27 = .ok (.lcmp, 1) := by decide +kernel
theorem dX1_cheapestEnd_28 : decode cX1_cheapestEnd 28 = .ok (.ifCond .ge 5, 3) := by decide +kernel
theorem dX1_cheapestEnd_31 : decode cX1_cheapestEnd 31 = .ok (.iload_n 3, 1) := by decide +kernel
theorem dX1_cheapestEnd_32 : decode cX1_cheapestEnd 32 = .ok (.istore_n 2, 1) := by decide +kernel
theorem dX1_cheapestEnd_33 : decode cX1_cheapestEnd 33 = .ok (.iinc 3 1, 3) := by decide +kernel
theorem dX1_cheapestEnd_36 : decode cX1_cheapestEnd 36 = .ok (.goto (-32), 3) := by decide +kernel
theorem dX1_cheapestEnd_39 : decode cX1_cheapestEnd 39 = .ok (.iload_n 2, 1) := by decide +kernel
theorem dX1_cheapestEnd_40 : decode cX1_cheapestEnd 40 = .ok (.ireturn, 1) := by decide +kernel
theorem dX1_shift_0 : decode cX1_shift 0 = .ok (.iload_n 2, 1) := by decide +kernel
theorem dX1_shift_1 : decode cX1_shift 1 = .ok (.istore 4, 2) := by decide +kernel
theorem dX1_shift_3 : decode cX1_shift 3 = .ok (.iconst 0, 1) := by decide +kernel
theorem dX1_shift_4 : decode cX1_shift 4 = .ok (.istore 5, 2) := by decide +kernel
theorem dX1_shift_6 : decode cX1_shift 6 = .ok (.iload 5, 2) := by decide +kernel
theorem dX1_shift_8 : decode cX1_shift 8 = .ok (.bipush 6, 2) := by decide +kernel
theorem dX1_shift_10 : decode cX1_shift 10 = .ok (.if_icmp .ge 46, 3) := by decide +kernel
theorem dX1_shift_13 : decode cX1_shift 13 = .ok (.aload_n 0, 1) := by decide +kernel
theorem dX1_shift_14 : decode cX1_shift 14 = .ok (.getfield 20, 3) := by decide +kernel
theorem dX1_shift_17 : decode cX1_shift 17 = .ok (.iload 4, 2) := by decide +kernel
theorem dX1_shift_19 : decode cX1_shift 19 = .ok (.iaload, 1) := by decide +kernel
theorem dX1_shift_20 : decode cX1_shift 20 = .ok (.iload_n 1, 1) := by decide +kernel
theorem dX1_shift_21 : decode cX1_shift 21 = .ok (.if_icmp .eq 35, 3) := by decide +kernel
theorem dX1_shift_24 : decode cX1_shift 24 = .ok (.aload_n 3, 1) := by decide +kernel
theorem dX1_shift_25 : decode cX1_shift 25 = .ok (.aload_n 0, 1) := by decide +kernel
theorem dX1_shift_26 : decode cX1_shift 26 = .ok (.getfield 20, 3) := by decide +kernel
theorem dX1_shift_29 : decode cX1_shift 29 = .ok (.iload 4, 2) := by decide +kernel
theorem dX1_shift_31 : decode cX1_shift 31 = .ok (.iaload, 1) := by decide +kernel
theorem dX1_shift_32 : decode cX1_shift 32 = .ok (.iaload, 1) := by decide +kernel
theorem dX1_shift_33 : decode cX1_shift 33 = .ok (.istore 6, 2) := by decide +kernel
theorem dX1_shift_35 : decode cX1_shift 35 = .ok (.aload_n 3, 1) := by decide +kernel
theorem dX1_shift_36 : decode cX1_shift 36 = .ok (.aload_n 0, 1) := by decide +kernel
theorem dX1_shift_37 : decode cX1_shift 37 = .ok (.getfield 20, 3) := by decide +kernel
theorem dX1_shift_40 : decode cX1_shift 40 = .ok (.iload 4, 2) := by decide +kernel
theorem dX1_shift_42 : decode cX1_shift 42 = .ok (.iaload, 1) := by decide +kernel
theorem dX1_shift_43 : decode cX1_shift 43 = .ok (.iload 4, 2) := by decide +kernel
theorem dX1_shift_45 : decode cX1_shift 45 = .ok (.iastore, 1) := by decide +kernel
theorem dX1_shift_46 : decode cX1_shift 46 = .ok (.iload 6, 2) := by decide +kernel
theorem dX1_shift_48 : decode cX1_shift 48 = .ok (.istore 4, 2) := by decide +kernel
theorem dX1_shift_50 : decode cX1_shift 50 = .ok (.iinc 5 1, 3) := by decide +kernel
theorem dX1_shift_53 : decode cX1_shift 53 = .ok (.goto (-47), 3) := by decide +kernel
theorem dX1_shift_56 : decode cX1_shift 56 = .ok (.aload_n 3, 1) := by decide +kernel
theorem dX1_shift_57 : decode cX1_shift 57 = .ok (.iload_n 1, 1) := by decide +kernel
theorem dX1_shift_58 : decode cX1_shift 58 = .ok (.iload 4, 2) := by decide +kernel
theorem dX1_shift_60 : decode cX1_shift 60 = .ok (.iastore, 1) := by decide +kernel
theorem dX1_shift_61 : decode cX1_shift 61 = .ok (.return_, 1) := by decide +kernel
theorem dX2_init_0 : decode cX2_init 0 = .ok (.aload_n 0, 1) := by decide +kernel
theorem dX2_init_1 : decode cX2_init 1 = .ok (.invokespecial 3, 3) := by decide +kernel
theorem dX2_init_4 : decode cX2_init 4 = .ok (.aload_n 0, 1) := by decide +kernel
theorem dX2_init_5 : decode cX2_init 5 = .ok (.bipush 7, 2) := by decide +kernel
theorem dX2_init_7 : decode cX2_init 7 = .ok (.newarray .int, 2) := by decide +kernel
theorem dX2_init_9 : decode cX2_init 9 = .ok (.putfield 9, 3) := by decide +kernel
theorem dX2_init_12 : decode cX2_init 12 = .ok (.aload_n 0, 1) := by decide +kernel
theorem dX2_init_13 : decode cX2_init 13 = .ok (.bipush 7, 2) := by decide +kernel
theorem dX2_init_15 : decode cX2_init 15 = .ok (.iconst 5, 1) := by decide +kernel
theorem dX2_init_16 : decode cX2_init 16 = .ok (.multianewarray 15 2, 4) := by decide +kernel
theorem dX2_init_20 : decode cX2_init 20 = .ok (.putfield 17, 3) := by decide +kernel
theorem dX2_init_23 : decode cX2_init 23 = .ok (.aload_n 0, 1) := by decide +kernel
theorem dX2_init_24 : decode cX2_init 24 = .ok (.bipush 6, 2) := by decide +kernel
theorem dX2_init_26 : decode cX2_init 26 = .ok (.newarray .int, 2) := by decide +kernel
theorem dX2_init_28 : decode cX2_init 28 = .ok (.putfield 20, 3) := by decide +kernel
theorem dX2_init_31 : decode cX2_init 31 = .ok (.aload_n 0, 1) := by decide +kernel
theorem dX2_init_32 : decode cX2_init 32 = .ok (.new 23, 3) := by decide +kernel
theorem dX2_init_35 : decode cX2_init 35 = .ok (.dup, 1) := by decide +kernel
theorem dX2_init_36 : decode cX2_init 36 = .ok (.invokespecial 25, 3) := by decide +kernel
theorem dX2_init_39 : decode cX2_init 39 = .ok (.putfield 26, 3) := by decide +kernel
theorem dX2_init_42 : decode cX2_init 42 = .ok (.aload_n 0, 1) := by decide +kernel
theorem dX2_init_43 : decode cX2_init 43 = .ok (.aload_n 1, 1) := by decide +kernel
theorem dX2_init_44 : decode cX2_init 44 = .ok (.putfield 30, 3) := by decide +kernel
theorem dX2_init_47 : decode cX2_init 47 = .ok (.aload_n 0, 1) := by decide +kernel
theorem dX2_init_48 : decode cX2_init 48 = .ok (.aload_n 2, 1) := by decide +kernel
theorem dX2_init_49 : decode cX2_init 49 = .ok (.putfield 34, 3) := by decide +kernel
theorem dX2_init_52 : decode cX2_init 52 = .ok (.return_, 1) := by decide +kernel
theorem dX2_lay_0 : decode cX2_lay 0 = .ok (.aload_n 0, 1) := by decide +kernel
theorem dX2_lay_1 : decode cX2_lay 1 = .ok (.iload_n 1, 1) := by decide +kernel
theorem dX2_lay_2 : decode cX2_lay 2 = .ok (.invokevirtual 38, 3) := by decide +kernel
theorem dX2_lay_5 : decode cX2_lay 5 = .ok (.aload_n 0, 1) := by decide +kernel
theorem dX2_lay_6 : decode cX2_lay 6 = .ok (.iload_n 2, 1) := by decide +kernel
theorem dX2_lay_7 : decode cX2_lay 7 = .ok (.invokevirtual 42, 3) := by decide +kernel
theorem dX2_lay_10 : decode cX2_lay 10 = .ok (.iload_n 3, 1) := by decide +kernel
theorem dX2_lay_11 : decode cX2_lay 11 = .ok (.ifCond .eq 10, 3) := by decide +kernel
theorem dX2_lay_14 : decode cX2_lay 14 = .ok (.aload_n 0, 1) := by decide +kernel
theorem dX2_lay_15 : decode cX2_lay 15 = .ok (.invokevirtual 45, 3) := by decide +kernel
theorem dX2_lay_18 : decode cX2_lay 18 = .ok (.goto 7, 3) := by decide +kernel
theorem dX2_lay_21 : decode cX2_lay 21 = .ok (.aload_n 0, 1) := by decide +kernel
theorem dX2_lay_22 : decode cX2_lay 22 = .ok (.invokevirtual 48, 3) := by decide +kernel
theorem dX2_lay_25 : decode cX2_lay 25 = .ok (.return_, 1) := by decide +kernel
theorem dX2_openBays_0 : decode cX2_openBays 0 = .ok (.iconst 0, 1) := by decide +kernel
theorem dX2_openBays_1 : decode cX2_openBays 1 = .ok (.istore_n 2, 1) := by decide +kernel
theorem dX2_openBays_2 : decode cX2_openBays 2 = .ok (.iload_n 2, 1) := by decide +kernel
theorem dX2_openBays_3 : decode cX2_openBays 3 = .ok (.aload_n 0, 1) := by decide +kernel
theorem dX2_openBays_4 : decode cX2_openBays 4 = .ok (.getfield 30, 3) := by decide +kernel
theorem dX2_openBays_7 : decode cX2_openBays 7 = .ok (.getfield 51, 3) := by decide +kernel
theorem dX2_openBays_10 : decode cX2_openBays 10 = .ok (.if_icmp .ge 36, 3) := by decide +kernel
theorem dX2_openBays_13 : decode cX2_openBays 13 = .ok (.aload_n 0, 1) := by decide +kernel
theorem dX2_openBays_14 : decode cX2_openBays 14 = .ok (.getfield 20, 3) := by decide +kernel
theorem dX2_openBays_17 : decode cX2_openBays 17 = .ok (.iload_n 2, 1) := by decide +kernel
theorem dX2_openBays_18 : decode cX2_openBays 18 = .ok (.aload_n 0, 1) := by decide +kernel
theorem dX2_openBays_19 : decode cX2_openBays 19 = .ok (.getfield 30, 3) := by decide +kernel
theorem dX2_openBays_22 : decode cX2_openBays 22 = .ok (.getfield 57, 3) := by decide +kernel
theorem dX2_openBays_25 : decode cX2_openBays 25 = .ok (.iload_n 2, 1) := by decide +kernel
theorem dX2_openBays_26 : decode cX2_openBays 26 = .ok (.iaload, 1) := by decide +kernel
theorem dX2_openBays_27 : decode cX2_openBays 27 = .ok (.aload_n 0, 1) := by decide +kernel
theorem dX2_openBays_28 : decode cX2_openBays 28 = .ok (.getfield 30, 3) := by decide +kernel
theorem dX2_openBays_31 : decode cX2_openBays 31 = .ok (.getfield 60, 3) := by decide +kernel
theorem dX2_openBays_34 : decode cX2_openBays 34 = .ok (.iload_n 2, 1) := by decide +kernel
theorem dX2_openBays_35 : decode cX2_openBays 35 = .ok (.aaload, 1) := by decide +kernel
theorem dX2_openBays_36 : decode cX2_openBays 36 = .ok (.iload_n 1, 1) := by decide +kernel
theorem dX2_openBays_37 : decode cX2_openBays 37 = .ok (.iaload, 1) := by decide +kernel
theorem dX2_openBays_38 : decode cX2_openBays 38 = .ok (.isub, 1) := by decide +kernel
theorem dX2_openBays_39 : decode cX2_openBays 39 = .ok (.iastore, 1) := by decide +kernel
theorem dX2_openBays_40 : decode cX2_openBays 40 = .ok (.iinc 2 1, 3) := by decide +kernel
theorem dX2_openBays_43 : decode cX2_openBays 43 = .ok (.goto (-41), 3) := by decide +kernel
theorem dX2_openBays_46 : decode cX2_openBays 46 = .ok (.aload_n 0, 1) := by decide +kernel
theorem dX2_openBays_47 : decode cX2_openBays 47 = .ok (.getfield 20, 3) := by decide +kernel
theorem dX2_openBays_50 : decode cX2_openBays 50 = .ok (.iconst 5, 1) := by decide +kernel
theorem dX2_openBays_51 : decode cX2_openBays 51 = .ok (.bipush 7, 2) := by decide +kernel
theorem dX2_openBays_53 : decode cX2_openBays 53 = .ok (.iastore, 1) := by decide +kernel
theorem dX2_openBays_54 : decode cX2_openBays 54 = .ok (.return_, 1) := by decide +kernel
theorem dX2_readRights_0 : decode cX2_readRights 0 = .ok (.iconst 0, 1) := by decide +kernel
theorem dX2_readRights_1 : decode cX2_readRights 1 = .ok (.istore_n 2, 1) := by decide +kernel
theorem dX2_readRights_2 : decode cX2_readRights 2 = .ok (.iload_n 2, 1) := by decide +kernel
theorem dX2_readRights_3 : decode cX2_readRights 3 = .ok (.aload_n 0, 1) := by decide +kernel
theorem dX2_readRights_4 : decode cX2_readRights 4 = .ok (.getfield 34, 3) := by decide +kernel
theorem dX2_readRights_7 : decode cX2_readRights 7 = .ok (.getfield 63, 3) := by decide +kernel
theorem dX2_readRights_10 : decode cX2_readRights 10 = .ok (.if_icmp .ge 54, 3) := by decide +kernel
theorem dX2_readRights_13 : decode cX2_readRights 13 = .ok (.iconst 0, 1) := by decide +kernel
theorem dX2_readRights_14 : decode cX2_readRights 14 = .ok (.istore_n 3, 1) := by decide +kernel
theorem dX2_readRights_15 : decode cX2_readRights 15 = .ok (.iload_n 3, 1) := by decide +kernel
theorem dX2_readRights_16 : decode cX2_readRights 16 = .ok (.aload_n 0, 1) := by decide +kernel
theorem dX2_readRights_17 : decode cX2_readRights 17 = .ok (.getfield 30, 3) := by decide +kernel
theorem dX2_readRights_20 : decode cX2_readRights 20 = .ok (.getfield 51, 3) := by decide +kernel
theorem dX2_readRights_23 : decode cX2_readRights 23 = .ok (.if_icmp .ge 35, 3) := by decide +kernel
theorem dX2_readRights_26 : decode cX2_readRights 26 = .ok (.aload_n 0, 1) := by decide +kernel
theorem dX2_readRights_27 : decode cX2_readRights 27 = .ok (.getfield 17, 3) := by decide +kernel
theorem dX2_readRights_30 : decode cX2_readRights 30 = .ok (.iload_n 2, 1) := by decide +kernel
theorem dX2_readRights_31 : decode cX2_readRights 31 = .ok (.aaload, 1) := by decide +kernel
theorem dX2_readRights_32 : decode cX2_readRights 32 = .ok (.iload_n 3, 1) := by decide +kernel
theorem dX2_readRights_33 : decode cX2_readRights 33 = .ok (.aload_n 0, 1) := by decide +kernel
theorem dX2_readRights_34 : decode cX2_readRights 34 = .ok (.getfield 34, 3) := by decide +kernel
theorem dX2_readRights_37 : decode cX2_readRights 37 = .ok (.iload_n 2, 1) := by decide +kernel
theorem dX2_readRights_38 : decode cX2_readRights 38 = .ok (.aload_n 0, 1) := by decide +kernel
theorem dX2_readRights_39 : decode cX2_readRights 39 = .ok (.getfield 30, 3) := by decide +kernel
theorem dX2_readRights_42 : decode cX2_readRights 42 = .ok (.getfield 66, 3) := by decide +kernel
theorem dX2_readRights_45 : decode cX2_readRights 45 = .ok (.iload_n 3, 1) := by decide +kernel
theorem dX2_readRights_46 : decode cX2_readRights 46 = .ok (.iaload, 1) := by decide +kernel
theorem dX2_readRights_47 : decode cX2_readRights 47 = .ok (.iload_n 1, 1) := by decide +kernel
theorem dX2_readRights_48 : decode cX2_readRights 48 = .ok (.invokevirtual 69, 3) := by decide +kernel
theorem dX2_readRights_51 : decode cX2_readRights 51 = .ok (.iastore, 1) := by decide +kernel
theorem dX2_readRights_52 : decode cX2_readRights 52 = .ok (.iinc 3 1, 3) := by decide +kernel
theorem dX2_readRights_55 : decode cX2_readRights 55 = .ok (.goto (-40), 3) := by decide +kernel
theorem dX2_readRights_58 : decode cX2_readRights 58 = .ok (.iinc 2 1, 3) := by decide +kernel
theorem dX2_readRights_61 : decode cX2_readRights 61 = .ok (.goto (-59), 3) := by decide +kernel
theorem dX2_readRights_64 : decode cX2_readRights 64 = .ok (.return_, 1) := by decide +kernel
theorem dX2_comeHome_0 : decode cX2_comeHome 0 = .ok (.iconst 0, 1) := by decide +kernel
theorem dX2_comeHome_1 : decode cX2_comeHome 1 = .ok (.istore_n 1, 1) := by decide +kernel
theorem dX2_comeHome_2 : decode cX2_comeHome 2 = .ok (.iload_n 1, 1) := by decide +kernel
theorem dX2_comeHome_3 : decode cX2_comeHome 3 = .ok (.aload_n 0, 1) := by decide +kernel
theorem dX2_comeHome_4 : decode cX2_comeHome 4 = .ok (.getfield 34, 3) := by decide +kernel
theorem dX2_comeHome_7 : decode cX2_comeHome 7 = .ok (.getfield 63, 3) := by decide +kernel
theorem dX2_comeHome_10 : decode cX2_comeHome 10 = .ok (.if_icmp .ge 45, 3) := by decide +kernel
theorem dX2_comeHome_13 : decode cX2_comeHome 13 = .ok (.aload_n 0, 1) := by decide +kernel
theorem dX2_comeHome_14 : decode cX2_comeHome 14 = .ok (.getfield 34, 3) := by decide +kernel
theorem dX2_comeHome_17 : decode cX2_comeHome 17 = .ok (.getfield 72, 3) := by decide +kernel
theorem dX2_comeHome_20 : decode cX2_comeHome 20 = .ok (.iload_n 1, 1) := by decide +kernel
theorem dX2_comeHome_21 : decode cX2_comeHome 21 = .ok (.iaload, 1) := by decide +kernel
theorem dX2_comeHome_22 : decode cX2_comeHome 22 = .ok (.istore_n 2, 1) := by decide +kernel
theorem dX2_comeHome_23 : decode cX2_comeHome 23 = .ok (.aload_n 0, 1) := by decide +kernel
theorem dX2_comeHome_24 : decode cX2_comeHome 24 = .ok (.getfield 9, 3) := by decide +kernel
theorem dX2_comeHome_27 : decode cX2_comeHome 27 = .ok (.iload_n 2, 1) := by decide +kernel
theorem dX2_comeHome_28 : decode cX2_comeHome 28 = .ok (.aload_n 0, 1) := by decide +kernel
theorem dX2_comeHome_29 : decode cX2_comeHome 29 = .ok (.iload_n 2, 1) := by decide +kernel
theorem dX2_comeHome_30 : decode cX2_comeHome 30 = .ok (.invokevirtual 75, 3) := by decide +kernel
theorem dX2_comeHome_33 : decode cX2_comeHome 33 = .ok (.iastore, 1) := by decide +kernel
theorem dX2_comeHome_34 : decode cX2_comeHome 34 = .ok (.aload_n 0, 1) := by decide +kernel
theorem dX2_comeHome_35 : decode cX2_comeHome 35 = .ok (.getfield 20, 3) := by decide +kernel
theorem dX2_comeHome_38 : decode cX2_comeHome 38 = .ok (.aload_n 0, 1) := by decide +kernel
theorem dX2_comeHome_39 : decode cX2_comeHome 39 = .ok (.getfield 9, 3) := by decide +kernel
theorem dX2_comeHome_42 : decode cX2_comeHome 42 = .ok (.iload_n 2, 1) := by decide +kernel
theorem dX2_comeHome_43 : decode cX2_comeHome 43 = .ok (.iaload, 1) := by decide +kernel
theorem dX2_comeHome_44 : decode cX2_comeHome 44 = .ok (.dup2, 1) := by decide +kernel
theorem dX2_comeHome_45 : decode cX2_comeHome 45 = .ok (.iaload, 1) := by decide +kernel
theorem dX2_comeHome_46 : decode cX2_comeHome 46 = .ok (.iconst 1, 1) := by decide +kernel
theorem dX2_comeHome_47 : decode cX2_comeHome 47 = .ok (.isub, 1) := by decide +kernel
theorem dX2_comeHome_48 : decode cX2_comeHome 48 = .ok (.iastore, 1) := by decide +kernel
theorem dX2_comeHome_49 : decode cX2_comeHome 49 = .ok (.iinc 1 1, 3) := by decide +kernel
theorem dX2_comeHome_52 : decode cX2_comeHome 52 = .ok (.goto (-50), 3) := by decide +kernel
theorem dX2_comeHome_55 : decode cX2_comeHome 55 = .ok (.return_, 1) := by decide +kernel
theorem dX2_choose_0 : decode cX2_choose 0 = .ok (.iconst 5, 1) := by decide +kernel
theorem dX2_choose_1 : decode cX2_choose 1 = .ok (.istore_n 2, 1) := by decide +kernel
theorem dX2_choose_2 : decode cX2_choose 2 = .ok (.iconst 0, 1) := by decide +kernel
theorem dX2_choose_3 : decode cX2_choose 3 = .ok (.istore_n 3, 1) := by decide +kernel
theorem dX2_choose_4 : decode cX2_choose 4 = .ok (.iload_n 3, 1) := by decide +kernel
theorem dX2_choose_5 : decode cX2_choose 5 = .ok (.iconst 5, 1) := by decide +kernel
theorem dX2_choose_6 : decode cX2_choose 6 = .ok (.if_icmp .ge 44, 3) := by decide +kernel
theorem dX2_choose_9 : decode cX2_choose 9 = .ok (.aload_n 0, 1) := by decide +kernel
theorem dX2_choose_10 : decode cX2_choose 10 = .ok (.getfield 20, 3) := by decide +kernel
theorem dX2_choose_13 : decode cX2_choose 13 = .ok (.iload_n 3, 1) := by decide +kernel
theorem dX2_choose_14 : decode cX2_choose 14 = .ok (.iaload, 1) := by decide +kernel
theorem dX2_choose_15 : decode cX2_choose 15 = .ok (.ifCond .le 29, 3) := by decide +kernel
theorem dX2_choose_18 : decode cX2_choose 18 = .ok (.aload_n 0, 1) := by decide +kernel
theorem dX2_choose_19 : decode cX2_choose 19 = .ok (.iload_n 1, 1) := by decide +kernel
theorem dX2_choose_20 : decode cX2_choose 20 = .ok (.iload_n 3, 1) := by decide +kernel
theorem dX2_choose_21 : decode cX2_choose 21 = .ok (.invokevirtual 79, 3) := by decide +kernel
theorem dX2_choose_24 : decode cX2_choose 24 = .ok (.ifCond .eq 20, 3) := by decide +kernel
theorem dX2_choose_27 : decode cX2_choose 27 = .ok (.iload_n 2, 1) := by decide +kernel
theorem dX2_choose_28 : decode cX2_choose 28 = .ok (.iconst 5, 1) := by decide +kernel
theorem dX2_choose_29 : decode cX2_choose 29 = .ok (.if_icmp .eq 13, 3) := by decide +kernel
theorem dX2_choose_32 : decode cX2_choose 32 = .ok (.aload_n 0, 1) := by decide +kernel
theorem dX2_choose_33 : decode cX2_choose 33 = .ok (.iload_n 1, 1) := by decide +kernel
theorem dX2_choose_34 : decode cX2_choose 34 = .ok (.iload_n 3, 1) := by decide +kernel
theorem dX2_choose_35 : decode cX2_choose 35 = .ok (.iload_n 2, 1) := by decide +kernel
theorem dX2_choose_36 : decode cX2_choose 36 = .ok (.invokevirtual 83, 3) := by decide +kernel
theorem dX2_choose_39 : decode cX2_choose 39 = .ok (.ifCond .eq 5, 3) := by decide +kernel
theorem dX2_choose_42 : decode cX2_choose 42 = .ok (.iload_n 3, 1) := by decide +kernel
theorem dX2_choose_43 : decode cX2_choose 43 = .ok (.istore_n 2, 1) := by decide +kernel
theorem dX2_choose_44 : decode cX2_choose 44 = .ok (.iinc 3 1, 3) := by decide +kernel
theorem dX2_choose_47 : decode cX2_choose 47 = .ok (.goto (-43), 3) := by decide +kernel
theorem dX2_choose_50 : decode cX2_choose 50 = .ok (.iload_n 2, 1) := by decide +kernel
theorem dX2_choose_51 : decode cX2_choose 51 = .ok (.ireturn, 1) := by decide +kernel
theorem dX2_isBetter_0 : decode cX2_isBetter 0 = .ok (.aload_n 0, 1) := by decide +kernel
theorem dX2_isBetter_1 : decode cX2_isBetter 1 = .ok (.iload_n 1, 1) := by decide +kernel
theorem dX2_isBetter_2 : decode cX2_isBetter 2 = .ok (.iload_n 2, 1) := by decide +kernel
theorem dX2_isBetter_3 : decode cX2_isBetter 3 = .ok (.invokevirtual 87, 3) := by decide +kernel
theorem dX2_isBetter_6 : decode cX2_isBetter 6 = .ok (.istore 4, 2) := by decide +kernel
theorem dX2_isBetter_8 : decode cX2_isBetter 8 = .ok (.aload_n 0, 1) := by decide +kernel
theorem dX2_isBetter_9 : decode cX2_isBetter 9 = .ok (.iload_n 1, 1) := by decide +kernel
theorem dX2_isBetter_10 : decode cX2_isBetter 10 = .ok (.iload_n 3, 1) := by decide +kernel
theorem dX2_isBetter_11 : decode cX2_isBetter 11 = .ok (.invokevirtual 87, 3) := by decide +kernel
theorem dX2_isBetter_14 : decode cX2_isBetter 14 = .ok (.istore 5, 2) := by decide +kernel
theorem dX2_isBetter_16 : decode cX2_isBetter 16 = .ok (.iload 4, 2) := by decide +kernel
theorem dX2_isBetter_18 : decode cX2_isBetter 18 = .ok (.iload 5, 2) := by decide +kernel
theorem dX2_isBetter_20 : decode cX2_isBetter 20 = .ok (.if_icmp .lt 29, 3) := by decide +kernel
theorem dX2_isBetter_23 : decode cX2_isBetter 23 = .ok (.iload 4, 2) := by decide +kernel
theorem dX2_isBetter_25 : decode cX2_isBetter 25 = .ok (.iload 5, 2) := by decide +kernel
theorem dX2_isBetter_27 : decode cX2_isBetter 27 = .ok (.if_icmp .ne 26, 3) := by decide +kernel
theorem dX2_isBetter_30 : decode cX2_isBetter 30 = .ok (.aload_n 0, 1) := by decide +kernel
theorem dX2_isBetter_31 : decode cX2_isBetter 31 = .ok (.getfield 17, 3) := by decide +kernel
theorem dX2_isBetter_34 : decode cX2_isBetter 34 = .ok (.iload_n 1, 1) := by decide +kernel
theorem dX2_isBetter_35 : decode cX2_isBetter 35 = .ok (.aaload, 1) := by decide +kernel
theorem dX2_isBetter_36 : decode cX2_isBetter 36 = .ok (.iload_n 2, 1) := by decide +kernel
theorem dX2_isBetter_37 : decode cX2_isBetter 37 = .ok (.iaload, 1) := by decide +kernel
theorem dX2_isBetter_38 : decode cX2_isBetter 38 = .ok (.aload_n 0, 1) := by decide +kernel
theorem dX2_isBetter_39 : decode cX2_isBetter 39 = .ok (.getfield 17, 3) := by decide +kernel
theorem dX2_isBetter_42 : decode cX2_isBetter 42 = .ok (.iload_n 1, 1) := by decide +kernel
theorem dX2_isBetter_43 : decode cX2_isBetter 43 = .ok (.aaload, 1) := by decide +kernel
theorem dX2_isBetter_44 : decode cX2_isBetter 44 = .ok (.iload_n 3, 1) := by decide +kernel
theorem dX2_isBetter_45 : decode cX2_isBetter 45 = .ok (.iaload, 1) := by decide +kernel
theorem dX2_isBetter_46 : decode cX2_isBetter 46 = .ok (.if_icmp .le 7, 3) := by decide +kernel
theorem dX2_isBetter_49 : decode cX2_isBetter 49 = .ok (.iconst 1, 1) := by decide +kernel
theorem dX2_isBetter_50 : decode cX2_isBetter 50 = .ok (.goto 4, 3) := by decide +kernel
theorem dX2_isBetter_53 : decode cX2_isBetter 53 = .ok (.iconst 0, 1) := by decide +kernel
theorem dX2_isBetter_54 : decode cX2_isBetter 54 = .ok (.ireturn, 1) := by decide +kernel
theorem dX2_isWithin_0 : decode cX2_isWithin 0 = .ok (.aload_n 0, 1) := by decide +kernel
theorem dX2_isWithin_1 : decode cX2_isWithin 1 = .ok (.getfield 17, 3) := by decide +kernel
theorem dX2_isWithin_4 : decode cX2_isWithin 4 = .ok (.iload_n 1, 1) := by decide +kernel
theorem dX2_isWithin_5 : decode cX2_isWithin 5 = .ok (.aaload, 1) := by decide +kernel
theorem dX2_isWithin_6 : decode cX2_isWithin 6 = .ok (.iload_n 2, 1) := by decide +kernel
theorem dX2_isWithin_7 : decode cX2_isWithin 7 = .ok (.iaload, 1) := by decide +kernel
theorem dX2_isWithin_8 : decode cX2_isWithin 8 = .ok (.ifCond .eq 25, 3) := by decide +kernel
theorem dX2_isWithin_11 : decode cX2_isWithin 11 = .ok (.aload_n 0, 1) := by decide +kernel
theorem dX2_isWithin_12 : decode cX2_isWithin 12 = .ok (.iload_n 1, 1) := by decide +kernel
theorem dX2_isWithin_13 : decode cX2_isWithin 13 = .ok (.iload_n 2, 1) := by decide +kernel
theorem dX2_isWithin_14 : decode cX2_isWithin 14 = .ok (.invokevirtual 87, 3) := by decide +kernel
theorem dX2_isWithin_17 : decode cX2_isWithin 17 = .ok (.aload_n 0, 1) := by decide +kernel
theorem dX2_isWithin_18 : decode cX2_isWithin 18 = .ok (.getfield 34, 3) := by decide +kernel
theorem dX2_isWithin_21 : decode cX2_isWithin 21 = .ok (.getfield 91, 3) := by decide +kernel
theorem dX2_isWithin_24 : decode cX2_isWithin 24 = .ok (.iload_n 1, 1) := by decide +kernel
theorem dX2_isWithin_25 : decode cX2_isWithin 25 = .ok (.iaload, 1) := by decide +kernel
theorem dX2_isWithin_26 : decode cX2_isWithin 26 = .ok (.if_icmp .gt 7, 3) := by decide +kernel
theorem dX2_isWithin_29 : decode cX2_isWithin 29 = .ok (.iconst 1, 1) := by decide +kernel
theorem dX2_isWithin_30 : decode cX2_isWithin 30 = .ok (.goto 4, 3) := by decide +kernel
theorem dX2_isWithin_33 : decode cX2_isWithin 33 = .ok (.iconst 0, 1) := by decide +kernel
theorem dX2_isWithin_34 : decode cX2_isWithin 34 = .ok (.ireturn, 1) := by decide +kernel
theorem dX2_walkTo_0 : decode cX2_walkTo 0 = .ok (.aload_n 0, 1) := by decide +kernel
theorem dX2_walkTo_1 : decode cX2_walkTo 1 = .ok (.getfield 30, 3) := by decide +kernel
theorem dX2_walkTo_4 : decode cX2_walkTo 4 = .ok (.getfield 94, 3) := by decide +kernel
theorem dX2_walkTo_7 : decode cX2_walkTo 7 = .ok (.aload_n 0, 1) := by decide +kernel
theorem dX2_walkTo_8 : decode cX2_walkTo 8 = .ok (.getfield 34, 3) := by decide +kernel
theorem dX2_walkTo_11 : decode cX2_walkTo 11 = .ok (.getfield 97, 3) := by decide +kernel
theorem dX2_walkTo_14 : decode cX2_walkTo 14 = .ok (.iload_n 1, 1) := by decide +kernel
theorem dX2_walkTo_15 : decode cX2_walkTo 15 = .ok (.iaload, 1) := by decide +kernel
theorem dX2_walkTo_16 : decode cX2_walkTo 16 = .ok (.aaload, 1) := by decide +kernel
theorem dX2_walkTo_17 : decode cX2_walkTo 17 = .ok (.iload_n 2, 1) := by decide +kernel
theorem dX2_walkTo_18 : decode cX2_walkTo 18 = .ok (.iaload, 1) := by decide +kernel
theorem dX2_walkTo_19 : decode cX2_walkTo 19 = .ok (.ireturn, 1) := by decide +kernel
theorem dX2_layLeast_0 : decode cX2_layLeast 0 = .ok (.iconst 0, 1) := by decide +kernel
theorem dX2_layLeast_1 : decode cX2_layLeast 1 = .ok (.istore_n 1, 1) := by decide +kernel
theorem dX2_layLeast_2 : decode cX2_layLeast 2 = .ok (.iload_n 1, 1) := by decide +kernel
theorem dX2_layLeast_3 : decode cX2_layLeast 3 = .ok (.aload_n 0, 1) := by decide +kernel
theorem dX2_layLeast_4 : decode cX2_layLeast 4 = .ok (.getfield 34, 3) := by decide +kernel
theorem dX2_layLeast_7 : decode cX2_layLeast 7 = .ok (.getfield 63, 3) := by decide +kernel
theorem dX2_layLeast_10 : decode cX2_layLeast 10 = .ok (.if_icmp .ge 82, 3) := by decide +kernel
theorem dX2_layLeast_13 : decode cX2_layLeast 13 = .ok (.iconst 0, 1) := by decide +kernel
theorem dX2_layLeast_14 : decode cX2_layLeast 14 = .ok (.istore_n 2, 1) := by decide +kernel
theorem dX2_layLeast_15 : decode cX2_layLeast 15 = .ok (.iload_n 2, 1) := by decide +kernel
theorem dX2_layLeast_16 : decode cX2_layLeast 16 = .ok (.iconst 5, 1) := by decide +kernel
theorem dX2_layLeast_17 : decode cX2_layLeast 17 = .ok (.if_icmp .ge 45, 3) := by decide +kernel
theorem dX2_layLeast_20 : decode cX2_layLeast 20 = .ok (.aload_n 0, 1) := by decide +kernel
theorem dX2_layLeast_21 : decode cX2_layLeast 21 = .ok (.iload_n 1, 1) := by decide +kernel
theorem dX2_layLeast_22 : decode cX2_layLeast 22 = .ok (.iload_n 2, 1) := by decide +kernel
theorem dX2_layLeast_23 : decode cX2_layLeast 23 = .ok (.invokevirtual 79, 3) := by decide +kernel
theorem dX2_layLeast_26 : decode cX2_layLeast 26 = .ok (.ifCond .eq 21, 3) := by decide +kernel
theorem dX2_layLeast_29 : decode cX2_layLeast 29 = .ok (.aload_n 0, 1) := by decide +kernel
theorem dX2_layLeast_30 : decode cX2_layLeast 30 = .ok (.getfield 26, 3) := by decide +kernel
theorem dX2_layLeast_33 : decode cX2_layLeast 33 = .ok (.iload_n 1, 1) := by decide +kernel
theorem dX2_layLeast_34 : decode cX2_layLeast 34 = .ok (.iload_n 2, 1) := by decide +kernel
theorem dX2_layLeast_35 : decode cX2_layLeast 35 = .ok (.aload_n 0, 1) := by decide +kernel
theorem dX2_layLeast_36 : decode cX2_layLeast 36 = .ok (.iload_n 1, 1) := by decide +kernel
theorem dX2_layLeast_37 : decode cX2_layLeast 37 = .ok (.iload_n 2, 1) := by decide +kernel
theorem dX2_layLeast_38 : decode cX2_layLeast 38 = .ok (.invokevirtual 87, 3) := by decide +kernel
theorem dX2_layLeast_41 : decode cX2_layLeast 41 = .ok (.invokevirtual 100, 3) := by decide +kernel
theorem dX2_layLeast_44 : decode cX2_layLeast 44 = .ok (.goto 12, 3) := by decide +kernel
theorem dX2_layLeast_47 : decode cX2_layLeast 47 = .ok (.aload_n 0, 1) := by decide +kernel
theorem dX2_layLeast_48 : decode cX2_layLeast 48 = .ok (.getfield 26, 3) := by decide +kernel
theorem dX2_layLeast_51 : decode cX2_layLeast 51 = .ok (.iload_n 1, 1) := by decide +kernel
theorem dX2_layLeast_52 : decode cX2_layLeast 52 = .ok (.iload_n 2, 1) := by decide +kernel
theorem dX2_layLeast_53 : decode cX2_layLeast 53 = .ok (.invokevirtual 104, 3) := by decide +kernel
theorem dX2_layLeast_56 : decode cX2_layLeast 56 = .ok (.iinc 2 1, 3) := by decide +kernel
theorem dX2_layLeast_59 : decode cX2_layLeast 59 = .ok (.goto (-44), 3) := by decide +kernel
theorem dX2_layLeast_62 : decode cX2_layLeast 62 = .ok (.aload_n 0, 1) := by decide +kernel
theorem dX2_layLeast_63 : decode cX2_layLeast 63 = .ok (.getfield 26, 3) := by decide +kernel
theorem dX2_layLeast_66 : decode cX2_layLeast 66 = .ok (.iload_n 1, 1) := by decide +kernel
theorem dX2_layLeast_67 : decode cX2_layLeast 67 = .ok (.invokevirtual 108, 3) := by decide +kernel
theorem dX2_layLeast_70 : decode cX2_layLeast 70 = .ok (.aload_n 0, 1) := by decide +kernel
theorem dX2_layLeast_71 : decode cX2_layLeast 71 = .ok (.getfield 26, 3) := by decide +kernel
theorem dX2_layLeast_74 : decode cX2_layLeast 74 = .ok (.iload_n 1, 1) := by decide +kernel
theorem dX2_layLeast_75 : decode cX2_layLeast 75 = .ok (.aload_n 0, 1) := by decide +kernel
theorem dX2_layLeast_76 : decode cX2_layLeast 76 = .ok (.getfield 9, 3) := by decide +kernel
theorem dX2_layLeast_79 : decode cX2_layLeast 79 = .ok (.aload_n 0, 1) := by decide +kernel
theorem dX2_layLeast_80 : decode cX2_layLeast 80 = .ok (.getfield 20, 3) := by decide +kernel
theorem dX2_layLeast_83 : decode cX2_layLeast 83 = .ok (.invokevirtual 111, 3) := by decide +kernel
theorem dX2_layLeast_86 : decode cX2_layLeast 86 = .ok (.iinc 1 1, 3) := by decide +kernel
theorem dX2_layLeast_89 : decode cX2_layLeast 89 = .ok (.goto (-87), 3) := by decide +kernel
theorem dX2_layLeast_92 : decode cX2_layLeast 92 = .ok (.return_, 1) := by decide +kernel
theorem dX2_tell_0 : decode cX2_tell 0 = .ok (.iconst 0, 1) := by decide +kernel
theorem dX2_tell_1 : decode cX2_tell 1 = .ok (.istore_n 2, 1) := by decide +kernel
theorem dX2_tell_2 : decode cX2_tell 2 = .ok (.iconst 0, 1) := by decide +kernel
theorem dX2_tell_3 : decode cX2_tell 3 = .ok (.istore_n 3, 1) := by decide +kernel
theorem dX2_tell_4 : decode cX2_tell 4 = .ok (.iload_n 3, 1) := by decide +kernel
theorem dX2_tell_5 : decode cX2_tell 5 = .ok (.aload_n 0, 1) := by decide +kernel
theorem dX2_tell_6 : decode cX2_tell 6 = .ok (.getfield 34, 3) := by decide +kernel
theorem dX2_tell_9 : decode cX2_tell 9 = .ok (.getfield 63, 3) := by decide +kernel
theorem dX2_tell_12 : decode cX2_tell 12 = .ok (.if_icmp .ge 18, 3) := by decide +kernel
theorem dX2_tell_15 : decode cX2_tell 15 = .ok (.iload_n 2, 1) := by decide +kernel
theorem dX2_tell_16 : decode cX2_tell 16 = .ok (.aload_n 0, 1) := by decide +kernel
theorem dX2_tell_17 : decode cX2_tell 17 = .ok (.iload_n 1, 1) := by decide +kernel
theorem dX2_tell_18 : decode cX2_tell 18 = .ok (.iload_n 3, 1) := by decide +kernel
theorem dX2_tell_19 : decode cX2_tell 19 = .ok (.invokevirtual 115, 3) := by decide +kernel
theorem dX2_tell_22 : decode cX2_tell 22 = .ok (.iadd, 1) := by decide +kernel
theorem dX2_tell_23 : decode cX2_tell 23 = .ok (.istore_n 2, 1) := by decide +kernel
theorem dX2_tell_24 : decode cX2_tell 24 = .ok (.iinc 3 1, 3) := by decide +kernel
theorem dX2_tell_27 : decode cX2_tell 27 = .ok (.goto (-23), 3) := by decide +kernel
theorem dX2_tell_30 : decode cX2_tell 30 = .ok (.iload_n 2, 1) := by decide +kernel
theorem dX2_tell_31 : decode cX2_tell 31 = .ok (.ireturn, 1) := by decide +kernel
theorem dX2_tellOne_0 : decode cX2_tellOne 0 = .ok (.aload_n 0, 1) := by decide +kernel
theorem dX2_tellOne_1 : decode cX2_tellOne 1 = .ok (.getfield 9, 3) := by decide +kernel
theorem dX2_tellOne_4 : decode cX2_tellOne 4 = .ok (.iload_n 2, 1) := by decide +kernel
theorem dX2_tellOne_5 : decode cX2_tellOne 5 = .ok (.iaload, 1) := by decide +kernel
theorem dX2_tellOne_6 : decode cX2_tellOne 6 = .ok (.iconst 5, 1) := by decide +kernel
theorem dX2_tellOne_7 : decode cX2_tellOne 7 = .ok (.if_icmp .ne 14, 3) := by decide +kernel
theorem dX2_tellOne_10 : decode cX2_tellOne 10 = .ok (.iload_n 1, 1) := by decide +kernel
theorem dX2_tellOne_11 : decode cX2_tellOne 11 = .ok (.iconst 1, 1) := by decide +kernel
theorem dX2_tellOne_12 : decode cX2_tellOne 12 = .ok (.if_icmp .ne 7, 3) := by decide +kernel
theorem dX2_tellOne_15 : decode cX2_tellOne 15 = .ok (.iconst 1, 1) := by decide +kernel
theorem dX2_tellOne_16 : decode cX2_tellOne 16 = .ok (.goto 4, 3) := by decide +kernel
theorem dX2_tellOne_19 : decode cX2_tellOne 19 = .ok (.iconst 0, 1) := by decide +kernel
theorem dX2_tellOne_20 : decode cX2_tellOne 20 = .ok (.ireturn, 1) := by decide +kernel
theorem dX2_tellOne_21 : decode cX2_tellOne 21 = .ok (.iload_n 1, 1) := by decide +kernel
theorem dX2_tellOne_22 : decode cX2_tellOne 22 = .ok (.ifCond .ne 15, 3) := by decide +kernel
theorem dX2_tellOne_25 : decode cX2_tellOne 25 = .ok (.aload_n 0, 1) := by decide +kernel
theorem dX2_tellOne_26 : decode cX2_tellOne 26 = .ok (.iload_n 2, 1) := by decide +kernel
theorem dX2_tellOne_27 : decode cX2_tellOne 27 = .ok (.aload_n 0, 1) := by decide +kernel
theorem dX2_tellOne_28 : decode cX2_tellOne 28 = .ok (.getfield 9, 3) := by decide +kernel
theorem dX2_tellOne_31 : decode cX2_tellOne 31 = .ok (.iload_n 2, 1) := by decide +kernel
theorem dX2_tellOne_32 : decode cX2_tellOne 32 = .ok (.iaload, 1) := by decide +kernel
theorem dX2_tellOne_33 : decode cX2_tellOne 33 = .ok (.invokevirtual 87, 3) := by decide +kernel
theorem dX2_tellOne_36 : decode cX2_tellOne 36 = .ok (.ireturn, 1) := by decide +kernel
theorem dX2_tellOne_37 : decode cX2_tellOne 37 = .ok (.iload_n 1, 1) := by decide +kernel
theorem dX2_tellOne_38 : decode cX2_tellOne 38 = .ok (.iconst 2, 1) := by decide +kernel
theorem dX2_tellOne_39 : decode cX2_tellOne 39 = .ok (.if_icmp .ne 15, 3) := by decide +kernel
theorem dX2_tellOne_42 : decode cX2_tellOne 42 = .ok (.aload_n 0, 1) := by decide +kernel
theorem dX2_tellOne_43 : decode cX2_tellOne 43 = .ok (.iload_n 2, 1) := by decide +kernel
theorem dX2_tellOne_44 : decode cX2_tellOne 44 = .ok (.invokevirtual 118, 3) := by decide +kernel
theorem dX2_tellOne_47 : decode cX2_tellOne 47 = .ok (.ifCond .eq 7, 3) := by decide +kernel
theorem dX2_tellOne_50 : decode cX2_tellOne 50 = .ok (.iconst 1, 1) := by decide +kernel
theorem dX2_tellOne_51 : decode cX2_tellOne 51 = .ok (.goto 4, 3) := by decide +kernel
theorem dX2_tellOne_54 : decode cX2_tellOne 54 = .ok (.iconst 0, 1) := by decide +kernel
theorem dX2_tellOne_55 : decode cX2_tellOne 55 = .ok (.ireturn, 1) := by decide +kernel
theorem dX2_standsByCard_0 : decode cX2_standsByCard 0 = .ok (.aload_n 0, 1) := by decide +kernel
theorem dX2_standsByCard_1 : decode cX2_standsByCard 1 = .ok (.getfield 9, 3) := by decide +kernel
theorem dX2_standsByCard_4 : decode cX2_standsByCard 4 = .ok (.iload_n 1, 1) := by decide +kernel
theorem dX2_standsByCard_5 : decode cX2_standsByCard 5 = .ok (.iaload, 1) := by decide +kernel
theorem dX2_standsByCard_6 : decode cX2_standsByCard 6 = .ok (.iconst 5, 1) := by decide +kernel
theorem dX2_standsByCard_7 : decode cX2_standsByCard 7 = .ok (.if_icmp .eq 24, 3) := by decide +kernel
theorem dX2_standsByCard_10 : decode cX2_standsByCard 10 = .ok (.aload_n 0, 1) := by decide +kernel
theorem dX2_standsByCard_11 : decode cX2_standsByCard 11 = .ok (.getfield 17, 3) := by decide +kernel
theorem dX2_standsByCard_14 : decode cX2_standsByCard 14 = .ok (.iload_n 1, 1) := by decide +kernel
theorem dX2_standsByCard_15 : decode cX2_standsByCard 15 = .ok (.aaload, 1) := by decide +kernel
theorem dX2_standsByCard_16 : decode cX2_standsByCard 16 = .ok (.aload_n 0, 1) := by decide +kernel
theorem dX2_standsByCard_17 : decode cX2_standsByCard 17 = .ok (.getfield 9, 3) := by decide +kernel
theorem dX2_standsByCard_20 : decode cX2_standsByCard 20 = .ok (.iload_n 1, 1) := by decide +kernel
theorem dX2_standsByCard_21 : decode cX2_standsByCard 21 = .ok (.iaload, 1) := by decide +kernel
theorem dX2_standsByCard_22 : decode cX2_standsByCard 22 = .ok (.iaload, 1) := by decide +kernel
theorem dX2_standsByCard_23 : decode cX2_standsByCard 23 = .ok (.iconst 1, 1) := by decide +kernel
theorem dX2_standsByCard_24 : decode cX2_standsByCard 24 = .ok (.if_icmp .ne 7, 3) := by decide +kernel
theorem dX2_standsByCard_27 : decode cX2_standsByCard 27 = .ok (.iconst 1, 1) := by decide +kernel
theorem dX2_standsByCard_28 : decode cX2_standsByCard 28 = .ok (.goto 4, 3) := by decide +kernel
theorem dX2_standsByCard_31 : decode cX2_standsByCard 31 = .ok (.iconst 0, 1) := by decide +kernel
theorem dX2_standsByCard_32 : decode cX2_standsByCard 32 = .ok (.ireturn, 1) := by decide +kernel
theorem dX2_useCards_0 : decode cX2_useCards 0 = .ok (.iconst 0, 1) := by decide +kernel
theorem dX2_useCards_1 : decode cX2_useCards 1 = .ok (.istore_n 1, 1) := by decide +kernel
theorem dX2_useCards_2 : decode cX2_useCards 2 = .ok (.iconst 0, 1) := by decide +kernel
theorem dX2_useCards_3 : decode cX2_useCards 3 = .ok (.istore_n 2, 1) := by decide +kernel
theorem dX2_useCards_4 : decode cX2_useCards 4 = .ok (.iload_n 2, 1) := by decide +kernel
theorem dX2_useCards_5 : decode cX2_useCards 5 = .ok (.aload_n 0, 1) := by decide +kernel
theorem dX2_useCards_6 : decode cX2_useCards 6 = .ok (.getfield 34, 3) := by decide +kernel
theorem dX2_useCards_9 : decode cX2_useCards 9 = .ok (.getfield 63, 3) := by decide +kernel
theorem dX2_useCards_12 : decode cX2_useCards 12 = .ok (.if_icmp .ge 48, 3) := by decide +kernel
theorem dX2_useCards_15 : decode cX2_useCards 15 = .ok (.aload_n 0, 1) := by decide +kernel
theorem dX2_useCards_16 : decode cX2_useCards 16 = .ok (.iload_n 2, 1) := by decide +kernel
theorem dX2_useCards_17 : decode cX2_useCards 17 = .ok (.invokevirtual 118, 3) := by decide +kernel
theorem dX2_useCards_20 : decode cX2_useCards 20 = .ok (.ifCond .eq 34, 3) := by decide +kernel
theorem dX2_useCards_23 : decode cX2_useCards 23 = .ok (.aload_n 0, 1) := by decide +kernel
theorem dX2_useCards_24 : decode cX2_useCards 24 = .ok (.getfield 34, 3) := by decide +kernel
theorem dX2_useCards_27 : decode cX2_useCards 27 = .ok (.getfield 122, 3) := by decide +kernel
theorem dX2_useCards_30 : decode cX2_useCards 30 = .ok (.iload_n 2, 1) := by decide +kernel
theorem dX2_useCards_31 : decode cX2_useCards 31 = .ok (.aaload, 1) := by decide +kernel
theorem dX2_useCards_32 : decode cX2_useCards 32 = .ok (.aload_n 0, 1) := by decide +kernel
theorem dX2_useCards_33 : decode cX2_useCards 33 = .ok (.getfield 30, 3) := by decide +kernel
theorem dX2_useCards_36 : decode cX2_useCards 36 = .ok (.getfield 66, 3) := by decide +kernel
theorem dX2_useCards_39 : decode cX2_useCards 39 = .ok (.aload_n 0, 1) := by decide +kernel
theorem dX2_useCards_40 : decode cX2_useCards 40 = .ok (.getfield 9, 3) := by decide +kernel
theorem dX2_useCards_43 : decode cX2_useCards 43 = .ok (.iload_n 2, 1) := by decide +kernel
theorem dX2_useCards_44 : decode cX2_useCards 44 = .ok (.iaload, 1) := by decide +kernel
theorem dX2_useCards_45 : decode cX2_useCards 45 = .ok (.iaload, 1) := by decide +kernel
theorem dX2_useCards_46 : decode cX2_useCards 46 = .ok (.dup2, 1) := by decide +kernel
theorem dX2_useCards_47 : decode cX2_useCards 47 = .ok (.iaload, 1) := by decide +kernel
theorem dX2_useCards_48 : decode cX2_useCards 48 = .ok (.iconst 1, 1) := by decide +kernel
theorem dX2_useCards_49 : decode cX2_useCards 49 = .ok (.isub, 1) := by decide +kernel
theorem dX2_useCards_50 : decode cX2_useCards 50 = .ok (.iastore, 1) := by decide +kernel
theorem dX2_useCards_51 : decode cX2_useCards 51 = .ok (.iinc 1 1, 3) := by decide +kernel
theorem dX2_useCards_54 : decode cX2_useCards 54 = .ok (.iinc 2 1, 3) := by decide +kernel
theorem dX2_useCards_57 : decode cX2_useCards 57 = .ok (.goto (-53), 3) := by decide +kernel
theorem dX2_useCards_60 : decode cX2_useCards 60 = .ok (.iload_n 1, 1) := by decide +kernel
theorem dX2_useCards_61 : decode cX2_useCards 61 = .ok (.ireturn, 1) := by decide +kernel
theorem dX3_init_0 : decode cX3_init 0 = .ok (.aload_n 0, 1) := by decide +kernel
theorem dX3_init_1 : decode cX3_init 1 = .ok (.invokespecial 1, 3) := by decide +kernel
theorem dX3_init_4 : decode cX3_init 4 = .ok (.iload_n 1, 1) := by decide +kernel
theorem dX3_init_5 : decode cX3_init 5 = .ok (.ifCond .le 15, 3) := by decide +kernel
theorem dX3_init_8 : decode cX3_init 8 = .ok (.iload_n 2, 1) := by decide +kernel
theorem dX3_init_9 : decode cX3_init 9 = .ok (.ifCond .le 11, 3) := by decide +kernel
theorem dX3_init_12 : decode cX3_init 12 = .ok (.iload_n 1, 1) := by decide +kernel
theorem dX3_init_13 : decode cX3_init 13 = .ok (.iload_n 2, 1) := by decide +kernel
theorem dX3_init_14 : decode cX3_init 14 = .ok (.invokestatic 7, 3) := by decide +kernel
theorem dX3_init_17 : decode cX3_init 17 = .ok (.goto 4, 3) := by decide +kernel
theorem dX3_init_20 : decode cX3_init 20 = .ok (.iconst 0, 1) := by decide +kernel
theorem dX3_init_21 : decode cX3_init 21 = .ok (.istore_n 3, 1) := by decide +kernel
theorem dX3_init_22 : decode cX3_init 22 = .ok (.aload_n 0, 1) := by decide +kernel
theorem dX3_init_23 : decode cX3_init 23 = .ok (.iload_n 3, 1) := by decide +kernel
theorem dX3_init_24 : decode cX3_init 24 = .ok (.ifCond .le 9, 3) := by decide +kernel
theorem dX3_init_27 : decode cX3_init 27 = .ok (.iload_n 1, 1) := by decide +kernel
theorem dX3_init_28 : decode cX3_init 28 = .ok (.iload_n 3, 1) := by decide +kernel
theorem dX3_init_29 : decode cX3_init 29 = .ok (.idiv, 1) := by decide +kernel
theorem dX3_init_30 : decode cX3_init 30 = .ok (.goto 4, 3) := by decide +kernel
theorem dX3_init_33 : decode cX3_init 33 = .ok (.iconst 0, 1) := by decide +kernel
theorem dX3_init_34 : decode cX3_init 34 = .ok (.putfield 13, 3) := by decide +kernel
theorem dX3_init_37 : decode cX3_init 37 = .ok (.aload_n 0, 1) := by decide +kernel
theorem dX3_init_38 : decode cX3_init 38 = .ok (.iload_n 3, 1) := by decide +kernel
theorem dX3_init_39 : decode cX3_init 39 = .ok (.ifCond .le 9, 3) := by decide +kernel
theorem dX3_init_42 : decode cX3_init 42 = .ok (.iload_n 2, 1) := by decide +kernel
theorem dX3_init_43 : decode cX3_init 43 = .ok (.iload_n 3, 1) := by decide +kernel
theorem dX3_init_44 : decode cX3_init 44 = .ok (.idiv, 1) := by decide +kernel
theorem dX3_init_45 : decode cX3_init 45 = .ok (.goto 4, 3) := by decide +kernel
theorem dX3_init_48 : decode cX3_init 48 = .ok (.iconst 1, 1) := by decide +kernel
theorem dX3_init_49 : decode cX3_init 49 = .ok (.putfield 17, 3) := by decide +kernel
theorem dX3_init_52 : decode cX3_init 52 = .ok (.return_, 1) := by decide +kernel
theorem dX3_commonDivisor_0 : decode cX3_commonDivisor 0 = .ok (.iload_n 0, 1) := by decide +kernel
theorem dX3_commonDivisor_1 : decode cX3_commonDivisor 1 = .ok (.istore_n 2, 1) := by decide +kernel
theorem dX3_commonDivisor_2 : decode cX3_commonDivisor 2 = .ok (.iload_n 1, 1) := by decide +kernel
theorem dX3_commonDivisor_3 : decode cX3_commonDivisor 3 = .ok (.istore_n 3, 1) := by decide +kernel
theorem dX3_commonDivisor_4 : decode cX3_commonDivisor 4 = .ok (.iconst 0, 1) := by decide +kernel
theorem dX3_commonDivisor_5 : decode cX3_commonDivisor 5 = .ok (.istore 4, 2) := by decide +kernel
theorem dX3_commonDivisor_7 : decode cX3_commonDivisor 7 = .ok (.iload 4, 2) := by decide +kernel
theorem dX3_commonDivisor_9 : decode cX3_commonDivisor 9 = .ok (.bipush 64, 2) := by decide +kernel
theorem dX3_commonDivisor_11 : decode cX3_commonDivisor 11 = .ok (.if_icmp .ge 23, 3) := by decide +kernel
theorem dX3_commonDivisor_14 : decode cX3_commonDivisor 14 = .ok (.iload_n 3, 1) := by decide +kernel
theorem dX3_commonDivisor_15 : decode cX3_commonDivisor 15 = .ok (.ifCond .eq 19, 3) := by decide +kernel
theorem dX3_commonDivisor_18 : decode cX3_commonDivisor 18 = .ok (.iload_n 2, 1) := by decide +kernel
theorem dX3_commonDivisor_19 : decode cX3_commonDivisor 19 = .ok (.iload_n 3, 1) := by decide +kernel
theorem dX3_commonDivisor_20 : decode cX3_commonDivisor 20 = .ok (.irem, 1) := by decide +kernel
theorem dX3_commonDivisor_21 : decode cX3_commonDivisor 21 = .ok (.istore 5, 2) := by decide +kernel
theorem dX3_commonDivisor_23 : decode cX3_commonDivisor 23 = .ok (.iload_n 3, 1) := by decide +kernel
theorem dX3_commonDivisor_24 : decode cX3_commonDivisor 24 = .ok (.istore_n 2, 1) := by decide +kernel
theorem dX3_commonDivisor_25 : decode cX3_commonDivisor 25 = .ok (.iload 5, 2) := by decide +kernel
theorem dX3_commonDivisor_27 : decode cX3_commonDivisor 27 = .ok (.istore_n 3, 1) := by decide +kernel
theorem dX3_commonDivisor_28 : decode cX3_commonDivisor 28 = .ok (.iinc 4 1, 3) := by decide +kernel
theorem dX3_commonDivisor_31 : decode cX3_commonDivisor 31 = .ok (.goto (-24), 3) := by decide +kernel
theorem dX3_commonDivisor_34 : decode cX3_commonDivisor 34 = .ok (.iload_n 2, 1) := by decide +kernel
theorem dX3_commonDivisor_35 : decode cX3_commonDivisor 35 = .ok (.ireturn, 1) := by decide +kernel
theorem dX3_isBelow_0 : decode cX3_isBelow 0 = .ok (.aload_n 0, 1) := by decide +kernel
theorem dX3_isBelow_1 : decode cX3_isBelow 1 = .ok (.getfield 13, 3) := by decide +kernel
theorem dX3_isBelow_4 : decode cX3_isBelow 4 = .ok (.iload_n 2, 1) := by decide +kernel
theorem dX3_isBelow_5 : decode cX3_isBelow 5 = .ok (.imul, 1) := by decide +kernel
theorem dX3_isBelow_6 : decode cX3_isBelow 6 = .ok (.iload_n 1, 1) := by decide +kernel
theorem dX3_isBelow_7 : decode cX3_isBelow 7 = .ok (.aload_n 0, 1) := by decide +kernel
theorem dX3_isBelow_8 : decode cX3_isBelow 8 = .ok (.getfield 17, 3) := by decide +kernel
theorem dX3_isBelow_11 : decode cX3_isBelow 11 = .ok (.imul, 1) := by decide +kernel
theorem dX3_isBelow_12 : decode cX3_isBelow 12 = .ok (.if_icmp .ge 7, 3) := by decide +kernel
theorem dX3_isBelow_15 : decode cX3_isBelow 15 = .ok (.iconst 1, 1) := by decide +kernel
theorem dX3_isBelow_16 : decode cX3_isBelow 16 = .ok (.goto 4, 3) := by decide +kernel
theorem dX3_isBelow_19 : decode cX3_isBelow 19 = .ok (.iconst 0, 1) := by decide +kernel
theorem dX3_isBelow_20 : decode cX3_isBelow 20 = .ok (.ireturn, 1) := by decide +kernel
theorem dX3_part_0 : decode cX3_part 0 = .ok (.iload_n 1, 1) := by decide +kernel
theorem dX3_part_1 : decode cX3_part 1 = .ok (.ifCond .ne 10, 3) := by decide +kernel
theorem dX3_part_4 : decode cX3_part 4 = .ok (.aload_n 0, 1) := by decide +kernel
theorem dX3_part_5 : decode cX3_part 5 = .ok (.getfield 13, 3) := by decide +kernel
theorem dX3_part_8 : decode cX3_part 8 = .ok (.goto 7, 3) := by decide +kernel
theorem dX3_part_11 : decode cX3_part 11 = .ok (.aload_n 0, 1) := by decide +kernel
theorem dX3_part_12 : decode cX3_part 12 = .ok (.getfield 17, 3) := by decide +kernel
theorem dX3_part_15 : decode cX3_part 15 = .ok (.ireturn, 1) := by decide +kernel
theorem dX4_init_0 : decode cX4_init 0 = .ok (.aload_n 0, 1) := by decide +kernel
theorem dX4_init_1 : decode cX4_init 1 = .ok (.invokespecial 3, 3) := by decide +kernel
theorem dX4_init_4 : decode cX4_init 4 = .ok (.aload_n 0, 1) := by decide +kernel
theorem dX4_init_5 : decode cX4_init 5 = .ok (.iconst 0, 1) := by decide +kernel
theorem dX4_init_6 : decode cX4_init 6 = .ok (.putfield 9, 3) := by decide +kernel
theorem dX4_init_9 : decode cX4_init 9 = .ok (.aload_n 0, 1) := by decide +kernel
theorem dX4_init_10 : decode cX4_init 10 = .ok (.iconst 5, 1) := by decide +kernel
theorem dX4_init_11 : decode cX4_init 11 = .ok (.newarray .int, 2) := by decide +kernel
theorem dX4_init_13 : decode cX4_init 13 = .ok (.putfield 15, 3) := by decide +kernel
theorem dX4_init_16 : decode cX4_init 16 = .ok (.aload_n 0, 1) := by decide +kernel
theorem dX4_init_17 : decode cX4_init 17 = .ok (.iconst 5, 1) := by decide +kernel
theorem dX4_init_18 : decode cX4_init 18 = .ok (.newarray .int, 2) := by decide +kernel
theorem dX4_init_20 : decode cX4_init 20 = .ok (.putfield 19, 3) := by decide +kernel
theorem dX4_init_23 : decode cX4_init 23 = .ok (.aload_n 0, 1) := by decide +kernel
theorem dX4_init_24 : decode cX4_init 24 = .ok (.iconst 5, 1) := by decide +kernel
theorem dX4_init_25 : decode cX4_init 25 = .ok (.bipush 7, 2) := by decide +kernel
theorem dX4_init_27 : decode cX4_init 27 = .ok (.multianewarray 22 2, 4) := by decide +kernel
theorem dX4_init_31 : decode cX4_init 31 = .ok (.putfield 24, 3) := by decide +kernel
theorem dX4_init_34 : decode cX4_init 34 = .ok (.aload_n 0, 1) := by decide +kernel
theorem dX4_init_35 : decode cX4_init 35 = .ok (.iconst 5, 1) := by decide +kernel
theorem dX4_init_36 : decode cX4_init 36 = .ok (.iconst 5, 1) := by decide +kernel
theorem dX4_init_37 : decode cX4_init 37 = .ok (.multianewarray 22 2, 4) := by decide +kernel
theorem dX4_init_41 : decode cX4_init 41 = .ok (.putfield 27, 3) := by decide +kernel
theorem dX4_init_44 : decode cX4_init 44 = .ok (.aload_n 0, 1) := by decide +kernel
theorem dX4_init_45 : decode cX4_init 45 = .ok (.iconst 5, 1) := by decide +kernel
theorem dX4_init_46 : decode cX4_init 46 = .ok (.newarray .int, 2) := by decide +kernel
theorem dX4_init_48 : decode cX4_init 48 = .ok (.putfield 30, 3) := by decide +kernel
theorem dX4_init_51 : decode cX4_init 51 = .ok (.iconst 0, 1) := by decide +kernel
theorem dX4_init_52 : decode cX4_init 52 = .ok (.istore_n 1, 1) := by decide +kernel
theorem dX4_init_53 : decode cX4_init 53 = .ok (.iload_n 1, 1) := by decide +kernel
theorem dX4_init_54 : decode cX4_init 54 = .ok (.iconst 5, 1) := by decide +kernel
theorem dX4_init_55 : decode cX4_init 55 = .ok (.if_icmp .ge 41, 3) := by decide +kernel
theorem dX4_init_58 : decode cX4_init 58 = .ok (.iconst 0, 1) := by decide +kernel
theorem dX4_init_59 : decode cX4_init 59 = .ok (.istore_n 2, 1) := by decide +kernel
theorem dX4_init_60 : decode cX4_init 60 = .ok (.iload_n 2, 1) := by decide +kernel
theorem dX4_init_61 : decode cX4_init 61 = .ok (.iconst 5, 1) := by decide +kernel
theorem dX4_init_62 : decode cX4_init 62 = .ok (.if_icmp .ge 28, 3) := by decide +kernel
theorem dX4_init_65 : decode cX4_init 65 = .ok (.aload_n 0, 1) := by decide +kernel
theorem dX4_init_66 : decode cX4_init 66 = .ok (.getfield 27, 3) := by decide +kernel
theorem dX4_init_69 : decode cX4_init 69 = .ok (.iload_n 1, 1) := by decide +kernel
theorem dX4_init_70 : decode cX4_init 70 = .ok (.aaload, 1) := by decide +kernel
theorem dX4_init_71 : decode cX4_init 71 = .ok (.iload_n 2, 1) := by decide +kernel
theorem dX4_init_72 : decode cX4_init 72 = .ok (.iload_n 1, 1) := by decide +kernel
theorem dX4_init_73 : decode cX4_init 73 = .ok (.iload_n 2, 1) := by decide +kernel
theorem dX4_init_74 : decode cX4_init 74 = .ok (.if_icmp .ne 7, 3) := by decide +kernel
theorem dX4_init_77 : decode cX4_init 77 = .ok (.iconst 0, 1) := by decide +kernel
theorem dX4_init_78 : decode cX4_init 78 = .ok (.goto 5, 3) := by decide +kernel
theorem dX4_init_81 : decode cX4_init 81 = .ok (.bipush 10, 2) := by decide +kernel
theorem dX4_init_83 : decode cX4_init 83 = .ok (.iastore, 1) := by decide +kernel
theorem dX4_init_84 : decode cX4_init 84 = .ok (.iinc 2 1, 3) := by decide +kernel
theorem dX4_init_87 : decode cX4_init 87 = .ok (.goto (-27), 3) := by decide +kernel
theorem dX4_init_90 : decode cX4_init 90 = .ok (.iinc 1 1, 3) := by decide +kernel
theorem dX4_init_93 : decode cX4_init 93 = .ok (.goto (-40), 3) := by decide +kernel
theorem dX4_init_96 : decode cX4_init 96 = .ok (.return_, 1) := by decide +kernel
theorem dX4_add_0 : decode cX4_add 0 = .ok (.aload_n 0, 1) := by decide +kernel
theorem dX4_add_1 : decode cX4_add 1 = .ok (.getfield 9, 3) := by decide +kernel
theorem dX4_add_4 : decode cX4_add 4 = .ok (.iconst 5, 1) := by decide +kernel
theorem dX4_add_5 : decode cX4_add 5 = .ok (.if_icmp .lt 6, 3) := by decide +kernel
theorem dX4_add_8 : decode cX4_add 8 = .ok (.bipush (-2), 2) := by decide +kernel
theorem dX4_add_10 : decode cX4_add 10 = .ok (.ireturn, 1) := by decide +kernel
theorem dX4_add_11 : decode cX4_add 11 = .ok (.aload_n 0, 1) := by decide +kernel
theorem dX4_add_12 : decode cX4_add 12 = .ok (.getfield 15, 3) := by decide +kernel
theorem dX4_add_15 : decode cX4_add 15 = .ok (.aload_n 0, 1) := by decide +kernel
theorem dX4_add_16 : decode cX4_add 16 = .ok (.getfield 9, 3) := by decide +kernel
theorem dX4_add_19 : decode cX4_add 19 = .ok (.iload_n 1, 1) := by decide +kernel
theorem dX4_add_20 : decode cX4_add 20 = .ok (.iastore, 1) := by decide +kernel
theorem dX4_add_21 : decode cX4_add 21 = .ok (.aload_n 0, 1) := by decide +kernel
theorem dX4_add_22 : decode cX4_add 22 = .ok (.getfield 19, 3) := by decide +kernel
theorem dX4_add_25 : decode cX4_add 25 = .ok (.aload_n 0, 1) := by decide +kernel
theorem dX4_add_26 : decode cX4_add 26 = .ok (.getfield 9, 3) := by decide +kernel
theorem dX4_add_29 : decode cX4_add 29 = .ok (.iload_n 2, 1) := by decide +kernel
theorem dX4_add_30 : decode cX4_add 30 = .ok (.iastore, 1) := by decide +kernel
theorem dX4_add_31 : decode cX4_add 31 = .ok (.aload_n 0, 1) := by decide +kernel
theorem dX4_add_32 : decode cX4_add 32 = .ok (.dup, 1) := by decide +kernel
theorem dX4_add_33 : decode cX4_add 33 = .ok (.getfield 9, 3) := by decide +kernel
theorem dX4_add_36 : decode cX4_add 36 = .ok (.iconst 1, 1) := by decide +kernel
theorem dX4_add_37 : decode cX4_add 37 = .ok (.iadd, 1) := by decide +kernel
theorem dX4_add_38 : decode cX4_add 38 = .ok (.putfield 9, 3) := by decide +kernel
theorem dX4_add_41 : decode cX4_add 41 = .ok (.aload_n 0, 1) := by decide +kernel
theorem dX4_add_42 : decode cX4_add 42 = .ok (.getfield 9, 3) := by decide +kernel
theorem dX4_add_45 : decode cX4_add 45 = .ok (.iconst 1, 1) := by decide +kernel
theorem dX4_add_46 : decode cX4_add 46 = .ok (.isub, 1) := by decide +kernel
theorem dX4_add_47 : decode cX4_add 47 = .ok (.ireturn, 1) := by decide +kernel
theorem dX4_countBays_0 : decode cX4_countBays 0 = .ok (.iconst 0, 1) := by decide +kernel
theorem dX4_countBays_1 : decode cX4_countBays 1 = .ok (.istore_n 1, 1) := by decide +kernel
theorem dX4_countBays_2 : decode cX4_countBays 2 = .ok (.iconst 0, 1) := by decide +kernel
theorem dX4_countBays_3 : decode cX4_countBays 3 = .ok (.istore_n 2, 1) := by decide +kernel
theorem dX4_countBays_4 : decode cX4_countBays 4 = .ok (.iload_n 2, 1) := by decide +kernel
theorem dX4_countBays_5 : decode cX4_countBays 5 = .ok (.aload_n 0, 1) := by decide +kernel
theorem dX4_countBays_6 : decode cX4_countBays 6 = .ok (.getfield 9, 3) := by decide +kernel
theorem dX4_countBays_9 : decode cX4_countBays 9 = .ok (.if_icmp .ge 18, 3) := by decide +kernel
theorem dX4_countBays_12 : decode cX4_countBays 12 = .ok (.iload_n 1, 1) := by decide +kernel
theorem dX4_countBays_13 : decode cX4_countBays 13 = .ok (.aload_n 0, 1) := by decide +kernel
theorem dX4_countBays_14 : decode cX4_countBays 14 = .ok (.getfield 19, 3) := by decide +kernel
theorem dX4_countBays_17 : decode cX4_countBays 17 = .ok (.iload_n 2, 1) := by decide +kernel
theorem dX4_countBays_18 : decode cX4_countBays 18 = .ok (.iaload, 1) := by decide +kernel
theorem dX4_countBays_19 : decode cX4_countBays 19 = .ok (.iadd, 1) := by decide +kernel
theorem dX4_countBays_20 : decode cX4_countBays 20 = .ok (.istore_n 1, 1) := by decide +kernel
theorem dX4_countBays_21 : decode cX4_countBays 21 = .ok (.iinc 2 1, 3) := by decide +kernel
theorem dX4_countBays_24 : decode cX4_countBays 24 = .ok (.goto (-20), 3) := by decide +kernel
theorem dX4_countBays_27 : decode cX4_countBays 27 = .ok (.iload_n 1, 1) := by decide +kernel
theorem dX4_countBays_28 : decode cX4_countBays 28 = .ok (.ireturn, 1) := by decide +kernel
theorem dX5_init_0 : decode cX5_init 0 = .ok (.aload_n 0, 1) := by decide +kernel
theorem dX5_init_1 : decode cX5_init 1 = .ok (.invokespecial 3, 3) := by decide +kernel
theorem dX5_init_4 : decode cX5_init 4 = .ok (.aload_n 0, 1) := by decide +kernel
theorem dX5_init_5 : decode cX5_init 5 = .ok (.iconst 0, 1) := by decide +kernel
theorem dX5_init_6 : decode cX5_init 6 = .ok (.putfield 9, 3) := by decide +kernel
theorem dX5_init_9 : decode cX5_init 9 = .ok (.aload_n 0, 1) := by decide +kernel
theorem dX5_init_10 : decode cX5_init 10 = .ok (.bipush 20, 2) := by decide +kernel
theorem dX5_init_12 : decode cX5_init 12 = .ok (.bipush 6, 2) := by decide +kernel
theorem dX5_init_14 : decode cX5_init 14 = .ok (.multianewarray 15 2, 4) := by decide +kernel
theorem dX5_init_18 : decode cX5_init 18 = .ok (.putfield 17, 3) := by decide +kernel
theorem dX5_init_21 : decode cX5_init 21 = .ok (.return_, 1) := by decide +kernel
theorem dX5_add_0 : decode cX5_add 0 = .ok (.aload_n 0, 1) := by decide +kernel
theorem dX5_add_1 : decode cX5_add 1 = .ok (.getfield 9, 3) := by decide +kernel
theorem dX5_add_4 : decode cX5_add 4 = .ok (.bipush 20, 2) := by decide +kernel
theorem dX5_add_6 : decode cX5_add 6 = .ok (.if_icmp .lt 6, 3) := by decide +kernel
theorem dX5_add_9 : decode cX5_add 9 = .ok (.bipush (-2), 2) := by decide +kernel
theorem dX5_add_11 : decode cX5_add 11 = .ok (.ireturn, 1) := by decide +kernel
theorem dX5_add_12 : decode cX5_add 12 = .ok (.aload_n 0, 1) := by decide +kernel
theorem dX5_add_13 : decode cX5_add 13 = .ok (.getfield 17, 3) := by decide +kernel
theorem dX5_add_16 : decode cX5_add 16 = .ok (.aload_n 0, 1) := by decide +kernel
theorem dX5_add_17 : decode cX5_add 17 = .ok (.getfield 9, 3) := by decide +kernel
theorem dX5_add_20 : decode cX5_add 20 = .ok (.aaload, 1) := by decide +kernel
theorem dX5_add_21 : decode cX5_add 21 = .ok (.iconst 0, 1) := by decide +kernel
theorem dX5_add_22 : decode cX5_add 22 = .ok (.iload_n 1, 1) := by decide +kernel
theorem dX5_add_23 : decode cX5_add 23 = .ok (.iastore, 1) := by decide +kernel
theorem dX5_add_24 : decode cX5_add 24 = .ok (.aload_n 0, 1) := by decide +kernel
theorem dX5_add_25 : decode cX5_add 25 = .ok (.getfield 17, 3) := by decide +kernel
theorem dX5_add_28 : decode cX5_add 28 = .ok (.aload_n 0, 1) := by decide +kernel
theorem dX5_add_29 : decode cX5_add 29 = .ok (.getfield 9, 3) := by decide +kernel
theorem dX5_add_32 : decode cX5_add 32 = .ok (.aaload, 1) := by decide +kernel
theorem dX5_add_33 : decode cX5_add 33 = .ok (.iconst 1, 1) := by decide +kernel
theorem dX5_add_34 : decode cX5_add 34 = .ok (.iload_n 2, 1) := by decide +kernel
theorem dX5_add_35 : decode cX5_add 35 = .ok (.iastore, 1) := by decide +kernel
theorem dX5_add_36 : decode cX5_add 36 = .ok (.aload_n 0, 1) := by decide +kernel
theorem dX5_add_37 : decode cX5_add 37 = .ok (.getfield 17, 3) := by decide +kernel
theorem dX5_add_40 : decode cX5_add 40 = .ok (.aload_n 0, 1) := by decide +kernel
theorem dX5_add_41 : decode cX5_add 41 = .ok (.getfield 9, 3) := by decide +kernel
theorem dX5_add_44 : decode cX5_add 44 = .ok (.aaload, 1) := by decide +kernel
theorem dX5_add_45 : decode cX5_add 45 = .ok (.iconst 2, 1) := by decide +kernel
theorem dX5_add_46 : decode cX5_add 46 = .ok (.iload_n 3, 1) := by decide +kernel
theorem dX5_add_47 : decode cX5_add 47 = .ok (.iastore, 1) := by decide +kernel
theorem dX5_add_48 : decode cX5_add 48 = .ok (.aload_n 0, 1) := by decide +kernel
theorem dX5_add_49 : decode cX5_add 49 = .ok (.getfield 17, 3) := by decide +kernel
theorem dX5_add_52 : decode cX5_add 52 = .ok (.aload_n 0, 1) := by decide +kernel
theorem dX5_add_53 : decode cX5_add 53 = .ok (.getfield 9, 3) := by decide +kernel
theorem dX5_add_56 : decode cX5_add 56 = .ok (.aaload, 1) := by decide +kernel
theorem dX5_add_57 : decode cX5_add 57 = .ok (.iconst 3, 1) := by decide +kernel
theorem dX5_add_58 : decode cX5_add 58 = .ok (.iload 4, 2) := by decide +kernel
theorem dX5_add_60 : decode cX5_add 60 = .ok (.iastore, 1) := by decide +kernel
theorem dX5_add_61 : decode cX5_add 61 = .ok (.aload_n 0, 1) := by decide +kernel
theorem dX5_add_62 : decode cX5_add 62 = .ok (.getfield 17, 3) := by decide +kernel
theorem dX5_add_65 : decode cX5_add 65 = .ok (.aload_n 0, 1) := by decide +kernel
theorem dX5_add_66 : decode cX5_add 66 = .ok (.getfield 9, 3) := by decide +kernel
theorem dX5_add_69 : decode cX5_add 69 = .ok (.aaload, 1) := by decide +kernel
theorem dX5_add_70 : decode cX5_add 70 = .ok (.iconst 4, 1) := by decide +kernel
theorem dX5_add_71 : decode cX5_add 71 = .ok (.iload 5, 2) := by decide +kernel
theorem dX5_add_73 : decode cX5_add 73 = .ok (.iastore, 1) := by decide +kernel
theorem dX5_add_74 : decode cX5_add 74 = .ok (.aload_n 0, 1) := by decide +kernel
theorem dX5_add_75 : decode cX5_add 75 = .ok (.getfield 17, 3) := by decide +kernel
theorem dX5_add_78 : decode cX5_add 78 = .ok (.aload_n 0, 1) := by decide +kernel
theorem dX5_add_79 : decode cX5_add 79 = .ok (.getfield 9, 3) := by decide +kernel
theorem dX5_add_82 : decode cX5_add 82 = .ok (.aaload, 1) := by decide +kernel
theorem dX5_add_83 : decode cX5_add 83 = .ok (.iconst 5, 1) := by decide +kernel
theorem dX5_add_84 : decode cX5_add 84 = .ok (.iload 6, 2) := by decide +kernel
theorem dX5_add_86 : decode cX5_add 86 = .ok (.iastore, 1) := by decide +kernel
theorem dX5_add_87 : decode cX5_add 87 = .ok (.aload_n 0, 1) := by decide +kernel
theorem dX5_add_88 : decode cX5_add 88 = .ok (.dup, 1) := by decide +kernel
theorem dX5_add_89 : decode cX5_add 89 = .ok (.getfield 9, 3) := by decide +kernel
theorem dX5_add_92 : decode cX5_add 92 = .ok (.iconst 1, 1) := by decide +kernel
theorem dX5_add_93 : decode cX5_add 93 = .ok (.iadd, 1) := by decide +kernel
theorem dX5_add_94 : decode cX5_add 94 = .ok (.putfield 9, 3) := by decide +kernel
theorem dX5_add_97 : decode cX5_add 97 = .ok (.aload_n 0, 1) := by decide +kernel
theorem dX5_add_98 : decode cX5_add 98 = .ok (.getfield 9, 3) := by decide +kernel
theorem dX5_add_101 : decode cX5_add 101 = .ok (.iconst 1, 1) := by decide +kernel
theorem dX5_add_102 : decode cX5_add 102 = .ok (.isub, 1) := by decide +kernel
theorem dX5_add_103 : decode cX5_add 103 = .ok (.ireturn, 1) := by decide +kernel
theorem dX5_judge_0 : decode cX5_judge 0 = .ok (.iload_n 0, 1) := by decide +kernel
theorem dX5_judge_1 : decode cX5_judge 1 = .ok (.ifCond .ne 7, 3) := by decide +kernel
theorem dX5_judge_4 : decode cX5_judge 4 = .ok (.iload_n 1, 1) := by decide +kernel
theorem dX5_judge_5 : decode cX5_judge 5 = .ok (.ifCond .ne 5, 3) := by decide +kernel
theorem dX5_judge_8 : decode cX5_judge 8 = .ok (.iconst 0, 1) := by decide +kernel
theorem dX5_judge_9 : decode cX5_judge 9 = .ok (.ireturn, 1) := by decide +kernel
theorem dX5_judge_10 : decode cX5_judge 10 = .ok (.iload_n 1, 1) := by decide +kernel
theorem dX5_judge_11 : decode cX5_judge 11 = .ok (.iconst 1, 1) := by decide +kernel
theorem dX5_judge_12 : decode cX5_judge 12 = .ok (.if_icmp .ne 7, 3) := by decide +kernel
theorem dX5_judge_15 : decode cX5_judge 15 = .ok (.iconst 1, 1) := by decide +kernel
theorem dX5_judge_16 : decode cX5_judge 16 = .ok (.goto 4, 3) := by decide +kernel
theorem dX5_judge_19 : decode cX5_judge 19 = .ok (.iconst 2, 1) := by decide +kernel
theorem dX5_judge_20 : decode cX5_judge 20 = .ok (.ireturn, 1) := by decide +kernel
theorem dX5_countState_0 : decode cX5_countState 0 = .ok (.iconst 0, 1) := by decide +kernel
theorem dX5_countState_1 : decode cX5_countState 1 = .ok (.istore_n 2, 1) := by decide +kernel
theorem dX5_countState_2 : decode cX5_countState 2 = .ok (.iconst 0, 1) := by decide +kernel
theorem dX5_countState_3 : decode cX5_countState 3 = .ok (.istore_n 3, 1) := by decide +kernel
theorem dX5_countState_4 : decode cX5_countState 4 = .ok (.iload_n 3, 1) := by decide +kernel
theorem dX5_countState_5 : decode cX5_countState 5 = .ok (.aload_n 0, 1) := by decide +kernel
theorem dX5_countState_6 : decode cX5_countState 6 = .ok (.getfield 9, 3) := by decide +kernel
theorem dX5_countState_9 : decode cX5_countState 9 = .ok (.if_icmp .ge 24, 3) := by decide +kernel
theorem dX5_countState_12 : decode cX5_countState 12 = .ok (.aload_n 0, 1) := by decide +kernel
theorem dX5_countState_13 : decode cX5_countState 13 = .ok (.getfield 17, 3) := by decide +kernel
theorem dX5_countState_16 : decode cX5_countState 16 = .ok (.iload_n 3, 1) := by decide +kernel
theorem dX5_countState_17 : decode cX5_countState 17 = .ok (.aaload, 1) := by decide +kernel
theorem dX5_countState_18 : decode cX5_countState 18 = .ok (.iconst 5, 1) := by decide +kernel
theorem dX5_countState_19 : decode cX5_countState 19 = .ok (.iaload, 1) := by decide +kernel
theorem dX5_countState_20 : decode cX5_countState 20 = .ok (.iload_n 1, 1) := by decide +kernel
theorem dX5_countState_21 : decode cX5_countState 21 = .ok (.if_icmp .ne 6, 3) := by decide +kernel
theorem dX5_countState_24 : decode cX5_countState 24 = .ok (.iinc 2 1, 3) := by decide +kernel
theorem dX5_countState_27 : decode cX5_countState 27 = .ok (.iinc 3 1, 3) := by decide +kernel
theorem dX5_countState_30 : decode cX5_countState 30 = .ok (.goto (-26), 3) := by decide +kernel
theorem dX5_countState_33 : decode cX5_countState 33 = .ok (.iload_n 2, 1) := by decide +kernel
theorem dX5_countState_34 : decode cX5_countState 34 = .ok (.ireturn, 1) := by decide +kernel
theorem dX5_countLikes_0 : decode cX5_countLikes 0 = .ok (.iconst 0, 1) := by decide +kernel
theorem dX5_countLikes_1 : decode cX5_countLikes 1 = .ok (.istore_n 3, 1) := by decide +kernel
theorem dX5_countLikes_2 : decode cX5_countLikes 2 = .ok (.iconst 0, 1) := by decide +kernel
theorem dX5_countLikes_3 : decode cX5_countLikes 3 = .ok (.istore 4, 2) := by decide +kernel
theorem dX5_countLikes_5 : decode cX5_countLikes 5 = .ok (.iload 4, 2) := by decide +kernel
theorem dX5_countLikes_7 : decode cX5_countLikes 7 = .ok (.aload_n 0, 1) := by decide +kernel
theorem dX5_countLikes_8 : decode cX5_countLikes 8 = .ok (.getfield 9, 3) := by decide +kernel
theorem dX5_countLikes_11 : decode cX5_countLikes 11 = .ok (.if_icmp .ge 41, 3) := by decide +kernel
theorem dX5_countLikes_14 : decode cX5_countLikes 14 = .ok (.iload 4, 2) := by decide +kernel
theorem dX5_countLikes_16 : decode cX5_countLikes 16 = .ok (.iload_n 1, 1) := by decide +kernel
theorem dX5_countLikes_17 : decode cX5_countLikes 17 = .ok (.if_icmp .eq 29, 3) := by decide +kernel
theorem dX5_countLikes_20 : decode cX5_countLikes 20 = .ok (.aload_n 0, 1) := by decide +kernel
theorem dX5_countLikes_21 : decode cX5_countLikes 21 = .ok (.getfield 17, 3) := by decide +kernel
theorem dX5_countLikes_24 : decode cX5_countLikes 24 = .ok (.iload 4, 2) := by decide +kernel
theorem dX5_countLikes_26 : decode cX5_countLikes 26 = .ok (.aaload, 1) := by decide +kernel
theorem dX5_countLikes_27 : decode cX5_countLikes 27 = .ok (.iconst 3, 1) := by decide +kernel
theorem dX5_countLikes_28 : decode cX5_countLikes 28 = .ok (.iaload, 1) := by decide +kernel
theorem dX5_countLikes_29 : decode cX5_countLikes 29 = .ok (.iload_n 2, 1) := by decide +kernel
theorem dX5_countLikes_30 : decode cX5_countLikes 30 = .ok (.if_icmp .ne 16, 3) := by decide +kernel
theorem dX5_countLikes_33 : decode cX5_countLikes 33 = .ok (.aload_n 0, 1) := by decide +kernel
theorem dX5_countLikes_34 : decode cX5_countLikes 34 = .ok (.iload_n 1, 1) := by decide +kernel
theorem dX5_countLikes_35 : decode cX5_countLikes 35 = .ok (.iload 4, 2) := by decide +kernel
theorem dX5_countLikes_37 : decode cX5_countLikes 37 = .ok (.invokevirtual 20, 3) := by decide +kernel
theorem dX5_countLikes_40 : decode cX5_countLikes 40 = .ok (.ifCond .eq 6, 3) := by decide +kernel
theorem dX5_countLikes_43 : decode cX5_countLikes 43 = .ok (.iinc 3 1, 3) := by decide +kernel
theorem dX5_countLikes_46 : decode cX5_countLikes 46 = .ok (.iinc 4 1, 3) := by decide +kernel
theorem dX5_countLikes_49 : decode cX5_countLikes 49 = .ok (.goto (-44), 3) := by decide +kernel
theorem dX5_countLikes_52 : decode cX5_countLikes 52 = .ok (.iload_n 3, 1) := by decide +kernel
theorem dX5_countLikes_53 : decode cX5_countLikes 53 = .ok (.ireturn, 1) := by decide +kernel
theorem dX5_isSameZoneAndHour_0 : decode cX5_isSameZoneAndHour 0 = .ok (.aload_n 0, 1) := by decide +kernel
theorem dX5_isSameZoneAndHour_1 : decode cX5_isSameZoneAndHour 1 = .ok (.getfield 17, 3) := by decide +kernel
theorem dX5_isSameZoneAndHour_4 : decode cX5_isSameZoneAndHour 4 = .ok (.iload_n 1, 1) := by decide +kernel
theorem dX5_isSameZoneAndHour_5 : decode cX5_isSameZoneAndHour 5 = .ok (.aaload, 1) := by decide +kernel
theorem dX5_isSameZoneAndHour_6 : decode cX5_isSameZoneAndHour 6 = .ok (.iconst 4, 1) := by decide +kernel
theorem dX5_isSameZoneAndHour_7 : decode cX5_isSameZoneAndHour 7 = .ok (.iaload, 1) := by decide +kernel
theorem dX5_isSameZoneAndHour_8 : decode cX5_isSameZoneAndHour 8 = .ok (.aload_n 0, 1) := by decide +kernel
theorem dX5_isSameZoneAndHour_9 : decode cX5_isSameZoneAndHour 9 = .ok (.getfield 17, 3) := by decide +kernel
theorem dX5_isSameZoneAndHour_12 : decode cX5_isSameZoneAndHour 12 = .ok (.iload_n 2, 1) := by decide +kernel
theorem dX5_isSameZoneAndHour_13 : decode cX5_isSameZoneAndHour 13 = .ok (.aaload, 1) := by decide +kernel
theorem dX5_isSameZoneAndHour_14 : decode cX5_isSameZoneAndHour 14 = .ok (.iconst 4, 1) := by decide +kernel
theorem dX5_isSameZoneAndHour_15 : decode cX5_isSameZoneAndHour 15 = .ok (.iaload, 1) := by decide +kernel
theorem dX5_isSameZoneAndHour_16 : decode cX5_isSameZoneAndHour 16 = .ok (.if_icmp .ne 26, 3) := by decide +kernel
theorem dX5_isSameZoneAndHour_19 : decode cX5_isSameZoneAndHour 19 = .ok (.aload_n 0, 1) := by decide +kernel
theorem dX5_isSameZoneAndHour_20 : decode cX5_isSameZoneAndHour 20 = .ok (.getfield 17, 3) := by decide +kernel
theorem dX5_isSameZoneAndHour_23 : decode cX5_isSameZoneAndHour 23 = .ok (.iload_n 1, 1) := by decide +kernel
theorem dX5_isSameZoneAndHour_24 : decode cX5_isSameZoneAndHour 24 = .ok (.aaload, 1) := by decide +kernel
theorem dX5_isSameZoneAndHour_25 : decode cX5_isSameZoneAndHour 25 = .ok (.iconst 2, 1) := by decide +kernel
theorem dX5_isSameZoneAndHour_26 : decode cX5_isSameZoneAndHour 26 = .ok (.iaload, 1) := by decide +kernel
theorem dX5_isSameZoneAndHour_27 : decode cX5_isSameZoneAndHour 27 = .ok (.aload_n 0, 1) := by decide +kernel
theorem dX5_isSameZoneAndHour_28 : decode cX5_isSameZoneAndHour 28 = .ok (.getfield 17, 3) := by decide +kernel
theorem dX5_isSameZoneAndHour_31 : decode cX5_isSameZoneAndHour 31 = .ok (.iload_n 2, 1) := by decide +kernel
theorem dX5_isSameZoneAndHour_32 : decode cX5_isSameZoneAndHour 32 = .ok (.aaload, 1) := by decide +kernel
theorem dX5_isSameZoneAndHour_33 : decode cX5_isSameZoneAndHour 33 = .ok (.iconst 2, 1) := by decide +kernel
theorem dX5_isSameZoneAndHour_34 : decode cX5_isSameZoneAndHour 34 = .ok (.iaload, 1) := by decide +kernel
theorem dX5_isSameZoneAndHour_35 : decode cX5_isSameZoneAndHour 35 = .ok (.if_icmp .ne 7, 3) := by decide +kernel
theorem dX5_isSameZoneAndHour_38 : decode cX5_isSameZoneAndHour 38 = .ok (.iconst 1, 1) := by decide +kernel
theorem dX5_isSameZoneAndHour_39 : decode cX5_isSameZoneAndHour 39 = .ok (.goto 4, 3) := by decide +kernel
theorem dX5_isSameZoneAndHour_42 : decode cX5_isSameZoneAndHour 42 = .ok (.iconst 0, 1) := by decide +kernel
theorem dX5_isSameZoneAndHour_43 : decode cX5_isSameZoneAndHour 43 = .ok (.ireturn, 1) := by decide +kernel
theorem dX5_stateByLikes_0 : decode cX5_stateByLikes 0 = .ok (.aload_n 0, 1) := by decide +kernel
theorem dX5_stateByLikes_1 : decode cX5_stateByLikes 1 = .ok (.getfield 17, 3) := by decide +kernel
theorem dX5_stateByLikes_4 : decode cX5_stateByLikes 4 = .ok (.iload_n 1, 1) := by decide +kernel
theorem dX5_stateByLikes_5 : decode cX5_stateByLikes 5 = .ok (.aaload, 1) := by decide +kernel
theorem dX5_stateByLikes_6 : decode cX5_stateByLikes 6 = .ok (.iconst 5, 1) := by decide +kernel
theorem dX5_stateByLikes_7 : decode cX5_stateByLikes 7 = .ok (.iaload, 1) := by decide +kernel
theorem dX5_stateByLikes_8 : decode cX5_stateByLikes 8 = .ok (.iconst 2, 1) := by decide +kernel
theorem dX5_stateByLikes_9 : decode cX5_stateByLikes 9 = .ok (.if_icmp .eq 12, 3) := by decide +kernel
theorem dX5_stateByLikes_12 : decode cX5_stateByLikes 12 = .ok (.aload_n 0, 1) := by decide +kernel
theorem dX5_stateByLikes_13 : decode cX5_stateByLikes 13 = .ok (.getfield 17, 3) := by decide +kernel
theorem dX5_stateByLikes_16 : decode cX5_stateByLikes 16 = .ok (.iload_n 1, 1) := by decide +kernel
theorem dX5_stateByLikes_17 : decode cX5_stateByLikes 17 = .ok (.aaload, 1) := by decide +kernel
theorem dX5_stateByLikes_18 : decode cX5_stateByLikes 18 = .ok (.iconst 5, 1) := by decide +kernel
theorem dX5_stateByLikes_19 : decode cX5_stateByLikes 19 = .ok (.iaload, 1) := by decide +kernel
theorem dX5_stateByLikes_20 : decode cX5_stateByLikes 20 = .ok (.ireturn, 1) := by decide +kernel
theorem dX5_stateByLikes_21 : decode cX5_stateByLikes 21 = .ok (.aload_n 0, 1) := by decide +kernel
theorem dX5_stateByLikes_22 : decode cX5_stateByLikes 22 = .ok (.iload_n 1, 1) := by decide +kernel
theorem dX5_stateByLikes_23 : decode cX5_stateByLikes 23 = .ok (.iconst 1, 1) := by decide +kernel
theorem dX5_stateByLikes_24 : decode cX5_stateByLikes 24 = .ok (.invokevirtual 24, 3) := by decide +kernel
theorem dX5_stateByLikes_27 : decode cX5_stateByLikes 27 = .ok (.istore_n 2, 1) := by decide +kernel
theorem dX5_stateByLikes_28 : decode cX5_stateByLikes 28 = .ok (.aload_n 0, 1) := by decide +kernel
theorem dX5_stateByLikes_29 : decode cX5_stateByLikes 29 = .ok (.iload_n 1, 1) := by decide +kernel
theorem dX5_stateByLikes_30 : decode cX5_stateByLikes 30 = .ok (.iconst 0, 1) := by decide +kernel
theorem dX5_stateByLikes_31 : decode cX5_stateByLikes 31 = .ok (.invokevirtual 24, 3) := by decide +kernel
theorem dX5_stateByLikes_34 : decode cX5_stateByLikes 34 = .ok (.istore_n 3, 1) := by decide +kernel
theorem dX5_stateByLikes_35 : decode cX5_stateByLikes 35 = .ok (.iload_n 2, 1) := by decide +kernel
theorem dX5_stateByLikes_36 : decode cX5_stateByLikes 36 = .ok (.iload_n 3, 1) := by decide +kernel
theorem dX5_stateByLikes_37 : decode cX5_stateByLikes 37 = .ok (.if_icmp .ne 5, 3) := by decide +kernel
theorem dX5_stateByLikes_40 : decode cX5_stateByLikes 40 = .ok (.iconst 2, 1) := by decide +kernel
theorem dX5_stateByLikes_41 : decode cX5_stateByLikes 41 = .ok (.ireturn, 1) := by decide +kernel
theorem dX5_stateByLikes_42 : decode cX5_stateByLikes 42 = .ok (.iload_n 2, 1) := by decide +kernel
theorem dX5_stateByLikes_43 : decode cX5_stateByLikes 43 = .ok (.iload_n 3, 1) := by decide +kernel
theorem dX5_stateByLikes_44 : decode cX5_stateByLikes 44 = .ok (.if_icmp .le 7, 3) := by decide +kernel
theorem dX5_stateByLikes_47 : decode cX5_stateByLikes 47 = .ok (.iconst 1, 1) := by decide +kernel
theorem dX5_stateByLikes_48 : decode cX5_stateByLikes 48 = .ok (.goto 4, 3) := by decide +kernel
theorem dX5_stateByLikes_51 : decode cX5_stateByLikes 51 = .ok (.iconst 0, 1) := by decide +kernel
theorem dX5_stateByLikes_52 : decode cX5_stateByLikes 52 = .ok (.ireturn, 1) := by decide +kernel
theorem dX6_init_0 : decode cX6_init 0 = .ok (.aload_n 0, 1) := by decide +kernel
theorem dX6_init_1 : decode cX6_init 1 = .ok (.invokespecial 3, 3) := by decide +kernel
theorem dX6_init_4 : decode cX6_init 4 = .ok (.aload_n 0, 1) := by decide +kernel
theorem dX6_init_5 : decode cX6_init 5 = .ok (.bipush 100, 2) := by decide +kernel
theorem dX6_init_7 : decode cX6_init 7 = .ok (.putfield 9, 3) := by decide +kernel
theorem dX6_init_10 : decode cX6_init 10 = .ok (.aload_n 0, 1) := by decide +kernel
theorem dX6_init_11 : decode cX6_init 11 = .ok (.aload_n 1, 1) := by decide +kernel
theorem dX6_init_12 : decode cX6_init 12 = .ok (.putfield 15, 3) := by decide +kernel
theorem dX6_init_15 : decode cX6_init 15 = .ok (.return_, 1) := by decide +kernel
theorem dX6_greatest_0 : decode cX6_greatest 0 = .ok (.new 19, 3) := by decide +kernel
theorem dX6_greatest_3 : decode cX6_greatest 3 = .ok (.dup, 1) := by decide +kernel
theorem dX6_greatest_4 : decode cX6_greatest 4 = .ok (.iconst 0, 1) := by decide +kernel
theorem dX6_greatest_5 : decode cX6_greatest 5 = .ok (.iconst 1, 1) := by decide +kernel
theorem dX6_greatest_6 : decode cX6_greatest 6 = .ok (.invokespecial 21, 3) := by decide +kernel
theorem dX6_greatest_9 : decode cX6_greatest 9 = .ok (.astore_n 1, 1) := by decide +kernel
theorem dX6_greatest_10 : decode cX6_greatest 10 = .ok (.iconst 0, 1) := by decide +kernel
theorem dX6_greatest_11 : decode cX6_greatest 11 = .ok (.istore_n 2, 1) := by decide +kernel
theorem dX6_greatest_12 : decode cX6_greatest 12 = .ok (.iload_n 2, 1) := by decide +kernel
theorem dX6_greatest_13 : decode cX6_greatest 13 = .ok (.aload_n 0, 1) := by decide +kernel
theorem dX6_greatest_14 : decode cX6_greatest 14 = .ok (.getfield 15, 3) := by decide +kernel
theorem dX6_greatest_17 : decode cX6_greatest 17 = .ok (.getfield 24, 3) := by decide +kernel
theorem dX6_greatest_20 : decode cX6_greatest 20 = .ok (.if_icmp .ge 104, 3) := by decide +kernel
theorem dX6_greatest_23 : decode cX6_greatest 23 = .ok (.iconst 0, 1) := by decide +kernel
theorem dX6_greatest_24 : decode cX6_greatest 24 = .ok (.istore_n 3, 1) := by decide +kernel
theorem dX6_greatest_25 : decode cX6_greatest 25 = .ok (.iconst 0, 1) := by decide +kernel
theorem dX6_greatest_26 : decode cX6_greatest 26 = .ok (.istore 4, 2) := by decide +kernel
theorem dX6_greatest_28 : decode cX6_greatest 28 = .ok (.iconst 0, 1) := by decide +kernel
theorem dX6_greatest_29 : decode cX6_greatest 29 = .ok (.istore 5, 2) := by decide +kernel
theorem dX6_greatest_31 : decode cX6_greatest 31 = .ok (.iload 5, 2) := by decide +kernel
theorem dX6_greatest_33 : decode cX6_greatest 33 = .ok (.aload_n 0, 1) := by decide +kernel
theorem dX6_greatest_34 : decode cX6_greatest 34 = .ok (.getfield 15, 3) := by decide +kernel
theorem dX6_greatest_37 : decode cX6_greatest 37 = .ok (.getfield 24, 3) := by decide +kernel
theorem dX6_greatest_40 : decode cX6_greatest 40 = .ok (.if_icmp .ge 47, 3) := by decide +kernel
theorem dX6_greatest_43 : decode cX6_greatest 43 = .ok (.aload_n 0, 1) := by decide +kernel
theorem dX6_greatest_44 : decode cX6_greatest 44 = .ok (.getfield 15, 3) := by decide +kernel
theorem dX6_greatest_47 : decode cX6_greatest 47 = .ok (.getfield 29, 3) := by decide +kernel
theorem dX6_greatest_50 : decode cX6_greatest 50 = .ok (.iload 5, 2) := by decide +kernel
theorem dX6_greatest_52 : decode cX6_greatest 52 = .ok (.iaload, 1) := by decide +kernel
theorem dX6_greatest_53 : decode cX6_greatest 53 = .ok (.aload_n 0, 1) := by decide +kernel
theorem dX6_greatest_54 : decode cX6_greatest 54 = .ok (.getfield 15, 3) := by decide +kernel
theorem dX6_greatest_57 : decode cX6_greatest 57 = .ok (.getfield 29, 3) := by decide +kernel
theorem dX6_greatest_60 : decode cX6_greatest 60 = .ok (.iload_n 2, 1) := by decide +kernel
theorem dX6_greatest_61 : decode cX6_greatest 61 = .ok (.iaload, 1) := by decide +kernel
theorem dX6_greatest_62 : decode cX6_greatest 62 = .ok (.if_icmp .lt 19, 3) := by decide +kernel
theorem dX6_greatest_65 : decode cX6_greatest 65 = .ok (.iload_n 3, 1) := by decide +kernel
theorem dX6_greatest_66 : decode cX6_greatest 66 = .ok (.aload_n 0, 1) := by decide +kernel
theorem dX6_greatest_67 : decode cX6_greatest 67 = .ok (.getfield 15, 3) := by decide +kernel
theorem dX6_greatest_70 : decode cX6_greatest 70 = .ok (.getfield 29, 3) := by decide +kernel
theorem dX6_greatest_73 : decode cX6_greatest 73 = .ok (.iload 5, 2) := by decide +kernel
theorem dX6_greatest_75 : decode cX6_greatest 75 = .ok (.iaload, 1) := by decide +kernel
theorem dX6_greatest_76 : decode cX6_greatest 76 = .ok (.iadd, 1) := by decide +kernel
theorem dX6_greatest_77 : decode cX6_greatest 77 = .ok (.istore_n 3, 1) := by decide +kernel
theorem dX6_greatest_78 : decode cX6_greatest 78 = .ok (.iinc 4 1, 3) := by decide +kernel
theorem dX6_greatest_81 : decode cX6_greatest 81 = .ok (.iinc 5 1, 3) := by decide +kernel
theorem dX6_greatest_84 : decode cX6_greatest 84 = .ok (.goto (-53), 3) := by decide +kernel
theorem dX6_greatest_87 : decode cX6_greatest 87 = .ok (.aload_n 1, 1) := by decide +kernel
theorem dX6_greatest_88 : decode cX6_greatest 88 = .ok (.iload_n 3, 1) := by decide +kernel
theorem dX6_greatest_89 : decode cX6_greatest 89 = .ok (.aload_n 0, 1) := by decide +kernel
theorem dX6_greatest_90 : decode cX6_greatest 90 = .ok (.getfield 9, 3) := by decide +kernel
theorem dX6_greatest_93 : decode cX6_greatest 93 = .ok (.isub, 1) := by decide +kernel
theorem dX6_greatest_94 : decode cX6_greatest 94 = .ok (.iload 4, 2) := by decide +kernel
theorem dX6_greatest_96 : decode cX6_greatest 96 = .ok (.invokevirtual 33, 3) := by decide +kernel
theorem dX6_greatest_99 : decode cX6_greatest 99 = .ok (.ifCond .eq 19, 3) := by decide +kernel
theorem dX6_greatest_102 : decode cX6_greatest 102 = .ok (.new 19, 3) := by decide +kernel
theorem dX6_greatest_105 : decode cX6_greatest 105 = .ok (.dup, 1) := by decide +kernel
theorem dX6_greatest_106 : decode cX6_greatest 106 = .ok (.iload_n 3, 1) := by decide +kernel
theorem dX6_greatest_107 : decode cX6_greatest 107 = .ok (.aload_n 0, 1) := by decide +kernel
theorem dX6_greatest_108 : decode cX6_greatest 108 = .ok (.getfield 9, 3) := by decide +kernel
theorem dX6_greatest_111 : decode cX6_greatest 111 = .ok (.isub, 1) := by decide +kernel
theorem dX6_greatest_112 : decode cX6_greatest 112 = .ok (.iload 4, 2) := by decide +kernel
theorem dX6_greatest_114 : decode cX6_greatest 114 = .ok (.invokespecial 21, 3) := by decide +kernel
theorem dX6_greatest_117 : decode cX6_greatest 117 = .ok (.astore_n 1, 1) := by decide +kernel
theorem dX6_greatest_118 : decode cX6_greatest 118 = .ok (.iinc 2 1, 3) := by decide +kernel
theorem dX6_greatest_121 : decode cX6_greatest 121 = .ok (.goto (-109), 3) := by decide +kernel
theorem dX6_greatest_124 : decode cX6_greatest 124 = .ok (.aload_n 1, 1) := by decide +kernel
theorem dX6_greatest_125 : decode cX6_greatest 125 = .ok (.areturn, 1) := by decide +kernel
theorem dX6_chance_0 : decode cX6_chance 0 = .ok (.aload_n 0, 1) := by decide +kernel
theorem dX6_chance_1 : decode cX6_chance 1 = .ok (.invokevirtual 37, 3) := by decide +kernel
theorem dX6_chance_4 : decode cX6_chance 4 = .ok (.astore_n 2, 1) := by decide +kernel
theorem dX6_chance_5 : decode cX6_chance 5 = .ok (.new 19, 3) := by decide +kernel
theorem dX6_chance_8 : decode cX6_chance 8 = .ok (.dup, 1) := by decide +kernel
theorem dX6_chance_9 : decode cX6_chance 9 = .ok (.aload_n 0, 1) := by decide +kernel
theorem dX6_chance_10 : decode cX6_chance 10 = .ok (.getfield 15, 3) := by decide +kernel
theorem dX6_chance_13 : decode cX6_chance 13 = .ok (.getfield 29, 3) := by decide +kernel
theorem dX6_chance_16 : decode cX6_chance 16 = .ok (.iload_n 1, 1) := by decide +kernel
theorem dX6_chance_17 : decode cX6_chance 17 = .ok (.iaload, 1) := by decide +kernel
theorem dX6_chance_18 : decode cX6_chance 18 = .ok (.aload_n 2, 1) := by decide +kernel
theorem dX6_chance_19 : decode cX6_chance 19 = .ok (.getfield 41, 3) := by decide +kernel
theorem dX6_chance_22 : decode cX6_chance 22 = .ok (.imul, 1) := by decide +kernel
theorem dX6_chance_23 : decode cX6_chance 23 = .ok (.aload_n 2, 1) := by decide +kernel
theorem dX6_chance_24 : decode cX6_chance 24 = .ok (.getfield 44, 3) := by decide +kernel
theorem dX6_chance_27 : decode cX6_chance 27 = .ok (.isub, 1) := by decide +kernel
theorem dX6_chance_28 : decode cX6_chance 28 = .ok (.aload_n 2, 1) := by decide +kernel
theorem dX6_chance_29 : decode cX6_chance 29 = .ok (.getfield 41, 3) := by decide +kernel
theorem dX6_chance_32 : decode cX6_chance 32 = .ok (.aload_n 0, 1) := by decide +kernel
theorem dX6_chance_33 : decode cX6_chance 33 = .ok (.getfield 9, 3) := by decide +kernel
theorem dX6_chance_36 : decode cX6_chance 36 = .ok (.imul, 1) := by decide +kernel
theorem dX6_chance_37 : decode cX6_chance 37 = .ok (.invokespecial 21, 3) := by decide +kernel
theorem dX6_chance_40 : decode cX6_chance 40 = .ok (.areturn, 1) := by decide +kernel
theorem dX7_init_0 : decode cX7_init 0 = .ok (.aload_n 0, 1) := by decide +kernel
theorem dX7_init_1 : decode cX7_init 1 = .ok (.invokespecial 3, 3) := by decide +kernel
theorem dX7_init_4 : decode cX7_init 4 = .ok (.aload_n 0, 1) := by decide +kernel
theorem dX7_init_5 : decode cX7_init 5 = .ok (.iconst 4, 1) := by decide +kernel
theorem dX7_init_6 : decode cX7_init 6 = .ok (.newarray .int, 2) := by decide +kernel
theorem dX7_init_8 : decode cX7_init 8 = .ok (.putfield 9, 3) := by decide +kernel
theorem dX7_init_11 : decode cX7_init 11 = .ok (.aload_n 0, 1) := by decide +kernel
theorem dX7_init_12 : decode cX7_init 12 = .ok (.iconst 4, 1) := by decide +kernel
theorem dX7_init_13 : decode cX7_init 13 = .ok (.iconst 3, 1) := by decide +kernel
theorem dX7_init_14 : decode cX7_init 14 = .ok (.multianewarray 15 2, 4) := by decide +kernel
theorem dX7_init_18 : decode cX7_init 18 = .ok (.putfield 17, 3) := by decide +kernel
theorem dX7_init_21 : decode cX7_init 21 = .ok (.return_, 1) := by decide +kernel
theorem dX7_isRuled_0 : decode cX7_isRuled 0 = .ok (.aload_n 0, 1) := by decide +kernel
theorem dX7_isRuled_1 : decode cX7_isRuled 1 = .ok (.getfield 9, 3) := by decide +kernel
theorem dX7_isRuled_4 : decode cX7_isRuled 4 = .ok (.iload_n 1, 1) := by decide +kernel
theorem dX7_isRuled_5 : decode cX7_isRuled 5 = .ok (.iaload, 1) := by decide +kernel
theorem dX7_isRuled_6 : decode cX7_isRuled 6 = .ok (.iload_n 2, 1) := by decide +kernel
theorem dX7_isRuled_7 : decode cX7_isRuled 7 = .ok (.ishr, 1) := by decide +kernel
theorem dX7_isRuled_8 : decode cX7_isRuled 8 = .ok (.iconst 1, 1) := by decide +kernel
theorem dX7_isRuled_9 : decode cX7_isRuled 9 = .ok (.iand, 1) := by decide +kernel
theorem dX7_isRuled_10 : decode cX7_isRuled 10 = .ok (.iconst 1, 1) := by decide +kernel
theorem dX7_isRuled_11 : decode cX7_isRuled 11 = .ok (.if_icmp .ne 7, 3) := by decide +kernel
theorem dX7_isRuled_14 : decode cX7_isRuled 14 = .ok (.iconst 1, 1) := by decide +kernel
theorem dX7_isRuled_15 : decode cX7_isRuled 15 = .ok (.goto 4, 3) := by decide +kernel
theorem dX7_isRuled_18 : decode cX7_isRuled 18 = .ok (.iconst 0, 1) := by decide +kernel
theorem dX7_isRuled_19 : decode cX7_isRuled 19 = .ok (.ireturn, 1) := by decide +kernel
theorem dX7_isGood_0 : decode cX7_isGood 0 = .ok (.aload_n 0, 1) := by decide +kernel
theorem dX7_isGood_1 : decode cX7_isGood 1 = .ok (.getfield 17, 3) := by decide +kernel
theorem dX7_isGood_4 : decode cX7_isGood 4 = .ok (.iload_n 1, 1) := by decide +kernel
theorem dX7_isGood_5 : decode cX7_isGood 5 = .ok (.aaload, 1) := by decide +kernel
theorem dX7_isGood_6 : decode cX7_isGood 6 = .ok (.iload_n 2, 1) := by decide +kernel
theorem dX7_isGood_7 : decode cX7_isGood 7 = .ok (.iaload, 1) := by decide +kernel
theorem dX7_isGood_8 : decode cX7_isGood 8 = .ok (.iload_n 3, 1) := by decide +kernel
theorem dX7_isGood_9 : decode cX7_isGood 9 = .ok (.ishr, 1) := by decide +kernel
theorem dX7_isGood_10 : decode cX7_isGood 10 = .ok (.iconst 1, 1) := by decide +kernel
theorem dX7_isGood_11 : decode cX7_isGood 11 = .ok (.iand, 1) := by decide +kernel
theorem dX7_isGood_12 : decode cX7_isGood 12 = .ok (.iconst 1, 1) := by decide +kernel
theorem dX7_isGood_13 : decode cX7_isGood 13 = .ok (.if_icmp .ne 7, 3) := by decide +kernel
theorem dX7_isGood_16 : decode cX7_isGood 16 = .ok (.iconst 1, 1) := by decide +kernel
theorem dX7_isGood_17 : decode cX7_isGood 17 = .ok (.goto 4, 3) := by decide +kernel
theorem dX7_isGood_20 : decode cX7_isGood 20 = .ok (.iconst 0, 1) := by decide +kernel
theorem dX7_isGood_21 : decode cX7_isGood 21 = .ok (.ireturn, 1) := by decide +kernel
theorem dX8_init_0 : decode cX8_init 0 = .ok (.aload_n 0, 1) := by decide +kernel
theorem dX8_init_1 : decode cX8_init 1 = .ok (.invokespecial 3, 3) := by decide +kernel
theorem dX8_init_4 : decode cX8_init 4 = .ok (.aload_n 0, 1) := by decide +kernel
theorem dX8_init_5 : decode cX8_init 5 = .ok (.new 9, 3) := by decide +kernel
theorem dX8_init_8 : decode cX8_init 8 = .ok (.dup, 1) := by decide +kernel
theorem dX8_init_9 : decode cX8_init 9 = .ok (.invokespecial 11, 3) := by decide +kernel
theorem dX8_init_12 : decode cX8_init 12 = .ok (.putfield 12, 3) := by decide +kernel
theorem dX8_init_15 : decode cX8_init 15 = .ok (.aload_n 0, 1) := by decide +kernel
theorem dX8_init_16 : decode cX8_init 16 = .ok (.new 16, 3) := by decide +kernel
theorem dX8_init_19 : decode cX8_init 19 = .ok (.dup, 1) := by decide +kernel
theorem dX8_init_20 : decode cX8_init 20 = .ok (.invokespecial 18, 3) := by decide +kernel
theorem dX8_init_23 : decode cX8_init 23 = .ok (.putfield 19, 3) := by decide +kernel
theorem dX8_init_26 : decode cX8_init 26 = .ok (.aload_n 0, 1) := by decide +kernel
theorem dX8_init_27 : decode cX8_init 27 = .ok (.new 23, 3) := by decide +kernel
theorem dX8_init_30 : decode cX8_init 30 = .ok (.dup, 1) := by decide +kernel
theorem dX8_init_31 : decode cX8_init 31 = .ok (.aload_n 0, 1) := by decide +kernel
theorem dX8_init_32 : decode cX8_init 32 = .ok (.getfield 12, 3) := by decide +kernel
theorem dX8_init_35 : decode cX8_init 35 = .ok (.invokespecial 25, 3) := by decide +kernel
theorem dX8_init_38 : decode cX8_init 38 = .ok (.putfield 28, 3) := by decide +kernel
theorem dX8_init_41 : decode cX8_init 41 = .ok (.aload_n 0, 1) := by decide +kernel
theorem dX8_init_42 : decode cX8_init 42 = .ok (.new 32, 3) := by decide +kernel
theorem dX8_init_45 : decode cX8_init 45 = .ok (.dup, 1) := by decide +kernel
theorem dX8_init_46 : decode cX8_init 46 = .ok (.aload_n 0, 1) := by decide +kernel
theorem dX8_init_47 : decode cX8_init 47 = .ok (.getfield 19, 3) := by decide +kernel
theorem dX8_init_50 : decode cX8_init 50 = .ok (.aload_n 0, 1) := by decide +kernel
theorem dX8_init_51 : decode cX8_init 51 = .ok (.getfield 28, 3) := by decide +kernel
theorem dX8_init_54 : decode cX8_init 54 = .ok (.invokespecial 34, 3) := by decide +kernel
theorem dX8_init_57 : decode cX8_init 57 = .ok (.putfield 37, 3) := by decide +kernel
theorem dX8_init_60 : decode cX8_init 60 = .ok (.aload_n 0, 1) := by decide +kernel
theorem dX8_init_61 : decode cX8_init 61 = .ok (.new 41, 3) := by decide +kernel
theorem dX8_init_64 : decode cX8_init 64 = .ok (.dup, 1) := by decide +kernel
theorem dX8_init_65 : decode cX8_init 65 = .ok (.aload_n 0, 1) := by decide +kernel
theorem dX8_init_66 : decode cX8_init 66 = .ok (.getfield 19, 3) := by decide +kernel
theorem dX8_init_69 : decode cX8_init 69 = .ok (.invokespecial 43, 3) := by decide +kernel
theorem dX8_init_72 : decode cX8_init 72 = .ok (.putfield 46, 3) := by decide +kernel
theorem dX8_init_75 : decode cX8_init 75 = .ok (.aload_n 0, 1) := by decide +kernel
theorem dX8_init_76 : decode cX8_init 76 = .ok (.new 50, 3) := by decide +kernel
theorem dX8_init_79 : decode cX8_init 79 = .ok (.dup, 1) := by decide +kernel
theorem dX8_init_80 : decode cX8_init 80 = .ok (.invokespecial 52, 3) := by decide +kernel
theorem dX8_init_83 : decode cX8_init 83 = .ok (.putfield 53, 3) := by decide +kernel
theorem dX8_init_86 : decode cX8_init 86 = .ok (.return_, 1) := by decide +kernel
theorem dX8_street_0 : decode cX8_street 0 = .ok (.iload_n 1, 1) := by decide +kernel
theorem dX8_street_1 : decode cX8_street 1 = .ok (.invokestatic 57, 3) := by decide +kernel
theorem dX8_street_4 : decode cX8_street 4 = .ok (.ifCond .eq 11, 3) := by decide +kernel
theorem dX8_street_7 : decode cX8_street 7 = .ok (.iload_n 2, 1) := by decide +kernel
theorem dX8_street_8 : decode cX8_street 8 = .ok (.iconst 5, 1) := by decide +kernel
theorem dX8_street_9 : decode cX8_street 9 = .ok (.invokestatic 61, 3) := by decide +kernel
theorem dX8_street_12 : decode cX8_street 12 = .ok (.ifCond .ne 5, 3) := by decide +kernel
theorem dX8_street_15 : decode cX8_street 15 = .ok (.iconst (-1), 1) := by decide +kernel
theorem dX8_street_16 : decode cX8_street 16 = .ok (.ireturn, 1) := by decide +kernel
theorem dX8_street_17 : decode cX8_street 17 = .ok (.aload_n 0, 1) := by decide +kernel
theorem dX8_street_18 : decode cX8_street 18 = .ok (.getfield 19, 3) := by decide +kernel
theorem dX8_street_21 : decode cX8_street 21 = .ok (.iload_n 1, 1) := by decide +kernel
theorem dX8_street_22 : decode cX8_street 22 = .ok (.iload_n 2, 1) := by decide +kernel
theorem dX8_street_23 : decode cX8_street 23 = .ok (.invokevirtual 65, 3) := by decide +kernel
theorem dX8_street_26 : decode cX8_street 26 = .ok (.ireturn, 1) := by decide +kernel
theorem dX8_move_0 : decode cX8_move 0 = .ok (.aload_n 0, 1) := by decide +kernel
theorem dX8_move_1 : decode cX8_move 1 = .ok (.iload_n 1, 1) := by decide +kernel
theorem dX8_move_2 : decode cX8_move 2 = .ok (.invokevirtual 69, 3) := by decide +kernel
theorem dX8_move_5 : decode cX8_move 5 = .ok (.ifCond .eq 10, 3) := by decide +kernel
theorem dX8_move_8 : decode cX8_move 8 = .ok (.iload_n 2, 1) := by decide +kernel
theorem dX8_move_9 : decode cX8_move 9 = .ok (.invokestatic 57, 3) := by decide +kernel
theorem dX8_move_12 : decode cX8_move 12 = .ok (.ifCond .ne 5, 3) := by decide +kernel
theorem dX8_move_15 : decode cX8_move 15 = .ok (.iconst (-1), 1) := by decide +kernel
theorem dX8_move_16 : decode cX8_move 16 = .ok (.ireturn, 1) := by decide +kernel
theorem dX8_move_17 : decode cX8_move 17 = .ok (.aload_n 0, 1) := by decide +kernel
theorem dX8_move_18 : decode cX8_move 18 = .ok (.getfield 19, 3) := by decide +kernel
theorem dX8_move_21 : decode cX8_move 21 = .ok (.getfield 72, 3) := by decide +kernel
theorem dX8_move_24 : decode cX8_move 24 = .ok (.iload_n 1, 1) := by decide +kernel
theorem dX8_move_25 : decode cX8_move 25 = .ok (.iaload, 1) := by decide +kernel
theorem dX8_move_26 : decode cX8_move 26 = .ok (.istore_n 3, 1) := by decide +kernel
theorem dX8_move_27 : decode cX8_move 27 = .ok (.aload_n 0, 1) := by decide +kernel
theorem dX8_move_28 : decode cX8_move 28 = .ok (.getfield 19, 3) := by decide +kernel
theorem dX8_move_31 : decode cX8_move 31 = .ok (.getfield 72, 3) := by decide +kernel
theorem dX8_move_34 : decode cX8_move 34 = .ok (.iload_n 1, 1) := by decide +kernel
theorem dX8_move_35 : decode cX8_move 35 = .ok (.iload_n 2, 1) := by decide +kernel
theorem dX8_move_36 : decode cX8_move 36 = .ok (.iastore, 1) := by decide +kernel
theorem dX8_move_37 : decode cX8_move 37 = .ok (.iload_n 3, 1) := by decide +kernel
theorem dX8_move_38 : decode cX8_move 38 = .ok (.ireturn, 1) := by decide +kernel
theorem dX8_walk_0 : decode cX8_walk 0 = .ok (.aload_n 0, 1) := by decide +kernel
theorem dX8_walk_1 : decode cX8_walk 1 = .ok (.iload_n 1, 1) := by decide +kernel
theorem dX8_walk_2 : decode cX8_walk 2 = .ok (.invokevirtual 69, 3) := by decide +kernel
theorem dX8_walk_5 : decode cX8_walk 5 = .ok (.ifCond .eq 25, 3) := by decide +kernel
theorem dX8_walk_8 : decode cX8_walk 8 = .ok (.aload_n 0, 1) := by decide +kernel
theorem dX8_walk_9 : decode cX8_walk 9 = .ok (.iload_n 2, 1) := by decide +kernel
theorem dX8_walk_10 : decode cX8_walk 10 = .ok (.invokevirtual 69, 3) := by decide +kernel
theorem dX8_walk_13 : decode cX8_walk 13 = .ok (.ifCond .eq 17, 3) := by decide +kernel
theorem dX8_walk_16 : decode cX8_walk 16 = .ok (.iload_n 1, 1) := by decide +kernel
theorem dX8_walk_17 : decode cX8_walk 17 = .ok (.iload_n 2, 1) := by decide +kernel
theorem dX8_walk_18 : decode cX8_walk 18 = .ok (.if_icmp .eq 12, 3) := by decide +kernel
theorem dX8_walk_21 : decode cX8_walk 21 = .ok (.iload_n 3, 1) := by decide +kernel
theorem dX8_walk_22 : decode cX8_walk 22 = .ok (.bipush 50, 2) := by decide +kernel
theorem dX8_walk_24 : decode cX8_walk 24 = .ok (.invokestatic 61, 3) := by decide +kernel
theorem dX8_walk_27 : decode cX8_walk 27 = .ok (.ifCond .ne 5, 3) := by decide +kernel
theorem dX8_walk_30 : decode cX8_walk 30 = .ok (.iconst (-1), 1) := by decide +kernel
theorem dX8_walk_31 : decode cX8_walk 31 = .ok (.ireturn, 1) := by decide +kernel
theorem dX8_walk_32 : decode cX8_walk 32 = .ok (.aload_n 0, 1) := by decide +kernel
theorem dX8_walk_33 : decode cX8_walk 33 = .ok (.getfield 19, 3) := by decide +kernel
theorem dX8_walk_36 : decode cX8_walk 36 = .ok (.getfield 76, 3) := by decide +kernel
theorem dX8_walk_39 : decode cX8_walk 39 = .ok (.iload_n 1, 1) := by decide +kernel
theorem dX8_walk_40 : decode cX8_walk 40 = .ok (.aaload, 1) := by decide +kernel
theorem dX8_walk_41 : decode cX8_walk 41 = .ok (.iload_n 2, 1) := by decide +kernel
theorem dX8_walk_42 : decode cX8_walk 42 = .ok (.iaload, 1) := by decide +kernel
theorem dX8_walk_43 : decode cX8_walk 43 = .ok (.istore 4, 2) := by decide +kernel
theorem dX8_walk_45 : decode cX8_walk 45 = .ok (.aload_n 0, 1) := by decide +kernel
theorem dX8_walk_46 : decode cX8_walk 46 = .ok (.getfield 19, 3) := by decide +kernel
theorem dX8_walk_49 : decode cX8_walk 49 = .ok (.getfield 76, 3) := by decide +kernel
theorem dX8_walk_52 : decode cX8_walk 52 = .ok (.iload_n 1, 1) := by decide +kernel
theorem dX8_walk_53 : decode cX8_walk 53 = .ok (.aaload, 1) := by decide +kernel
theorem dX8_walk_54 : decode cX8_walk 54 = .ok (.iload_n 2, 1) := by decide +kernel
theorem dX8_walk_55 : decode cX8_walk 55 = .ok (.iload_n 3, 1) := by decide +kernel
theorem dX8_walk_56 : decode cX8_walk 56 = .ok (.iastore, 1) := by decide +kernel
theorem dX8_walk_57 : decode cX8_walk 57 = .ok (.aload_n 0, 1) := by decide +kernel
theorem dX8_walk_58 : decode cX8_walk 58 = .ok (.getfield 19, 3) := by decide +kernel
theorem dX8_walk_61 : decode cX8_walk 61 = .ok (.getfield 76, 3) := by decide +kernel
theorem dX8_walk_64 : decode cX8_walk 64 = .ok (.iload_n 2, 1) := by decide +kernel
theorem dX8_walk_65 : decode cX8_walk 65 = .ok (.aaload, 1) := by decide +kernel
theorem dX8_walk_66 : decode cX8_walk 66 = .ok (.iload_n 1, 1) := by decide +kernel
theorem dX8_walk_67 : decode cX8_walk 67 = .ok (.iload_n 3, 1) := by decide +kernel
theorem dX8_walk_68 : decode cX8_walk 68 = .ok (.iastore, 1) := by decide +kernel
theorem dX8_walk_69 : decode cX8_walk 69 = .ok (.iload 4, 2) := by decide +kernel
theorem dX8_walk_71 : decode cX8_walk 71 = .ok (.ireturn, 1) := by decide +kernel
theorem dX8_close_0 : decode cX8_close 0 = .ok (.aload_n 0, 1) := by decide +kernel
theorem dX8_close_1 : decode cX8_close 1 = .ok (.iload_n 1, 1) := by decide +kernel
theorem dX8_close_2 : decode cX8_close 2 = .ok (.invokevirtual 69, 3) := by decide +kernel
theorem dX8_close_5 : decode cX8_close 5 = .ok (.ifCond .eq 26, 3) := by decide +kernel
theorem dX8_close_8 : decode cX8_close 8 = .ok (.iload_n 2, 1) := by decide +kernel
theorem dX8_close_9 : decode cX8_close 9 = .ok (.invokestatic 80, 3) := by decide +kernel
theorem dX8_close_12 : decode cX8_close 12 = .ok (.ifCond .eq 19, 3) := by decide +kernel
theorem dX8_close_15 : decode cX8_close 15 = .ok (.iload_n 3, 1) := by decide +kernel
theorem dX8_close_16 : decode cX8_close 16 = .ok (.aload_n 0, 1) := by decide +kernel
theorem dX8_close_17 : decode cX8_close 17 = .ok (.getfield 19, 3) := by decide +kernel
theorem dX8_close_20 : decode cX8_close 20 = .ok (.getfield 83, 3) := by decide +kernel
theorem dX8_close_23 : decode cX8_close 23 = .ok (.iload_n 1, 1) := by decide +kernel
theorem dX8_close_24 : decode cX8_close 24 = .ok (.iaload, 1) := by decide +kernel
theorem dX8_close_25 : decode cX8_close 25 = .ok (.invokestatic 61, 3) := by decide +kernel
theorem dX8_close_28 : decode cX8_close 28 = .ok (.ifCond .ne 5, 3) := by decide +kernel
theorem dX8_close_31 : decode cX8_close 31 = .ok (.iconst (-1), 1) := by decide +kernel
theorem dX8_close_32 : decode cX8_close 32 = .ok (.ireturn, 1) := by decide +kernel
theorem dX8_close_33 : decode cX8_close 33 = .ok (.aload_n 0, 1) := by decide +kernel
theorem dX8_close_34 : decode cX8_close 34 = .ok (.getfield 19, 3) := by decide +kernel
theorem dX8_close_37 : decode cX8_close 37 = .ok (.getfield 86, 3) := by decide +kernel
theorem dX8_close_40 : decode cX8_close 40 = .ok (.iload_n 1, 1) := by decide +kernel
theorem dX8_close_41 : decode cX8_close 41 = .ok (.aaload, 1) := by decide +kernel
theorem dX8_close_42 : decode cX8_close 42 = .ok (.iload_n 2, 1) := by decide +kernel
theorem dX8_close_43 : decode cX8_close 43 = .ok (.iaload, 1) := by decide +kernel
theorem dX8_close_44 : decode cX8_close 44 = .ok (.istore 4, 2) := by decide +kernel
theorem dX8_close_46 : decode cX8_close 46 = .ok (.aload_n 0, 1) := by decide +kernel
theorem dX8_close_47 : decode cX8_close 47 = .ok (.getfield 19, 3) := by decide +kernel
theorem dX8_close_50 : decode cX8_close 50 = .ok (.getfield 86, 3) := by decide +kernel
theorem dX8_close_53 : decode cX8_close 53 = .ok (.iload_n 1, 1) := by decide +kernel
theorem dX8_close_54 : decode cX8_close 54 = .ok (.aaload, 1) := by decide +kernel
theorem dX8_close_55 : decode cX8_close 55 = .ok (.iload_n 2, 1) := by decide +kernel
theorem dX8_close_56 : decode cX8_close 56 = .ok (.iload_n 3, 1) := by decide +kernel
theorem dX8_close_57 : decode cX8_close 57 = .ok (.iastore, 1) := by decide +kernel
theorem dX8_close_58 : decode cX8_close 58 = .ok (.iload 4, 2) := by decide +kernel
theorem dX8_close_60 : decode cX8_close 60 = .ok (.ireturn, 1) := by decide +kernel
theorem dX8_rule_0 : decode cX8_rule 0 = .ok (.iload_n 1, 1) := by decide +kernel
theorem dX8_rule_1 : decode cX8_rule 1 = .ok (.invokestatic 57, 3) := by decide +kernel
theorem dX8_rule_4 : decode cX8_rule 4 = .ok (.ifCond .eq 11, 3) := by decide +kernel
theorem dX8_rule_7 : decode cX8_rule 7 = .ok (.iload_n 2, 1) := by decide +kernel
theorem dX8_rule_8 : decode cX8_rule 8 = .ok (.iload_n 3, 1) := by decide +kernel
theorem dX8_rule_9 : decode cX8_rule 9 = .ok (.invokestatic 89, 3) := by decide +kernel
theorem dX8_rule_12 : decode cX8_rule 12 = .ok (.ifCond .ne 5, 3) := by decide +kernel
theorem dX8_rule_15 : decode cX8_rule 15 = .ok (.iconst (-1), 1) := by decide +kernel
theorem dX8_rule_16 : decode cX8_rule 16 = .ok (.ireturn, 1) := by decide +kernel
theorem dX8_rule_17 : decode cX8_rule 17 = .ok (.aload_n 0, 1) := by decide +kernel
theorem dX8_rule_18 : decode cX8_rule 18 = .ok (.getfield 12, 3) := by decide +kernel
theorem dX8_rule_21 : decode cX8_rule 21 = .ok (.getfield 92, 3) := by decide +kernel
theorem dX8_rule_24 : decode cX8_rule 24 = .ok (.iload_n 1, 1) := by decide +kernel
theorem dX8_rule_25 : decode cX8_rule 25 = .ok (.iload_n 2, 1) := by decide +kernel
theorem dX8_rule_26 : decode cX8_rule 26 = .ok (.iload_n 3, 1) := by decide +kernel
theorem dX8_rule_27 : decode cX8_rule 27 = .ok (.invokestatic 95, 3) := by decide +kernel
theorem dX8_rule_30 : decode cX8_rule 30 = .ok (.iastore, 1) := by decide +kernel
theorem dX8_rule_31 : decode cX8_rule 31 = .ok (.iconst 1, 1) := by decide +kernel
theorem dX8_rule_32 : decode cX8_rule 32 = .ok (.ireturn, 1) := by decide +kernel
theorem dX8_hours_0 : decode cX8_hours 0 = .ok (.iload_n 1, 1) := by decide +kernel
theorem dX8_hours_1 : decode cX8_hours 1 = .ok (.invokestatic 57, 3) := by decide +kernel
theorem dX8_hours_4 : decode cX8_hours 4 = .ok (.ifCond .eq 19, 3) := by decide +kernel
theorem dX8_hours_7 : decode cX8_hours 7 = .ok (.iload_n 3, 1) := by decide +kernel
theorem dX8_hours_8 : decode cX8_hours 8 = .ok (.iload 4, 2) := by decide +kernel
theorem dX8_hours_10 : decode cX8_hours 10 = .ok (.invokestatic 89, 3) := by decide +kernel
theorem dX8_hours_13 : decode cX8_hours 13 = .ok (.ifCond .eq 10, 3) := by decide +kernel
theorem dX8_hours_16 : decode cX8_hours 16 = .ok (.iload_n 2, 1) := by decide +kernel
theorem dX8_hours_17 : decode cX8_hours 17 = .ok (.invokestatic 98, 3) := by decide +kernel
theorem dX8_hours_20 : decode cX8_hours 20 = .ok (.ifCond .ne 5, 3) := by decide +kernel
theorem dX8_hours_23 : decode cX8_hours 23 = .ok (.iconst (-1), 1) := by decide +kernel
theorem dX8_hours_24 : decode cX8_hours 24 = .ok (.ireturn, 1) := by decide +kernel
theorem dX8_hours_25 : decode cX8_hours 25 = .ok (.aload_n 0, 1) := by decide +kernel
theorem dX8_hours_26 : decode cX8_hours 26 = .ok (.getfield 12, 3) := by decide +kernel
theorem dX8_hours_29 : decode cX8_hours 29 = .ok (.getfield 101, 3) := by decide +kernel
theorem dX8_hours_32 : decode cX8_hours 32 = .ok (.iload_n 1, 1) := by decide +kernel
theorem dX8_hours_33 : decode cX8_hours 33 = .ok (.aaload, 1) := by decide +kernel
theorem dX8_hours_34 : decode cX8_hours 34 = .ok (.iload_n 2, 1) := by decide +kernel
theorem dX8_hours_35 : decode cX8_hours 35 = .ok (.iload_n 3, 1) := by decide +kernel
theorem dX8_hours_36 : decode cX8_hours 36 = .ok (.iload 4, 2) := by decide +kernel
theorem dX8_hours_38 : decode cX8_hours 38 = .ok (.invokestatic 95, 3) := by decide +kernel
theorem dX8_hours_41 : decode cX8_hours 41 = .ok (.iastore, 1) := by decide +kernel
theorem dX8_hours_42 : decode cX8_hours 42 = .ok (.iconst 1, 1) := by decide +kernel
theorem dX8_hours_43 : decode cX8_hours 43 = .ok (.ireturn, 1) := by decide +kernel
theorem dX8_car_0 : decode cX8_car 0 = .ok (.aload_n 0, 1) := by decide +kernel
theorem dX8_car_1 : decode cX8_car 1 = .ok (.iload_n 1, 1) := by decide +kernel
theorem dX8_car_2 : decode cX8_car 2 = .ok (.invokevirtual 69, 3) := by decide +kernel
theorem dX8_car_5 : decode cX8_car 5 = .ok (.ifCond .eq 14, 3) := by decide +kernel
theorem dX8_car_8 : decode cX8_car 8 = .ok (.aload_n 0, 1) := by decide +kernel
theorem dX8_car_9 : decode cX8_car 9 = .ok (.getfield 28, 3) := by decide +kernel
theorem dX8_car_12 : decode cX8_car 12 = .ok (.iload_n 1, 1) := by decide +kernel
theorem dX8_car_13 : decode cX8_car 13 = .ok (.invokevirtual 104, 3) := by decide +kernel
theorem dX8_car_16 : decode cX8_car 16 = .ok (.goto 4, 3) := by decide +kernel
theorem dX8_car_19 : decode cX8_car 19 = .ok (.iconst (-1), 1) := by decide +kernel
theorem dX8_car_20 : decode cX8_car 20 = .ok (.ireturn, 1) := by decide +kernel
theorem dX8_permit_0 : decode cX8_permit 0 = .ok (.aload_n 0, 1) := by decide +kernel
theorem dX8_permit_1 : decode cX8_permit 1 = .ok (.iload_n 1, 1) := by decide +kernel
theorem dX8_permit_2 : decode cX8_permit 2 = .ok (.invokevirtual 107, 3) := by decide +kernel
theorem dX8_permit_5 : decode cX8_permit 5 = .ok (.ifCond .eq 17, 3) := by decide +kernel
theorem dX8_permit_8 : decode cX8_permit 8 = .ok (.iload_n 2, 1) := by decide +kernel
theorem dX8_permit_9 : decode cX8_permit 9 = .ok (.invokestatic 98, 3) := by decide +kernel
theorem dX8_permit_12 : decode cX8_permit 12 = .ok (.ifCond .eq 10, 3) := by decide +kernel
theorem dX8_permit_15 : decode cX8_permit 15 = .ok (.iload_n 3, 1) := by decide +kernel
theorem dX8_permit_16 : decode cX8_permit 16 = .ok (.invokestatic 57, 3) := by decide +kernel
theorem dX8_permit_19 : decode cX8_permit 19 = .ok (.ifCond .ne 5, 3) := by decide +kernel
theorem dX8_permit_22 : decode cX8_permit 22 = .ok (.iconst (-1), 1) := by decide +kernel
theorem dX8_permit_23 : decode cX8_permit 23 = .ok (.ireturn, 1) := by decide +kernel
theorem dX8_permit_24 : decode cX8_permit 24 = .ok (.aload_n 0, 1) := by decide +kernel
theorem dX8_permit_25 : decode cX8_permit 25 = .ok (.getfield 28, 3) := by decide +kernel
theorem dX8_permit_28 : decode cX8_permit 28 = .ok (.iload_n 1, 1) := by decide +kernel
theorem dX8_permit_29 : decode cX8_permit 29 = .ok (.iload_n 2, 1) := by decide +kernel
theorem dX8_permit_30 : decode cX8_permit 30 = .ok (.iload_n 3, 1) := by decide +kernel
theorem dX8_permit_31 : decode cX8_permit 31 = .ok (.iload 4, 2) := by decide +kernel
theorem dX8_permit_33 : decode cX8_permit 33 = .ok (.invokevirtual 110, 3) := by decide +kernel
theorem dX8_permit_36 : decode cX8_permit 36 = .ok (.ifCond .eq 7, 3) := by decide +kernel
theorem dX8_permit_39 : decode cX8_permit 39 = .ok (.iconst 1, 1) := by decide +kernel
theorem dX8_permit_40 : decode cX8_permit 40 = .ok (.goto 4, 3) := by decide +kernel
theorem dX8_permit_43 : decode cX8_permit 43 = .ok (.iconst 0, 1) := by decide +kernel
theorem dX8_permit_44 : decode cX8_permit 44 = .ok (.ireturn, 1) := by decide +kernel
theorem dX8_cards_0 : decode cX8_cards 0 = .ok (.aload_n 0, 1) := by decide +kernel
theorem dX8_cards_1 : decode cX8_cards 1 = .ok (.iload_n 1, 1) := by decide +kernel
theorem dX8_cards_2 : decode cX8_cards 2 = .ok (.invokevirtual 107, 3) := by decide +kernel
theorem dX8_cards_5 : decode cX8_cards 5 = .ok (.ifCond .eq 19, 3) := by decide +kernel
theorem dX8_cards_8 : decode cX8_cards 8 = .ok (.iload_n 2, 1) := by decide +kernel
theorem dX8_cards_9 : decode cX8_cards 9 = .ok (.invokestatic 57, 3) := by decide +kernel
theorem dX8_cards_12 : decode cX8_cards 12 = .ok (.ifCond .eq 12, 3) := by decide +kernel
theorem dX8_cards_15 : decode cX8_cards 15 = .ok (.iload_n 3, 1) := by decide +kernel
theorem dX8_cards_16 : decode cX8_cards 16 = .ok (.bipush 9, 2) := by decide +kernel
theorem dX8_cards_18 : decode cX8_cards 18 = .ok (.invokestatic 61, 3) := by decide +kernel
theorem dX8_cards_21 : decode cX8_cards 21 = .ok (.ifCond .ne 5, 3) := by decide +kernel
theorem dX8_cards_24 : decode cX8_cards 24 = .ok (.iconst (-1), 1) := by decide +kernel
theorem dX8_cards_25 : decode cX8_cards 25 = .ok (.ireturn, 1) := by decide +kernel
theorem dX8_cards_26 : decode cX8_cards 26 = .ok (.aload_n 0, 1) := by decide +kernel
theorem dX8_cards_27 : decode cX8_cards 27 = .ok (.getfield 28, 3) := by decide +kernel
theorem dX8_cards_30 : decode cX8_cards 30 = .ok (.getfield 114, 3) := by decide +kernel
theorem dX8_cards_33 : decode cX8_cards 33 = .ok (.iload_n 1, 1) := by decide +kernel
theorem dX8_cards_34 : decode cX8_cards 34 = .ok (.aaload, 1) := by decide +kernel
theorem dX8_cards_35 : decode cX8_cards 35 = .ok (.iload_n 2, 1) := by decide +kernel
theorem dX8_cards_36 : decode cX8_cards 36 = .ok (.iaload, 1) := by decide +kernel
theorem dX8_cards_37 : decode cX8_cards 37 = .ok (.istore 4, 2) := by decide +kernel
theorem dX8_cards_39 : decode cX8_cards 39 = .ok (.aload_n 0, 1) := by decide +kernel
theorem dX8_cards_40 : decode cX8_cards 40 = .ok (.getfield 28, 3) := by decide +kernel
theorem dX8_cards_43 : decode cX8_cards 43 = .ok (.getfield 114, 3) := by decide +kernel
theorem dX8_cards_46 : decode cX8_cards 46 = .ok (.iload_n 1, 1) := by decide +kernel
theorem dX8_cards_47 : decode cX8_cards 47 = .ok (.aaload, 1) := by decide +kernel
theorem dX8_cards_48 : decode cX8_cards 48 = .ok (.iload_n 2, 1) := by decide +kernel
theorem dX8_cards_49 : decode cX8_cards 49 = .ok (.iload_n 3, 1) := by decide +kernel
theorem dX8_cards_50 : decode cX8_cards 50 = .ok (.iastore, 1) := by decide +kernel
theorem dX8_cards_51 : decode cX8_cards 51 = .ok (.iload 4, 2) := by decide +kernel
theorem dX8_cards_53 : decode cX8_cards 53 = .ok (.ireturn, 1) := by decide +kernel
theorem dX8_limit_0 : decode cX8_limit 0 = .ok (.aload_n 0, 1) := by decide +kernel
theorem dX8_limit_1 : decode cX8_limit 1 = .ok (.iload_n 1, 1) := by decide +kernel
theorem dX8_limit_2 : decode cX8_limit 2 = .ok (.invokevirtual 107, 3) := by decide +kernel
theorem dX8_limit_5 : decode cX8_limit 5 = .ok (.ifCond .eq 12, 3) := by decide +kernel
theorem dX8_limit_8 : decode cX8_limit 8 = .ok (.iload_n 2, 1) := by decide +kernel
theorem dX8_limit_9 : decode cX8_limit 9 = .ok (.bipush 99, 2) := by decide +kernel
theorem dX8_limit_11 : decode cX8_limit 11 = .ok (.invokestatic 61, 3) := by decide +kernel
theorem dX8_limit_14 : decode cX8_limit 14 = .ok (.ifCond .ne 5, 3) := by decide +kernel
theorem dX8_limit_17 : decode cX8_limit 17 = .ok (.iconst (-1), 1) := by decide +kernel
theorem dX8_limit_18 : decode cX8_limit 18 = .ok (.ireturn, 1) := by decide +kernel
theorem dX8_limit_19 : decode cX8_limit 19 = .ok (.aload_n 0, 1) := by decide +kernel
theorem dX8_limit_20 : decode cX8_limit 20 = .ok (.getfield 28, 3) := by decide +kernel
theorem dX8_limit_23 : decode cX8_limit 23 = .ok (.getfield 117, 3) := by decide +kernel
theorem dX8_limit_26 : decode cX8_limit 26 = .ok (.iload_n 1, 1) := by decide +kernel
theorem dX8_limit_27 : decode cX8_limit 27 = .ok (.iaload, 1) := by decide +kernel
theorem dX8_limit_28 : decode cX8_limit 28 = .ok (.istore_n 3, 1) := by decide +kernel
theorem dX8_limit_29 : decode cX8_limit 29 = .ok (.aload_n 0, 1) := by decide +kernel
theorem dX8_limit_30 : decode cX8_limit 30 = .ok (.getfield 28, 3) := by decide +kernel
theorem dX8_limit_33 : decode cX8_limit 33 = .ok (.getfield 117, 3) := by decide +kernel
theorem dX8_limit_36 : decode cX8_limit 36 = .ok (.iload_n 1, 1) := by decide +kernel
theorem dX8_limit_37 : decode cX8_limit 37 = .ok (.iload_n 2, 1) := by decide +kernel
theorem dX8_limit_38 : decode cX8_limit 38 = .ok (.iastore, 1) := by decide +kernel
theorem dX8_limit_39 : decode cX8_limit 39 = .ok (.iload_n 3, 1) := by decide +kernel
theorem dX8_limit_40 : decode cX8_limit 40 = .ok (.ireturn, 1) := by decide +kernel
theorem dX8_late_0 : decode cX8_late 0 = .ok (.aload_n 0, 1) := by decide +kernel
theorem dX8_late_1 : decode cX8_late 1 = .ok (.iload_n 1, 1) := by decide +kernel
theorem dX8_late_2 : decode cX8_late 2 = .ok (.invokevirtual 107, 3) := by decide +kernel
theorem dX8_late_5 : decode cX8_late 5 = .ok (.ifCond .eq 14, 3) := by decide +kernel
theorem dX8_late_8 : decode cX8_late 8 = .ok (.aload_n 0, 1) := by decide +kernel
theorem dX8_late_9 : decode cX8_late 9 = .ok (.getfield 28, 3) := by decide +kernel
theorem dX8_late_12 : decode cX8_late 12 = .ok (.iload_n 1, 1) := by decide +kernel
theorem dX8_late_13 : decode cX8_late 13 = .ok (.invokevirtual 120, 3) := by decide +kernel
theorem dX8_late_16 : decode cX8_late 16 = .ok (.goto 4, 3) := by decide +kernel
theorem dX8_late_19 : decode cX8_late 19 = .ok (.iconst (-1), 1) := by decide +kernel
theorem dX8_late_20 : decode cX8_late 20 = .ok (.ireturn, 1) := by decide +kernel
theorem dX8_may_0 : decode cX8_may 0 = .ok (.aload_n 0, 1) := by decide +kernel
theorem dX8_may_1 : decode cX8_may 1 = .ok (.iload_n 1, 1) := by decide +kernel
theorem dX8_may_2 : decode cX8_may 2 = .ok (.invokevirtual 107, 3) := by decide +kernel
theorem dX8_may_5 : decode cX8_may 5 = .ok (.ifCond .eq 18, 3) := by decide +kernel
theorem dX8_may_8 : decode cX8_may 8 = .ok (.aload_n 0, 1) := by decide +kernel
theorem dX8_may_9 : decode cX8_may 9 = .ok (.iload_n 2, 1) := by decide +kernel
theorem dX8_may_10 : decode cX8_may 10 = .ok (.invokevirtual 69, 3) := by decide +kernel
theorem dX8_may_13 : decode cX8_may 13 = .ok (.ifCond .eq 10, 3) := by decide +kernel
theorem dX8_may_16 : decode cX8_may 16 = .ok (.iload_n 3, 1) := by decide +kernel
theorem dX8_may_17 : decode cX8_may 17 = .ok (.invokestatic 123, 3) := by decide +kernel
theorem dX8_may_20 : decode cX8_may 20 = .ok (.ifCond .ne 5, 3) := by decide +kernel
theorem dX8_may_23 : decode cX8_may 23 = .ok (.iconst (-1), 1) := by decide +kernel
theorem dX8_may_24 : decode cX8_may 24 = .ok (.ireturn, 1) := by decide +kernel
theorem dX8_may_25 : decode cX8_may 25 = .ok (.aload_n 0, 1) := by decide +kernel
theorem dX8_may_26 : decode cX8_may 26 = .ok (.getfield 28, 3) := by decide +kernel
theorem dX8_may_29 : decode cX8_may 29 = .ok (.iload_n 1, 1) := by decide +kernel
theorem dX8_may_30 : decode cX8_may 30 = .ok (.aload_n 0, 1) := by decide +kernel
theorem dX8_may_31 : decode cX8_may 31 = .ok (.getfield 19, 3) := by decide +kernel
theorem dX8_may_34 : decode cX8_may 34 = .ok (.getfield 72, 3) := by decide +kernel
theorem dX8_may_37 : decode cX8_may 37 = .ok (.iload_n 2, 1) := by decide +kernel
theorem dX8_may_38 : decode cX8_may 38 = .ok (.iaload, 1) := by decide +kernel
theorem dX8_may_39 : decode cX8_may 39 = .ok (.iload_n 3, 1) := by decide +kernel
theorem dX8_may_40 : decode cX8_may 40 = .ok (.invokevirtual 126, 3) := by decide +kernel
theorem dX8_may_43 : decode cX8_may 43 = .ok (.ireturn, 1) := by decide +kernel
theorem dX8_stands_0 : decode cX8_stands 0 = .ok (.iload_n 1, 1) := by decide +kernel
theorem dX8_stands_1 : decode cX8_stands 1 = .ok (.invokestatic 80, 3) := by decide +kernel
theorem dX8_stands_4 : decode cX8_stands 4 = .ok (.ifCond .eq 18, 3) := by decide +kernel
theorem dX8_stands_7 : decode cX8_stands 7 = .ok (.iload_n 2, 1) := by decide +kernel
theorem dX8_stands_8 : decode cX8_stands 8 = .ok (.invokestatic 123, 3) := by decide +kernel
theorem dX8_stands_11 : decode cX8_stands 11 = .ok (.ifCond .eq 11, 3) := by decide +kernel
theorem dX8_stands_14 : decode cX8_stands 14 = .ok (.aload_n 0, 1) := by decide +kernel
theorem dX8_stands_15 : decode cX8_stands 15 = .ok (.iload_n 3, 1) := by decide +kernel
theorem dX8_stands_16 : decode cX8_stands 16 = .ok (.invokevirtual 107, 3) := by decide +kernel
theorem dX8_stands_19 : decode cX8_stands 19 = .ok (.ifCond .ne 5, 3) := by decide +kernel
theorem dX8_stands_22 : decode cX8_stands 22 = .ok (.iconst (-1), 1) := by decide +kernel
theorem dX8_stands_23 : decode cX8_stands 23 = .ok (.ireturn, 1) := by decide +kernel
theorem dX8_stands_24 : decode cX8_stands 24 = .ok (.aload_n 0, 1) := by decide +kernel
theorem dX8_stands_25 : decode cX8_stands 25 = .ok (.getfield 37, 3) := by decide +kernel
theorem dX8_stands_28 : decode cX8_stands 28 = .ok (.iload_n 1, 1) := by decide +kernel
theorem dX8_stands_29 : decode cX8_stands 29 = .ok (.iload_n 2, 1) := by decide +kernel
theorem dX8_stands_30 : decode cX8_stands 30 = .ok (.iload 4, 2) := by decide +kernel
theorem dX8_stands_32 : decode cX8_stands 32 = .ok (.invokevirtual 130, 3) := by decide +kernel
theorem dX8_stands_35 : decode cX8_stands 35 = .ok (.aload_n 0, 1) := by decide +kernel
theorem dX8_stands_36 : decode cX8_stands 36 = .ok (.getfield 37, 3) := by decide +kernel
theorem dX8_stands_39 : decode cX8_stands 39 = .ok (.getfield 134, 3) := by decide +kernel
theorem dX8_stands_42 : decode cX8_stands 42 = .ok (.iload_n 3, 1) := by decide +kernel
theorem dX8_stands_43 : decode cX8_stands 43 = .ok (.iaload, 1) := by decide +kernel
theorem dX8_stands_44 : decode cX8_stands 44 = .ok (.istore 5, 2) := by decide +kernel
theorem dX8_stands_46 : decode cX8_stands 46 = .ok (.iload 5, 2) := by decide +kernel
theorem dX8_stands_48 : decode cX8_stands 48 = .ok (.iconst 5, 1) := by decide +kernel
theorem dX8_stands_49 : decode cX8_stands 49 = .ok (.if_icmp .ne 8, 3) := by decide +kernel
theorem dX8_stands_52 : decode cX8_stands 52 = .ok (.bipush (-3), 2) := by decide +kernel
theorem dX8_stands_54 : decode cX8_stands 54 = .ok (.goto 5, 3) := by decide +kernel
theorem dX8_stands_57 : decode cX8_stands 57 = .ok (.iload 5, 2) := by decide +kernel
theorem dX8_stands_59 : decode cX8_stands 59 = .ok (.ireturn, 1) := by decide +kernel
theorem dX8_told_0 : decode cX8_told 0 = .ok (.iload_n 1, 1) := by decide +kernel
theorem dX8_told_1 : decode cX8_told 1 = .ok (.invokestatic 80, 3) := by decide +kernel
theorem dX8_told_4 : decode cX8_told 4 = .ok (.ifCond .eq 18, 3) := by decide +kernel
theorem dX8_told_7 : decode cX8_told 7 = .ok (.iload_n 2, 1) := by decide +kernel
theorem dX8_told_8 : decode cX8_told 8 = .ok (.invokestatic 123, 3) := by decide +kernel
theorem dX8_told_11 : decode cX8_told 11 = .ok (.ifCond .eq 11, 3) := by decide +kernel
theorem dX8_told_14 : decode cX8_told 14 = .ok (.iload_n 3, 1) := by decide +kernel
theorem dX8_told_15 : decode cX8_told 15 = .ok (.iconst 2, 1) := by decide +kernel
theorem dX8_told_16 : decode cX8_told 16 = .ok (.invokestatic 61, 3) := by decide +kernel
theorem dX8_told_19 : decode cX8_told 19 = .ok (.ifCond .ne 5, 3) := by decide +kernel
theorem dX8_told_22 : decode cX8_told 22 = .ok (.iconst (-1), 1) := by decide +kernel
theorem dX8_told_23 : decode cX8_told 23 = .ok (.ireturn, 1) := by decide +kernel
theorem dX8_told_24 : decode cX8_told 24 = .ok (.aload_n 0, 1) := by decide +kernel
theorem dX8_told_25 : decode cX8_told 25 = .ok (.getfield 37, 3) := by decide +kernel
theorem dX8_told_28 : decode cX8_told 28 = .ok (.iload_n 1, 1) := by decide +kernel
theorem dX8_told_29 : decode cX8_told 29 = .ok (.iload_n 2, 1) := by decide +kernel
theorem dX8_told_30 : decode cX8_told 30 = .ok (.iload 4, 2) := by decide +kernel
theorem dX8_told_32 : decode cX8_told 32 = .ok (.invokevirtual 130, 3) := by decide +kernel
theorem dX8_told_35 : decode cX8_told 35 = .ok (.aload_n 0, 1) := by decide +kernel
theorem dX8_told_36 : decode cX8_told 36 = .ok (.getfield 37, 3) := by decide +kernel
theorem dX8_told_39 : decode cX8_told 39 = .ok (.iload_n 3, 1) := by decide +kernel
theorem dX8_told_40 : decode cX8_told 40 = .ok (.invokevirtual 137, 3) := by decide +kernel
theorem dX8_told_43 : decode cX8_told 43 = .ok (.ireturn, 1) := by decide +kernel
theorem dX8_keep_0 : decode cX8_keep 0 = .ok (.iload_n 1, 1) := by decide +kernel
theorem dX8_keep_1 : decode cX8_keep 1 = .ok (.invokestatic 80, 3) := by decide +kernel
theorem dX8_keep_4 : decode cX8_keep 4 = .ok (.ifCond .eq 10, 3) := by decide +kernel
theorem dX8_keep_7 : decode cX8_keep 7 = .ok (.iload_n 2, 1) := by decide +kernel
theorem dX8_keep_8 : decode cX8_keep 8 = .ok (.invokestatic 123, 3) := by decide +kernel
theorem dX8_keep_11 : decode cX8_keep 11 = .ok (.ifCond .ne 5, 3) := by decide +kernel
theorem dX8_keep_14 : decode cX8_keep 14 = .ok (.iconst (-1), 1) := by decide +kernel
theorem dX8_keep_15 : decode cX8_keep 15 = .ok (.ireturn, 1) := by decide +kernel
theorem dX8_keep_16 : decode cX8_keep 16 = .ok (.aload_n 0, 1) := by decide +kernel
theorem dX8_keep_17 : decode cX8_keep 17 = .ok (.getfield 37, 3) := by decide +kernel
theorem dX8_keep_20 : decode cX8_keep 20 = .ok (.iload_n 1, 1) := by decide +kernel
theorem dX8_keep_21 : decode cX8_keep 21 = .ok (.iload_n 2, 1) := by decide +kernel
theorem dX8_keep_22 : decode cX8_keep 22 = .ok (.iconst 0, 1) := by decide +kernel
theorem dX8_keep_23 : decode cX8_keep 23 = .ok (.invokevirtual 130, 3) := by decide +kernel
theorem dX8_keep_26 : decode cX8_keep 26 = .ok (.aload_n 0, 1) := by decide +kernel
theorem dX8_keep_27 : decode cX8_keep 27 = .ok (.getfield 37, 3) := by decide +kernel
theorem dX8_keep_30 : decode cX8_keep 30 = .ok (.invokevirtual 140, 3) := by decide +kernel
theorem dX8_keep_33 : decode cX8_keep 33 = .ok (.ireturn, 1) := by decide +kernel
theorem dX8_moved_0 : decode cX8_moved 0 = .ok (.iload_n 1, 1) := by decide +kernel
theorem dX8_moved_1 : decode cX8_moved 1 = .ok (.invokestatic 80, 3) := by decide +kernel
theorem dX8_moved_4 : decode cX8_moved 4 = .ok (.ifCond .eq 35, 3) := by decide +kernel
theorem dX8_moved_7 : decode cX8_moved 7 = .ok (.iload_n 2, 1) := by decide +kernel
theorem dX8_moved_8 : decode cX8_moved 8 = .ok (.invokestatic 123, 3) := by decide +kernel
theorem dX8_moved_11 : decode cX8_moved 11 = .ok (.ifCond .eq 28, 3) := by decide +kernel
theorem dX8_moved_14 : decode cX8_moved 14 = .ok (.aload_n 0, 1) := by decide +kernel
theorem dX8_moved_15 : decode cX8_moved 15 = .ok (.iload_n 3, 1) := by decide +kernel
theorem dX8_moved_16 : decode cX8_moved 16 = .ok (.invokevirtual 69, 3) := by decide +kernel
theorem dX8_moved_19 : decode cX8_moved 19 = .ok (.ifCond .eq 20, 3) := by decide +kernel
theorem dX8_moved_22 : decode cX8_moved 22 = .ok (.iload 4, 2) := by decide +kernel
theorem dX8_moved_24 : decode cX8_moved 24 = .ok (.invokestatic 57, 3) := by decide +kernel
theorem dX8_moved_27 : decode cX8_moved 27 = .ok (.ifCond .eq 12, 3) := by decide +kernel
theorem dX8_moved_30 : decode cX8_moved 30 = .ok (.iload 5, 2) := by decide +kernel
theorem dX8_moved_32 : decode cX8_moved 32 = .ok (.iconst 1, 1) := by decide +kernel
theorem dX8_moved_33 : decode cX8_moved 33 = .ok (.invokestatic 61, 3) := by decide +kernel
theorem dX8_moved_36 : decode cX8_moved 36 = .ok (.ifCond .ne 5, 3) := by decide +kernel
theorem dX8_moved_39 : decode cX8_moved 39 = .ok (.iconst (-1), 1) := by decide +kernel
theorem dX8_moved_40 : decode cX8_moved 40 = .ok (.ireturn, 1) := by decide +kernel
theorem dX8_moved_41 : decode cX8_moved 41 = .ok (.aload_n 0, 1) := by decide +kernel
theorem dX8_moved_42 : decode cX8_moved 42 = .ok (.getfield 19, 3) := by decide +kernel
theorem dX8_moved_45 : decode cX8_moved 45 = .ok (.getfield 72, 3) := by decide +kernel
theorem dX8_moved_48 : decode cX8_moved 48 = .ok (.iload_n 3, 1) := by decide +kernel
theorem dX8_moved_49 : decode cX8_moved 49 = .ok (.iaload, 1) := by decide +kernel
theorem dX8_moved_50 : decode cX8_moved 50 = .ok (.istore 6, 2) := by decide +kernel
theorem dX8_moved_52 : decode cX8_moved 52 = .ok (.aload_n 0, 1) := by decide +kernel
theorem dX8_moved_53 : decode cX8_moved 53 = .ok (.getfield 19, 3) := by decide +kernel
theorem dX8_moved_56 : decode cX8_moved 56 = .ok (.getfield 72, 3) := by decide +kernel
theorem dX8_moved_59 : decode cX8_moved 59 = .ok (.iload_n 3, 1) := by decide +kernel
theorem dX8_moved_60 : decode cX8_moved 60 = .ok (.iload 4, 2) := by decide +kernel
theorem dX8_moved_62 : decode cX8_moved 62 = .ok (.iastore, 1) := by decide +kernel
theorem dX8_moved_63 : decode cX8_moved 63 = .ok (.aload_n 0, 1) := by decide +kernel
theorem dX8_moved_64 : decode cX8_moved 64 = .ok (.getfield 37, 3) := by decide +kernel
theorem dX8_moved_67 : decode cX8_moved 67 = .ok (.iload_n 1, 1) := by decide +kernel
theorem dX8_moved_68 : decode cX8_moved 68 = .ok (.iload_n 2, 1) := by decide +kernel
theorem dX8_moved_69 : decode cX8_moved 69 = .ok (.iconst 1, 1) := by decide +kernel
theorem dX8_moved_70 : decode cX8_moved 70 = .ok (.invokevirtual 130, 3) := by decide +kernel
theorem dX8_moved_73 : decode cX8_moved 73 = .ok (.aload_n 0, 1) := by decide +kernel
theorem dX8_moved_74 : decode cX8_moved 74 = .ok (.getfield 37, 3) := by decide +kernel
theorem dX8_moved_77 : decode cX8_moved 77 = .ok (.iload 5, 2) := by decide +kernel
theorem dX8_moved_79 : decode cX8_moved 79 = .ok (.invokevirtual 137, 3) := by decide +kernel
theorem dX8_moved_82 : decode cX8_moved 82 = .ok (.istore 7, 2) := by decide +kernel
theorem dX8_moved_84 : decode cX8_moved 84 = .ok (.aload_n 0, 1) := by decide +kernel
theorem dX8_moved_85 : decode cX8_moved 85 = .ok (.getfield 19, 3) := by decide +kernel
theorem dX8_moved_88 : decode cX8_moved 88 = .ok (.getfield 72, 3) := by decide +kernel
theorem dX8_moved_91 : decode cX8_moved 91 = .ok (.iload_n 3, 1) := by decide +kernel
theorem dX8_moved_92 : decode cX8_moved 92 = .ok (.iload 6, 2) := by decide +kernel
theorem dX8_moved_94 : decode cX8_moved 94 = .ok (.iastore, 1) := by decide +kernel
theorem dX8_moved_95 : decode cX8_moved 95 = .ok (.iload 7, 2) := by decide +kernel
theorem dX8_moved_97 : decode cX8_moved 97 = .ok (.ireturn, 1) := by decide +kernel
theorem dX8_gain_0 : decode cX8_gain 0 = .ok (.aload_n 0, 1) := by decide +kernel
theorem dX8_gain_1 : decode cX8_gain 1 = .ok (.iload_n 1, 1) := by decide +kernel
theorem dX8_gain_2 : decode cX8_gain 2 = .ok (.invokevirtual 69, 3) := by decide +kernel
theorem dX8_gain_5 : decode cX8_gain 5 = .ok (.ifCond .eq 12, 3) := by decide +kernel
theorem dX8_gain_8 : decode cX8_gain 8 = .ok (.iload_n 2, 1) := by decide +kernel
theorem dX8_gain_9 : decode cX8_gain 9 = .ok (.bipush 99, 2) := by decide +kernel
theorem dX8_gain_11 : decode cX8_gain 11 = .ok (.invokestatic 61, 3) := by decide +kernel
theorem dX8_gain_14 : decode cX8_gain 14 = .ok (.ifCond .ne 5, 3) := by decide +kernel
theorem dX8_gain_17 : decode cX8_gain 17 = .ok (.iconst (-1), 1) := by decide +kernel
theorem dX8_gain_18 : decode cX8_gain 18 = .ok (.ireturn, 1) := by decide +kernel
theorem dX8_gain_19 : decode cX8_gain 19 = .ok (.aload_n 0, 1) := by decide +kernel
theorem dX8_gain_20 : decode cX8_gain 20 = .ok (.getfield 19, 3) := by decide +kernel
theorem dX8_gain_23 : decode cX8_gain 23 = .ok (.getfield 144, 3) := by decide +kernel
theorem dX8_gain_26 : decode cX8_gain 26 = .ok (.iload_n 1, 1) := by decide +kernel
theorem dX8_gain_27 : decode cX8_gain 27 = .ok (.iaload, 1) := by decide +kernel
theorem dX8_gain_28 : decode cX8_gain 28 = .ok (.istore_n 3, 1) := by decide +kernel
theorem dX8_gain_29 : decode cX8_gain 29 = .ok (.aload_n 0, 1) := by decide +kernel
theorem dX8_gain_30 : decode cX8_gain 30 = .ok (.getfield 19, 3) := by decide +kernel
theorem dX8_gain_33 : decode cX8_gain 33 = .ok (.getfield 144, 3) := by decide +kernel
theorem dX8_gain_36 : decode cX8_gain 36 = .ok (.iload_n 1, 1) := by decide +kernel
theorem dX8_gain_37 : decode cX8_gain 37 = .ok (.iload_n 2, 1) := by decide +kernel
theorem dX8_gain_38 : decode cX8_gain 38 = .ok (.iastore, 1) := by decide +kernel
theorem dX8_gain_39 : decode cX8_gain 39 = .ok (.iload_n 3, 1) := by decide +kernel
theorem dX8_gain_40 : decode cX8_gain 40 = .ok (.ireturn, 1) := by decide +kernel
theorem dX8_fine_0 : decode cX8_fine 0 = .ok (.iload_n 1, 1) := by decide +kernel
theorem dX8_fine_1 : decode cX8_fine 1 = .ok (.iconst 1, 1) := by decide +kernel
theorem dX8_fine_2 : decode cX8_fine 2 = .ok (.if_icmp .lt 10, 3) := by decide +kernel
theorem dX8_fine_5 : decode cX8_fine 5 = .ok (.iload_n 1, 1) := by decide +kernel
theorem dX8_fine_6 : decode cX8_fine 6 = .ok (.sipush 500, 3) := by decide +kernel
theorem dX8_fine_9 : decode cX8_fine 9 = .ok (.if_icmp .le 5, 3) := by decide +kernel
theorem dX8_fine_12 : decode cX8_fine 12 = .ok (.iconst (-1), 1) := by decide +kernel
theorem dX8_fine_13 : decode cX8_fine 13 = .ok (.ireturn, 1) := by decide +kernel
theorem dX8_fine_14 : decode cX8_fine 14 = .ok (.aload_n 0, 1) := by decide +kernel
theorem dX8_fine_15 : decode cX8_fine 15 = .ok (.getfield 46, 3) := by decide +kernel
theorem dX8_fine_18 : decode cX8_fine 18 = .ok (.getfield 147, 3) := by decide +kernel
theorem dX8_fine_21 : decode cX8_fine 21 = .ok (.istore_n 2, 1) := by decide +kernel
theorem dX8_fine_22 : decode cX8_fine 22 = .ok (.aload_n 0, 1) := by decide +kernel
theorem dX8_fine_23 : decode cX8_fine 23 = .ok (.getfield 46, 3) := by decide +kernel
theorem dX8_fine_26 : decode cX8_fine 26 = .ok (.iload_n 1, 1) := by decide +kernel
theorem dX8_fine_27 : decode cX8_fine 27 = .ok (.putfield 147, 3) := by decide +kernel
theorem dX8_fine_30 : decode cX8_fine 30 = .ok (.iload_n 2, 1) := by decide +kernel
theorem dX8_fine_31 : decode cX8_fine 31 = .ok (.ireturn, 1) := by decide +kernel
theorem dX8_turn_0 : decode cX8_turn 0 = .ok (.aload_n 0, 1) := by decide +kernel
theorem dX8_turn_1 : decode cX8_turn 1 = .ok (.iload_n 1, 1) := by decide +kernel
theorem dX8_turn_2 : decode cX8_turn 2 = .ok (.invokevirtual 69, 3) := by decide +kernel
theorem dX8_turn_5 : decode cX8_turn 5 = .ok (.ifCond .eq 11, 3) := by decide +kernel
theorem dX8_turn_8 : decode cX8_turn 8 = .ok (.iload_n 2, 1) := by decide +kernel
theorem dX8_turn_9 : decode cX8_turn 9 = .ok (.iconst 1, 1) := by decide +kernel
theorem dX8_turn_10 : decode cX8_turn 10 = .ok (.invokestatic 61, 3) := by decide +kernel
theorem dX8_turn_13 : decode cX8_turn 13 = .ok (.ifCond .ne 5, 3) := by decide +kernel
theorem dX8_turn_16 : decode cX8_turn 16 = .ok (.iconst (-1), 1) := by decide +kernel
theorem dX8_turn_17 : decode cX8_turn 17 = .ok (.ireturn, 1) := by decide +kernel
theorem dX8_turn_18 : decode cX8_turn 18 = .ok (.aload_n 0, 1) := by decide +kernel
theorem dX8_turn_19 : decode cX8_turn 19 = .ok (.getfield 46, 3) := by decide +kernel
theorem dX8_turn_22 : decode cX8_turn 22 = .ok (.iload_n 1, 1) := by decide +kernel
theorem dX8_turn_23 : decode cX8_turn 23 = .ok (.invokevirtual 151, 3) := by decide +kernel
theorem dX8_turn_26 : decode cX8_turn 26 = .ok (.iload_n 2, 1) := by decide +kernel
theorem dX8_turn_27 : decode cX8_turn 27 = .ok (.invokevirtual 155, 3) := by decide +kernel
theorem dX8_turn_30 : decode cX8_turn 30 = .ok (.ireturn, 1) := by decide +kernel
theorem dX8_stake_0 : decode cX8_stake 0 = .ok (.iload_n 1, 1) := by decide +kernel
theorem dX8_stake_1 : decode cX8_stake 1 = .ok (.iconst 1, 1) := by decide +kernel
theorem dX8_stake_2 : decode cX8_stake 2 = .ok (.invokestatic 61, 3) := by decide +kernel
theorem dX8_stake_5 : decode cX8_stake 5 = .ok (.ifCond .eq 17, 3) := by decide +kernel
theorem dX8_stake_8 : decode cX8_stake 8 = .ok (.aload_n 0, 1) := by decide +kernel
theorem dX8_stake_9 : decode cX8_stake 9 = .ok (.getfield 46, 3) := by decide +kernel
theorem dX8_stake_12 : decode cX8_stake 12 = .ok (.invokevirtual 160, 3) := by decide +kernel
theorem dX8_stake_15 : decode cX8_stake 15 = .ok (.iload_n 1, 1) := by decide +kernel
theorem dX8_stake_16 : decode cX8_stake 16 = .ok (.invokevirtual 155, 3) := by decide +kernel
theorem dX8_stake_19 : decode cX8_stake 19 = .ok (.goto 4, 3) := by decide +kernel
theorem dX8_stake_22 : decode cX8_stake 22 = .ok (.iconst (-1), 1) := by decide +kernel
theorem dX8_stake_23 : decode cX8_stake 23 = .ok (.ireturn, 1) := by decide +kernel
theorem dX8_ticket_0 : decode cX8_ticket 0 = .ok (.aload_n 0, 1) := by decide +kernel
theorem dX8_ticket_1 : decode cX8_ticket 1 = .ok (.iload_n 1, 1) := by decide +kernel
theorem dX8_ticket_2 : decode cX8_ticket 2 = .ok (.invokevirtual 107, 3) := by decide +kernel
theorem dX8_ticket_5 : decode cX8_ticket 5 = .ok (.ifCond .eq 27, 3) := by decide +kernel
theorem dX8_ticket_8 : decode cX8_ticket 8 = .ok (.aload_n 0, 1) := by decide +kernel
theorem dX8_ticket_9 : decode cX8_ticket 9 = .ok (.iload_n 2, 1) := by decide +kernel
theorem dX8_ticket_10 : decode cX8_ticket 10 = .ok (.invokevirtual 69, 3) := by decide +kernel
theorem dX8_ticket_13 : decode cX8_ticket 13 = .ok (.ifCond .eq 19, 3) := by decide +kernel
theorem dX8_ticket_16 : decode cX8_ticket 16 = .ok (.iload_n 3, 1) := by decide +kernel
theorem dX8_ticket_17 : decode cX8_ticket 17 = .ok (.invokestatic 123, 3) := by decide +kernel
theorem dX8_ticket_20 : decode cX8_ticket 20 = .ok (.ifCond .eq 12, 3) := by decide +kernel
theorem dX8_ticket_23 : decode cX8_ticket 23 = .ok (.iload 4, 2) := by decide +kernel
theorem dX8_ticket_25 : decode cX8_ticket 25 = .ok (.iconst 3, 1) := by decide +kernel
theorem dX8_ticket_26 : decode cX8_ticket 26 = .ok (.invokestatic 164, 3) := by decide +kernel
theorem dX8_ticket_29 : decode cX8_ticket 29 = .ok (.ifCond .ne 5, 3) := by decide +kernel
theorem dX8_ticket_32 : decode cX8_ticket 32 = .ok (.iconst (-1), 1) := by decide +kernel
theorem dX8_ticket_33 : decode cX8_ticket 33 = .ok (.ireturn, 1) := by decide +kernel
theorem dX8_ticket_34 : decode cX8_ticket 34 = .ok (.aload_n 0, 1) := by decide +kernel
theorem dX8_ticket_35 : decode cX8_ticket 35 = .ok (.getfield 19, 3) := by decide +kernel
theorem dX8_ticket_38 : decode cX8_ticket 38 = .ok (.getfield 72, 3) := by decide +kernel
theorem dX8_ticket_41 : decode cX8_ticket 41 = .ok (.iload_n 2, 1) := by decide +kernel
theorem dX8_ticket_42 : decode cX8_ticket 42 = .ok (.iaload, 1) := by decide +kernel
theorem dX8_ticket_43 : decode cX8_ticket 43 = .ok (.istore 5, 2) := by decide +kernel
theorem dX8_ticket_45 : decode cX8_ticket 45 = .ok (.aload_n 0, 1) := by decide +kernel
theorem dX8_ticket_46 : decode cX8_ticket 46 = .ok (.getfield 28, 3) := by decide +kernel
theorem dX8_ticket_49 : decode cX8_ticket 49 = .ok (.iload_n 1, 1) := by decide +kernel
theorem dX8_ticket_50 : decode cX8_ticket 50 = .ok (.iload 5, 2) := by decide +kernel
theorem dX8_ticket_52 : decode cX8_ticket 52 = .ok (.iload_n 3, 1) := by decide +kernel
theorem dX8_ticket_53 : decode cX8_ticket 53 = .ok (.invokevirtual 126, 3) := by decide +kernel
theorem dX8_ticket_56 : decode cX8_ticket 56 = .ok (.iload 4, 2) := by decide +kernel
theorem dX8_ticket_58 : decode cX8_ticket 58 = .ok (.invokestatic 167, 3) := by decide +kernel
theorem dX8_ticket_61 : decode cX8_ticket 61 = .ok (.istore 6, 2) := by decide +kernel
theorem dX8_ticket_63 : decode cX8_ticket 63 = .ok (.aload_n 0, 1) := by decide +kernel
theorem dX8_ticket_64 : decode cX8_ticket 64 = .ok (.getfield 53, 3) := by decide +kernel
theorem dX8_ticket_67 : decode cX8_ticket 67 = .ok (.iload_n 1, 1) := by decide +kernel
theorem dX8_ticket_68 : decode cX8_ticket 68 = .ok (.iload_n 2, 1) := by decide +kernel
theorem dX8_ticket_69 : decode cX8_ticket 69 = .ok (.iload_n 3, 1) := by decide +kernel
theorem dX8_ticket_70 : decode cX8_ticket 70 = .ok (.iload 4, 2) := by decide +kernel
theorem dX8_ticket_72 : decode cX8_ticket 72 = .ok (.iload 5, 2) := by decide +kernel
theorem dX8_ticket_74 : decode cX8_ticket 74 = .ok (.iload 6, 2) := by decide +kernel
theorem dX8_ticket_76 : decode cX8_ticket 76 = .ok (.invokevirtual 170, 3) := by decide +kernel
theorem dX8_ticket_79 : decode cX8_ticket 79 = .ok (.ireturn, 1) := by decide +kernel
theorem dX8_of_0 : decode cX8_of 0 = .ok (.iload_n 1, 1) := by decide +kernel
theorem dX8_of_1 : decode cX8_of 1 = .ok (.aload_n 0, 1) := by decide +kernel
theorem dX8_of_2 : decode cX8_of 2 = .ok (.getfield 53, 3) := by decide +kernel
theorem dX8_of_5 : decode cX8_of 5 = .ok (.getfield 173, 3) := by decide +kernel
theorem dX8_of_8 : decode cX8_of 8 = .ok (.invokestatic 164, 3) := by decide +kernel
theorem dX8_of_11 : decode cX8_of 11 = .ok (.ifCond .ne 5, 3) := by decide +kernel
theorem dX8_of_14 : decode cX8_of 14 = .ok (.iconst (-1), 1) := by decide +kernel
theorem dX8_of_15 : decode cX8_of 15 = .ok (.ireturn, 1) := by decide +kernel
theorem dX8_of_16 : decode cX8_of 16 = .ok (.iload_n 2, 1) := by decide +kernel
theorem dX8_of_17 : decode cX8_of 17 = .ok (.iconst 5, 1) := by decide +kernel
theorem dX8_of_18 : decode cX8_of 18 = .ok (.invokestatic 61, 3) := by decide +kernel
theorem dX8_of_21 : decode cX8_of 21 = .ok (.ifCond .eq 15, 3) := by decide +kernel
theorem dX8_of_24 : decode cX8_of 24 = .ok (.aload_n 0, 1) := by decide +kernel
theorem dX8_of_25 : decode cX8_of 25 = .ok (.getfield 53, 3) := by decide +kernel
theorem dX8_of_28 : decode cX8_of 28 = .ok (.getfield 176, 3) := by decide +kernel
theorem dX8_of_31 : decode cX8_of 31 = .ok (.iload_n 1, 1) := by decide +kernel
theorem dX8_of_32 : decode cX8_of 32 = .ok (.aaload, 1) := by decide +kernel
theorem dX8_of_33 : decode cX8_of 33 = .ok (.iload_n 2, 1) := by decide +kernel
theorem dX8_of_34 : decode cX8_of 34 = .ok (.iaload, 1) := by decide +kernel
theorem dX8_of_35 : decode cX8_of 35 = .ok (.ireturn, 1) := by decide +kernel
theorem dX8_of_36 : decode cX8_of 36 = .ok (.iload_n 2, 1) := by decide +kernel
theorem dX8_of_37 : decode cX8_of 37 = .ok (.lookupswitch 56 #[(6, 27), (7, 36)], 27) := by decide +kernel
theorem dX8_of_64 : decode cX8_of 64 = .ok (.aload_n 0, 1) := by decide +kernel
theorem dX8_of_65 : decode cX8_of 65 = .ok (.getfield 53, 3) := by decide +kernel
theorem dX8_of_68 : decode cX8_of 68 = .ok (.iload_n 1, 1) := by decide +kernel
theorem dX8_of_69 : decode cX8_of 69 = .ok (.invokevirtual 179, 3) := by decide +kernel
theorem dX8_of_72 : decode cX8_of 72 = .ok (.ireturn, 1) := by decide +kernel
theorem dX8_of_73 : decode cX8_of 73 = .ok (.aload_n 0, 1) := by decide +kernel
theorem dX8_of_74 : decode cX8_of 74 = .ok (.getfield 53, 3) := by decide +kernel
theorem dX8_of_77 : decode cX8_of 77 = .ok (.iload_n 1, 1) := by decide +kernel
theorem dX8_of_78 : decode cX8_of 78 = .ok (.iconst 1, 1) := by decide +kernel
theorem dX8_of_79 : decode cX8_of 79 = .ok (.invokevirtual 182, 3) := by decide +kernel
theorem dX8_of_82 : decode cX8_of 82 = .ok (.aload_n 0, 1) := by decide +kernel
theorem dX8_of_83 : decode cX8_of 83 = .ok (.getfield 53, 3) := by decide +kernel
theorem dX8_of_86 : decode cX8_of 86 = .ok (.iload_n 1, 1) := by decide +kernel
theorem dX8_of_87 : decode cX8_of 87 = .ok (.iconst 0, 1) := by decide +kernel
theorem dX8_of_88 : decode cX8_of 88 = .ok (.invokevirtual 182, 3) := by decide +kernel
theorem dX8_of_91 : decode cX8_of 91 = .ok (.iadd, 1) := by decide +kernel
theorem dX8_of_92 : decode cX8_of 92 = .ok (.ireturn, 1) := by decide +kernel
theorem dX8_of_93 : decode cX8_of 93 = .ok (.iconst (-1), 1) := by decide +kernel
theorem dX8_of_94 : decode cX8_of 94 = .ok (.ireturn, 1) := by decide +kernel
theorem dX8_many_0 : decode cX8_many 0 = .ok (.iload_n 1, 1) := by decide +kernel
theorem dX8_many_1 : decode cX8_many 1 = .ok (.tableswitch 114 0 7 #[47, 55, 63, 71, 80, 89, 98, 106], 47) := by decide +kernel
theorem dX8_many_48 : decode cX8_many 48 = .ok (.aload_n 0, 1) := by decide +kernel
theorem dX8_many_49 : decode cX8_many 49 = .ok (.getfield 19, 3) := by decide +kernel
theorem dX8_many_52 : decode cX8_many 52 = .ok (.getfield 185, 3) := by decide +kernel
theorem dX8_many_55 : decode cX8_many 55 = .ok (.ireturn, 1) := by decide +kernel
theorem dX8_many_56 : decode cX8_many 56 = .ok (.aload_n 0, 1) := by decide +kernel
theorem dX8_many_57 : decode cX8_many 57 = .ok (.getfield 28, 3) := by decide +kernel
theorem dX8_many_60 : decode cX8_many 60 = .ok (.getfield 186, 3) := by decide +kernel
theorem dX8_many_63 : decode cX8_many 63 = .ok (.ireturn, 1) := by decide +kernel
theorem dX8_many_64 : decode cX8_many 64 = .ok (.aload_n 0, 1) := by decide +kernel
theorem dX8_many_65 : decode cX8_many 65 = .ok (.getfield 53, 3) := by decide +kernel
theorem dX8_many_68 : decode cX8_many 68 = .ok (.getfield 173, 3) := by decide +kernel
theorem dX8_many_71 : decode cX8_many 71 = .ok (.ireturn, 1) := by decide +kernel
theorem dX8_many_72 : decode cX8_many 72 = .ok (.aload_n 0, 1) := by decide +kernel
theorem dX8_many_73 : decode cX8_many 73 = .ok (.getfield 53, 3) := by decide +kernel
theorem dX8_many_76 : decode cX8_many 76 = .ok (.iconst 1, 1) := by decide +kernel
theorem dX8_many_77 : decode cX8_many 77 = .ok (.invokevirtual 187, 3) := by decide +kernel
theorem dX8_many_80 : decode cX8_many 80 = .ok (.ireturn, 1) := by decide +kernel
theorem dX8_many_81 : decode cX8_many 81 = .ok (.aload_n 0, 1) := by decide +kernel
theorem dX8_many_82 : decode cX8_many 82 = .ok (.getfield 53, 3) := by decide +kernel
theorem dX8_many_85 : decode cX8_many 85 = .ok (.iconst 0, 1) := by decide +kernel
theorem dX8_many_86 : decode cX8_many 86 = .ok (.invokevirtual 187, 3) := by decide +kernel
theorem dX8_many_89 : decode cX8_many 89 = .ok (.ireturn, 1) := by decide +kernel
theorem dX8_many_90 : decode cX8_many 90 = .ok (.aload_n 0, 1) := by decide +kernel
theorem dX8_many_91 : decode cX8_many 91 = .ok (.getfield 53, 3) := by decide +kernel
theorem dX8_many_94 : decode cX8_many 94 = .ok (.iconst 2, 1) := by decide +kernel
theorem dX8_many_95 : decode cX8_many 95 = .ok (.invokevirtual 187, 3) := by decide +kernel
theorem dX8_many_98 : decode cX8_many 98 = .ok (.ireturn, 1) := by decide +kernel
theorem dX8_many_99 : decode cX8_many 99 = .ok (.aload_n 0, 1) := by decide +kernel
theorem dX8_many_100 : decode cX8_many 100 = .ok (.getfield 19, 3) := by decide +kernel
theorem dX8_many_103 : decode cX8_many 103 = .ok (.invokevirtual 190, 3) := by decide +kernel
theorem dX8_many_106 : decode cX8_many 106 = .ok (.ireturn, 1) := by decide +kernel
theorem dX8_many_107 : decode cX8_many 107 = .ok (.aload_n 0, 1) := by decide +kernel
theorem dX8_many_108 : decode cX8_many 108 = .ok (.getfield 28, 3) := by decide +kernel
theorem dX8_many_111 : decode cX8_many 111 = .ok (.invokevirtual 193, 3) := by decide +kernel
theorem dX8_many_114 : decode cX8_many 114 = .ok (.ireturn, 1) := by decide +kernel
theorem dX8_many_115 : decode cX8_many 115 = .ok (.iconst (-1), 1) := by decide +kernel
theorem dX8_many_116 : decode cX8_many 116 = .ok (.ireturn, 1) := by decide +kernel
theorem dX8_isUpTo_0 : decode cX8_isUpTo 0 = .ok (.iload_n 0, 1) := by decide +kernel
theorem dX8_isUpTo_1 : decode cX8_isUpTo 1 = .ok (.ifCond .lt 12, 3) := by decide +kernel
theorem dX8_isUpTo_4 : decode cX8_isUpTo 4 = .ok (.iload_n 0, 1) := by decide +kernel
theorem dX8_isUpTo_5 : decode cX8_isUpTo 5 = .ok (.iload_n 1, 1) := by decide +kernel
theorem dX8_isUpTo_6 : decode cX8_isUpTo 6 = .ok (.if_icmp .gt 7, 3) := by decide +kernel
theorem dX8_isUpTo_9 : decode cX8_isUpTo 9 = .ok (.iconst 1, 1) := by decide +kernel
theorem dX8_isUpTo_10 : decode cX8_isUpTo 10 = .ok (.goto 4, 3) := by decide +kernel
theorem dX8_isUpTo_13 : decode cX8_isUpTo 13 = .ok (.iconst 0, 1) := by decide +kernel
theorem dX8_isUpTo_14 : decode cX8_isUpTo 14 = .ok (.ireturn, 1) := by decide +kernel
theorem dX8_isNumbered_0 : decode cX8_isNumbered 0 = .ok (.iload_n 0, 1) := by decide +kernel
theorem dX8_isNumbered_1 : decode cX8_isNumbered 1 = .ok (.ifCond .lt 12, 3) := by decide +kernel
theorem dX8_isNumbered_4 : decode cX8_isNumbered 4 = .ok (.iload_n 0, 1) := by decide +kernel
theorem dX8_isNumbered_5 : decode cX8_isNumbered 5 = .ok (.iload_n 1, 1) := by decide +kernel
theorem dX8_isNumbered_6 : decode cX8_isNumbered 6 = .ok (.if_icmp .ge 7, 3) := by decide +kernel
theorem dX8_isNumbered_9 : decode cX8_isNumbered 9 = .ok (.iconst 1, 1) := by decide +kernel
theorem dX8_isNumbered_10 : decode cX8_isNumbered 10 = .ok (.goto 4, 3) := by decide +kernel
theorem dX8_isNumbered_13 : decode cX8_isNumbered 13 = .ok (.iconst 0, 1) := by decide +kernel
theorem dX8_isNumbered_14 : decode cX8_isNumbered 14 = .ok (.ireturn, 1) := by decide +kernel
theorem dX8_isStreet_0 : decode cX8_isStreet 0 = .ok (.iload_n 1, 1) := by decide +kernel
theorem dX8_isStreet_1 : decode cX8_isStreet 1 = .ok (.aload_n 0, 1) := by decide +kernel
theorem dX8_isStreet_2 : decode cX8_isStreet 2 = .ok (.getfield 19, 3) := by decide +kernel
theorem dX8_isStreet_5 : decode cX8_isStreet 5 = .ok (.getfield 185, 3) := by decide +kernel
theorem dX8_isStreet_8 : decode cX8_isStreet 8 = .ok (.invokestatic 164, 3) := by decide +kernel
theorem dX8_isStreet_11 : decode cX8_isStreet 11 = .ok (.ireturn, 1) := by decide +kernel
theorem dX8_isCar_0 : decode cX8_isCar 0 = .ok (.iload_n 1, 1) := by decide +kernel
theorem dX8_isCar_1 : decode cX8_isCar 1 = .ok (.aload_n 0, 1) := by decide +kernel
theorem dX8_isCar_2 : decode cX8_isCar 2 = .ok (.getfield 28, 3) := by decide +kernel
theorem dX8_isCar_5 : decode cX8_isCar 5 = .ok (.getfield 186, 3) := by decide +kernel
theorem dX8_isCar_8 : decode cX8_isCar 8 = .ok (.invokestatic 164, 3) := by decide +kernel
theorem dX8_isCar_11 : decode cX8_isCar 11 = .ok (.ireturn, 1) := by decide +kernel
theorem dX8_isZone_0 : decode cX8_isZone 0 = .ok (.iload_n 0, 1) := by decide +kernel
theorem dX8_isZone_1 : decode cX8_isZone 1 = .ok (.iconst 4, 1) := by decide +kernel
theorem dX8_isZone_2 : decode cX8_isZone 2 = .ok (.invokestatic 164, 3) := by decide +kernel
theorem dX8_isZone_5 : decode cX8_isZone 5 = .ok (.ireturn, 1) := by decide +kernel
theorem dX8_isSort_0 : decode cX8_isSort 0 = .ok (.iload_n 0, 1) := by decide +kernel
theorem dX8_isSort_1 : decode cX8_isSort 1 = .ok (.iconst 3, 1) := by decide +kernel
theorem dX8_isSort_2 : decode cX8_isSort 2 = .ok (.invokestatic 164, 3) := by decide +kernel
theorem dX8_isSort_5 : decode cX8_isSort 5 = .ok (.ireturn, 1) := by decide +kernel
theorem dX8_isNight_0 : decode cX8_isNight 0 = .ok (.iload_n 0, 1) := by decide +kernel
theorem dX8_isNight_1 : decode cX8_isNight 1 = .ok (.bipush 7, 2) := by decide +kernel
theorem dX8_isNight_3 : decode cX8_isNight 3 = .ok (.invokestatic 164, 3) := by decide +kernel
theorem dX8_isNight_6 : decode cX8_isNight 6 = .ok (.ireturn, 1) := by decide +kernel
theorem dX8_isHour_0 : decode cX8_isHour 0 = .ok (.iload_n 0, 1) := by decide +kernel
theorem dX8_isHour_1 : decode cX8_isHour 1 = .ok (.bipush 24, 2) := by decide +kernel
theorem dX8_isHour_3 : decode cX8_isHour 3 = .ok (.invokestatic 164, 3) := by decide +kernel
theorem dX8_isHour_6 : decode cX8_isHour 6 = .ok (.ireturn, 1) := by decide +kernel
theorem dX8_isSpan_0 : decode cX8_isSpan 0 = .ok (.iload_n 0, 1) := by decide +kernel
theorem dX8_isSpan_1 : decode cX8_isSpan 1 = .ok (.iconst (-1), 1) := by decide +kernel
theorem dX8_isSpan_2 : decode cX8_isSpan 2 = .ok (.if_icmp .eq 17, 3) := by decide +kernel
theorem dX8_isSpan_5 : decode cX8_isSpan 5 = .ok (.iload_n 0, 1) := by decide +kernel
theorem dX8_isSpan_6 : decode cX8_isSpan 6 = .ok (.invokestatic 123, 3) := by decide +kernel
theorem dX8_isSpan_9 : decode cX8_isSpan 9 = .ok (.ifCond .eq 14, 3) := by decide +kernel
theorem dX8_isSpan_12 : decode cX8_isSpan 12 = .ok (.iload_n 1, 1) := by decide +kernel
theorem dX8_isSpan_13 : decode cX8_isSpan 13 = .ok (.invokestatic 123, 3) := by decide +kernel
theorem dX8_isSpan_16 : decode cX8_isSpan 16 = .ok (.ifCond .eq 7, 3) := by decide +kernel
theorem dX8_isSpan_19 : decode cX8_isSpan 19 = .ok (.iconst 1, 1) := by decide +kernel
theorem dX8_isSpan_20 : decode cX8_isSpan 20 = .ok (.goto 4, 3) := by decide +kernel
theorem dX8_isSpan_23 : decode cX8_isSpan 23 = .ok (.iconst 0, 1) := by decide +kernel
theorem dX8_isSpan_24 : decode cX8_isSpan 24 = .ok (.ireturn, 1) := by decide +kernel
theorem dX8_span_0 : decode cX8_span 0 = .ok (.iload_n 0, 1) := by decide +kernel
theorem dX8_span_1 : decode cX8_span 1 = .ok (.iconst (-1), 1) := by decide +kernel
theorem dX8_span_2 : decode cX8_span 2 = .ok (.if_icmp .ne 5, 3) := by decide +kernel
theorem dX8_span_5 : decode cX8_span 5 = .ok (.iconst 0, 1) := by decide +kernel
theorem dX8_span_6 : decode cX8_span 6 = .ok (.ireturn, 1) := by decide +kernel
theorem dX8_span_7 : decode cX8_span 7 = .ok (.iconst 0, 1) := by decide +kernel
theorem dX8_span_8 : decode cX8_span 8 = .ok (.istore_n 2, 1) := by decide +kernel
theorem dX8_span_9 : decode cX8_span 9 = .ok (.iconst 0, 1) := by decide +kernel
theorem dX8_span_10 : decode cX8_span 10 = .ok (.istore_n 3, 1) := by decide +kernel
theorem dX8_span_11 : decode cX8_span 11 = .ok (.iload_n 3, 1) := by decide +kernel
theorem dX8_span_12 : decode cX8_span 12 = .ok (.bipush 24, 2) := by decide +kernel
theorem dX8_span_14 : decode cX8_span 14 = .ok (.if_icmp .ge 60, 3) := by decide +kernel
theorem dX8_span_17 : decode cX8_span 17 = .ok (.iload_n 0, 1) := by decide +kernel
theorem dX8_span_18 : decode cX8_span 18 = .ok (.iload_n 1, 1) := by decide +kernel
theorem dX8_span_19 : decode cX8_span 19 = .ok (.if_icmp .gt 21, 3) := by decide +kernel
theorem dX8_span_22 : decode cX8_span 22 = .ok (.iload_n 0, 1) := by decide +kernel
theorem dX8_span_23 : decode cX8_span 23 = .ok (.iload_n 3, 1) := by decide +kernel
theorem dX8_span_24 : decode cX8_span 24 = .ok (.if_icmp .gt 12, 3) := by decide +kernel
theorem dX8_span_27 : decode cX8_span 27 = .ok (.iload_n 3, 1) := by decide +kernel
theorem dX8_span_28 : decode cX8_span 28 = .ok (.iload_n 1, 1) := by decide +kernel
theorem dX8_span_29 : decode cX8_span 29 = .ok (.if_icmp .gt 7, 3) := by decide +kernel
theorem dX8_span_32 : decode cX8_span 32 = .ok (.iconst 1, 1) := by decide +kernel
theorem dX8_span_33 : decode cX8_span 33 = .ok (.goto 22, 3) := by decide +kernel
theorem dX8_span_36 : decode cX8_span 36 = .ok (.iconst 0, 1) := by decide +kernel
theorem dX8_span_37 : decode cX8_span 37 = .ok (.goto 18, 3) := by decide +kernel
theorem dX8_span_40 : decode cX8_span 40 = .ok (.iload_n 0, 1) := by decide +kernel
theorem dX8_span_41 : decode cX8_span 41 = .ok (.iload_n 3, 1) := by decide +kernel
theorem dX8_span_42 : decode cX8_span 42 = .ok (.if_icmp .le 8, 3) := by decide +kernel
theorem dX8_span_45 : decode cX8_span 45 = .ok (.iload_n 3, 1) := by decide +kernel
theorem dX8_span_46 : decode cX8_span 46 = .ok (.iload_n 1, 1) := by decide +kernel
theorem dX8_span_47 : decode cX8_span 47 = .ok (.if_icmp .gt 7, 3) := by decide +kernel
theorem dX8_span_50 : decode cX8_span 50 = .ok (.iconst 1, 1) := by decide +kernel
theorem dX8_span_51 : decode cX8_span 51 = .ok (.goto 4, 3) := by decide +kernel
theorem dX8_span_54 : decode cX8_span 54 = .ok (.iconst 0, 1) := by decide +kernel
theorem dX8_span_55 : decode cX8_span 55 = .ok (.istore 4, 2) := by decide +kernel
theorem dX8_span_57 : decode cX8_span 57 = .ok (.iload 4, 2) := by decide +kernel
theorem dX8_span_59 : decode cX8_span 59 = .ok (.ifCond .eq 9, 3) := by decide +kernel
theorem dX8_span_62 : decode cX8_span 62 = .ok (.iload_n 2, 1) := by decide +kernel
theorem dX8_span_63 : decode cX8_span 63 = .ok (.iconst 1, 1) := by decide +kernel
theorem dX8_span_64 : decode cX8_span 64 = .ok (.iload_n 3, 1) := by decide +kernel
theorem dX8_span_65 : decode cX8_span 65 = .ok (.ishl, 1) := by decide +kernel
theorem dX8_span_66 : decode cX8_span 66 = .ok (.ior, 1) := by decide +kernel
theorem dX8_span_67 : decode cX8_span 67 = .ok (.istore_n 2, 1) := by decide +kernel
theorem dX8_span_68 : decode cX8_span 68 = .ok (.iinc 3 1, 3) := by decide +kernel
theorem dX8_span_71 : decode cX8_span 71 = .ok (.goto (-60), 3) := by decide +kernel
theorem dX8_span_74 : decode cX8_span 74 = .ok (.iload_n 2, 1) := by decide +kernel
theorem dX8_span_75 : decode cX8_span 75 = .ok (.ireturn, 1) := by decide +kernel
end
section
theorem dX9_init_0 : decode cX9_init 0 = .ok (.aload_n 0, 1) := by decide +kernel
theorem dX9_init_1 : decode cX9_init 1 = .ok (.invokespecial 1, 3) := by decide +kernel
theorem dX9_init_4 : decode cX9_init 4 = .ok (.aload_n 0, 1) := by decide +kernel
theorem dX9_init_5 : decode cX9_init 5 = .ok (.iconst 5, 1) := by decide +kernel
theorem dX9_init_6 : decode cX9_init 6 = .ok (.newarray .int, 2) := by decide +kernel
theorem dX9_init_8 : decode cX9_init 8 = .ok (.putfield 7, 3) := by decide +kernel
theorem dX9_init_11 : decode cX9_init 11 = .ok (.aload_n 0, 1) := by decide +kernel
theorem dX9_init_12 : decode cX9_init 12 = .ok (.iconst 5, 1) := by decide +kernel
theorem dX9_init_13 : decode cX9_init 13 = .ok (.newarray .int, 2) := by decide +kernel
theorem dX9_init_15 : decode cX9_init 15 = .ok (.putfield 13, 3) := by decide +kernel
theorem dX9_init_18 : decode cX9_init 18 = .ok (.aload_n 0, 1) := by decide +kernel
theorem dX9_init_19 : decode cX9_init 19 = .ok (.bipush 35, 2) := by decide +kernel
theorem dX9_init_21 : decode cX9_init 21 = .ok (.newarray .int, 2) := by decide +kernel
theorem dX9_init_23 : decode cX9_init 23 = .ok (.putfield 16, 3) := by decide +kernel
theorem dX9_init_26 : decode cX9_init 26 = .ok (.aload_n 0, 1) := by decide +kernel
theorem dX9_init_27 : decode cX9_init 27 = .ok (.bipush 25, 2) := by decide +kernel
theorem dX9_init_29 : decode cX9_init 29 = .ok (.newarray .int, 2) := by decide +kernel
theorem dX9_init_31 : decode cX9_init 31 = .ok (.putfield 19, 3) := by decide +kernel
theorem dX9_init_34 : decode cX9_init 34 = .ok (.aload_n 0, 1) := by decide +kernel
theorem dX9_init_35 : decode cX9_init 35 = .ok (.iconst 5, 1) := by decide +kernel
theorem dX9_init_36 : decode cX9_init 36 = .ok (.newarray .int, 2) := by decide +kernel
theorem dX9_init_38 : decode cX9_init 38 = .ok (.putfield 22, 3) := by decide +kernel
theorem dX9_init_41 : decode cX9_init 41 = .ok (.aload_n 0, 1) := by decide +kernel
theorem dX9_init_42 : decode cX9_init 42 = .ok (.bipush 7, 2) := by decide +kernel
theorem dX9_init_44 : decode cX9_init 44 = .ok (.newarray .int, 2) := by decide +kernel
theorem dX9_init_46 : decode cX9_init 46 = .ok (.putfield 25, 3) := by decide +kernel
theorem dX9_init_49 : decode cX9_init 49 = .ok (.aload_n 0, 1) := by decide +kernel
theorem dX9_init_50 : decode cX9_init 50 = .ok (.bipush 84, 2) := by decide +kernel
theorem dX9_init_52 : decode cX9_init 52 = .ok (.newarray .boolean, 2) := by decide +kernel
theorem dX9_init_54 : decode cX9_init 54 = .ok (.putfield 28, 3) := by decide +kernel
theorem dX9_init_57 : decode cX9_init 57 = .ok (.aload_n 0, 1) := by decide +kernel
theorem dX9_init_58 : decode cX9_init 58 = .ok (.bipush 28, 2) := by decide +kernel
theorem dX9_init_60 : decode cX9_init 60 = .ok (.newarray .int, 2) := by decide +kernel
theorem dX9_init_62 : decode cX9_init 62 = .ok (.putfield 32, 3) := by decide +kernel
theorem dX9_init_65 : decode cX9_init 65 = .ok (.aload_n 0, 1) := by decide +kernel
theorem dX9_init_66 : decode cX9_init 66 = .ok (.bipush 7, 2) := by decide +kernel
theorem dX9_init_68 : decode cX9_init 68 = .ok (.newarray .int, 2) := by decide +kernel
theorem dX9_init_70 : decode cX9_init 70 = .ok (.putfield 35, 3) := by decide +kernel
theorem dX9_init_73 : decode cX9_init 73 = .ok (.aload_n 0, 1) := by decide +kernel
theorem dX9_init_74 : decode cX9_init 74 = .ok (.bipush 7, 2) := by decide +kernel
theorem dX9_init_76 : decode cX9_init 76 = .ok (.newarray .int, 2) := by decide +kernel
theorem dX9_init_78 : decode cX9_init 78 = .ok (.putfield 38, 3) := by decide +kernel
theorem dX9_init_81 : decode cX9_init 81 = .ok (.aload_n 0, 1) := by decide +kernel
theorem dX9_init_82 : decode cX9_init 82 = .ok (.iconst 4, 1) := by decide +kernel
theorem dX9_init_83 : decode cX9_init 83 = .ok (.newarray .int, 2) := by decide +kernel
theorem dX9_init_85 : decode cX9_init 85 = .ok (.putfield 41, 3) := by decide +kernel
theorem dX9_init_88 : decode cX9_init 88 = .ok (.aload_n 0, 1) := by decide +kernel
theorem dX9_init_89 : decode cX9_init 89 = .ok (.iconst 4, 1) := by decide +kernel
theorem dX9_init_90 : decode cX9_init 90 = .ok (.newarray .int, 2) := by decide +kernel
theorem dX9_init_92 : decode cX9_init 92 = .ok (.putfield 44, 3) := by decide +kernel
theorem dX9_init_95 : decode cX9_init 95 = .ok (.aload_n 0, 1) := by decide +kernel
theorem dX9_init_96 : decode cX9_init 96 = .ok (.bipush 12, 2) := by decide +kernel
theorem dX9_init_98 : decode cX9_init 98 = .ok (.newarray .int, 2) := by decide +kernel
theorem dX9_init_100 : decode cX9_init 100 = .ok (.putfield 47, 3) := by decide +kernel
theorem dX9_init_103 : decode cX9_init 103 = .ok (.aload_n 0, 1) := by decide +kernel
theorem dX9_init_104 : decode cX9_init 104 = .ok (.bipush 12, 2) := by decide +kernel
theorem dX9_init_106 : decode cX9_init 106 = .ok (.newarray .int, 2) := by decide +kernel
theorem dX9_init_108 : decode cX9_init 108 = .ok (.putfield 50, 3) := by decide +kernel
theorem dX9_init_111 : decode cX9_init 111 = .ok (.aload_n 0, 1) := by decide +kernel
theorem dX9_init_112 : decode cX9_init 112 = .ok (.bipush 100, 2) := by decide +kernel
theorem dX9_init_114 : decode cX9_init 114 = .ok (.putfield 53, 3) := by decide +kernel
theorem dX9_init_117 : decode cX9_init 117 = .ok (.aload_n 0, 1) := by decide +kernel
theorem dX9_init_118 : decode cX9_init 118 = .ok (.bipush 20, 2) := by decide +kernel
theorem dX9_init_120 : decode cX9_init 120 = .ok (.newarray .int, 2) := by decide +kernel
theorem dX9_init_122 : decode cX9_init 122 = .ok (.putfield 57, 3) := by decide +kernel
theorem dX9_init_125 : decode cX9_init 125 = .ok (.aload_n 0, 1) := by decide +kernel
theorem dX9_init_126 : decode cX9_init 126 = .ok (.bipush 20, 2) := by decide +kernel
theorem dX9_init_128 : decode cX9_init 128 = .ok (.newarray .int, 2) := by decide +kernel
theorem dX9_init_130 : decode cX9_init 130 = .ok (.putfield 60, 3) := by decide +kernel
theorem dX9_init_133 : decode cX9_init 133 = .ok (.aload_n 0, 1) := by decide +kernel
theorem dX9_init_134 : decode cX9_init 134 = .ok (.bipush 20, 2) := by decide +kernel
theorem dX9_init_136 : decode cX9_init 136 = .ok (.newarray .int, 2) := by decide +kernel
theorem dX9_init_138 : decode cX9_init 138 = .ok (.putfield 63, 3) := by decide +kernel
theorem dX9_init_141 : decode cX9_init 141 = .ok (.aload_n 0, 1) := by decide +kernel
theorem dX9_init_142 : decode cX9_init 142 = .ok (.bipush 20, 2) := by decide +kernel
theorem dX9_init_144 : decode cX9_init 144 = .ok (.newarray .int, 2) := by decide +kernel
theorem dX9_init_146 : decode cX9_init 146 = .ok (.putfield 66, 3) := by decide +kernel
theorem dX9_init_149 : decode cX9_init 149 = .ok (.aload_n 0, 1) := by decide +kernel
theorem dX9_init_150 : decode cX9_init 150 = .ok (.bipush 20, 2) := by decide +kernel
theorem dX9_init_152 : decode cX9_init 152 = .ok (.newarray .int, 2) := by decide +kernel
theorem dX9_init_154 : decode cX9_init 154 = .ok (.putfield 69, 3) := by decide +kernel
theorem dX9_init_157 : decode cX9_init 157 = .ok (.aload_n 0, 1) := by decide +kernel
theorem dX9_init_158 : decode cX9_init 158 = .ok (.bipush 20, 2) := by decide +kernel
theorem dX9_init_160 : decode cX9_init 160 = .ok (.newarray .int, 2) := by decide +kernel
theorem dX9_init_162 : decode cX9_init 162 = .ok (.putfield 72, 3) := by decide +kernel
theorem dX9_init_165 : decode cX9_init 165 = .ok (.aload_n 0, 1) := by decide +kernel
theorem dX9_init_166 : decode cX9_init 166 = .ok (.bipush 7, 2) := by decide +kernel
theorem dX9_init_168 : decode cX9_init 168 = .ok (.newarray .int, 2) := by decide +kernel
theorem dX9_init_170 : decode cX9_init 170 = .ok (.putfield 75, 3) := by decide +kernel
theorem dX9_init_173 : decode cX9_init 173 = .ok (.aload_n 0, 1) := by decide +kernel
theorem dX9_init_174 : decode cX9_init 174 = .ok (.bipush 7, 2) := by decide +kernel
theorem dX9_init_176 : decode cX9_init 176 = .ok (.newarray .int, 2) := by decide +kernel
theorem dX9_init_178 : decode cX9_init 178 = .ok (.putfield 78, 3) := by decide +kernel
theorem dX9_init_181 : decode cX9_init 181 = .ok (.aload_n 0, 1) := by decide +kernel
theorem dX9_init_182 : decode cX9_init 182 = .ok (.iconst 5, 1) := by decide +kernel
theorem dX9_init_183 : decode cX9_init 183 = .ok (.newarray .int, 2) := by decide +kernel
theorem dX9_init_185 : decode cX9_init 185 = .ok (.putfield 81, 3) := by decide +kernel
theorem dX9_init_188 : decode cX9_init 188 = .ok (.aload_n 0, 1) := by decide +kernel
theorem dX9_init_189 : decode cX9_init 189 = .ok (.bipush 35, 2) := by decide +kernel
theorem dX9_init_191 : decode cX9_init 191 = .ok (.newarray .int, 2) := by decide +kernel
theorem dX9_init_193 : decode cX9_init 193 = .ok (.putfield 84, 3) := by decide +kernel
theorem dX9_init_196 : decode cX9_init 196 = .ok (.iconst 0, 1) := by decide +kernel
theorem dX9_init_197 : decode cX9_init 197 = .ok (.istore_n 1, 1) := by decide +kernel
theorem dX9_init_198 : decode cX9_init 198 = .ok (.iload_n 1, 1) := by decide +kernel
theorem dX9_init_199 : decode cX9_init 199 = .ok (.iconst 4, 1) := by decide +kernel
theorem dX9_init_200 : decode cX9_init 200 = .ok (.if_icmp .ge 40, 3) := by decide +kernel
theorem dX9_init_203 : decode cX9_init 203 = .ok (.aload_n 0, 1) := by decide +kernel
theorem dX9_init_204 : decode cX9_init 204 = .ok (.getfield 41, 3) := by decide +kernel
theorem dX9_init_207 : decode cX9_init 207 = .ok (.iload_n 1, 1) := by decide +kernel
theorem dX9_init_208 : decode cX9_init 208 = .ok (.iconst (-1), 1) := by decide +kernel
theorem dX9_init_209 : decode cX9_init 209 = .ok (.iastore, 1) := by decide +kernel
theorem dX9_init_210 : decode cX9_init 210 = .ok (.iconst 0, 1) := by decide +kernel
theorem dX9_init_211 : decode cX9_init 211 = .ok (.istore_n 2, 1) := by decide +kernel
theorem dX9_init_212 : decode cX9_init 212 = .ok (.iload_n 2, 1) := by decide +kernel
theorem dX9_init_213 : decode cX9_init 213 = .ok (.iconst 3, 1) := by decide +kernel
theorem dX9_init_214 : decode cX9_init 214 = .ok (.if_icmp .ge 20, 3) := by decide +kernel
theorem dX9_init_217 : decode cX9_init 217 = .ok (.aload_n 0, 1) := by decide +kernel
theorem dX9_init_218 : decode cX9_init 218 = .ok (.getfield 47, 3) := by decide +kernel
theorem dX9_init_221 : decode cX9_init 221 = .ok (.iconst 3, 1) := by decide +kernel
theorem dX9_init_222 : decode cX9_init 222 = .ok (.iload_n 1, 1) := by decide +kernel
theorem dX9_init_223 : decode cX9_init 223 = .ok (.imul, 1) := by decide +kernel
theorem dX9_init_224 : decode cX9_init 224 = .ok (.iload_n 2, 1) := by decide +kernel
theorem dX9_init_225 : decode cX9_init 225 = .ok (.iadd, 1) := by decide +kernel
theorem dX9_init_226 : decode cX9_init 226 = .ok (.iconst (-1), 1) := by decide +kernel
theorem dX9_init_227 : decode cX9_init 227 = .ok (.iastore, 1) := by decide +kernel
theorem dX9_init_228 : decode cX9_init 228 = .ok (.iinc 2 1, 3) := by decide +kernel
theorem dX9_init_231 : decode cX9_init 231 = .ok (.goto (-19), 3) := by decide +kernel
theorem dX9_init_234 : decode cX9_init 234 = .ok (.iinc 1 1, 3) := by decide +kernel
theorem dX9_init_237 : decode cX9_init 237 = .ok (.goto (-39), 3) := by decide +kernel
theorem dX9_init_240 : decode cX9_init 240 = .ok (.return_, 1) := by decide +kernel
theorem dX9_in_0 : decode cX9_in 0 = .ok (.iload_n 0, 1) := by decide +kernel
theorem dX9_in_1 : decode cX9_in 1 = .ok (.iload_n 1, 1) := by decide +kernel
theorem dX9_in_2 : decode cX9_in 2 = .ok (.if_icmp .lt 12, 3) := by decide +kernel
theorem dX9_in_5 : decode cX9_in 5 = .ok (.iload_n 0, 1) := by decide +kernel
theorem dX9_in_6 : decode cX9_in 6 = .ok (.iload_n 2, 1) := by decide +kernel
theorem dX9_in_7 : decode cX9_in 7 = .ok (.if_icmp .gt 7, 3) := by decide +kernel
theorem dX9_in_10 : decode cX9_in 10 = .ok (.iconst 1, 1) := by decide +kernel
theorem dX9_in_11 : decode cX9_in 11 = .ok (.goto 4, 3) := by decide +kernel
theorem dX9_in_14 : decode cX9_in 14 = .ok (.iconst 0, 1) := by decide +kernel
theorem dX9_in_15 : decode cX9_in 15 = .ok (.ireturn, 1) := by decide +kernel
theorem dX9_isStreet_0 : decode cX9_isStreet 0 = .ok (.iload_n 1, 1) := by decide +kernel
theorem dX9_isStreet_1 : decode cX9_isStreet 1 = .ok (.iconst 0, 1) := by decide +kernel
theorem dX9_isStreet_2 : decode cX9_isStreet 2 = .ok (.aload_n 0, 1) := by decide +kernel
theorem dX9_isStreet_3 : decode cX9_isStreet 3 = .ok (.getfield 87, 3) := by decide +kernel
theorem dX9_isStreet_6 : decode cX9_isStreet 6 = .ok (.iconst 1, 1) := by decide +kernel
theorem dX9_isStreet_7 : decode cX9_isStreet 7 = .ok (.isub, 1) := by decide +kernel
theorem dX9_isStreet_8 : decode cX9_isStreet 8 = .ok (.invokestatic 90, 3) := by decide +kernel
theorem dX9_isStreet_11 : decode cX9_isStreet 11 = .ok (.ireturn, 1) := by decide +kernel
theorem dX9_isCar_0 : decode cX9_isCar 0 = .ok (.iload_n 1, 1) := by decide +kernel
theorem dX9_isCar_1 : decode cX9_isCar 1 = .ok (.iconst 0, 1) := by decide +kernel
theorem dX9_isCar_2 : decode cX9_isCar 2 = .ok (.aload_n 0, 1) := by decide +kernel
theorem dX9_isCar_3 : decode cX9_isCar 3 = .ok (.getfield 94, 3) := by decide +kernel
theorem dX9_isCar_6 : decode cX9_isCar 6 = .ok (.iconst 1, 1) := by decide +kernel
theorem dX9_isCar_7 : decode cX9_isCar 7 = .ok (.isub, 1) := by decide +kernel
theorem dX9_isCar_8 : decode cX9_isCar 8 = .ok (.invokestatic 90, 3) := by decide +kernel
theorem dX9_isCar_11 : decode cX9_isCar 11 = .ok (.ireturn, 1) := by decide +kernel
theorem dX9_isZone_0 : decode cX9_isZone 0 = .ok (.iload_n 0, 1) := by decide +kernel
theorem dX9_isZone_1 : decode cX9_isZone 1 = .ok (.iconst 0, 1) := by decide +kernel
theorem dX9_isZone_2 : decode cX9_isZone 2 = .ok (.iconst 3, 1) := by decide +kernel
theorem dX9_isZone_3 : decode cX9_isZone 3 = .ok (.invokestatic 90, 3) := by decide +kernel
theorem dX9_isZone_6 : decode cX9_isZone 6 = .ok (.ireturn, 1) := by decide +kernel
theorem dX9_isSort_0 : decode cX9_isSort 0 = .ok (.iload_n 0, 1) := by decide +kernel
theorem dX9_isSort_1 : decode cX9_isSort 1 = .ok (.iconst 0, 1) := by decide +kernel
theorem dX9_isSort_2 : decode cX9_isSort 2 = .ok (.iconst 2, 1) := by decide +kernel
theorem dX9_isSort_3 : decode cX9_isSort 3 = .ok (.invokestatic 90, 3) := by decide +kernel
theorem dX9_isSort_6 : decode cX9_isSort 6 = .ok (.ireturn, 1) := by decide +kernel
theorem dX9_isNight_0 : decode cX9_isNight 0 = .ok (.iload_n 0, 1) := by decide +kernel
theorem dX9_isNight_1 : decode cX9_isNight 1 = .ok (.iconst 0, 1) := by decide +kernel
theorem dX9_isNight_2 : decode cX9_isNight 2 = .ok (.bipush 6, 2) := by decide +kernel
theorem dX9_isNight_4 : decode cX9_isNight 4 = .ok (.invokestatic 90, 3) := by decide +kernel
theorem dX9_isNight_7 : decode cX9_isNight 7 = .ok (.ireturn, 1) := by decide +kernel
theorem dX9_isHour_0 : decode cX9_isHour 0 = .ok (.iload_n 0, 1) := by decide +kernel
theorem dX9_isHour_1 : decode cX9_isHour 1 = .ok (.iconst 0, 1) := by decide +kernel
theorem dX9_isHour_2 : decode cX9_isHour 2 = .ok (.bipush 23, 2) := by decide +kernel
theorem dX9_isHour_4 : decode cX9_isHour 4 = .ok (.invokestatic 90, 3) := by decide +kernel
theorem dX9_isHour_7 : decode cX9_isHour 7 = .ok (.ireturn, 1) := by decide +kernel
theorem dX9_street_0 : decode cX9_street 0 = .ok (.iload_n 1, 1) := by decide +kernel
theorem dX9_street_1 : decode cX9_street 1 = .ok (.invokestatic 97, 3) := by decide +kernel
theorem dX9_street_4 : decode cX9_street 4 = .ok (.ifCond .eq 12, 3) := by decide +kernel
theorem dX9_street_7 : decode cX9_street 7 = .ok (.iload_n 2, 1) := by decide +kernel
theorem dX9_street_8 : decode cX9_street 8 = .ok (.iconst 0, 1) := by decide +kernel
theorem dX9_street_9 : decode cX9_street 9 = .ok (.iconst 5, 1) := by decide +kernel
theorem dX9_street_10 : decode cX9_street 10 = .ok (.invokestatic 90, 3) := by decide +kernel
theorem dX9_street_13 : decode cX9_street 13 = .ok (.ifCond .ne 5, 3) := by decide +kernel
theorem dX9_street_16 : decode cX9_street 16 = .ok (.iconst (-1), 1) := by decide +kernel
theorem dX9_street_17 : decode cX9_street 17 = .ok (.ireturn, 1) := by decide +kernel
theorem dX9_street_18 : decode cX9_street 18 = .ok (.aload_n 0, 1) := by decide +kernel
theorem dX9_street_19 : decode cX9_street 19 = .ok (.getfield 87, 3) := by decide +kernel
theorem dX9_street_22 : decode cX9_street 22 = .ok (.iconst 5, 1) := by decide +kernel
theorem dX9_street_23 : decode cX9_street 23 = .ok (.if_icmp .ne 6, 3) := by decide +kernel
theorem dX9_street_26 : decode cX9_street 26 = .ok (.bipush (-2), 2) := by decide +kernel
theorem dX9_street_28 : decode cX9_street 28 = .ok (.ireturn, 1) := by decide +kernel
theorem dX9_street_29 : decode cX9_street 29 = .ok (.aload_n 0, 1) := by decide +kernel
theorem dX9_street_30 : decode cX9_street 30 = .ok (.getfield 87, 3) := by decide +kernel
theorem dX9_street_33 : decode cX9_street 33 = .ok (.istore_n 3, 1) := by decide +kernel
theorem dX9_street_34 : decode cX9_street 34 = .ok (.aload_n 0, 1) := by decide +kernel
theorem dX9_street_35 : decode cX9_street 35 = .ok (.getfield 7, 3) := by decide +kernel
theorem dX9_street_38 : decode cX9_street 38 = .ok (.iload_n 3, 1) := by decide +kernel
theorem dX9_street_39 : decode cX9_street 39 = .ok (.iload_n 1, 1) := by decide +kernel
theorem dX9_street_40 : decode cX9_street 40 = .ok (.iastore, 1) := by decide +kernel
theorem dX9_street_41 : decode cX9_street 41 = .ok (.aload_n 0, 1) := by decide +kernel
theorem dX9_street_42 : decode cX9_street 42 = .ok (.getfield 13, 3) := by decide +kernel
theorem dX9_street_45 : decode cX9_street 45 = .ok (.iload_n 3, 1) := by decide +kernel
theorem dX9_street_46 : decode cX9_street 46 = .ok (.iload_n 2, 1) := by decide +kernel
theorem dX9_street_47 : decode cX9_street 47 = .ok (.iastore, 1) := by decide +kernel
theorem dX9_street_48 : decode cX9_street 48 = .ok (.aload_n 0, 1) := by decide +kernel
theorem dX9_street_49 : decode cX9_street 49 = .ok (.getfield 22, 3) := by decide +kernel
theorem dX9_street_52 : decode cX9_street 52 = .ok (.iload_n 3, 1) := by decide +kernel
theorem dX9_street_53 : decode cX9_street 53 = .ok (.iconst 0, 1) := by decide +kernel
theorem dX9_street_54 : decode cX9_street 54 = .ok (.iastore, 1) := by decide +kernel
theorem dX9_street_55 : decode cX9_street 55 = .ok (.iconst 0, 1) := by decide +kernel
theorem dX9_street_56 : decode cX9_street 56 = .ok (.istore 4, 2) := by decide +kernel
theorem dX9_street_58 : decode cX9_street 58 = .ok (.iload 4, 2) := by decide +kernel
theorem dX9_street_60 : decode cX9_street 60 = .ok (.bipush 7, 2) := by decide +kernel
theorem dX9_street_62 : decode cX9_street 62 = .ok (.if_icmp .ge 22, 3) := by decide +kernel
theorem dX9_street_65 : decode cX9_street 65 = .ok (.aload_n 0, 1) := by decide +kernel
theorem dX9_street_66 : decode cX9_street 66 = .ok (.getfield 16, 3) := by decide +kernel
theorem dX9_street_69 : decode cX9_street 69 = .ok (.bipush 7, 2) := by decide +kernel
theorem dX9_street_71 : decode cX9_street 71 = .ok (.iload_n 3, 1) := by decide +kernel
theorem dX9_street_72 : decode cX9_street 72 = .ok (.imul, 1) := by decide +kernel
theorem dX9_street_73 : decode cX9_street 73 = .ok (.iload 4, 2) := by decide +kernel
theorem dX9_street_75 : decode cX9_street 75 = .ok (.iadd, 1) := by decide +kernel
theorem dX9_street_76 : decode cX9_street 76 = .ok (.iconst 0, 1) := by decide +kernel
theorem dX9_street_77 : decode cX9_street 77 = .ok (.iastore, 1) := by decide +kernel
theorem dX9_street_78 : decode cX9_street 78 = .ok (.iinc 4 1, 3) := by decide +kernel
theorem dX9_street_81 : decode cX9_street 81 = .ok (.goto (-23), 3) := by decide +kernel
theorem dX9_street_84 : decode cX9_street 84 = .ok (.iconst 0, 1) := by decide +kernel
theorem dX9_street_85 : decode cX9_street 85 = .ok (.istore 4, 2) := by decide +kernel
theorem dX9_street_87 : decode cX9_street 87 = .ok (.iload 4, 2) := by decide +kernel
theorem dX9_street_89 : decode cX9_street 89 = .ok (.iload_n 3, 1) := by decide +kernel
theorem dX9_street_90 : decode cX9_street 90 = .ok (.if_icmp .ge 35, 3) := by decide +kernel
theorem dX9_street_93 : decode cX9_street 93 = .ok (.aload_n 0, 1) := by decide +kernel
theorem dX9_street_94 : decode cX9_street 94 = .ok (.getfield 19, 3) := by decide +kernel
theorem dX9_street_97 : decode cX9_street 97 = .ok (.iconst 5, 1) := by decide +kernel
theorem dX9_street_98 : decode cX9_street 98 = .ok (.iload_n 3, 1) := by decide +kernel
theorem dX9_street_99 : decode cX9_street 99 = .ok (.imul, 1) := by decide +kernel
theorem dX9_street_100 : decode cX9_street 100 = .ok (.iload 4, 2) := by decide +kernel
theorem dX9_street_102 : decode cX9_street 102 = .ok (.iadd, 1) := by decide +kernel
theorem dX9_street_103 : decode cX9_street 103 = .ok (.bipush 10, 2) := by decide +kernel
theorem dX9_street_105 : decode cX9_street 105 = .ok (.iastore, 1) := by decide +kernel
theorem dX9_street_106 : decode cX9_street 106 = .ok (.aload_n 0, 1) := by decide +kernel
theorem dX9_street_107 : decode cX9_street 107 = .ok (.getfield 19, 3) := by decide +kernel
theorem dX9_street_110 : decode cX9_street 110 = .ok (.iconst 5, 1) := by decide +kernel
theorem dX9_street_111 : decode cX9_street 111 = .ok (.iload 4, 2) := by decide +kernel
theorem dX9_street_113 : decode cX9_street 113 = .ok (.imul, 1) := by decide +kernel
theorem dX9_street_114 : decode cX9_street 114 = .ok (.iload_n 3, 1) := by decide +kernel
theorem dX9_street_115 : decode cX9_street 115 = .ok (.iadd, 1) := by decide +kernel
theorem dX9_street_116 : decode cX9_street 116 = .ok (.bipush 10, 2) := by decide +kernel
theorem dX9_street_118 : decode cX9_street 118 = .ok (.iastore, 1) := by decide +kernel
theorem dX9_street_119 : decode cX9_street 119 = .ok (.iinc 4 1, 3) := by decide +kernel
theorem dX9_street_122 : decode cX9_street 122 = .ok (.goto (-35), 3) := by decide +kernel
theorem dX9_street_125 : decode cX9_street 125 = .ok (.aload_n 0, 1) := by decide +kernel
theorem dX9_street_126 : decode cX9_street 126 = .ok (.getfield 19, 3) := by decide +kernel
theorem dX9_street_129 : decode cX9_street 129 = .ok (.iconst 5, 1) := by decide +kernel
theorem dX9_street_130 : decode cX9_street 130 = .ok (.iload_n 3, 1) := by decide +kernel
theorem dX9_street_131 : decode cX9_street 131 = .ok (.imul, 1) := by decide +kernel
theorem dX9_street_132 : decode cX9_street 132 = .ok (.iload_n 3, 1) := by decide +kernel
theorem dX9_street_133 : decode cX9_street 133 = .ok (.iadd, 1) := by decide +kernel
theorem dX9_street_134 : decode cX9_street 134 = .ok (.iconst 0, 1) := by decide +kernel
theorem dX9_street_135 : decode cX9_street 135 = .ok (.iastore, 1) := by decide +kernel
theorem dX9_street_136 : decode cX9_street 136 = .ok (.aload_n 0, 1) := by decide +kernel
theorem dX9_street_137 : decode cX9_street 137 = .ok (.dup, 1) := by decide +kernel
theorem dX9_street_138 : decode cX9_street 138 = .ok (.getfield 87, 3) := by decide +kernel
theorem dX9_street_141 : decode cX9_street 141 = .ok (.iconst 1, 1) := by decide +kernel
theorem dX9_street_142 : decode cX9_street 142 = .ok (.iadd, 1) := by decide +kernel
theorem dX9_street_143 : decode cX9_street 143 = .ok (.putfield 87, 3) := by decide +kernel
theorem dX9_street_146 : decode cX9_street 146 = .ok (.iload_n 3, 1) := by decide +kernel
theorem dX9_street_147 : decode cX9_street 147 = .ok (.ireturn, 1) := by decide +kernel
theorem dX9_move_0 : decode cX9_move 0 = .ok (.aload_n 0, 1) := by decide +kernel
theorem dX9_move_1 : decode cX9_move 1 = .ok (.iload_n 1, 1) := by decide +kernel
theorem dX9_move_2 : decode cX9_move 2 = .ok (.invokevirtual 101, 3) := by decide +kernel
theorem dX9_move_5 : decode cX9_move 5 = .ok (.ifCond .eq 10, 3) := by decide +kernel
theorem dX9_move_8 : decode cX9_move 8 = .ok (.iload_n 2, 1) := by decide +kernel
theorem dX9_move_9 : decode cX9_move 9 = .ok (.invokestatic 97, 3) := by decide +kernel
theorem dX9_move_12 : decode cX9_move 12 = .ok (.ifCond .ne 5, 3) := by decide +kernel
theorem dX9_move_15 : decode cX9_move 15 = .ok (.iconst (-1), 1) := by decide +kernel
theorem dX9_move_16 : decode cX9_move 16 = .ok (.ireturn, 1) := by decide +kernel
theorem dX9_move_17 : decode cX9_move 17 = .ok (.aload_n 0, 1) := by decide +kernel
theorem dX9_move_18 : decode cX9_move 18 = .ok (.getfield 7, 3) := by decide +kernel
theorem dX9_move_21 : decode cX9_move 21 = .ok (.iload_n 1, 1) := by decide +kernel
theorem dX9_move_22 : decode cX9_move 22 = .ok (.iaload, 1) := by decide +kernel
theorem dX9_move_23 : decode cX9_move 23 = .ok (.istore_n 3, 1) := by decide +kernel
theorem dX9_move_24 : decode cX9_move 24 = .ok (.aload_n 0, 1) := by decide +kernel
theorem dX9_move_25 : decode cX9_move 25 = .ok (.getfield 7, 3) := by decide +kernel
theorem dX9_move_28 : decode cX9_move 28 = .ok (.iload_n 1, 1) := by decide +kernel
theorem dX9_move_29 : decode cX9_move 29 = .ok (.iload_n 2, 1) := by decide +kernel
theorem dX9_move_30 : decode cX9_move 30 = .ok (.iastore, 1) := by decide +kernel
theorem dX9_move_31 : decode cX9_move 31 = .ok (.iload_n 3, 1) := by decide +kernel
theorem dX9_move_32 : decode cX9_move 32 = .ok (.ireturn, 1) := by decide +kernel
theorem dX9_walk_0 : decode cX9_walk 0 = .ok (.aload_n 0, 1) := by decide +kernel
theorem dX9_walk_1 : decode cX9_walk 1 = .ok (.iload_n 1, 1) := by decide +kernel
theorem dX9_walk_2 : decode cX9_walk 2 = .ok (.invokevirtual 101, 3) := by decide +kernel
theorem dX9_walk_5 : decode cX9_walk 5 = .ok (.ifCond .eq 26, 3) := by decide +kernel
theorem dX9_walk_8 : decode cX9_walk 8 = .ok (.aload_n 0, 1) := by decide +kernel
theorem dX9_walk_9 : decode cX9_walk 9 = .ok (.iload_n 2, 1) := by decide +kernel
theorem dX9_walk_10 : decode cX9_walk 10 = .ok (.invokevirtual 101, 3) := by decide +kernel
theorem dX9_walk_13 : decode cX9_walk 13 = .ok (.ifCond .eq 18, 3) := by decide +kernel
theorem dX9_walk_16 : decode cX9_walk 16 = .ok (.iload_n 1, 1) := by decide +kernel
theorem dX9_walk_17 : decode cX9_walk 17 = .ok (.iload_n 2, 1) := by decide +kernel
theorem dX9_walk_18 : decode cX9_walk 18 = .ok (.if_icmp .eq 13, 3) := by decide +kernel
theorem dX9_walk_21 : decode cX9_walk 21 = .ok (.iload_n 3, 1) := by decide +kernel
theorem dX9_walk_22 : decode cX9_walk 22 = .ok (.iconst 0, 1) := by decide +kernel
theorem dX9_walk_23 : decode cX9_walk 23 = .ok (.bipush 50, 2) := by decide +kernel
theorem dX9_walk_25 : decode cX9_walk 25 = .ok (.invokestatic 90, 3) := by decide +kernel
theorem dX9_walk_28 : decode cX9_walk 28 = .ok (.ifCond .ne 5, 3) := by decide +kernel
theorem dX9_walk_31 : decode cX9_walk 31 = .ok (.iconst (-1), 1) := by decide +kernel
theorem dX9_walk_32 : decode cX9_walk 32 = .ok (.ireturn, 1) := by decide +kernel
theorem dX9_walk_33 : decode cX9_walk 33 = .ok (.aload_n 0, 1) := by decide +kernel
theorem dX9_walk_34 : decode cX9_walk 34 = .ok (.getfield 19, 3) := by decide +kernel
theorem dX9_walk_37 : decode cX9_walk 37 = .ok (.iconst 5, 1) := by decide +kernel
theorem dX9_walk_38 : decode cX9_walk 38 = .ok (.iload_n 1, 1) := by decide +kernel
theorem dX9_walk_39 : decode cX9_walk 39 = .ok (.imul, 1) := by decide +kernel
theorem dX9_walk_40 : decode cX9_walk 40 = .ok (.iload_n 2, 1) := by decide +kernel
theorem dX9_walk_41 : decode cX9_walk 41 = .ok (.iadd, 1) := by decide +kernel
theorem dX9_walk_42 : decode cX9_walk 42 = .ok (.iaload, 1) := by decide +kernel
theorem dX9_walk_43 : decode cX9_walk 43 = .ok (.istore 4, 2) := by decide +kernel
theorem dX9_walk_45 : decode cX9_walk 45 = .ok (.aload_n 0, 1) := by decide +kernel
theorem dX9_walk_46 : decode cX9_walk 46 = .ok (.getfield 19, 3) := by decide +kernel
theorem dX9_walk_49 : decode cX9_walk 49 = .ok (.iconst 5, 1) := by decide +kernel
theorem dX9_walk_50 : decode cX9_walk 50 = .ok (.iload_n 1, 1) := by decide +kernel
theorem dX9_walk_51 : decode cX9_walk 51 = .ok (.imul, 1) := by decide +kernel
theorem dX9_walk_52 : decode cX9_walk 52 = .ok (.iload_n 2, 1) := by decide +kernel
theorem dX9_walk_53 : decode cX9_walk 53 = .ok (.iadd, 1) := by decide +kernel
theorem dX9_walk_54 : decode cX9_walk 54 = .ok (.iload_n 3, 1) := by decide +kernel
theorem dX9_walk_55 : decode cX9_walk 55 = .ok (.iastore, 1) := by decide +kernel
theorem dX9_walk_56 : decode cX9_walk 56 = .ok (.aload_n 0, 1) := by decide +kernel
theorem dX9_walk_57 : decode cX9_walk 57 = .ok (.getfield 19, 3) := by decide +kernel
theorem dX9_walk_60 : decode cX9_walk 60 = .ok (.iconst 5, 1) := by decide +kernel
theorem dX9_walk_61 : decode cX9_walk 61 = .ok (.iload_n 2, 1) := by decide +kernel
theorem dX9_walk_62 : decode cX9_walk 62 = .ok (.imul, 1) := by decide +kernel
theorem dX9_walk_63 : decode cX9_walk 63 = .ok (.iload_n 1, 1) := by decide +kernel
theorem dX9_walk_64 : decode cX9_walk 64 = .ok (.iadd, 1) := by decide +kernel
theorem dX9_walk_65 : decode cX9_walk 65 = .ok (.iload_n 3, 1) := by decide +kernel
theorem dX9_walk_66 : decode cX9_walk 66 = .ok (.iastore, 1) := by decide +kernel
theorem dX9_walk_67 : decode cX9_walk 67 = .ok (.iload 4, 2) := by decide +kernel
theorem dX9_walk_69 : decode cX9_walk 69 = .ok (.ireturn, 1) := by decide +kernel
theorem dX9_close_0 : decode cX9_close 0 = .ok (.aload_n 0, 1) := by decide +kernel
theorem dX9_close_1 : decode cX9_close 1 = .ok (.iload_n 1, 1) := by decide +kernel
theorem dX9_close_2 : decode cX9_close 2 = .ok (.invokevirtual 101, 3) := by decide +kernel
theorem dX9_close_5 : decode cX9_close 5 = .ok (.ifCond .eq 24, 3) := by decide +kernel
theorem dX9_close_8 : decode cX9_close 8 = .ok (.iload_n 2, 1) := by decide +kernel
theorem dX9_close_9 : decode cX9_close 9 = .ok (.invokestatic 104, 3) := by decide +kernel
theorem dX9_close_12 : decode cX9_close 12 = .ok (.ifCond .eq 17, 3) := by decide +kernel
theorem dX9_close_15 : decode cX9_close 15 = .ok (.iload_n 3, 1) := by decide +kernel
theorem dX9_close_16 : decode cX9_close 16 = .ok (.iconst 0, 1) := by decide +kernel
theorem dX9_close_17 : decode cX9_close 17 = .ok (.aload_n 0, 1) := by decide +kernel
theorem dX9_close_18 : decode cX9_close 18 = .ok (.getfield 13, 3) := by decide +kernel
theorem dX9_close_21 : decode cX9_close 21 = .ok (.iload_n 1, 1) := by decide +kernel
theorem dX9_close_22 : decode cX9_close 22 = .ok (.iaload, 1) := by decide +kernel
theorem dX9_close_23 : decode cX9_close 23 = .ok (.invokestatic 90, 3) := by decide +kernel
theorem dX9_close_26 : decode cX9_close 26 = .ok (.ifCond .ne 5, 3) := by decide +kernel
theorem dX9_close_29 : decode cX9_close 29 = .ok (.iconst (-1), 1) := by decide +kernel
theorem dX9_close_30 : decode cX9_close 30 = .ok (.ireturn, 1) := by decide +kernel
theorem dX9_close_31 : decode cX9_close 31 = .ok (.aload_n 0, 1) := by decide +kernel
theorem dX9_close_32 : decode cX9_close 32 = .ok (.getfield 16, 3) := by decide +kernel
theorem dX9_close_35 : decode cX9_close 35 = .ok (.bipush 7, 2) := by decide +kernel
theorem dX9_close_37 : decode cX9_close 37 = .ok (.iload_n 1, 1) := by decide +kernel
theorem dX9_close_38 : decode cX9_close 38 = .ok (.imul, 1) := by decide +kernel
theorem dX9_close_39 : decode cX9_close 39 = .ok (.iload_n 2, 1) := by decide +kernel
theorem dX9_close_40 : decode cX9_close 40 = .ok (.iadd, 1) := by decide +kernel
theorem dX9_close_41 : decode cX9_close 41 = .ok (.iaload, 1) := by decide +kernel
theorem dX9_close_42 : decode cX9_close 42 = .ok (.istore 4, 2) := by decide +kernel
theorem dX9_close_44 : decode cX9_close 44 = .ok (.aload_n 0, 1) := by decide +kernel
theorem dX9_close_45 : decode cX9_close 45 = .ok (.getfield 16, 3) := by decide +kernel
theorem dX9_close_48 : decode cX9_close 48 = .ok (.bipush 7, 2) := by decide +kernel
theorem dX9_close_50 : decode cX9_close 50 = .ok (.iload_n 1, 1) := by decide +kernel
theorem dX9_close_51 : decode cX9_close 51 = .ok (.imul, 1) := by decide +kernel
theorem dX9_close_52 : decode cX9_close 52 = .ok (.iload_n 2, 1) := by decide +kernel
theorem dX9_close_53 : decode cX9_close 53 = .ok (.iadd, 1) := by decide +kernel
theorem dX9_close_54 : decode cX9_close 54 = .ok (.iload_n 3, 1) := by decide +kernel
theorem dX9_close_55 : decode cX9_close 55 = .ok (.iastore, 1) := by decide +kernel
theorem dX9_close_56 : decode cX9_close 56 = .ok (.iload 4, 2) := by decide +kernel
theorem dX9_close_58 : decode cX9_close 58 = .ok (.ireturn, 1) := by decide +kernel
theorem dX9_areHours_0 : decode cX9_areHours 0 = .ok (.iload_n 0, 1) := by decide +kernel
theorem dX9_areHours_1 : decode cX9_areHours 1 = .ok (.iconst (-1), 1) := by decide +kernel
theorem dX9_areHours_2 : decode cX9_areHours 2 = .ok (.if_icmp .eq 17, 3) := by decide +kernel
theorem dX9_areHours_5 : decode cX9_areHours 5 = .ok (.iload_n 0, 1) := by decide +kernel
theorem dX9_areHours_6 : decode cX9_areHours 6 = .ok (.invokestatic 107, 3) := by decide +kernel
theorem dX9_areHours_9 : decode cX9_areHours 9 = .ok (.ifCond .eq 14, 3) := by decide +kernel
theorem dX9_areHours_12 : decode cX9_areHours 12 = .ok (.iload_n 1, 1) := by decide +kernel
theorem dX9_areHours_13 : decode cX9_areHours 13 = .ok (.invokestatic 107, 3) := by decide +kernel
theorem dX9_areHours_16 : decode cX9_areHours 16 = .ok (.ifCond .eq 7, 3) := by decide +kernel
theorem dX9_areHours_19 : decode cX9_areHours 19 = .ok (.iconst 1, 1) := by decide +kernel
theorem dX9_areHours_20 : decode cX9_areHours 20 = .ok (.goto 4, 3) := by decide +kernel
theorem dX9_areHours_23 : decode cX9_areHours 23 = .ok (.iconst 0, 1) := by decide +kernel
theorem dX9_areHours_24 : decode cX9_areHours 24 = .ok (.ireturn, 1) := by decide +kernel
theorem dX9_rule_0 : decode cX9_rule 0 = .ok (.iload_n 1, 1) := by decide +kernel
theorem dX9_rule_1 : decode cX9_rule 1 = .ok (.invokestatic 97, 3) := by decide +kernel
theorem dX9_rule_4 : decode cX9_rule 4 = .ok (.ifCond .eq 11, 3) := by decide +kernel
theorem dX9_rule_7 : decode cX9_rule 7 = .ok (.iload_n 2, 1) := by decide +kernel
theorem dX9_rule_8 : decode cX9_rule 8 = .ok (.iload_n 3, 1) := by decide +kernel
theorem dX9_rule_9 : decode cX9_rule 9 = .ok (.invokestatic 110, 3) := by decide +kernel
theorem dX9_rule_12 : decode cX9_rule 12 = .ok (.ifCond .ne 5, 3) := by decide +kernel
theorem dX9_rule_15 : decode cX9_rule 15 = .ok (.iconst (-1), 1) := by decide +kernel
theorem dX9_rule_16 : decode cX9_rule 16 = .ok (.ireturn, 1) := by decide +kernel
theorem dX9_rule_17 : decode cX9_rule 17 = .ok (.aload_n 0, 1) := by decide +kernel
theorem dX9_rule_18 : decode cX9_rule 18 = .ok (.getfield 41, 3) := by decide +kernel
theorem dX9_rule_21 : decode cX9_rule 21 = .ok (.iload_n 1, 1) := by decide +kernel
theorem dX9_rule_22 : decode cX9_rule 22 = .ok (.iload_n 2, 1) := by decide +kernel
theorem dX9_rule_23 : decode cX9_rule 23 = .ok (.iastore, 1) := by decide +kernel
theorem dX9_rule_24 : decode cX9_rule 24 = .ok (.aload_n 0, 1) := by decide +kernel
theorem dX9_rule_25 : decode cX9_rule 25 = .ok (.getfield 44, 3) := by decide +kernel
theorem dX9_rule_28 : decode cX9_rule 28 = .ok (.iload_n 1, 1) := by decide +kernel
theorem dX9_rule_29 : decode cX9_rule 29 = .ok (.iload_n 3, 1) := by decide +kernel
theorem dX9_rule_30 : decode cX9_rule 30 = .ok (.iastore, 1) := by decide +kernel
theorem dX9_rule_31 : decode cX9_rule 31 = .ok (.iconst 1, 1) := by decide +kernel
theorem dX9_rule_32 : decode cX9_rule 32 = .ok (.ireturn, 1) := by decide +kernel
theorem dX9_hours_0 : decode cX9_hours 0 = .ok (.iload_n 1, 1) := by decide +kernel
theorem dX9_hours_1 : decode cX9_hours 1 = .ok (.invokestatic 97, 3) := by decide +kernel
theorem dX9_hours_4 : decode cX9_hours 4 = .ok (.ifCond .eq 19, 3) := by decide +kernel
theorem dX9_hours_7 : decode cX9_hours 7 = .ok (.iload_n 2, 1) := by decide +kernel
theorem dX9_hours_8 : decode cX9_hours 8 = .ok (.invokestatic 114, 3) := by decide +kernel
theorem dX9_hours_11 : decode cX9_hours 11 = .ok (.ifCond .eq 12, 3) := by decide +kernel
theorem dX9_hours_14 : decode cX9_hours 14 = .ok (.iload_n 3, 1) := by decide +kernel
theorem dX9_hours_15 : decode cX9_hours 15 = .ok (.iload 4, 2) := by decide +kernel
theorem dX9_hours_17 : decode cX9_hours 17 = .ok (.invokestatic 110, 3) := by decide +kernel
theorem dX9_hours_20 : decode cX9_hours 20 = .ok (.ifCond .ne 5, 3) := by decide +kernel
theorem dX9_hours_23 : decode cX9_hours 23 = .ok (.iconst (-1), 1) := by decide +kernel
theorem dX9_hours_24 : decode cX9_hours 24 = .ok (.ireturn, 1) := by decide +kernel
theorem dX9_hours_25 : decode cX9_hours 25 = .ok (.aload_n 0, 1) := by decide +kernel
theorem dX9_hours_26 : decode cX9_hours 26 = .ok (.getfield 47, 3) := by decide +kernel
theorem dX9_hours_29 : decode cX9_hours 29 = .ok (.iconst 3, 1) := by decide +kernel
theorem dX9_hours_30 : decode cX9_hours 30 = .ok (.iload_n 1, 1) := by decide +kernel
theorem dX9_hours_31 : decode cX9_hours 31 = .ok (.imul, 1) := by decide +kernel
theorem dX9_hours_32 : decode cX9_hours 32 = .ok (.iload_n 2, 1) := by decide +kernel
theorem dX9_hours_33 : decode cX9_hours 33 = .ok (.iadd, 1) := by decide +kernel
theorem dX9_hours_34 : decode cX9_hours 34 = .ok (.iload_n 3, 1) := by decide +kernel
theorem dX9_hours_35 : decode cX9_hours 35 = .ok (.iastore, 1) := by decide +kernel
theorem dX9_hours_36 : decode cX9_hours 36 = .ok (.aload_n 0, 1) := by decide +kernel
theorem dX9_hours_37 : decode cX9_hours 37 = .ok (.getfield 50, 3) := by decide +kernel
theorem dX9_hours_40 : decode cX9_hours 40 = .ok (.iconst 3, 1) := by decide +kernel
theorem dX9_hours_41 : decode cX9_hours 41 = .ok (.iload_n 1, 1) := by decide +kernel
theorem dX9_hours_42 : decode cX9_hours 42 = .ok (.imul, 1) := by decide +kernel
theorem dX9_hours_43 : decode cX9_hours 43 = .ok (.iload_n 2, 1) := by decide +kernel
theorem dX9_hours_44 : decode cX9_hours 44 = .ok (.iadd, 1) := by decide +kernel
theorem dX9_hours_45 : decode cX9_hours 45 = .ok (.iload 4, 2) := by decide +kernel
theorem dX9_hours_47 : decode cX9_hours 47 = .ok (.iastore, 1) := by decide +kernel
theorem dX9_hours_48 : decode cX9_hours 48 = .ok (.iconst 1, 1) := by decide +kernel
theorem dX9_hours_49 : decode cX9_hours 49 = .ok (.ireturn, 1) := by decide +kernel
theorem dX9_isWithin_0 : decode cX9_isWithin 0 = .ok (.iload_n 1, 1) := by decide +kernel
theorem dX9_isWithin_1 : decode cX9_isWithin 1 = .ok (.ifCond .ge 5, 3) := by decide +kernel
theorem dX9_isWithin_4 : decode cX9_isWithin 4 = .ok (.iconst 0, 1) := by decide +kernel
theorem dX9_isWithin_5 : decode cX9_isWithin 5 = .ok (.ireturn, 1) := by decide +kernel
theorem dX9_isWithin_6 : decode cX9_isWithin 6 = .ok (.iload_n 1, 1) := by decide +kernel
theorem dX9_isWithin_7 : decode cX9_isWithin 7 = .ok (.iload_n 2, 1) := by decide +kernel
theorem dX9_isWithin_8 : decode cX9_isWithin 8 = .ok (.if_icmp .gt 21, 3) := by decide +kernel
theorem dX9_isWithin_11 : decode cX9_isWithin 11 = .ok (.iload_n 0, 1) := by decide +kernel
theorem dX9_isWithin_12 : decode cX9_isWithin 12 = .ok (.iload_n 1, 1) := by decide +kernel
theorem dX9_isWithin_13 : decode cX9_isWithin 13 = .ok (.if_icmp .lt 12, 3) := by decide +kernel
theorem dX9_isWithin_16 : decode cX9_isWithin 16 = .ok (.iload_n 0, 1) := by decide +kernel
theorem dX9_isWithin_17 : decode cX9_isWithin 17 = .ok (.iload_n 2, 1) := by decide +kernel
theorem dX9_isWithin_18 : decode cX9_isWithin 18 = .ok (.if_icmp .gt 7, 3) := by decide +kernel
theorem dX9_isWithin_21 : decode cX9_isWithin 21 = .ok (.iconst 1, 1) := by decide +kernel
theorem dX9_isWithin_22 : decode cX9_isWithin 22 = .ok (.goto 22, 3) := by decide +kernel
theorem dX9_isWithin_25 : decode cX9_isWithin 25 = .ok (.iconst 0, 1) := by decide +kernel
theorem dX9_isWithin_26 : decode cX9_isWithin 26 = .ok (.goto 18, 3) := by decide +kernel
theorem dX9_isWithin_29 : decode cX9_isWithin 29 = .ok (.iload_n 0, 1) := by decide +kernel
theorem dX9_isWithin_30 : decode cX9_isWithin 30 = .ok (.iload_n 1, 1) := by decide +kernel
theorem dX9_isWithin_31 : decode cX9_isWithin 31 = .ok (.if_icmp .ge 8, 3) := by decide +kernel
theorem dX9_isWithin_34 : decode cX9_isWithin 34 = .ok (.iload_n 0, 1) := by decide +kernel
theorem dX9_isWithin_35 : decode cX9_isWithin 35 = .ok (.iload_n 2, 1) := by decide +kernel
theorem dX9_isWithin_36 : decode cX9_isWithin 36 = .ok (.if_icmp .gt 7, 3) := by decide +kernel
theorem dX9_isWithin_39 : decode cX9_isWithin 39 = .ok (.iconst 1, 1) := by decide +kernel
theorem dX9_isWithin_40 : decode cX9_isWithin 40 = .ok (.goto 4, 3) := by decide +kernel
theorem dX9_isWithin_43 : decode cX9_isWithin 43 = .ok (.iconst 0, 1) := by decide +kernel
theorem dX9_isWithin_44 : decode cX9_isWithin 44 = .ok (.ireturn, 1) := by decide +kernel
theorem dX9_car_0 : decode cX9_car 0 = .ok (.aload_n 0, 1) := by decide +kernel
theorem dX9_car_1 : decode cX9_car 1 = .ok (.iload_n 1, 1) := by decide +kernel
theorem dX9_car_2 : decode cX9_car 2 = .ok (.invokevirtual 101, 3) := by decide +kernel
theorem dX9_car_5 : decode cX9_car 5 = .ok (.ifCond .ne 5, 3) := by decide +kernel
theorem dX9_car_8 : decode cX9_car 8 = .ok (.iconst (-1), 1) := by decide +kernel
theorem dX9_car_9 : decode cX9_car 9 = .ok (.ireturn, 1) := by decide +kernel
theorem dX9_car_10 : decode cX9_car 10 = .ok (.aload_n 0, 1) := by decide +kernel
theorem dX9_car_11 : decode cX9_car 11 = .ok (.getfield 94, 3) := by decide +kernel
theorem dX9_car_14 : decode cX9_car 14 = .ok (.bipush 7, 2) := by decide +kernel
theorem dX9_car_16 : decode cX9_car 16 = .ok (.if_icmp .ne 6, 3) := by decide +kernel
theorem dX9_car_19 : decode cX9_car 19 = .ok (.bipush (-2), 2) := by decide +kernel
theorem dX9_car_21 : decode cX9_car 21 = .ok (.ireturn, 1) := by decide +kernel
theorem dX9_car_22 : decode cX9_car 22 = .ok (.aload_n 0, 1) := by decide +kernel
theorem dX9_car_23 : decode cX9_car 23 = .ok (.getfield 94, 3) := by decide +kernel
theorem dX9_car_26 : decode cX9_car 26 = .ok (.istore_n 2, 1) := by decide +kernel
theorem dX9_car_27 : decode cX9_car 27 = .ok (.aload_n 0, 1) := by decide +kernel
theorem dX9_car_28 : decode cX9_car 28 = .ok (.getfield 25, 3) := by decide +kernel
theorem dX9_car_31 : decode cX9_car 31 = .ok (.iload_n 2, 1) := by decide +kernel
theorem dX9_car_32 : decode cX9_car 32 = .ok (.iload_n 1, 1) := by decide +kernel
theorem dX9_car_33 : decode cX9_car 33 = .ok (.iastore, 1) := by decide +kernel
theorem dX9_car_34 : decode cX9_car 34 = .ok (.aload_n 0, 1) := by decide +kernel
theorem dX9_car_35 : decode cX9_car 35 = .ok (.getfield 35, 3) := by decide +kernel
theorem dX9_car_38 : decode cX9_car 38 = .ok (.iload_n 2, 1) := by decide +kernel
theorem dX9_car_39 : decode cX9_car 39 = .ok (.bipush 99, 2) := by decide +kernel
theorem dX9_car_41 : decode cX9_car 41 = .ok (.iastore, 1) := by decide +kernel
theorem dX9_car_42 : decode cX9_car 42 = .ok (.aload_n 0, 1) := by decide +kernel
theorem dX9_car_43 : decode cX9_car 43 = .ok (.getfield 38, 3) := by decide +kernel
theorem dX9_car_46 : decode cX9_car 46 = .ok (.iload_n 2, 1) := by decide +kernel
theorem dX9_car_47 : decode cX9_car 47 = .ok (.iload_n 2, 1) := by decide +kernel
theorem dX9_car_48 : decode cX9_car 48 = .ok (.iastore, 1) := by decide +kernel
theorem dX9_car_49 : decode cX9_car 49 = .ok (.iconst 0, 1) := by decide +kernel
theorem dX9_car_50 : decode cX9_car 50 = .ok (.istore_n 3, 1) := by decide +kernel
theorem dX9_car_51 : decode cX9_car 51 = .ok (.iload_n 3, 1) := by decide +kernel
theorem dX9_car_52 : decode cX9_car 52 = .ok (.iconst 4, 1) := by decide +kernel
theorem dX9_car_53 : decode cX9_car 53 = .ok (.if_icmp .ge 51, 3) := by decide +kernel
theorem dX9_car_56 : decode cX9_car 56 = .ok (.aload_n 0, 1) := by decide +kernel
theorem dX9_car_57 : decode cX9_car 57 = .ok (.getfield 32, 3) := by decide +kernel
theorem dX9_car_60 : decode cX9_car 60 = .ok (.iconst 4, 1) := by decide +kernel
theorem dX9_car_61 : decode cX9_car 61 = .ok (.iload_n 2, 1) := by decide +kernel
theorem dX9_car_62 : decode cX9_car 62 = .ok (.imul, 1) := by decide +kernel
theorem dX9_car_63 : decode cX9_car 63 = .ok (.iload_n 3, 1) := by decide +kernel
theorem dX9_car_64 : decode cX9_car 64 = .ok (.iadd, 1) := by decide +kernel
theorem dX9_car_65 : decode cX9_car 65 = .ok (.iconst 0, 1) := by decide +kernel
theorem dX9_car_66 : decode cX9_car 66 = .ok (.iastore, 1) := by decide +kernel
theorem dX9_car_67 : decode cX9_car 67 = .ok (.iconst 0, 1) := by decide +kernel
theorem dX9_car_68 : decode cX9_car 68 = .ok (.istore 4, 2) := by decide +kernel
theorem dX9_car_70 : decode cX9_car 70 = .ok (.iload 4, 2) := by decide +kernel
theorem dX9_car_72 : decode cX9_car 72 = .ok (.iconst 3, 1) := by decide +kernel
theorem dX9_car_73 : decode cX9_car 73 = .ok (.if_icmp .ge 25, 3) := by decide +kernel
theorem dX9_car_76 : decode cX9_car 76 = .ok (.aload_n 0, 1) := by decide +kernel
theorem dX9_car_77 : decode cX9_car 77 = .ok (.getfield 28, 3) := by decide +kernel
theorem dX9_car_80 : decode cX9_car 80 = .ok (.iconst 4, 1) := by decide +kernel
theorem dX9_car_81 : decode cX9_car 81 = .ok (.iload_n 2, 1) := by decide +kernel
theorem dX9_car_82 : decode cX9_car 82 = .ok (.imul, 1) := by decide +kernel
theorem dX9_car_83 : decode cX9_car 83 = .ok (.iload_n 3, 1) := by decide +kernel
theorem dX9_car_84 : decode cX9_car 84 = .ok (.iadd, 1) := by decide +kernel
theorem dX9_car_85 : decode cX9_car 85 = .ok (.iconst 3, 1) := by decide +kernel
theorem dX9_car_86 : decode cX9_car 86 = .ok (.imul, 1) := by decide +kernel
theorem dX9_car_87 : decode cX9_car 87 = .ok (.iload 4, 2) := by decide +kernel
theorem dX9_car_89 : decode cX9_car 89 = .ok (.iadd, 1) := by decide +kernel
theorem dX9_car_90 : decode cX9_car 90 = .ok (.iconst 0, 1) := by decide +kernel
theorem dX9_car_91 : decode cX9_car 91 = .ok (.bastore, 1) := by decide +kernel
theorem dX9_car_92 : decode cX9_car 92 = .ok (.iinc 4 1, 3) := by decide +kernel
theorem dX9_car_95 : decode cX9_car 95 = .ok (.goto (-25), 3) := by decide +kernel
theorem dX9_car_98 : decode cX9_car 98 = .ok (.iinc 3 1, 3) := by decide +kernel
theorem dX9_car_101 : decode cX9_car 101 = .ok (.goto (-50), 3) := by decide +kernel
theorem dX9_car_104 : decode cX9_car 104 = .ok (.aload_n 0, 1) := by decide +kernel
theorem dX9_car_105 : decode cX9_car 105 = .ok (.dup, 1) := by decide +kernel
theorem dX9_car_106 : decode cX9_car 106 = .ok (.getfield 94, 3) := by decide +kernel
theorem dX9_car_109 : decode cX9_car 109 = .ok (.iconst 1, 1) := by decide +kernel
theorem dX9_car_110 : decode cX9_car 110 = .ok (.iadd, 1) := by decide +kernel
theorem dX9_car_111 : decode cX9_car 111 = .ok (.putfield 94, 3) := by decide +kernel
theorem dX9_car_114 : decode cX9_car 114 = .ok (.iload_n 2, 1) := by decide +kernel
theorem dX9_car_115 : decode cX9_car 115 = .ok (.ireturn, 1) := by decide +kernel
theorem dX9_permit_0 : decode cX9_permit 0 = .ok (.aload_n 0, 1) := by decide +kernel
theorem dX9_permit_1 : decode cX9_permit 1 = .ok (.iload_n 1, 1) := by decide +kernel
theorem dX9_permit_2 : decode cX9_permit 2 = .ok (.invokevirtual 117, 3) := by decide +kernel
theorem dX9_permit_5 : decode cX9_permit 5 = .ok (.ifCond .eq 17, 3) := by decide +kernel
theorem dX9_permit_8 : decode cX9_permit 8 = .ok (.iload_n 2, 1) := by decide +kernel
theorem dX9_permit_9 : decode cX9_permit 9 = .ok (.invokestatic 114, 3) := by decide +kernel
theorem dX9_permit_12 : decode cX9_permit 12 = .ok (.ifCond .eq 10, 3) := by decide +kernel
theorem dX9_permit_15 : decode cX9_permit 15 = .ok (.iload_n 3, 1) := by decide +kernel
theorem dX9_permit_16 : decode cX9_permit 16 = .ok (.invokestatic 97, 3) := by decide +kernel
theorem dX9_permit_19 : decode cX9_permit 19 = .ok (.ifCond .ne 5, 3) := by decide +kernel
theorem dX9_permit_22 : decode cX9_permit 22 = .ok (.iconst (-1), 1) := by decide +kernel
theorem dX9_permit_23 : decode cX9_permit 23 = .ok (.ireturn, 1) := by decide +kernel
theorem dX9_permit_24 : decode cX9_permit 24 = .ok (.iconst 4, 1) := by decide +kernel
theorem dX9_permit_25 : decode cX9_permit 25 = .ok (.iload_n 1, 1) := by decide +kernel
theorem dX9_permit_26 : decode cX9_permit 26 = .ok (.imul, 1) := by decide +kernel
theorem dX9_permit_27 : decode cX9_permit 27 = .ok (.iload_n 3, 1) := by decide +kernel
theorem dX9_permit_28 : decode cX9_permit 28 = .ok (.iadd, 1) := by decide +kernel
theorem dX9_permit_29 : decode cX9_permit 29 = .ok (.iconst 3, 1) := by decide +kernel
theorem dX9_permit_30 : decode cX9_permit 30 = .ok (.imul, 1) := by decide +kernel
theorem dX9_permit_31 : decode cX9_permit 31 = .ok (.iload_n 2, 1) := by decide +kernel
theorem dX9_permit_32 : decode cX9_permit 32 = .ok (.iadd, 1) := by decide +kernel
theorem dX9_permit_33 : decode cX9_permit 33 = .ok (.istore 5, 2) := by decide +kernel
theorem dX9_permit_35 : decode cX9_permit 35 = .ok (.aload_n 0, 1) := by decide +kernel
theorem dX9_permit_36 : decode cX9_permit 36 = .ok (.getfield 28, 3) := by decide +kernel
theorem dX9_permit_39 : decode cX9_permit 39 = .ok (.iload 5, 2) := by decide +kernel
theorem dX9_permit_41 : decode cX9_permit 41 = .ok (.baload, 1) := by decide +kernel
theorem dX9_permit_42 : decode cX9_permit 42 = .ok (.istore 6, 2) := by decide +kernel
theorem dX9_permit_44 : decode cX9_permit 44 = .ok (.aload_n 0, 1) := by decide +kernel
theorem dX9_permit_45 : decode cX9_permit 45 = .ok (.getfield 28, 3) := by decide +kernel
theorem dX9_permit_48 : decode cX9_permit 48 = .ok (.iload 5, 2) := by decide +kernel
theorem dX9_permit_50 : decode cX9_permit 50 = .ok (.iload 4, 2) := by decide +kernel
theorem dX9_permit_52 : decode cX9_permit 52 = .ok (.bastore, 1) := by decide +kernel
theorem dX9_permit_53 : decode cX9_permit 53 = .ok (.iload 6, 2) := by decide +kernel
theorem dX9_permit_55 : decode cX9_permit 55 = .ok (.iload 4, 2) := by decide +kernel
theorem dX9_permit_57 : decode cX9_permit 57 = .ok (.if_icmp .ne 7, 3) := by decide +kernel
theorem dX9_permit_60 : decode cX9_permit 60 = .ok (.iconst 0, 1) := by decide +kernel
theorem dX9_permit_61 : decode cX9_permit 61 = .ok (.goto 4, 3) := by decide +kernel
theorem dX9_permit_64 : decode cX9_permit 64 = .ok (.iconst 1, 1) := by decide +kernel
theorem dX9_permit_65 : decode cX9_permit 65 = .ok (.ireturn, 1) := by decide +kernel
theorem dX9_cards_0 : decode cX9_cards 0 = .ok (.aload_n 0, 1) := by decide +kernel
theorem dX9_cards_1 : decode cX9_cards 1 = .ok (.iload_n 1, 1) := by decide +kernel
theorem dX9_cards_2 : decode cX9_cards 2 = .ok (.invokevirtual 117, 3) := by decide +kernel
theorem dX9_cards_5 : decode cX9_cards 5 = .ok (.ifCond .eq 20, 3) := by decide +kernel
theorem dX9_cards_8 : decode cX9_cards 8 = .ok (.iload_n 2, 1) := by decide +kernel
theorem dX9_cards_9 : decode cX9_cards 9 = .ok (.invokestatic 97, 3) := by decide +kernel
theorem dX9_cards_12 : decode cX9_cards 12 = .ok (.ifCond .eq 13, 3) := by decide +kernel
theorem dX9_cards_15 : decode cX9_cards 15 = .ok (.iload_n 3, 1) := by decide +kernel
theorem dX9_cards_16 : decode cX9_cards 16 = .ok (.iconst 0, 1) := by decide +kernel
theorem dX9_cards_17 : decode cX9_cards 17 = .ok (.bipush 9, 2) := by decide +kernel
theorem dX9_cards_19 : decode cX9_cards 19 = .ok (.invokestatic 90, 3) := by decide +kernel
theorem dX9_cards_22 : decode cX9_cards 22 = .ok (.ifCond .ne 5, 3) := by decide +kernel
theorem dX9_cards_25 : decode cX9_cards 25 = .ok (.iconst (-1), 1) := by decide +kernel
theorem dX9_cards_26 : decode cX9_cards 26 = .ok (.ireturn, 1) := by decide +kernel
theorem dX9_cards_27 : decode cX9_cards 27 = .ok (.aload_n 0, 1) := by decide +kernel
theorem dX9_cards_28 : decode cX9_cards 28 = .ok (.getfield 32, 3) := by decide +kernel
theorem dX9_cards_31 : decode cX9_cards 31 = .ok (.iconst 4, 1) := by decide +kernel
theorem dX9_cards_32 : decode cX9_cards 32 = .ok (.iload_n 1, 1) := by decide +kernel
theorem dX9_cards_33 : decode cX9_cards 33 = .ok (.imul, 1) := by decide +kernel
theorem dX9_cards_34 : decode cX9_cards 34 = .ok (.iload_n 2, 1) := by decide +kernel
theorem dX9_cards_35 : decode cX9_cards 35 = .ok (.iadd, 1) := by decide +kernel
theorem dX9_cards_36 : decode cX9_cards 36 = .ok (.iaload, 1) := by decide +kernel
theorem dX9_cards_37 : decode cX9_cards 37 = .ok (.istore 4, 2) := by decide +kernel
theorem dX9_cards_39 : decode cX9_cards 39 = .ok (.aload_n 0, 1) := by decide +kernel
theorem dX9_cards_40 : decode cX9_cards 40 = .ok (.getfield 32, 3) := by decide +kernel
theorem dX9_cards_43 : decode cX9_cards 43 = .ok (.iconst 4, 1) := by decide +kernel
theorem dX9_cards_44 : decode cX9_cards 44 = .ok (.iload_n 1, 1) := by decide +kernel
theorem dX9_cards_45 : decode cX9_cards 45 = .ok (.imul, 1) := by decide +kernel
theorem dX9_cards_46 : decode cX9_cards 46 = .ok (.iload_n 2, 1) := by decide +kernel
theorem dX9_cards_47 : decode cX9_cards 47 = .ok (.iadd, 1) := by decide +kernel
theorem dX9_cards_48 : decode cX9_cards 48 = .ok (.iload_n 3, 1) := by decide +kernel
theorem dX9_cards_49 : decode cX9_cards 49 = .ok (.iastore, 1) := by decide +kernel
theorem dX9_cards_50 : decode cX9_cards 50 = .ok (.iload 4, 2) := by decide +kernel
theorem dX9_cards_52 : decode cX9_cards 52 = .ok (.ireturn, 1) := by decide +kernel
theorem dX9_limit_0 : decode cX9_limit 0 = .ok (.aload_n 0, 1) := by decide +kernel
theorem dX9_limit_1 : decode cX9_limit 1 = .ok (.iload_n 1, 1) := by decide +kernel
theorem dX9_limit_2 : decode cX9_limit 2 = .ok (.invokevirtual 117, 3) := by decide +kernel
theorem dX9_limit_5 : decode cX9_limit 5 = .ok (.ifCond .eq 13, 3) := by decide +kernel
theorem dX9_limit_8 : decode cX9_limit 8 = .ok (.iload_n 2, 1) := by decide +kernel
theorem dX9_limit_9 : decode cX9_limit 9 = .ok (.iconst 0, 1) := by decide +kernel
theorem dX9_limit_10 : decode cX9_limit 10 = .ok (.bipush 99, 2) := by decide +kernel
theorem dX9_limit_12 : decode cX9_limit 12 = .ok (.invokestatic 90, 3) := by decide +kernel
theorem dX9_limit_15 : decode cX9_limit 15 = .ok (.ifCond .ne 5, 3) := by decide +kernel
theorem dX9_limit_18 : decode cX9_limit 18 = .ok (.iconst (-1), 1) := by decide +kernel
theorem dX9_limit_19 : decode cX9_limit 19 = .ok (.ireturn, 1) := by decide +kernel
theorem dX9_limit_20 : decode cX9_limit 20 = .ok (.aload_n 0, 1) := by decide +kernel
theorem dX9_limit_21 : decode cX9_limit 21 = .ok (.getfield 35, 3) := by decide +kernel
theorem dX9_limit_24 : decode cX9_limit 24 = .ok (.iload_n 1, 1) := by decide +kernel
theorem dX9_limit_25 : decode cX9_limit 25 = .ok (.iaload, 1) := by decide +kernel
theorem dX9_limit_26 : decode cX9_limit 26 = .ok (.istore_n 3, 1) := by decide +kernel
theorem dX9_limit_27 : decode cX9_limit 27 = .ok (.aload_n 0, 1) := by decide +kernel
theorem dX9_limit_28 : decode cX9_limit 28 = .ok (.getfield 35, 3) := by decide +kernel
theorem dX9_limit_31 : decode cX9_limit 31 = .ok (.iload_n 1, 1) := by decide +kernel
theorem dX9_limit_32 : decode cX9_limit 32 = .ok (.iload_n 2, 1) := by decide +kernel
theorem dX9_limit_33 : decode cX9_limit 33 = .ok (.iastore, 1) := by decide +kernel
theorem dX9_limit_34 : decode cX9_limit 34 = .ok (.iload_n 3, 1) := by decide +kernel
theorem dX9_limit_35 : decode cX9_limit 35 = .ok (.ireturn, 1) := by decide +kernel
theorem dX9_late_0 : decode cX9_late 0 = .ok (.aload_n 0, 1) := by decide +kernel
theorem dX9_late_1 : decode cX9_late 1 = .ok (.iload_n 1, 1) := by decide +kernel
theorem dX9_late_2 : decode cX9_late 2 = .ok (.invokevirtual 117, 3) := by decide +kernel
theorem dX9_late_5 : decode cX9_late 5 = .ok (.ifCond .ne 5, 3) := by decide +kernel
theorem dX9_late_8 : decode cX9_late 8 = .ok (.iconst (-1), 1) := by decide +kernel
theorem dX9_late_9 : decode cX9_late 9 = .ok (.ireturn, 1) := by decide +kernel
theorem dX9_late_10 : decode cX9_late 10 = .ok (.iconst 0, 1) := by decide +kernel
theorem dX9_late_11 : decode cX9_late 11 = .ok (.istore_n 2, 1) := by decide +kernel
theorem dX9_late_12 : decode cX9_late 12 = .ok (.aload_n 0, 1) := by decide +kernel
theorem dX9_late_13 : decode cX9_late 13 = .ok (.getfield 38, 3) := by decide +kernel
theorem dX9_late_16 : decode cX9_late 16 = .ok (.iload_n 2, 1) := by decide +kernel
theorem dX9_late_17 : decode cX9_late 17 = .ok (.iaload, 1) := by decide +kernel
theorem dX9_late_18 : decode cX9_late 18 = .ok (.iload_n 1, 1) := by decide +kernel
theorem dX9_late_19 : decode cX9_late 19 = .ok (.if_icmp .eq 9, 3) := by decide +kernel
theorem dX9_late_22 : decode cX9_late 22 = .ok (.iinc 2 1, 3) := by decide +kernel
theorem dX9_late_25 : decode cX9_late 25 = .ok (.goto (-13), 3) := by decide +kernel
theorem dX9_late_28 : decode cX9_late 28 = .ok (.iload_n 2, 1) := by decide +kernel
theorem dX9_late_29 : decode cX9_late 29 = .ok (.istore_n 3, 1) := by decide +kernel
theorem dX9_late_30 : decode cX9_late 30 = .ok (.iload_n 3, 1) := by decide +kernel
theorem dX9_late_31 : decode cX9_late 31 = .ok (.aload_n 0, 1) := by decide +kernel
theorem dX9_late_32 : decode cX9_late 32 = .ok (.getfield 94, 3) := by decide +kernel
theorem dX9_late_35 : decode cX9_late 35 = .ok (.iconst 1, 1) := by decide +kernel
theorem dX9_late_36 : decode cX9_late 36 = .ok (.isub, 1) := by decide +kernel
theorem dX9_late_37 : decode cX9_late 37 = .ok (.if_icmp .ge 23, 3) := by decide +kernel
theorem dX9_late_40 : decode cX9_late 40 = .ok (.aload_n 0, 1) := by decide +kernel
theorem dX9_late_41 : decode cX9_late 41 = .ok (.getfield 38, 3) := by decide +kernel
theorem dX9_late_44 : decode cX9_late 44 = .ok (.iload_n 3, 1) := by decide +kernel
theorem dX9_late_45 : decode cX9_late 45 = .ok (.aload_n 0, 1) := by decide +kernel
theorem dX9_late_46 : decode cX9_late 46 = .ok (.getfield 38, 3) := by decide +kernel
theorem dX9_late_49 : decode cX9_late 49 = .ok (.iload_n 3, 1) := by decide +kernel
theorem dX9_late_50 : decode cX9_late 50 = .ok (.iconst 1, 1) := by decide +kernel
theorem dX9_late_51 : decode cX9_late 51 = .ok (.iadd, 1) := by decide +kernel
theorem dX9_late_52 : decode cX9_late 52 = .ok (.iaload, 1) := by decide +kernel
theorem dX9_late_53 : decode cX9_late 53 = .ok (.iastore, 1) := by decide +kernel
theorem dX9_late_54 : decode cX9_late 54 = .ok (.iinc 3 1, 3) := by decide +kernel
theorem dX9_late_57 : decode cX9_late 57 = .ok (.goto (-27), 3) := by decide +kernel
theorem dX9_late_60 : decode cX9_late 60 = .ok (.aload_n 0, 1) := by decide +kernel
theorem dX9_late_61 : decode cX9_late 61 = .ok (.getfield 38, 3) := by decide +kernel
theorem dX9_late_64 : decode cX9_late 64 = .ok (.aload_n 0, 1) := by decide +kernel
theorem dX9_late_65 : decode cX9_late 65 = .ok (.getfield 94, 3) := by decide +kernel
theorem dX9_late_68 : decode cX9_late 68 = .ok (.iconst 1, 1) := by decide +kernel
theorem dX9_late_69 : decode cX9_late 69 = .ok (.isub, 1) := by decide +kernel
theorem dX9_late_70 : decode cX9_late 70 = .ok (.iload_n 1, 1) := by decide +kernel
theorem dX9_late_71 : decode cX9_late 71 = .ok (.iastore, 1) := by decide +kernel
theorem dX9_late_72 : decode cX9_late 72 = .ok (.aload_n 0, 1) := by decide +kernel
theorem dX9_late_73 : decode cX9_late 73 = .ok (.getfield 94, 3) := by decide +kernel
theorem dX9_late_76 : decode cX9_late 76 = .ok (.iconst 1, 1) := by decide +kernel
theorem dX9_late_77 : decode cX9_late 77 = .ok (.isub, 1) := by decide +kernel
theorem dX9_late_78 : decode cX9_late 78 = .ok (.iload_n 2, 1) := by decide +kernel
theorem dX9_late_79 : decode cX9_late 79 = .ok (.isub, 1) := by decide +kernel
theorem dX9_late_80 : decode cX9_late 80 = .ok (.ireturn, 1) := by decide +kernel
theorem dX9_mayIn_0 : decode cX9_mayIn 0 = .ok (.iload_n 3, 1) := by decide +kernel
theorem dX9_mayIn_1 : decode cX9_mayIn 1 = .ok (.aload_n 0, 1) := by decide +kernel
theorem dX9_mayIn_2 : decode cX9_mayIn 2 = .ok (.getfield 41, 3) := by decide +kernel
theorem dX9_mayIn_5 : decode cX9_mayIn 5 = .ok (.iload_n 2, 1) := by decide +kernel
theorem dX9_mayIn_6 : decode cX9_mayIn 6 = .ok (.iaload, 1) := by decide +kernel
theorem dX9_mayIn_7 : decode cX9_mayIn 7 = .ok (.aload_n 0, 1) := by decide +kernel
theorem dX9_mayIn_8 : decode cX9_mayIn 8 = .ok (.getfield 44, 3) := by decide +kernel
theorem dX9_mayIn_11 : decode cX9_mayIn 11 = .ok (.iload_n 2, 1) := by decide +kernel
theorem dX9_mayIn_12 : decode cX9_mayIn 12 = .ok (.iaload, 1) := by decide +kernel
theorem dX9_mayIn_13 : decode cX9_mayIn 13 = .ok (.invokestatic 120, 3) := by decide +kernel
theorem dX9_mayIn_16 : decode cX9_mayIn 16 = .ok (.ifCond .ne 7, 3) := by decide +kernel
theorem dX9_mayIn_19 : decode cX9_mayIn 19 = .ok (.iconst 1, 1) := by decide +kernel
theorem dX9_mayIn_20 : decode cX9_mayIn 20 = .ok (.goto 4, 3) := by decide +kernel
theorem dX9_mayIn_23 : decode cX9_mayIn 23 = .ok (.iconst 0, 1) := by decide +kernel
theorem dX9_mayIn_24 : decode cX9_mayIn 24 = .ok (.istore 4, 2) := by decide +kernel
theorem dX9_mayIn_26 : decode cX9_mayIn 26 = .ok (.iconst 0, 1) := by decide +kernel
theorem dX9_mayIn_27 : decode cX9_mayIn 27 = .ok (.istore 5, 2) := by decide +kernel
theorem dX9_mayIn_29 : decode cX9_mayIn 29 = .ok (.iload 5, 2) := by decide +kernel
theorem dX9_mayIn_31 : decode cX9_mayIn 31 = .ok (.iconst 3, 1) := by decide +kernel
theorem dX9_mayIn_32 : decode cX9_mayIn 32 = .ok (.if_icmp .ge 68, 3) := by decide +kernel
theorem dX9_mayIn_35 : decode cX9_mayIn 35 = .ok (.iconst 3, 1) := by decide +kernel
theorem dX9_mayIn_36 : decode cX9_mayIn 36 = .ok (.iload_n 2, 1) := by decide +kernel
theorem dX9_mayIn_37 : decode cX9_mayIn 37 = .ok (.imul, 1) := by decide +kernel
theorem dX9_mayIn_38 : decode cX9_mayIn 38 = .ok (.iload 5, 2) := by decide +kernel
theorem dX9_mayIn_40 : decode cX9_mayIn 40 = .ok (.iadd, 1) := by decide +kernel
theorem dX9_mayIn_41 : decode cX9_mayIn 41 = .ok (.istore 6, 2) := by decide +kernel
theorem dX9_mayIn_43 : decode cX9_mayIn 43 = .ok (.iload 4, 2) := by decide +kernel
theorem dX9_mayIn_45 : decode cX9_mayIn 45 = .ok (.ifCond .ne 42, 3) := by decide +kernel
theorem dX9_mayIn_48 : decode cX9_mayIn 48 = .ok (.aload_n 0, 1) := by decide +kernel
theorem dX9_mayIn_49 : decode cX9_mayIn 49 = .ok (.getfield 28, 3) := by decide +kernel
theorem dX9_mayIn_52 : decode cX9_mayIn 52 = .ok (.iconst 4, 1) := by decide +kernel
theorem dX9_mayIn_53 : decode cX9_mayIn 53 = .ok (.iload_n 1, 1) := by decide +kernel
theorem dX9_mayIn_54 : decode cX9_mayIn 54 = .ok (.imul, 1) := by decide +kernel
theorem dX9_mayIn_55 : decode cX9_mayIn 55 = .ok (.iload_n 2, 1) := by decide +kernel
theorem dX9_mayIn_56 : decode cX9_mayIn 56 = .ok (.iadd, 1) := by decide +kernel
theorem dX9_mayIn_57 : decode cX9_mayIn 57 = .ok (.iconst 3, 1) := by decide +kernel
theorem dX9_mayIn_58 : decode cX9_mayIn 58 = .ok (.imul, 1) := by decide +kernel
theorem dX9_mayIn_59 : decode cX9_mayIn 59 = .ok (.iload 5, 2) := by decide +kernel
theorem dX9_mayIn_61 : decode cX9_mayIn 61 = .ok (.iadd, 1) := by decide +kernel
theorem dX9_mayIn_62 : decode cX9_mayIn 62 = .ok (.baload, 1) := by decide +kernel
theorem dX9_mayIn_63 : decode cX9_mayIn 63 = .ok (.ifCond .eq 28, 3) := by decide +kernel
theorem dX9_mayIn_66 : decode cX9_mayIn 66 = .ok (.iload_n 3, 1) := by decide +kernel
theorem dX9_mayIn_67 : decode cX9_mayIn 67 = .ok (.aload_n 0, 1) := by decide +kernel
theorem dX9_mayIn_68 : decode cX9_mayIn 68 = .ok (.getfield 47, 3) := by decide +kernel
theorem dX9_mayIn_71 : decode cX9_mayIn 71 = .ok (.iload 6, 2) := by decide +kernel
theorem dX9_mayIn_73 : decode cX9_mayIn 73 = .ok (.iaload, 1) := by decide +kernel
theorem dX9_mayIn_74 : decode cX9_mayIn 74 = .ok (.aload_n 0, 1) := by decide +kernel
theorem dX9_mayIn_75 : decode cX9_mayIn 75 = .ok (.getfield 50, 3) := by decide +kernel
theorem dX9_mayIn_78 : decode cX9_mayIn 78 = .ok (.iload 6, 2) := by decide +kernel
theorem dX9_mayIn_80 : decode cX9_mayIn 80 = .ok (.iaload, 1) := by decide +kernel
theorem dX9_mayIn_81 : decode cX9_mayIn 81 = .ok (.invokestatic 120, 3) := by decide +kernel
theorem dX9_mayIn_84 : decode cX9_mayIn 84 = .ok (.ifCond .eq 7, 3) := by decide +kernel
theorem dX9_mayIn_87 : decode cX9_mayIn 87 = .ok (.iconst 1, 1) := by decide +kernel
theorem dX9_mayIn_88 : decode cX9_mayIn 88 = .ok (.goto 4, 3) := by decide +kernel
theorem dX9_mayIn_91 : decode cX9_mayIn 91 = .ok (.iconst 0, 1) := by decide +kernel
theorem dX9_mayIn_92 : decode cX9_mayIn 92 = .ok (.istore 4, 2) := by decide +kernel
theorem dX9_mayIn_94 : decode cX9_mayIn 94 = .ok (.iinc 5 1, 3) := by decide +kernel
theorem dX9_mayIn_97 : decode cX9_mayIn 97 = .ok (.goto (-68), 3) := by decide +kernel
theorem dX9_mayIn_100 : decode cX9_mayIn 100 = .ok (.iload 4, 2) := by decide +kernel
theorem dX9_mayIn_102 : decode cX9_mayIn 102 = .ok (.ifCond .eq 7, 3) := by decide +kernel
theorem dX9_mayIn_105 : decode cX9_mayIn 105 = .ok (.iconst 2, 1) := by decide +kernel
theorem dX9_mayIn_106 : decode cX9_mayIn 106 = .ok (.goto 21, 3) := by decide +kernel
theorem dX9_mayIn_109 : decode cX9_mayIn 109 = .ok (.aload_n 0, 1) := by decide +kernel
theorem dX9_mayIn_110 : decode cX9_mayIn 110 = .ok (.getfield 32, 3) := by decide +kernel
theorem dX9_mayIn_113 : decode cX9_mayIn 113 = .ok (.iconst 4, 1) := by decide +kernel
theorem dX9_mayIn_114 : decode cX9_mayIn 114 = .ok (.iload_n 1, 1) := by decide +kernel
theorem dX9_mayIn_115 : decode cX9_mayIn 115 = .ok (.imul, 1) := by decide +kernel
theorem dX9_mayIn_116 : decode cX9_mayIn 116 = .ok (.iload_n 2, 1) := by decide +kernel
theorem dX9_mayIn_117 : decode cX9_mayIn 117 = .ok (.iadd, 1) := by decide +kernel
theorem dX9_mayIn_118 : decode cX9_mayIn 118 = .ok (.iaload, 1) := by decide +kernel
theorem dX9_mayIn_119 : decode cX9_mayIn 119 = .ok (.ifCond .le 7, 3) := by decide +kernel
theorem dX9_mayIn_122 : decode cX9_mayIn 122 = .ok (.iconst 1, 1) := by decide +kernel
theorem dX9_mayIn_123 : decode cX9_mayIn 123 = .ok (.goto 4, 3) := by decide +kernel
theorem dX9_mayIn_126 : decode cX9_mayIn 126 = .ok (.iconst 0, 1) := by decide +kernel
theorem dX9_mayIn_127 : decode cX9_mayIn 127 = .ok (.ireturn, 1) := by decide +kernel
theorem dX9_may_0 : decode cX9_may 0 = .ok (.aload_n 0, 1) := by decide +kernel
theorem dX9_may_1 : decode cX9_may 1 = .ok (.iload_n 1, 1) := by decide +kernel
theorem dX9_may_2 : decode cX9_may 2 = .ok (.invokevirtual 117, 3) := by decide +kernel
theorem dX9_may_5 : decode cX9_may 5 = .ok (.ifCond .eq 33, 3) := by decide +kernel
theorem dX9_may_8 : decode cX9_may 8 = .ok (.aload_n 0, 1) := by decide +kernel
theorem dX9_may_9 : decode cX9_may 9 = .ok (.iload_n 2, 1) := by decide +kernel
theorem dX9_may_10 : decode cX9_may 10 = .ok (.invokevirtual 101, 3) := by decide +kernel
theorem dX9_may_13 : decode cX9_may 13 = .ok (.ifCond .eq 25, 3) := by decide +kernel
theorem dX9_may_16 : decode cX9_may 16 = .ok (.iload_n 3, 1) := by decide +kernel
theorem dX9_may_17 : decode cX9_may 17 = .ok (.invokestatic 107, 3) := by decide +kernel
theorem dX9_may_20 : decode cX9_may 20 = .ok (.ifCond .eq 18, 3) := by decide +kernel
theorem dX9_may_23 : decode cX9_may 23 = .ok (.aload_n 0, 1) := by decide +kernel
theorem dX9_may_24 : decode cX9_may 24 = .ok (.iload_n 1, 1) := by decide +kernel
theorem dX9_may_25 : decode cX9_may 25 = .ok (.aload_n 0, 1) := by decide +kernel
theorem dX9_may_26 : decode cX9_may 26 = .ok (.getfield 7, 3) := by decide +kernel
theorem dX9_may_29 : decode cX9_may 29 = .ok (.iload_n 2, 1) := by decide +kernel
theorem dX9_may_30 : decode cX9_may 30 = .ok (.iaload, 1) := by decide +kernel
theorem dX9_may_31 : decode cX9_may 31 = .ok (.iload_n 3, 1) := by decide +kernel
theorem dX9_may_32 : decode cX9_may 32 = .ok (.invokevirtual 123, 3) := by decide +kernel
theorem dX9_may_35 : decode cX9_may 35 = .ok (.goto 4, 3) := by decide +kernel
theorem dX9_may_38 : decode cX9_may 38 = .ok (.iconst (-1), 1) := by decide +kernel
theorem dX9_may_39 : decode cX9_may 39 = .ok (.ireturn, 1) := by decide +kernel
theorem dX9_begin_0 : decode cX9_begin 0 = .ok (.iconst 0, 1) := by decide +kernel
theorem dX9_begin_1 : decode cX9_begin 1 = .ok (.istore_n 3, 1) := by decide +kernel
theorem dX9_begin_2 : decode cX9_begin 2 = .ok (.iload_n 3, 1) := by decide +kernel
theorem dX9_begin_3 : decode cX9_begin 3 = .ok (.aload_n 0, 1) := by decide +kernel
theorem dX9_begin_4 : decode cX9_begin 4 = .ok (.getfield 87, 3) := by decide +kernel
theorem dX9_begin_7 : decode cX9_begin 7 = .ok (.if_icmp .ge 109, 3) := by decide +kernel
theorem dX9_begin_10 : decode cX9_begin 10 = .ok (.aload_n 0, 1) := by decide +kernel
theorem dX9_begin_11 : decode cX9_begin 11 = .ok (.getfield 81, 3) := by decide +kernel
theorem dX9_begin_14 : decode cX9_begin 14 = .ok (.iload_n 3, 1) := by decide +kernel
theorem dX9_begin_15 : decode cX9_begin 15 = .ok (.aload_n 0, 1) := by decide +kernel
theorem dX9_begin_16 : decode cX9_begin 16 = .ok (.getfield 13, 3) := by decide +kernel
theorem dX9_begin_19 : decode cX9_begin 19 = .ok (.iload_n 3, 1) := by decide +kernel
theorem dX9_begin_20 : decode cX9_begin 20 = .ok (.iaload, 1) := by decide +kernel
theorem dX9_begin_21 : decode cX9_begin 21 = .ok (.aload_n 0, 1) := by decide +kernel
theorem dX9_begin_22 : decode cX9_begin 22 = .ok (.getfield 16, 3) := by decide +kernel
theorem dX9_begin_25 : decode cX9_begin 25 = .ok (.bipush 7, 2) := by decide +kernel
theorem dX9_begin_27 : decode cX9_begin 27 = .ok (.iload_n 3, 1) := by decide +kernel
theorem dX9_begin_28 : decode cX9_begin 28 = .ok (.imul, 1) := by decide +kernel
theorem dX9_begin_29 : decode cX9_begin 29 = .ok (.iload_n 1, 1) := by decide +kernel
theorem dX9_begin_30 : decode cX9_begin 30 = .ok (.iadd, 1) := by decide +kernel
theorem dX9_begin_31 : decode cX9_begin 31 = .ok (.iaload, 1) := by decide +kernel
theorem dX9_begin_32 : decode cX9_begin 32 = .ok (.isub, 1) := by decide +kernel
theorem dX9_begin_33 : decode cX9_begin 33 = .ok (.iastore, 1) := by decide +kernel
theorem dX9_begin_34 : decode cX9_begin 34 = .ok (.iconst 0, 1) := by decide +kernel
theorem dX9_begin_35 : decode cX9_begin 35 = .ok (.istore 4, 2) := by decide +kernel
theorem dX9_begin_37 : decode cX9_begin 37 = .ok (.iload 4, 2) := by decide +kernel
theorem dX9_begin_39 : decode cX9_begin 39 = .ok (.aload_n 0, 1) := by decide +kernel
theorem dX9_begin_40 : decode cX9_begin 40 = .ok (.getfield 94, 3) := by decide +kernel
theorem dX9_begin_43 : decode cX9_begin 43 = .ok (.if_icmp .ge 67, 3) := by decide +kernel
theorem dX9_begin_46 : decode cX9_begin 46 = .ok (.aload_n 0, 1) := by decide +kernel
theorem dX9_begin_47 : decode cX9_begin 47 = .ok (.iload 4, 2) := by decide +kernel
theorem dX9_begin_49 : decode cX9_begin 49 = .ok (.aload_n 0, 1) := by decide +kernel
theorem dX9_begin_50 : decode cX9_begin 50 = .ok (.getfield 7, 3) := by decide +kernel
theorem dX9_begin_53 : decode cX9_begin 53 = .ok (.iload_n 3, 1) := by decide +kernel
theorem dX9_begin_54 : decode cX9_begin 54 = .ok (.iaload, 1) := by decide +kernel
theorem dX9_begin_55 : decode cX9_begin 55 = .ok (.iload_n 2, 1) := by decide +kernel
theorem dX9_begin_56 : decode cX9_begin 56 = .ok (.invokevirtual 123, 3) := by decide +kernel
theorem dX9_begin_59 : decode cX9_begin 59 = .ok (.istore 5, 2) := by decide +kernel
theorem dX9_begin_61 : decode cX9_begin 61 = .ok (.aload_n 0, 1) := by decide +kernel
theorem dX9_begin_62 : decode cX9_begin 62 = .ok (.getfield 84, 3) := by decide +kernel
theorem dX9_begin_65 : decode cX9_begin 65 = .ok (.iconst 5, 1) := by decide +kernel
theorem dX9_begin_66 : decode cX9_begin 66 = .ok (.iload 4, 2) := by decide +kernel
theorem dX9_begin_68 : decode cX9_begin 68 = .ok (.imul, 1) := by decide +kernel
theorem dX9_begin_69 : decode cX9_begin 69 = .ok (.iload_n 3, 1) := by decide +kernel
theorem dX9_begin_70 : decode cX9_begin 70 = .ok (.iadd, 1) := by decide +kernel
theorem dX9_begin_71 : decode cX9_begin 71 = .ok (.aload_n 0, 1) := by decide +kernel
theorem dX9_begin_72 : decode cX9_begin 72 = .ok (.getfield 19, 3) := by decide +kernel
theorem dX9_begin_75 : decode cX9_begin 75 = .ok (.iconst 5, 1) := by decide +kernel
theorem dX9_begin_76 : decode cX9_begin 76 = .ok (.aload_n 0, 1) := by decide +kernel
theorem dX9_begin_77 : decode cX9_begin 77 = .ok (.getfield 25, 3) := by decide +kernel
theorem dX9_begin_80 : decode cX9_begin 80 = .ok (.iload 4, 2) := by decide +kernel
theorem dX9_begin_82 : decode cX9_begin 82 = .ok (.iaload, 1) := by decide +kernel
theorem dX9_begin_83 : decode cX9_begin 83 = .ok (.imul, 1) := by decide +kernel
theorem dX9_begin_84 : decode cX9_begin 84 = .ok (.iload_n 3, 1) := by decide +kernel
theorem dX9_begin_85 : decode cX9_begin 85 = .ok (.iadd, 1) := by decide +kernel
theorem dX9_begin_86 : decode cX9_begin 86 = .ok (.iaload, 1) := by decide +kernel
theorem dX9_begin_87 : decode cX9_begin 87 = .ok (.aload_n 0, 1) := by decide +kernel
theorem dX9_begin_88 : decode cX9_begin 88 = .ok (.getfield 35, 3) := by decide +kernel
theorem dX9_begin_91 : decode cX9_begin 91 = .ok (.iload 4, 2) := by decide +kernel
theorem dX9_begin_93 : decode cX9_begin 93 = .ok (.iaload, 1) := by decide +kernel
theorem dX9_begin_94 : decode cX9_begin 94 = .ok (.if_icmp .le 7, 3) := by decide +kernel
theorem dX9_begin_97 : decode cX9_begin 97 = .ok (.iconst 0, 1) := by decide +kernel
theorem dX9_begin_98 : decode cX9_begin 98 = .ok (.goto 5, 3) := by decide +kernel
theorem dX9_begin_101 : decode cX9_begin 101 = .ok (.iload 5, 2) := by decide +kernel
theorem dX9_begin_103 : decode cX9_begin 103 = .ok (.iastore, 1) := by decide +kernel
theorem dX9_begin_104 : decode cX9_begin 104 = .ok (.iinc 4 1, 3) := by decide +kernel
theorem dX9_begin_107 : decode cX9_begin 107 = .ok (.goto (-70), 3) := by decide +kernel
theorem dX9_begin_110 : decode cX9_begin 110 = .ok (.iinc 3 1, 3) := by decide +kernel
theorem dX9_begin_113 : decode cX9_begin 113 = .ok (.goto (-111), 3) := by decide +kernel
theorem dX9_begin_116 : decode cX9_begin 116 = .ok (.return_, 1) := by decide +kernel
theorem dX9_parkOne_0 : decode cX9_parkOne 0 = .ok (.aload_n 0, 1) := by decide +kernel
theorem dX9_parkOne_1 : decode cX9_parkOne 1 = .ok (.getfield 87, 3) := by decide +kernel
theorem dX9_parkOne_4 : decode cX9_parkOne 4 = .ok (.istore_n 2, 1) := by decide +kernel
theorem dX9_parkOne_5 : decode cX9_parkOne 5 = .ok (.ldc 127, 2) := by decide +kernel
theorem dX9_parkOne_7 : decode cX9_parkOne 7 = .ok (.istore_n 3, 1) := by decide +kernel
theorem dX9_parkOne_8 : decode cX9_parkOne 8 = .ok (.iconst 0, 1) := by decide +kernel
theorem dX9_parkOne_9 : decode cX9_parkOne 9 = .ok (.istore 4, 2) := by decide +kernel
theorem dX9_parkOne_11 : decode cX9_parkOne 11 = .ok (.iload 4, 2) := by decide +kernel
theorem dX9_parkOne_13 : decode cX9_parkOne 13 = .ok (.aload_n 0, 1) := by decide +kernel
theorem dX9_parkOne_14 : decode cX9_parkOne 14 = .ok (.getfield 87, 3) := by decide +kernel
theorem dX9_parkOne_17 : decode cX9_parkOne 17 = .ok (.if_icmp .ge 81, 3) := by decide +kernel
theorem dX9_parkOne_20 : decode cX9_parkOne 20 = .ok (.aload_n 0, 1) := by decide +kernel
theorem dX9_parkOne_21 : decode cX9_parkOne 21 = .ok (.getfield 84, 3) := by decide +kernel
theorem dX9_parkOne_24 : decode cX9_parkOne 24 = .ok (.iconst 5, 1) := by decide +kernel
theorem dX9_parkOne_25 : decode cX9_parkOne 25 = .ok (.iload_n 1, 1) := by decide +kernel
theorem dX9_parkOne_26 : decode cX9_parkOne 26 = .ok (.imul, 1) := by decide +kernel
theorem dX9_parkOne_27 : decode cX9_parkOne 27 = .ok (.iload 4, 2) := by decide +kernel
theorem dX9_parkOne_29 : decode cX9_parkOne 29 = .ok (.iadd, 1) := by decide +kernel
theorem dX9_parkOne_30 : decode cX9_parkOne 30 = .ok (.iaload, 1) := by decide +kernel
theorem dX9_parkOne_31 : decode cX9_parkOne 31 = .ok (.istore 5, 2) := by decide +kernel
theorem dX9_parkOne_33 : decode cX9_parkOne 33 = .ok (.iconst 2, 1) := by decide +kernel
theorem dX9_parkOne_34 : decode cX9_parkOne 34 = .ok (.aload_n 0, 1) := by decide +kernel
theorem dX9_parkOne_35 : decode cX9_parkOne 35 = .ok (.getfield 19, 3) := by decide +kernel
theorem dX9_parkOne_38 : decode cX9_parkOne 38 = .ok (.iconst 5, 1) := by decide +kernel
theorem dX9_parkOne_39 : decode cX9_parkOne 39 = .ok (.aload_n 0, 1) := by decide +kernel
theorem dX9_parkOne_40 : decode cX9_parkOne 40 = .ok (.getfield 25, 3) := by decide +kernel
theorem dX9_parkOne_43 : decode cX9_parkOne 43 = .ok (.iload_n 1, 1) := by decide +kernel
theorem dX9_parkOne_44 : decode cX9_parkOne 44 = .ok (.iaload, 1) := by decide +kernel
theorem dX9_parkOne_45 : decode cX9_parkOne 45 = .ok (.imul, 1) := by decide +kernel
theorem dX9_parkOne_46 : decode cX9_parkOne 46 = .ok (.iload 4, 2) := by decide +kernel
theorem dX9_parkOne_48 : decode cX9_parkOne 48 = .ok (.iadd, 1) := by decide +kernel
theorem dX9_parkOne_49 : decode cX9_parkOne 49 = .ok (.iaload, 1) := by decide +kernel
theorem dX9_parkOne_50 : decode cX9_parkOne 50 = .ok (.imul, 1) := by decide +kernel
theorem dX9_parkOne_51 : decode cX9_parkOne 51 = .ok (.iload 5, 2) := by decide +kernel
theorem dX9_parkOne_53 : decode cX9_parkOne 53 = .ok (.iconst 2, 1) := by decide +kernel
theorem dX9_parkOne_54 : decode cX9_parkOne 54 = .ok (.if_icmp .ne 7, 3) := by decide +kernel
theorem dX9_parkOne_57 : decode cX9_parkOne 57 = .ok (.iconst 0, 1) := by decide +kernel
theorem dX9_parkOne_58 : decode cX9_parkOne 58 = .ok (.goto 4, 3) := by decide +kernel
theorem dX9_parkOne_61 : decode cX9_parkOne 61 = .ok (.iconst 1, 1) := by decide +kernel
theorem dX9_parkOne_62 : decode cX9_parkOne 62 = .ok (.iadd, 1) := by decide +kernel
theorem dX9_parkOne_63 : decode cX9_parkOne 63 = .ok (.istore 6, 2) := by decide +kernel
theorem dX9_parkOne_65 : decode cX9_parkOne 65 = .ok (.iload 5, 2) := by decide +kernel
theorem dX9_parkOne_67 : decode cX9_parkOne 67 = .ok (.ifCond .le 25, 3) := by decide +kernel
theorem dX9_parkOne_70 : decode cX9_parkOne 70 = .ok (.aload_n 0, 1) := by decide +kernel
theorem dX9_parkOne_71 : decode cX9_parkOne 71 = .ok (.getfield 81, 3) := by decide +kernel
theorem dX9_parkOne_74 : decode cX9_parkOne 74 = .ok (.iload 4, 2) := by decide +kernel
theorem dX9_parkOne_76 : decode cX9_parkOne 76 = .ok (.iaload, 1) := by decide +kernel
theorem dX9_parkOne_77 : decode cX9_parkOne 77 = .ok (.ifCond .le 15, 3) := by decide +kernel
theorem dX9_parkOne_80 : decode cX9_parkOne 80 = .ok (.iload 6, 2) := by decide +kernel
theorem dX9_parkOne_82 : decode cX9_parkOne 82 = .ok (.iload_n 3, 1) := by decide +kernel
theorem dX9_parkOne_83 : decode cX9_parkOne 83 = .ok (.if_icmp .ge 9, 3) := by decide +kernel
theorem dX9_parkOne_86 : decode cX9_parkOne 86 = .ok (.iload 6, 2) := by decide +kernel
theorem dX9_parkOne_88 : decode cX9_parkOne 88 = .ok (.istore_n 3, 1) := by decide +kernel
theorem dX9_parkOne_89 : decode cX9_parkOne 89 = .ok (.iload 4, 2) := by decide +kernel
theorem dX9_parkOne_91 : decode cX9_parkOne 91 = .ok (.istore_n 2, 1) := by decide +kernel
theorem dX9_parkOne_92 : decode cX9_parkOne 92 = .ok (.iinc 4 1, 3) := by decide +kernel
theorem dX9_parkOne_95 : decode cX9_parkOne 95 = .ok (.goto (-84), 3) := by decide +kernel
theorem dX9_parkOne_98 : decode cX9_parkOne 98 = .ok (.aload_n 0, 1) := by decide +kernel
theorem dX9_parkOne_99 : decode cX9_parkOne 99 = .ok (.getfield 78, 3) := by decide +kernel
theorem dX9_parkOne_102 : decode cX9_parkOne 102 = .ok (.iload_n 1, 1) := by decide +kernel
theorem dX9_parkOne_103 : decode cX9_parkOne 103 = .ok (.iload_n 2, 1) := by decide +kernel
theorem dX9_parkOne_104 : decode cX9_parkOne 104 = .ok (.iastore, 1) := by decide +kernel
theorem dX9_parkOne_105 : decode cX9_parkOne 105 = .ok (.iload_n 2, 1) := by decide +kernel
theorem dX9_parkOne_106 : decode cX9_parkOne 106 = .ok (.aload_n 0, 1) := by decide +kernel
theorem dX9_parkOne_107 : decode cX9_parkOne 107 = .ok (.getfield 87, 3) := by decide +kernel
theorem dX9_parkOne_110 : decode cX9_parkOne 110 = .ok (.if_icmp .ge 13, 3) := by decide +kernel
theorem dX9_parkOne_113 : decode cX9_parkOne 113 = .ok (.aload_n 0, 1) := by decide +kernel
theorem dX9_parkOne_114 : decode cX9_parkOne 114 = .ok (.getfield 81, 3) := by decide +kernel
theorem dX9_parkOne_117 : decode cX9_parkOne 117 = .ok (.iload_n 2, 1) := by decide +kernel
theorem dX9_parkOne_118 : decode cX9_parkOne 118 = .ok (.dup2, 1) := by decide +kernel
theorem dX9_parkOne_119 : decode cX9_parkOne 119 = .ok (.iaload, 1) := by decide +kernel
theorem dX9_parkOne_120 : decode cX9_parkOne 120 = .ok (.iconst 1, 1) := by decide +kernel
theorem dX9_parkOne_121 : decode cX9_parkOne 121 = .ok (.isub, 1) := by decide +kernel
theorem dX9_parkOne_122 : decode cX9_parkOne 122 = .ok (.iastore, 1) := by decide +kernel
theorem dX9_parkOne_123 : decode cX9_parkOne 123 = .ok (.return_, 1) := by decide +kernel
theorem dX9_parkNight_0 : decode cX9_parkNight 0 = .ok (.aload_n 0, 1) := by decide +kernel
theorem dX9_parkNight_1 : decode cX9_parkNight 1 = .ok (.iload_n 1, 1) := by decide +kernel
theorem dX9_parkNight_2 : decode cX9_parkNight 2 = .ok (.iload_n 2, 1) := by decide +kernel
theorem dX9_parkNight_3 : decode cX9_parkNight 3 = .ok (.invokevirtual 128, 3) := by decide +kernel
theorem dX9_parkNight_6 : decode cX9_parkNight 6 = .ok (.iconst 0, 1) := by decide +kernel
theorem dX9_parkNight_7 : decode cX9_parkNight 7 = .ok (.istore_n 3, 1) := by decide +kernel
theorem dX9_parkNight_8 : decode cX9_parkNight 8 = .ok (.iload_n 3, 1) := by decide +kernel
theorem dX9_parkNight_9 : decode cX9_parkNight 9 = .ok (.aload_n 0, 1) := by decide +kernel
theorem dX9_parkNight_10 : decode cX9_parkNight 10 = .ok (.getfield 94, 3) := by decide +kernel
theorem dX9_parkNight_13 : decode cX9_parkNight 13 = .ok (.if_icmp .ge 19, 3) := by decide +kernel
theorem dX9_parkNight_16 : decode cX9_parkNight 16 = .ok (.aload_n 0, 1) := by decide +kernel
theorem dX9_parkNight_17 : decode cX9_parkNight 17 = .ok (.aload_n 0, 1) := by decide +kernel
theorem dX9_parkNight_18 : decode cX9_parkNight 18 = .ok (.getfield 38, 3) := by decide +kernel
theorem dX9_parkNight_21 : decode cX9_parkNight 21 = .ok (.iload_n 3, 1) := by decide +kernel
theorem dX9_parkNight_22 : decode cX9_parkNight 22 = .ok (.iaload, 1) := by decide +kernel
theorem dX9_parkNight_23 : decode cX9_parkNight 23 = .ok (.invokevirtual 132, 3) := by decide +kernel
theorem dX9_parkNight_26 : decode cX9_parkNight 26 = .ok (.iinc 3 1, 3) := by decide +kernel
theorem dX9_parkNight_29 : decode cX9_parkNight 29 = .ok (.goto (-21), 3) := by decide +kernel
theorem dX9_parkNight_32 : decode cX9_parkNight 32 = .ok (.return_, 1) := by decide +kernel
theorem dX9_costOf_0 : decode cX9_costOf 0 = .ok (.iload_n 2, 1) := by decide +kernel
theorem dX9_costOf_1 : decode cX9_costOf 1 = .ok (.aload_n 0, 1) := by decide +kernel
theorem dX9_costOf_2 : decode cX9_costOf 2 = .ok (.getfield 87, 3) := by decide +kernel
theorem dX9_costOf_5 : decode cX9_costOf 5 = .ok (.if_icmp .ne 9, 3) := by decide +kernel
theorem dX9_costOf_8 : decode cX9_costOf 8 = .ok (.sipush 10000, 3) := by decide +kernel
theorem dX9_costOf_11 : decode cX9_costOf 11 = .ok (.goto 18, 3) := by decide +kernel
theorem dX9_costOf_14 : decode cX9_costOf 14 = .ok (.aload_n 0, 1) := by decide +kernel
theorem dX9_costOf_15 : decode cX9_costOf 15 = .ok (.getfield 19, 3) := by decide +kernel
theorem dX9_costOf_18 : decode cX9_costOf 18 = .ok (.iconst 5, 1) := by decide +kernel
theorem dX9_costOf_19 : decode cX9_costOf 19 = .ok (.aload_n 0, 1) := by decide +kernel
theorem dX9_costOf_20 : decode cX9_costOf 20 = .ok (.getfield 25, 3) := by decide +kernel
theorem dX9_costOf_23 : decode cX9_costOf 23 = .ok (.iload_n 1, 1) := by decide +kernel
theorem dX9_costOf_24 : decode cX9_costOf 24 = .ok (.iaload, 1) := by decide +kernel
theorem dX9_costOf_25 : decode cX9_costOf 25 = .ok (.imul, 1) := by decide +kernel
theorem dX9_costOf_26 : decode cX9_costOf 26 = .ok (.iload_n 2, 1) := by decide +kernel
theorem dX9_costOf_27 : decode cX9_costOf 27 = .ok (.iadd, 1) := by decide +kernel
theorem dX9_costOf_28 : decode cX9_costOf 28 = .ok (.iaload, 1) := by decide +kernel
theorem dX9_costOf_29 : decode cX9_costOf 29 = .ok (.ireturn, 1) := by decide +kernel
theorem dX9_mayTake_0 : decode cX9_mayTake 0 = .ok (.iload_n 2, 1) := by decide +kernel
theorem dX9_mayTake_1 : decode cX9_mayTake 1 = .ok (.aload_n 0, 1) := by decide +kernel
theorem dX9_mayTake_2 : decode cX9_mayTake 2 = .ok (.getfield 87, 3) := by decide +kernel
theorem dX9_mayTake_5 : decode cX9_mayTake 5 = .ok (.if_icmp .eq 25, 3) := by decide +kernel
theorem dX9_mayTake_8 : decode cX9_mayTake 8 = .ok (.aload_n 0, 1) := by decide +kernel
theorem dX9_mayTake_9 : decode cX9_mayTake 9 = .ok (.getfield 84, 3) := by decide +kernel
theorem dX9_mayTake_12 : decode cX9_mayTake 12 = .ok (.iconst 5, 1) := by decide +kernel
theorem dX9_mayTake_13 : decode cX9_mayTake 13 = .ok (.iload_n 1, 1) := by decide +kernel
theorem dX9_mayTake_14 : decode cX9_mayTake 14 = .ok (.imul, 1) := by decide +kernel
theorem dX9_mayTake_15 : decode cX9_mayTake 15 = .ok (.iload_n 2, 1) := by decide +kernel
theorem dX9_mayTake_16 : decode cX9_mayTake 16 = .ok (.iadd, 1) := by decide +kernel
theorem dX9_mayTake_17 : decode cX9_mayTake 17 = .ok (.iaload, 1) := by decide +kernel
theorem dX9_mayTake_18 : decode cX9_mayTake 18 = .ok (.ifCond .le 16, 3) := by decide +kernel
theorem dX9_mayTake_21 : decode cX9_mayTake 21 = .ok (.aload_n 0, 1) := by decide +kernel
theorem dX9_mayTake_22 : decode cX9_mayTake 22 = .ok (.getfield 81, 3) := by decide +kernel
theorem dX9_mayTake_25 : decode cX9_mayTake 25 = .ok (.iload_n 2, 1) := by decide +kernel
theorem dX9_mayTake_26 : decode cX9_mayTake 26 = .ok (.iaload, 1) := by decide +kernel
theorem dX9_mayTake_27 : decode cX9_mayTake 27 = .ok (.ifCond .le 7, 3) := by decide +kernel
theorem dX9_mayTake_30 : decode cX9_mayTake 30 = .ok (.iconst 1, 1) := by decide +kernel
theorem dX9_mayTake_31 : decode cX9_mayTake 31 = .ok (.goto 4, 3) := by decide +kernel
theorem dX9_mayTake_34 : decode cX9_mayTake 34 = .ok (.iconst 0, 1) := by decide +kernel
theorem dX9_mayTake_35 : decode cX9_mayTake 35 = .ok (.ireturn, 1) := by decide +kernel
theorem dX9_parkLeast_0 : decode cX9_parkLeast 0 = .ok (.aload_n 0, 1) := by decide +kernel
theorem dX9_parkLeast_1 : decode cX9_parkLeast 1 = .ok (.iload_n 1, 1) := by decide +kernel
theorem dX9_parkLeast_2 : decode cX9_parkLeast 2 = .ok (.iload_n 2, 1) := by decide +kernel
theorem dX9_parkLeast_3 : decode cX9_parkLeast 3 = .ok (.invokevirtual 128, 3) := by decide +kernel
theorem dX9_parkLeast_6 : decode cX9_parkLeast 6 = .ok (.ldc 127, 2) := by decide +kernel
theorem dX9_parkLeast_8 : decode cX9_parkLeast 8 = .ok (.istore_n 3, 1) := by decide +kernel
theorem dX9_parkLeast_9 : decode cX9_parkLeast 9 = .ok (.iconst 0, 1) := by decide +kernel
theorem dX9_parkLeast_10 : decode cX9_parkLeast 10 = .ok (.istore 4, 2) := by decide +kernel
theorem dX9_parkLeast_12 : decode cX9_parkLeast 12 = .ok (.iconst 0, 1) := by decide +kernel
theorem dX9_parkLeast_13 : decode cX9_parkLeast 13 = .ok (.istore 5, 2) := by decide +kernel
theorem dX9_parkLeast_15 : decode cX9_parkLeast 15 = .ok (.aload_n 0, 1) := by decide +kernel
theorem dX9_parkLeast_16 : decode cX9_parkLeast 16 = .ok (.getfield 75, 3) := by decide +kernel
theorem dX9_parkLeast_19 : decode cX9_parkLeast 19 = .ok (.iconst 0, 1) := by decide +kernel
theorem dX9_parkLeast_20 : decode cX9_parkLeast 20 = .ok (.iconst (-1), 1) := by decide +kernel
theorem dX9_parkLeast_21 : decode cX9_parkLeast 21 = .ok (.iastore, 1) := by decide +kernel
theorem dX9_parkLeast_22 : decode cX9_parkLeast 22 = .ok (.iload 5, 2) := by decide +kernel
theorem dX9_parkLeast_24 : decode cX9_parkLeast 24 = .ok (.ifCond .lt 285, 3) := by decide +kernel
theorem dX9_parkLeast_27 : decode cX9_parkLeast 27 = .ok (.iload 5, 2) := by decide +kernel
theorem dX9_parkLeast_29 : decode cX9_parkLeast 29 = .ok (.aload_n 0, 1) := by decide +kernel
theorem dX9_parkLeast_30 : decode cX9_parkLeast 30 = .ok (.getfield 94, 3) := by decide +kernel
theorem dX9_parkLeast_33 : decode cX9_parkLeast 33 = .ok (.if_icmp .ne 44, 3) := by decide +kernel
theorem dX9_parkLeast_36 : decode cX9_parkLeast 36 = .ok (.iload 4, 2) := by decide +kernel
theorem dX9_parkLeast_38 : decode cX9_parkLeast 38 = .ok (.istore_n 3, 1) := by decide +kernel
theorem dX9_parkLeast_39 : decode cX9_parkLeast 39 = .ok (.iconst 0, 1) := by decide +kernel
theorem dX9_parkLeast_40 : decode cX9_parkLeast 40 = .ok (.istore 6, 2) := by decide +kernel
theorem dX9_parkLeast_42 : decode cX9_parkLeast 42 = .ok (.iload 6, 2) := by decide +kernel
theorem dX9_parkLeast_44 : decode cX9_parkLeast 44 = .ok (.aload_n 0, 1) := by decide +kernel
theorem dX9_parkLeast_45 : decode cX9_parkLeast 45 = .ok (.getfield 94, 3) := by decide +kernel
theorem dX9_parkLeast_48 : decode cX9_parkLeast 48 = .ok (.if_icmp .ge 23, 3) := by decide +kernel
theorem dX9_parkLeast_51 : decode cX9_parkLeast 51 = .ok (.aload_n 0, 1) := by decide +kernel
theorem dX9_parkLeast_52 : decode cX9_parkLeast 52 = .ok (.getfield 78, 3) := by decide +kernel
theorem dX9_parkLeast_55 : decode cX9_parkLeast 55 = .ok (.iload 6, 2) := by decide +kernel
theorem dX9_parkLeast_57 : decode cX9_parkLeast 57 = .ok (.aload_n 0, 1) := by decide +kernel
theorem dX9_parkLeast_58 : decode cX9_parkLeast 58 = .ok (.getfield 75, 3) := by decide +kernel
theorem dX9_parkLeast_61 : decode cX9_parkLeast 61 = .ok (.iload 6, 2) := by decide +kernel
theorem dX9_parkLeast_63 : decode cX9_parkLeast 63 = .ok (.iaload, 1) := by decide +kernel
theorem dX9_parkLeast_64 : decode cX9_parkLeast 64 = .ok (.iastore, 1) := by decide +kernel
theorem dX9_parkLeast_65 : decode cX9_parkLeast 65 = .ok (.iinc 6 1, 3) := by decide +kernel
theorem dX9_parkLeast_68 : decode cX9_parkLeast 68 = .ok (.goto (-26), 3) := by decide +kernel
theorem dX9_parkLeast_71 : decode cX9_parkLeast 71 = .ok (.iinc 5 (-1), 3) := by decide +kernel
theorem dX9_parkLeast_74 : decode cX9_parkLeast 74 = .ok (.goto (-52), 3) := by decide +kernel
theorem dX9_parkLeast_77 : decode cX9_parkLeast 77 = .ok (.aload_n 0, 1) := by decide +kernel
theorem dX9_parkLeast_78 : decode cX9_parkLeast 78 = .ok (.getfield 75, 3) := by decide +kernel
theorem dX9_parkLeast_81 : decode cX9_parkLeast 81 = .ok (.iload 5, 2) := by decide +kernel
theorem dX9_parkLeast_83 : decode cX9_parkLeast 83 = .ok (.iaload, 1) := by decide +kernel
theorem dX9_parkLeast_84 : decode cX9_parkLeast 84 = .ok (.ifCond .lt 51, 3) := by decide +kernel
theorem dX9_parkLeast_87 : decode cX9_parkLeast 87 = .ok (.iload 4, 2) := by decide +kernel
theorem dX9_parkLeast_89 : decode cX9_parkLeast 89 = .ok (.aload_n 0, 1) := by decide +kernel
theorem dX9_parkLeast_90 : decode cX9_parkLeast 90 = .ok (.iload 5, 2) := by decide +kernel
theorem dX9_parkLeast_92 : decode cX9_parkLeast 92 = .ok (.aload_n 0, 1) := by decide +kernel
theorem dX9_parkLeast_93 : decode cX9_parkLeast 93 = .ok (.getfield 75, 3) := by decide +kernel
theorem dX9_parkLeast_96 : decode cX9_parkLeast 96 = .ok (.iload 5, 2) := by decide +kernel
theorem dX9_parkLeast_98 : decode cX9_parkLeast 98 = .ok (.iaload, 1) := by decide +kernel
theorem dX9_parkLeast_99 : decode cX9_parkLeast 99 = .ok (.invokevirtual 136, 3) := by decide +kernel
theorem dX9_parkLeast_102 : decode cX9_parkLeast 102 = .ok (.isub, 1) := by decide +kernel
theorem dX9_parkLeast_103 : decode cX9_parkLeast 103 = .ok (.istore 4, 2) := by decide +kernel
theorem dX9_parkLeast_105 : decode cX9_parkLeast 105 = .ok (.aload_n 0, 1) := by decide +kernel
theorem dX9_parkLeast_106 : decode cX9_parkLeast 106 = .ok (.getfield 75, 3) := by decide +kernel
theorem dX9_parkLeast_109 : decode cX9_parkLeast 109 = .ok (.iload 5, 2) := by decide +kernel
theorem dX9_parkLeast_111 : decode cX9_parkLeast 111 = .ok (.iaload, 1) := by decide +kernel
theorem dX9_parkLeast_112 : decode cX9_parkLeast 112 = .ok (.aload_n 0, 1) := by decide +kernel
theorem dX9_parkLeast_113 : decode cX9_parkLeast 113 = .ok (.getfield 87, 3) := by decide +kernel
theorem dX9_parkLeast_116 : decode cX9_parkLeast 116 = .ok (.if_icmp .ge 19, 3) := by decide +kernel
theorem dX9_parkLeast_119 : decode cX9_parkLeast 119 = .ok (.aload_n 0, 1) := by decide +kernel
theorem dX9_parkLeast_120 : decode cX9_parkLeast 120 = .ok (.getfield 81, 3) := by decide +kernel
theorem dX9_parkLeast_123 : decode cX9_parkLeast 123 = .ok (.aload_n 0, 1) := by decide +kernel
theorem dX9_parkLeast_124 : decode cX9_parkLeast 124 = .ok (.getfield 75, 3) := by decide +kernel
theorem dX9_parkLeast_127 : decode cX9_parkLeast 127 = .ok (.iload 5, 2) := by decide +kernel
theorem dX9_parkLeast_129 : decode cX9_parkLeast 129 = .ok (.iaload, 1) := by decide +kernel
theorem dX9_parkLeast_130 : decode cX9_parkLeast 130 = .ok (.dup2, 1) := by decide +kernel
theorem dX9_parkLeast_131 : decode cX9_parkLeast 131 = .ok (.iaload, 1) := by decide +kernel
theorem dX9_parkLeast_132 : decode cX9_parkLeast 132 = .ok (.iconst 1, 1) := by decide +kernel
theorem dX9_parkLeast_133 : decode cX9_parkLeast 133 = .ok (.iadd, 1) := by decide +kernel
theorem dX9_parkLeast_134 : decode cX9_parkLeast 134 = .ok (.iastore, 1) := by decide +kernel
theorem dX9_parkLeast_135 : decode cX9_parkLeast 135 = .ok (.aload_n 0, 1) := by decide +kernel
theorem dX9_parkLeast_136 : decode cX9_parkLeast 136 = .ok (.getfield 75, 3) := by decide +kernel
theorem dX9_parkLeast_139 : decode cX9_parkLeast 139 = .ok (.iload 5, 2) := by decide +kernel
theorem dX9_parkLeast_141 : decode cX9_parkLeast 141 = .ok (.dup2, 1) := by decide +kernel
theorem dX9_parkLeast_142 : decode cX9_parkLeast 142 = .ok (.iaload, 1) := by decide +kernel
theorem dX9_parkLeast_143 : decode cX9_parkLeast 143 = .ok (.iconst 1, 1) := by decide +kernel
theorem dX9_parkLeast_144 : decode cX9_parkLeast 144 = .ok (.iadd, 1) := by decide +kernel
theorem dX9_parkLeast_145 : decode cX9_parkLeast 145 = .ok (.iastore, 1) := by decide +kernel
theorem dX9_parkLeast_146 : decode cX9_parkLeast 146 = .ok (.aload_n 0, 1) := by decide +kernel
theorem dX9_parkLeast_147 : decode cX9_parkLeast 147 = .ok (.getfield 75, 3) := by decide +kernel
theorem dX9_parkLeast_150 : decode cX9_parkLeast 150 = .ok (.iload 5, 2) := by decide +kernel
theorem dX9_parkLeast_152 : decode cX9_parkLeast 152 = .ok (.iaload, 1) := by decide +kernel
theorem dX9_parkLeast_153 : decode cX9_parkLeast 153 = .ok (.aload_n 0, 1) := by decide +kernel
theorem dX9_parkLeast_154 : decode cX9_parkLeast 154 = .ok (.getfield 87, 3) := by decide +kernel
theorem dX9_parkLeast_157 : decode cX9_parkLeast 157 = .ok (.if_icmp .gt 53, 3) := by decide +kernel
theorem dX9_parkLeast_160 : decode cX9_parkLeast 160 = .ok (.aload_n 0, 1) := by decide +kernel
theorem dX9_parkLeast_161 : decode cX9_parkLeast 161 = .ok (.iload 5, 2) := by decide +kernel
theorem dX9_parkLeast_163 : decode cX9_parkLeast 163 = .ok (.aload_n 0, 1) := by decide +kernel
theorem dX9_parkLeast_164 : decode cX9_parkLeast 164 = .ok (.getfield 75, 3) := by decide +kernel
theorem dX9_parkLeast_167 : decode cX9_parkLeast 167 = .ok (.iload 5, 2) := by decide +kernel
theorem dX9_parkLeast_169 : decode cX9_parkLeast 169 = .ok (.iaload, 1) := by decide +kernel
theorem dX9_parkLeast_170 : decode cX9_parkLeast 170 = .ok (.invokevirtual 140, 3) := by decide +kernel
theorem dX9_parkLeast_173 : decode cX9_parkLeast 173 = .ok (.ifCond .eq 23, 3) := by decide +kernel
theorem dX9_parkLeast_176 : decode cX9_parkLeast 176 = .ok (.iload 4, 2) := by decide +kernel
theorem dX9_parkLeast_178 : decode cX9_parkLeast 178 = .ok (.aload_n 0, 1) := by decide +kernel
theorem dX9_parkLeast_179 : decode cX9_parkLeast 179 = .ok (.iload 5, 2) := by decide +kernel
theorem dX9_parkLeast_181 : decode cX9_parkLeast 181 = .ok (.aload_n 0, 1) := by decide +kernel
theorem dX9_parkLeast_182 : decode cX9_parkLeast 182 = .ok (.getfield 75, 3) := by decide +kernel
theorem dX9_parkLeast_185 : decode cX9_parkLeast 185 = .ok (.iload 5, 2) := by decide +kernel
theorem dX9_parkLeast_187 : decode cX9_parkLeast 187 = .ok (.iaload, 1) := by decide +kernel
theorem dX9_parkLeast_188 : decode cX9_parkLeast 188 = .ok (.invokevirtual 136, 3) := by decide +kernel
theorem dX9_parkLeast_191 : decode cX9_parkLeast 191 = .ok (.iadd, 1) := by decide +kernel
theorem dX9_parkLeast_192 : decode cX9_parkLeast 192 = .ok (.iload_n 3, 1) := by decide +kernel
theorem dX9_parkLeast_193 : decode cX9_parkLeast 193 = .ok (.if_icmp .lt 17, 3) := by decide +kernel
theorem dX9_parkLeast_196 : decode cX9_parkLeast 196 = .ok (.aload_n 0, 1) := by decide +kernel
theorem dX9_parkLeast_197 : decode cX9_parkLeast 197 = .ok (.getfield 75, 3) := by decide +kernel
theorem dX9_parkLeast_200 : decode cX9_parkLeast 200 = .ok (.iload 5, 2) := by decide +kernel
theorem dX9_parkLeast_202 : decode cX9_parkLeast 202 = .ok (.dup2, 1) := by decide +kernel
theorem dX9_parkLeast_203 : decode cX9_parkLeast 203 = .ok (.iaload, 1) := by decide +kernel
theorem dX9_parkLeast_204 : decode cX9_parkLeast 204 = .ok (.iconst 1, 1) := by decide +kernel
theorem dX9_parkLeast_205 : decode cX9_parkLeast 205 = .ok (.iadd, 1) := by decide +kernel
theorem dX9_parkLeast_206 : decode cX9_parkLeast 206 = .ok (.iastore, 1) := by decide +kernel
theorem dX9_parkLeast_207 : decode cX9_parkLeast 207 = .ok (.goto (-61), 3) := by decide +kernel
theorem dX9_parkLeast_210 : decode cX9_parkLeast 210 = .ok (.aload_n 0, 1) := by decide +kernel
theorem dX9_parkLeast_211 : decode cX9_parkLeast 211 = .ok (.getfield 75, 3) := by decide +kernel
theorem dX9_parkLeast_214 : decode cX9_parkLeast 214 = .ok (.iload 5, 2) := by decide +kernel
theorem dX9_parkLeast_216 : decode cX9_parkLeast 216 = .ok (.iaload, 1) := by decide +kernel
theorem dX9_parkLeast_217 : decode cX9_parkLeast 217 = .ok (.aload_n 0, 1) := by decide +kernel
theorem dX9_parkLeast_218 : decode cX9_parkLeast 218 = .ok (.getfield 87, 3) := by decide +kernel
theorem dX9_parkLeast_221 : decode cX9_parkLeast 221 = .ok (.if_icmp .le 17, 3) := by decide +kernel
theorem dX9_parkLeast_224 : decode cX9_parkLeast 224 = .ok (.aload_n 0, 1) := by decide +kernel
theorem dX9_parkLeast_225 : decode cX9_parkLeast 225 = .ok (.getfield 75, 3) := by decide +kernel
theorem dX9_parkLeast_228 : decode cX9_parkLeast 228 = .ok (.iload 5, 2) := by decide +kernel
theorem dX9_parkLeast_230 : decode cX9_parkLeast 230 = .ok (.iconst (-1), 1) := by decide +kernel
theorem dX9_parkLeast_231 : decode cX9_parkLeast 231 = .ok (.iastore, 1) := by decide +kernel
theorem dX9_parkLeast_232 : decode cX9_parkLeast 232 = .ok (.iinc 5 (-1), 3) := by decide +kernel
theorem dX9_parkLeast_235 : decode cX9_parkLeast 235 = .ok (.goto (-213), 3) := by decide +kernel
theorem dX9_parkLeast_238 : decode cX9_parkLeast 238 = .ok (.iload 4, 2) := by decide +kernel
theorem dX9_parkLeast_240 : decode cX9_parkLeast 240 = .ok (.aload_n 0, 1) := by decide +kernel
theorem dX9_parkLeast_241 : decode cX9_parkLeast 241 = .ok (.iload 5, 2) := by decide +kernel
theorem dX9_parkLeast_243 : decode cX9_parkLeast 243 = .ok (.aload_n 0, 1) := by decide +kernel
theorem dX9_parkLeast_244 : decode cX9_parkLeast 244 = .ok (.getfield 75, 3) := by decide +kernel
theorem dX9_parkLeast_247 : decode cX9_parkLeast 247 = .ok (.iload 5, 2) := by decide +kernel
theorem dX9_parkLeast_249 : decode cX9_parkLeast 249 = .ok (.iaload, 1) := by decide +kernel
theorem dX9_parkLeast_250 : decode cX9_parkLeast 250 = .ok (.invokevirtual 136, 3) := by decide +kernel
theorem dX9_parkLeast_253 : decode cX9_parkLeast 253 = .ok (.iadd, 1) := by decide +kernel
theorem dX9_parkLeast_254 : decode cX9_parkLeast 254 = .ok (.istore 4, 2) := by decide +kernel
theorem dX9_parkLeast_256 : decode cX9_parkLeast 256 = .ok (.aload_n 0, 1) := by decide +kernel
theorem dX9_parkLeast_257 : decode cX9_parkLeast 257 = .ok (.getfield 75, 3) := by decide +kernel
theorem dX9_parkLeast_260 : decode cX9_parkLeast 260 = .ok (.iload 5, 2) := by decide +kernel
theorem dX9_parkLeast_262 : decode cX9_parkLeast 262 = .ok (.iaload, 1) := by decide +kernel
theorem dX9_parkLeast_263 : decode cX9_parkLeast 263 = .ok (.aload_n 0, 1) := by decide +kernel
theorem dX9_parkLeast_264 : decode cX9_parkLeast 264 = .ok (.getfield 87, 3) := by decide +kernel
theorem dX9_parkLeast_267 : decode cX9_parkLeast 267 = .ok (.if_icmp .ge 19, 3) := by decide +kernel
theorem dX9_parkLeast_270 : decode cX9_parkLeast 270 = .ok (.aload_n 0, 1) := by decide +kernel
theorem dX9_parkLeast_271 : decode cX9_parkLeast 271 = .ok (.getfield 81, 3) := by decide +kernel
theorem dX9_parkLeast_274 : decode cX9_parkLeast 274 = .ok (.aload_n 0, 1) := by decide +kernel
theorem dX9_parkLeast_275 : decode cX9_parkLeast 275 = .ok (.getfield 75, 3) := by decide +kernel
theorem dX9_parkLeast_278 : decode cX9_parkLeast 278 = .ok (.iload 5, 2) := by decide +kernel
theorem dX9_parkLeast_280 : decode cX9_parkLeast 280 = .ok (.iaload, 1) := by decide +kernel
theorem dX9_parkLeast_281 : decode cX9_parkLeast 281 = .ok (.dup2, 1) := by decide +kernel
theorem dX9_parkLeast_282 : decode cX9_parkLeast 282 = .ok (.iaload, 1) := by decide +kernel
theorem dX9_parkLeast_283 : decode cX9_parkLeast 283 = .ok (.iconst 1, 1) := by decide +kernel
theorem dX9_parkLeast_284 : decode cX9_parkLeast 284 = .ok (.isub, 1) := by decide +kernel
theorem dX9_parkLeast_285 : decode cX9_parkLeast 285 = .ok (.iastore, 1) := by decide +kernel
theorem dX9_parkLeast_286 : decode cX9_parkLeast 286 = .ok (.iinc 5 1, 3) := by decide +kernel
theorem dX9_parkLeast_289 : decode cX9_parkLeast 289 = .ok (.iload 5, 2) := by decide +kernel
theorem dX9_parkLeast_291 : decode cX9_parkLeast 291 = .ok (.aload_n 0, 1) := by decide +kernel
theorem dX9_parkLeast_292 : decode cX9_parkLeast 292 = .ok (.getfield 94, 3) := by decide +kernel
theorem dX9_parkLeast_295 : decode cX9_parkLeast 295 = .ok (.if_icmp .ge (-273), 3) := by decide +kernel
theorem dX9_parkLeast_298 : decode cX9_parkLeast 298 = .ok (.aload_n 0, 1) := by decide +kernel
theorem dX9_parkLeast_299 : decode cX9_parkLeast 299 = .ok (.getfield 75, 3) := by decide +kernel
theorem dX9_parkLeast_302 : decode cX9_parkLeast 302 = .ok (.iload 5, 2) := by decide +kernel
theorem dX9_parkLeast_304 : decode cX9_parkLeast 304 = .ok (.iconst (-1), 1) := by decide +kernel
theorem dX9_parkLeast_305 : decode cX9_parkLeast 305 = .ok (.iastore, 1) := by decide +kernel
theorem dX9_parkLeast_306 : decode cX9_parkLeast 306 = .ok (.goto (-284), 3) := by decide +kernel
theorem dX9_parkLeast_309 : decode cX9_parkLeast 309 = .ok (.return_, 1) := by decide +kernel
theorem dX9_park_0 : decode cX9_park 0 = .ok (.iload_n 3, 1) := by decide +kernel
theorem dX9_park_1 : decode cX9_park 1 = .ok (.ifCond .eq 19, 3) := by decide +kernel
theorem dX9_park_4 : decode cX9_park 4 = .ok (.aload_n 0, 1) := by decide +kernel
theorem dX9_park_5 : decode cX9_park 5 = .ok (.getfield 94, 3) := by decide +kernel
theorem dX9_park_8 : decode cX9_park 8 = .ok (.ifCond .le 12, 3) := by decide +kernel
theorem dX9_park_11 : decode cX9_park 11 = .ok (.aload_n 0, 1) := by decide +kernel
theorem dX9_park_12 : decode cX9_park 12 = .ok (.iload_n 1, 1) := by decide +kernel
theorem dX9_park_13 : decode cX9_park 13 = .ok (.iload_n 2, 1) := by decide +kernel
theorem dX9_park_14 : decode cX9_park 14 = .ok (.invokevirtual 143, 3) := by decide +kernel
theorem dX9_park_17 : decode cX9_park 17 = .ok (.goto 9, 3) := by decide +kernel
theorem dX9_park_20 : decode cX9_park 20 = .ok (.aload_n 0, 1) := by decide +kernel
theorem dX9_park_21 : decode cX9_park 21 = .ok (.iload_n 1, 1) := by decide +kernel
theorem dX9_park_22 : decode cX9_park 22 = .ok (.iload_n 2, 1) := by decide +kernel
theorem dX9_park_23 : decode cX9_park 23 = .ok (.invokevirtual 146, 3) := by decide +kernel
theorem dX9_park_26 : decode cX9_park 26 = .ok (.return_, 1) := by decide +kernel
theorem dX9_stands_0 : decode cX9_stands 0 = .ok (.iload_n 1, 1) := by decide +kernel
theorem dX9_stands_1 : decode cX9_stands 1 = .ok (.invokestatic 104, 3) := by decide +kernel
theorem dX9_stands_4 : decode cX9_stands 4 = .ok (.ifCond .eq 18, 3) := by decide +kernel
theorem dX9_stands_7 : decode cX9_stands 7 = .ok (.iload_n 2, 1) := by decide +kernel
theorem dX9_stands_8 : decode cX9_stands 8 = .ok (.invokestatic 107, 3) := by decide +kernel
theorem dX9_stands_11 : decode cX9_stands 11 = .ok (.ifCond .eq 11, 3) := by decide +kernel
theorem dX9_stands_14 : decode cX9_stands 14 = .ok (.aload_n 0, 1) := by decide +kernel
theorem dX9_stands_15 : decode cX9_stands 15 = .ok (.iload_n 3, 1) := by decide +kernel
theorem dX9_stands_16 : decode cX9_stands 16 = .ok (.invokevirtual 117, 3) := by decide +kernel
theorem dX9_stands_19 : decode cX9_stands 19 = .ok (.ifCond .ne 5, 3) := by decide +kernel
theorem dX9_stands_22 : decode cX9_stands 22 = .ok (.iconst (-1), 1) := by decide +kernel
theorem dX9_stands_23 : decode cX9_stands 23 = .ok (.ireturn, 1) := by decide +kernel
theorem dX9_stands_24 : decode cX9_stands 24 = .ok (.aload_n 0, 1) := by decide +kernel
theorem dX9_stands_25 : decode cX9_stands 25 = .ok (.iload_n 1, 1) := by decide +kernel
theorem dX9_stands_26 : decode cX9_stands 26 = .ok (.iload_n 2, 1) := by decide +kernel
theorem dX9_stands_27 : decode cX9_stands 27 = .ok (.iload 4, 2) := by decide +kernel
theorem dX9_stands_29 : decode cX9_stands 29 = .ok (.invokevirtual 149, 3) := by decide +kernel
theorem dX9_stands_32 : decode cX9_stands 32 = .ok (.aload_n 0, 1) := by decide +kernel
theorem dX9_stands_33 : decode cX9_stands 33 = .ok (.getfield 78, 3) := by decide +kernel
theorem dX9_stands_36 : decode cX9_stands 36 = .ok (.iload_n 3, 1) := by decide +kernel
theorem dX9_stands_37 : decode cX9_stands 37 = .ok (.iaload, 1) := by decide +kernel
theorem dX9_stands_38 : decode cX9_stands 38 = .ok (.aload_n 0, 1) := by decide +kernel
theorem dX9_stands_39 : decode cX9_stands 39 = .ok (.getfield 87, 3) := by decide +kernel
theorem dX9_stands_42 : decode cX9_stands 42 = .ok (.if_icmp .ne 8, 3) := by decide +kernel
theorem dX9_stands_45 : decode cX9_stands 45 = .ok (.bipush (-3), 2) := by decide +kernel
theorem dX9_stands_47 : decode cX9_stands 47 = .ok (.goto 9, 3) := by decide +kernel
theorem dX9_stands_50 : decode cX9_stands 50 = .ok (.aload_n 0, 1) := by decide +kernel
theorem dX9_stands_51 : decode cX9_stands 51 = .ok (.getfield 78, 3) := by decide +kernel
theorem dX9_stands_54 : decode cX9_stands 54 = .ok (.iload_n 3, 1) := by decide +kernel
theorem dX9_stands_55 : decode cX9_stands 55 = .ok (.iaload, 1) := by decide +kernel
theorem dX9_stands_56 : decode cX9_stands 56 = .ok (.ireturn, 1) := by decide +kernel
theorem dX9_sumOf_0 : decode cX9_sumOf 0 = .ok (.iconst 0, 1) := by decide +kernel
theorem dX9_sumOf_1 : decode cX9_sumOf 1 = .ok (.istore_n 2, 1) := by decide +kernel
theorem dX9_sumOf_2 : decode cX9_sumOf 2 = .ok (.iconst 0, 1) := by decide +kernel
theorem dX9_sumOf_3 : decode cX9_sumOf 3 = .ok (.istore_n 3, 1) := by decide +kernel
theorem dX9_sumOf_4 : decode cX9_sumOf 4 = .ok (.iload_n 3, 1) := by decide +kernel
theorem dX9_sumOf_5 : decode cX9_sumOf 5 = .ok (.aload_n 0, 1) := by decide +kernel
theorem dX9_sumOf_6 : decode cX9_sumOf 6 = .ok (.getfield 94, 3) := by decide +kernel
theorem dX9_sumOf_9 : decode cX9_sumOf 9 = .ok (.if_icmp .ge 109, 3) := by decide +kernel
theorem dX9_sumOf_12 : decode cX9_sumOf 12 = .ok (.aload_n 0, 1) := by decide +kernel
theorem dX9_sumOf_13 : decode cX9_sumOf 13 = .ok (.getfield 78, 3) := by decide +kernel
theorem dX9_sumOf_16 : decode cX9_sumOf 16 = .ok (.iload_n 3, 1) := by decide +kernel
theorem dX9_sumOf_17 : decode cX9_sumOf 17 = .ok (.iaload, 1) := by decide +kernel
theorem dX9_sumOf_18 : decode cX9_sumOf 18 = .ok (.aload_n 0, 1) := by decide +kernel
theorem dX9_sumOf_19 : decode cX9_sumOf 19 = .ok (.getfield 87, 3) := by decide +kernel
theorem dX9_sumOf_22 : decode cX9_sumOf 22 = .ok (.if_icmp .ne 7, 3) := by decide +kernel
theorem dX9_sumOf_25 : decode cX9_sumOf 25 = .ok (.iconst 1, 1) := by decide +kernel
theorem dX9_sumOf_26 : decode cX9_sumOf 26 = .ok (.goto 4, 3) := by decide +kernel
theorem dX9_sumOf_29 : decode cX9_sumOf 29 = .ok (.iconst 0, 1) := by decide +kernel
theorem dX9_sumOf_30 : decode cX9_sumOf 30 = .ok (.istore 4, 2) := by decide +kernel
theorem dX9_sumOf_32 : decode cX9_sumOf 32 = .ok (.iload_n 1, 1) := by decide +kernel
theorem dX9_sumOf_33 : decode cX9_sumOf 33 = .ok (.iconst 1, 1) := by decide +kernel
theorem dX9_sumOf_34 : decode cX9_sumOf 34 = .ok (.if_icmp .ne 19, 3) := by decide +kernel
theorem dX9_sumOf_37 : decode cX9_sumOf 37 = .ok (.iload_n 2, 1) := by decide +kernel
theorem dX9_sumOf_38 : decode cX9_sumOf 38 = .ok (.iload 4, 2) := by decide +kernel
theorem dX9_sumOf_40 : decode cX9_sumOf 40 = .ok (.ifCond .eq 7, 3) := by decide +kernel
theorem dX9_sumOf_43 : decode cX9_sumOf 43 = .ok (.iconst 1, 1) := by decide +kernel
theorem dX9_sumOf_44 : decode cX9_sumOf 44 = .ok (.goto 4, 3) := by decide +kernel
theorem dX9_sumOf_47 : decode cX9_sumOf 47 = .ok (.iconst 0, 1) := by decide +kernel
theorem dX9_sumOf_48 : decode cX9_sumOf 48 = .ok (.iadd, 1) := by decide +kernel
theorem dX9_sumOf_49 : decode cX9_sumOf 49 = .ok (.istore_n 2, 1) := by decide +kernel
theorem dX9_sumOf_50 : decode cX9_sumOf 50 = .ok (.goto 62, 3) := by decide +kernel
theorem dX9_sumOf_53 : decode cX9_sumOf 53 = .ok (.iload 4, 2) := by decide +kernel
theorem dX9_sumOf_55 : decode cX9_sumOf 55 = .ok (.ifCond .ne 57, 3) := by decide +kernel
theorem dX9_sumOf_58 : decode cX9_sumOf 58 = .ok (.iload_n 2, 1) := by decide +kernel
theorem dX9_sumOf_59 : decode cX9_sumOf 59 = .ok (.iload_n 1, 1) := by decide +kernel
theorem dX9_sumOf_60 : decode cX9_sumOf 60 = .ok (.ifCond .ne 26, 3) := by decide +kernel
theorem dX9_sumOf_63 : decode cX9_sumOf 63 = .ok (.aload_n 0, 1) := by decide +kernel
theorem dX9_sumOf_64 : decode cX9_sumOf 64 = .ok (.getfield 19, 3) := by decide +kernel
theorem dX9_sumOf_67 : decode cX9_sumOf 67 = .ok (.iconst 5, 1) := by decide +kernel
theorem dX9_sumOf_68 : decode cX9_sumOf 68 = .ok (.aload_n 0, 1) := by decide +kernel
theorem dX9_sumOf_69 : decode cX9_sumOf 69 = .ok (.getfield 25, 3) := by decide +kernel
theorem dX9_sumOf_72 : decode cX9_sumOf 72 = .ok (.iload_n 3, 1) := by decide +kernel
theorem dX9_sumOf_73 : decode cX9_sumOf 73 = .ok (.iaload, 1) := by decide +kernel
theorem dX9_sumOf_74 : decode cX9_sumOf 74 = .ok (.imul, 1) := by decide +kernel
theorem dX9_sumOf_75 : decode cX9_sumOf 75 = .ok (.aload_n 0, 1) := by decide +kernel
theorem dX9_sumOf_76 : decode cX9_sumOf 76 = .ok (.getfield 78, 3) := by decide +kernel
theorem dX9_sumOf_79 : decode cX9_sumOf 79 = .ok (.iload_n 3, 1) := by decide +kernel
theorem dX9_sumOf_80 : decode cX9_sumOf 80 = .ok (.iaload, 1) := by decide +kernel
theorem dX9_sumOf_81 : decode cX9_sumOf 81 = .ok (.iadd, 1) := by decide +kernel
theorem dX9_sumOf_82 : decode cX9_sumOf 82 = .ok (.iaload, 1) := by decide +kernel
theorem dX9_sumOf_83 : decode cX9_sumOf 83 = .ok (.goto 27, 3) := by decide +kernel
theorem dX9_sumOf_86 : decode cX9_sumOf 86 = .ok (.aload_n 0, 1) := by decide +kernel
theorem dX9_sumOf_87 : decode cX9_sumOf 87 = .ok (.getfield 84, 3) := by decide +kernel
theorem dX9_sumOf_90 : decode cX9_sumOf 90 = .ok (.iconst 5, 1) := by decide +kernel
theorem dX9_sumOf_91 : decode cX9_sumOf 91 = .ok (.iload_n 3, 1) := by decide +kernel
theorem dX9_sumOf_92 : decode cX9_sumOf 92 = .ok (.imul, 1) := by decide +kernel
theorem dX9_sumOf_93 : decode cX9_sumOf 93 = .ok (.aload_n 0, 1) := by decide +kernel
theorem dX9_sumOf_94 : decode cX9_sumOf 94 = .ok (.getfield 78, 3) := by decide +kernel
theorem dX9_sumOf_97 : decode cX9_sumOf 97 = .ok (.iload_n 3, 1) := by decide +kernel
theorem dX9_sumOf_98 : decode cX9_sumOf 98 = .ok (.iaload, 1) := by decide +kernel
theorem dX9_sumOf_99 : decode cX9_sumOf 99 = .ok (.iadd, 1) := by decide +kernel
theorem dX9_sumOf_100 : decode cX9_sumOf 100 = .ok (.iaload, 1) := by decide +kernel
theorem dX9_sumOf_101 : decode cX9_sumOf 101 = .ok (.iconst 1, 1) := by decide +kernel
theorem dX9_sumOf_102 : decode cX9_sumOf 102 = .ok (.if_icmp .ne 7, 3) := by decide +kernel
theorem dX9_sumOf_105 : decode cX9_sumOf 105 = .ok (.iconst 1, 1) := by decide +kernel
theorem dX9_sumOf_106 : decode cX9_sumOf 106 = .ok (.goto 4, 3) := by decide +kernel
theorem dX9_sumOf_109 : decode cX9_sumOf 109 = .ok (.iconst 0, 1) := by decide +kernel
theorem dX9_sumOf_110 : decode cX9_sumOf 110 = .ok (.iadd, 1) := by decide +kernel
theorem dX9_sumOf_111 : decode cX9_sumOf 111 = .ok (.istore_n 2, 1) := by decide +kernel
theorem dX9_sumOf_112 : decode cX9_sumOf 112 = .ok (.iinc 3 1, 3) := by decide +kernel
theorem dX9_sumOf_115 : decode cX9_sumOf 115 = .ok (.goto (-111), 3) := by decide +kernel
theorem dX9_sumOf_118 : decode cX9_sumOf 118 = .ok (.iload_n 2, 1) := by decide +kernel
theorem dX9_sumOf_119 : decode cX9_sumOf 119 = .ok (.ireturn, 1) := by decide +kernel
theorem dX9_told_0 : decode cX9_told 0 = .ok (.iload_n 1, 1) := by decide +kernel
theorem dX9_told_1 : decode cX9_told 1 = .ok (.invokestatic 104, 3) := by decide +kernel
theorem dX9_told_4 : decode cX9_told 4 = .ok (.ifCond .eq 19, 3) := by decide +kernel
theorem dX9_told_7 : decode cX9_told 7 = .ok (.iload_n 2, 1) := by decide +kernel
theorem dX9_told_8 : decode cX9_told 8 = .ok (.invokestatic 107, 3) := by decide +kernel
theorem dX9_told_11 : decode cX9_told 11 = .ok (.ifCond .eq 12, 3) := by decide +kernel
theorem dX9_told_14 : decode cX9_told 14 = .ok (.iload_n 3, 1) := by decide +kernel
theorem dX9_told_15 : decode cX9_told 15 = .ok (.iconst 0, 1) := by decide +kernel
theorem dX9_told_16 : decode cX9_told 16 = .ok (.iconst 2, 1) := by decide +kernel
theorem dX9_told_17 : decode cX9_told 17 = .ok (.invokestatic 90, 3) := by decide +kernel
theorem dX9_told_20 : decode cX9_told 20 = .ok (.ifCond .ne 5, 3) := by decide +kernel
theorem dX9_told_23 : decode cX9_told 23 = .ok (.iconst (-1), 1) := by decide +kernel
theorem dX9_told_24 : decode cX9_told 24 = .ok (.ireturn, 1) := by decide +kernel
theorem dX9_told_25 : decode cX9_told 25 = .ok (.aload_n 0, 1) := by decide +kernel
theorem dX9_told_26 : decode cX9_told 26 = .ok (.iload_n 1, 1) := by decide +kernel
theorem dX9_told_27 : decode cX9_told 27 = .ok (.iload_n 2, 1) := by decide +kernel
theorem dX9_told_28 : decode cX9_told 28 = .ok (.iload 4, 2) := by decide +kernel
theorem dX9_told_30 : decode cX9_told 30 = .ok (.invokevirtual 149, 3) := by decide +kernel
theorem dX9_told_33 : decode cX9_told 33 = .ok (.aload_n 0, 1) := by decide +kernel
theorem dX9_told_34 : decode cX9_told 34 = .ok (.iload_n 3, 1) := by decide +kernel
theorem dX9_told_35 : decode cX9_told 35 = .ok (.invokevirtual 153, 3) := by decide +kernel
theorem dX9_told_38 : decode cX9_told 38 = .ok (.ireturn, 1) := by decide +kernel
theorem dX9_keep_0 : decode cX9_keep 0 = .ok (.iload_n 1, 1) := by decide +kernel
theorem dX9_keep_1 : decode cX9_keep 1 = .ok (.invokestatic 104, 3) := by decide +kernel
theorem dX9_keep_4 : decode cX9_keep 4 = .ok (.ifCond .eq 10, 3) := by decide +kernel
theorem dX9_keep_7 : decode cX9_keep 7 = .ok (.iload_n 2, 1) := by decide +kernel
theorem dX9_keep_8 : decode cX9_keep 8 = .ok (.invokestatic 107, 3) := by decide +kernel
theorem dX9_keep_11 : decode cX9_keep 11 = .ok (.ifCond .ne 5, 3) := by decide +kernel
theorem dX9_keep_14 : decode cX9_keep 14 = .ok (.iconst (-1), 1) := by decide +kernel
theorem dX9_keep_15 : decode cX9_keep 15 = .ok (.ireturn, 1) := by decide +kernel
theorem dX9_keep_16 : decode cX9_keep 16 = .ok (.aload_n 0, 1) := by decide +kernel
theorem dX9_keep_17 : decode cX9_keep 17 = .ok (.iload_n 1, 1) := by decide +kernel
theorem dX9_keep_18 : decode cX9_keep 18 = .ok (.iload_n 2, 1) := by decide +kernel
theorem dX9_keep_19 : decode cX9_keep 19 = .ok (.iconst 0, 1) := by decide +kernel
theorem dX9_keep_20 : decode cX9_keep 20 = .ok (.invokevirtual 149, 3) := by decide +kernel
theorem dX9_keep_23 : decode cX9_keep 23 = .ok (.aload_n 0, 1) := by decide +kernel
theorem dX9_keep_24 : decode cX9_keep 24 = .ok (.iconst 2, 1) := by decide +kernel
theorem dX9_keep_25 : decode cX9_keep 25 = .ok (.invokevirtual 153, 3) := by decide +kernel
theorem dX9_keep_28 : decode cX9_keep 28 = .ok (.istore_n 3, 1) := by decide +kernel
theorem dX9_keep_29 : decode cX9_keep 29 = .ok (.iconst 0, 1) := by decide +kernel
theorem dX9_keep_30 : decode cX9_keep 30 = .ok (.istore 4, 2) := by decide +kernel
theorem dX9_keep_32 : decode cX9_keep 32 = .ok (.iload 4, 2) := by decide +kernel
theorem dX9_keep_34 : decode cX9_keep 34 = .ok (.aload_n 0, 1) := by decide +kernel
theorem dX9_keep_35 : decode cX9_keep 35 = .ok (.getfield 94, 3) := by decide +kernel
theorem dX9_keep_38 : decode cX9_keep 38 = .ok (.if_icmp .ge 70, 3) := by decide +kernel
theorem dX9_keep_41 : decode cX9_keep 41 = .ok (.aload_n 0, 1) := by decide +kernel
theorem dX9_keep_42 : decode cX9_keep 42 = .ok (.getfield 78, 3) := by decide +kernel
theorem dX9_keep_45 : decode cX9_keep 45 = .ok (.iload 4, 2) := by decide +kernel
theorem dX9_keep_47 : decode cX9_keep 47 = .ok (.iaload, 1) := by decide +kernel
theorem dX9_keep_48 : decode cX9_keep 48 = .ok (.aload_n 0, 1) := by decide +kernel
theorem dX9_keep_49 : decode cX9_keep 49 = .ok (.getfield 87, 3) := by decide +kernel
theorem dX9_keep_52 : decode cX9_keep 52 = .ok (.if_icmp .ge 50, 3) := by decide +kernel
theorem dX9_keep_55 : decode cX9_keep 55 = .ok (.aload_n 0, 1) := by decide +kernel
theorem dX9_keep_56 : decode cX9_keep 56 = .ok (.getfield 84, 3) := by decide +kernel
theorem dX9_keep_59 : decode cX9_keep 59 = .ok (.iconst 5, 1) := by decide +kernel
theorem dX9_keep_60 : decode cX9_keep 60 = .ok (.iload 4, 2) := by decide +kernel
theorem dX9_keep_62 : decode cX9_keep 62 = .ok (.imul, 1) := by decide +kernel
theorem dX9_keep_63 : decode cX9_keep 63 = .ok (.aload_n 0, 1) := by decide +kernel
theorem dX9_keep_64 : decode cX9_keep 64 = .ok (.getfield 78, 3) := by decide +kernel
theorem dX9_keep_67 : decode cX9_keep 67 = .ok (.iload 4, 2) := by decide +kernel
theorem dX9_keep_69 : decode cX9_keep 69 = .ok (.iaload, 1) := by decide +kernel
theorem dX9_keep_70 : decode cX9_keep 70 = .ok (.iadd, 1) := by decide +kernel
theorem dX9_keep_71 : decode cX9_keep 71 = .ok (.iaload, 1) := by decide +kernel
theorem dX9_keep_72 : decode cX9_keep 72 = .ok (.iconst 1, 1) := by decide +kernel
theorem dX9_keep_73 : decode cX9_keep 73 = .ok (.if_icmp .ne 29, 3) := by decide +kernel
theorem dX9_keep_76 : decode cX9_keep 76 = .ok (.aload_n 0, 1) := by decide +kernel
theorem dX9_keep_77 : decode cX9_keep 77 = .ok (.getfield 32, 3) := by decide +kernel
theorem dX9_keep_80 : decode cX9_keep 80 = .ok (.iconst 4, 1) := by decide +kernel
theorem dX9_keep_81 : decode cX9_keep 81 = .ok (.iload 4, 2) := by decide +kernel
theorem dX9_keep_83 : decode cX9_keep 83 = .ok (.imul, 1) := by decide +kernel
theorem dX9_keep_84 : decode cX9_keep 84 = .ok (.aload_n 0, 1) := by decide +kernel
theorem dX9_keep_85 : decode cX9_keep 85 = .ok (.getfield 7, 3) := by decide +kernel
theorem dX9_keep_88 : decode cX9_keep 88 = .ok (.aload_n 0, 1) := by decide +kernel
theorem dX9_keep_89 : decode cX9_keep 89 = .ok (.getfield 78, 3) := by decide +kernel
theorem dX9_keep_92 : decode cX9_keep 92 = .ok (.iload 4, 2) := by decide +kernel
theorem dX9_keep_94 : decode cX9_keep 94 = .ok (.iaload, 1) := by decide +kernel
theorem dX9_keep_95 : decode cX9_keep 95 = .ok (.iaload, 1) := by decide +kernel
theorem dX9_keep_96 : decode cX9_keep 96 = .ok (.iadd, 1) := by decide +kernel
theorem dX9_keep_97 : decode cX9_keep 97 = .ok (.dup2, 1) := by decide +kernel
theorem dX9_keep_98 : decode cX9_keep 98 = .ok (.iaload, 1) := by decide +kernel
theorem dX9_keep_99 : decode cX9_keep 99 = .ok (.iconst 1, 1) := by decide +kernel
theorem dX9_keep_100 : decode cX9_keep 100 = .ok (.isub, 1) := by decide +kernel
theorem dX9_keep_101 : decode cX9_keep 101 = .ok (.iastore, 1) := by decide +kernel
theorem dX9_keep_102 : decode cX9_keep 102 = .ok (.iinc 4 1, 3) := by decide +kernel
theorem dX9_keep_105 : decode cX9_keep 105 = .ok (.goto (-73), 3) := by decide +kernel
theorem dX9_keep_108 : decode cX9_keep 108 = .ok (.iload_n 3, 1) := by decide +kernel
theorem dX9_keep_109 : decode cX9_keep 109 = .ok (.ireturn, 1) := by decide +kernel
theorem dX9_moved_0 : decode cX9_moved 0 = .ok (.iload_n 1, 1) := by decide +kernel
theorem dX9_moved_1 : decode cX9_moved 1 = .ok (.invokestatic 104, 3) := by decide +kernel
theorem dX9_moved_4 : decode cX9_moved 4 = .ok (.ifCond .eq 36, 3) := by decide +kernel
theorem dX9_moved_7 : decode cX9_moved 7 = .ok (.iload_n 2, 1) := by decide +kernel
theorem dX9_moved_8 : decode cX9_moved 8 = .ok (.invokestatic 107, 3) := by decide +kernel
theorem dX9_moved_11 : decode cX9_moved 11 = .ok (.ifCond .eq 29, 3) := by decide +kernel
theorem dX9_moved_14 : decode cX9_moved 14 = .ok (.aload_n 0, 1) := by decide +kernel
theorem dX9_moved_15 : decode cX9_moved 15 = .ok (.iload_n 3, 1) := by decide +kernel
theorem dX9_moved_16 : decode cX9_moved 16 = .ok (.invokevirtual 101, 3) := by decide +kernel
theorem dX9_moved_19 : decode cX9_moved 19 = .ok (.ifCond .eq 21, 3) := by decide +kernel
theorem dX9_moved_22 : decode cX9_moved 22 = .ok (.iload 4, 2) := by decide +kernel
theorem dX9_moved_24 : decode cX9_moved 24 = .ok (.invokestatic 97, 3) := by decide +kernel
theorem dX9_moved_27 : decode cX9_moved 27 = .ok (.ifCond .eq 13, 3) := by decide +kernel
theorem dX9_moved_30 : decode cX9_moved 30 = .ok (.iload 5, 2) := by decide +kernel
theorem dX9_moved_32 : decode cX9_moved 32 = .ok (.iconst 0, 1) := by decide +kernel
theorem dX9_moved_33 : decode cX9_moved 33 = .ok (.iconst 1, 1) := by decide +kernel
theorem dX9_moved_34 : decode cX9_moved 34 = .ok (.invokestatic 90, 3) := by decide +kernel
theorem dX9_moved_37 : decode cX9_moved 37 = .ok (.ifCond .ne 5, 3) := by decide +kernel
theorem dX9_moved_40 : decode cX9_moved 40 = .ok (.iconst (-1), 1) := by decide +kernel
theorem dX9_moved_41 : decode cX9_moved 41 = .ok (.ireturn, 1) := by decide +kernel
theorem dX9_moved_42 : decode cX9_moved 42 = .ok (.aload_n 0, 1) := by decide +kernel
theorem dX9_moved_43 : decode cX9_moved 43 = .ok (.getfield 7, 3) := by decide +kernel
theorem dX9_moved_46 : decode cX9_moved 46 = .ok (.iload_n 3, 1) := by decide +kernel
theorem dX9_moved_47 : decode cX9_moved 47 = .ok (.iaload, 1) := by decide +kernel
theorem dX9_moved_48 : decode cX9_moved 48 = .ok (.istore 6, 2) := by decide +kernel
theorem dX9_moved_50 : decode cX9_moved 50 = .ok (.aload_n 0, 1) := by decide +kernel
theorem dX9_moved_51 : decode cX9_moved 51 = .ok (.getfield 7, 3) := by decide +kernel
theorem dX9_moved_54 : decode cX9_moved 54 = .ok (.iload_n 3, 1) := by decide +kernel
theorem dX9_moved_55 : decode cX9_moved 55 = .ok (.iload 4, 2) := by decide +kernel
theorem dX9_moved_57 : decode cX9_moved 57 = .ok (.iastore, 1) := by decide +kernel
theorem dX9_moved_58 : decode cX9_moved 58 = .ok (.aload_n 0, 1) := by decide +kernel
theorem dX9_moved_59 : decode cX9_moved 59 = .ok (.iload_n 1, 1) := by decide +kernel
theorem dX9_moved_60 : decode cX9_moved 60 = .ok (.iload_n 2, 1) := by decide +kernel
theorem dX9_moved_61 : decode cX9_moved 61 = .ok (.iconst 1, 1) := by decide +kernel
theorem dX9_moved_62 : decode cX9_moved 62 = .ok (.invokevirtual 149, 3) := by decide +kernel
theorem dX9_moved_65 : decode cX9_moved 65 = .ok (.aload_n 0, 1) := by decide +kernel
theorem dX9_moved_66 : decode cX9_moved 66 = .ok (.iload 5, 2) := by decide +kernel
theorem dX9_moved_68 : decode cX9_moved 68 = .ok (.invokevirtual 153, 3) := by decide +kernel
theorem dX9_moved_71 : decode cX9_moved 71 = .ok (.istore 7, 2) := by decide +kernel
theorem dX9_moved_73 : decode cX9_moved 73 = .ok (.aload_n 0, 1) := by decide +kernel
theorem dX9_moved_74 : decode cX9_moved 74 = .ok (.getfield 7, 3) := by decide +kernel
theorem dX9_moved_77 : decode cX9_moved 77 = .ok (.iload_n 3, 1) := by decide +kernel
theorem dX9_moved_78 : decode cX9_moved 78 = .ok (.iload 6, 2) := by decide +kernel
theorem dX9_moved_80 : decode cX9_moved 80 = .ok (.iastore, 1) := by decide +kernel
theorem dX9_moved_81 : decode cX9_moved 81 = .ok (.iload 7, 2) := by decide +kernel
theorem dX9_moved_83 : decode cX9_moved 83 = .ok (.ireturn, 1) := by decide +kernel
theorem dX9_gain_0 : decode cX9_gain 0 = .ok (.aload_n 0, 1) := by decide +kernel
theorem dX9_gain_1 : decode cX9_gain 1 = .ok (.iload_n 1, 1) := by decide +kernel
theorem dX9_gain_2 : decode cX9_gain 2 = .ok (.invokevirtual 101, 3) := by decide +kernel
theorem dX9_gain_5 : decode cX9_gain 5 = .ok (.ifCond .eq 13, 3) := by decide +kernel
theorem dX9_gain_8 : decode cX9_gain 8 = .ok (.iload_n 2, 1) := by decide +kernel
theorem dX9_gain_9 : decode cX9_gain 9 = .ok (.iconst 0, 1) := by decide +kernel
theorem dX9_gain_10 : decode cX9_gain 10 = .ok (.bipush 99, 2) := by decide +kernel
theorem dX9_gain_12 : decode cX9_gain 12 = .ok (.invokestatic 90, 3) := by decide +kernel
theorem dX9_gain_15 : decode cX9_gain 15 = .ok (.ifCond .ne 5, 3) := by decide +kernel
theorem dX9_gain_18 : decode cX9_gain 18 = .ok (.iconst (-1), 1) := by decide +kernel
theorem dX9_gain_19 : decode cX9_gain 19 = .ok (.ireturn, 1) := by decide +kernel
theorem dX9_gain_20 : decode cX9_gain 20 = .ok (.aload_n 0, 1) := by decide +kernel
theorem dX9_gain_21 : decode cX9_gain 21 = .ok (.getfield 22, 3) := by decide +kernel
theorem dX9_gain_24 : decode cX9_gain 24 = .ok (.iload_n 1, 1) := by decide +kernel
theorem dX9_gain_25 : decode cX9_gain 25 = .ok (.iaload, 1) := by decide +kernel
theorem dX9_gain_26 : decode cX9_gain 26 = .ok (.istore_n 3, 1) := by decide +kernel
theorem dX9_gain_27 : decode cX9_gain 27 = .ok (.aload_n 0, 1) := by decide +kernel
theorem dX9_gain_28 : decode cX9_gain 28 = .ok (.getfield 22, 3) := by decide +kernel
theorem dX9_gain_31 : decode cX9_gain 31 = .ok (.iload_n 1, 1) := by decide +kernel
theorem dX9_gain_32 : decode cX9_gain 32 = .ok (.iload_n 2, 1) := by decide +kernel
theorem dX9_gain_33 : decode cX9_gain 33 = .ok (.iastore, 1) := by decide +kernel
theorem dX9_gain_34 : decode cX9_gain 34 = .ok (.iload_n 3, 1) := by decide +kernel
theorem dX9_gain_35 : decode cX9_gain 35 = .ok (.ireturn, 1) := by decide +kernel
theorem dX9_fine_0 : decode cX9_fine 0 = .ok (.iload_n 1, 1) := by decide +kernel
theorem dX9_fine_1 : decode cX9_fine 1 = .ok (.iconst 1, 1) := by decide +kernel
theorem dX9_fine_2 : decode cX9_fine 2 = .ok (.sipush 500, 3) := by decide +kernel
theorem dX9_fine_5 : decode cX9_fine 5 = .ok (.invokestatic 90, 3) := by decide +kernel
theorem dX9_fine_8 : decode cX9_fine 8 = .ok (.ifCond .ne 5, 3) := by decide +kernel
theorem dX9_fine_11 : decode cX9_fine 11 = .ok (.iconst (-1), 1) := by decide +kernel
theorem dX9_fine_12 : decode cX9_fine 12 = .ok (.ireturn, 1) := by decide +kernel
theorem dX9_fine_13 : decode cX9_fine 13 = .ok (.aload_n 0, 1) := by decide +kernel
theorem dX9_fine_14 : decode cX9_fine 14 = .ok (.getfield 53, 3) := by decide +kernel
theorem dX9_fine_17 : decode cX9_fine 17 = .ok (.istore_n 2, 1) := by decide +kernel
theorem dX9_fine_18 : decode cX9_fine 18 = .ok (.aload_n 0, 1) := by decide +kernel
theorem dX9_fine_19 : decode cX9_fine 19 = .ok (.iload_n 1, 1) := by decide +kernel
theorem dX9_fine_20 : decode cX9_fine 20 = .ok (.putfield 53, 3) := by decide +kernel
theorem dX9_fine_23 : decode cX9_fine 23 = .ok (.iload_n 2, 1) := by decide +kernel
theorem dX9_fine_24 : decode cX9_fine 24 = .ok (.ireturn, 1) := by decide +kernel
theorem dX9_findStake_0 : decode cX9_findStake 0 = .ok (.aload_n 0, 1) := by decide +kernel
theorem dX9_findStake_1 : decode cX9_findStake 1 = .ok (.iconst 0, 1) := by decide +kernel
theorem dX9_findStake_2 : decode cX9_findStake 2 = .ok (.putfield 157, 3) := by decide +kernel
theorem dX9_findStake_5 : decode cX9_findStake 5 = .ok (.aload_n 0, 1) := by decide +kernel
theorem dX9_findStake_6 : decode cX9_findStake 6 = .ok (.iconst 1, 1) := by decide +kernel
theorem dX9_findStake_7 : decode cX9_findStake 7 = .ok (.putfield 160, 3) := by decide +kernel
theorem dX9_findStake_10 : decode cX9_findStake 10 = .ok (.iconst 1, 1) := by decide +kernel
theorem dX9_findStake_11 : decode cX9_findStake 11 = .ok (.istore_n 1, 1) := by decide +kernel
theorem dX9_findStake_12 : decode cX9_findStake 12 = .ok (.iload_n 1, 1) := by decide +kernel
theorem dX9_findStake_13 : decode cX9_findStake 13 = .ok (.iconst 1, 1) := by decide +kernel
theorem dX9_findStake_14 : decode cX9_findStake 14 = .ok (.aload_n 0, 1) := by decide +kernel
theorem dX9_findStake_15 : decode cX9_findStake 15 = .ok (.getfield 87, 3) := by decide +kernel
theorem dX9_findStake_18 : decode cX9_findStake 18 = .ok (.ishl, 1) := by decide +kernel
theorem dX9_findStake_19 : decode cX9_findStake 19 = .ok (.if_icmp .ge 93, 3) := by decide +kernel
theorem dX9_findStake_22 : decode cX9_findStake 22 = .ok (.aload_n 0, 1) := by decide +kernel
theorem dX9_findStake_23 : decode cX9_findStake 23 = .ok (.getfield 53, 3) := by decide +kernel
theorem dX9_findStake_26 : decode cX9_findStake 26 = .ok (.ineg, 1) := by decide +kernel
theorem dX9_findStake_27 : decode cX9_findStake 27 = .ok (.istore_n 2, 1) := by decide +kernel
theorem dX9_findStake_28 : decode cX9_findStake 28 = .ok (.iconst 0, 1) := by decide +kernel
theorem dX9_findStake_29 : decode cX9_findStake 29 = .ok (.istore_n 3, 1) := by decide +kernel
theorem dX9_findStake_30 : decode cX9_findStake 30 = .ok (.iconst 0, 1) := by decide +kernel
theorem dX9_findStake_31 : decode cX9_findStake 31 = .ok (.istore 4, 2) := by decide +kernel
theorem dX9_findStake_33 : decode cX9_findStake 33 = .ok (.iload 4, 2) := by decide +kernel
theorem dX9_findStake_35 : decode cX9_findStake 35 = .ok (.aload_n 0, 1) := by decide +kernel
theorem dX9_findStake_36 : decode cX9_findStake 36 = .ok (.getfield 87, 3) := by decide +kernel
theorem dX9_findStake_39 : decode cX9_findStake 39 = .ok (.if_icmp .ge 42, 3) := by decide +kernel
theorem dX9_findStake_42 : decode cX9_findStake 42 = .ok (.iload_n 2, 1) := by decide +kernel
theorem dX9_findStake_43 : decode cX9_findStake 43 = .ok (.iload_n 1, 1) := by decide +kernel
theorem dX9_findStake_44 : decode cX9_findStake 44 = .ok (.iload 4, 2) := by decide +kernel
theorem dX9_findStake_46 : decode cX9_findStake 46 = .ok (.ishr, 1) := by decide +kernel
theorem dX9_findStake_47 : decode cX9_findStake 47 = .ok (.iconst 1, 1) := by decide +kernel
theorem dX9_findStake_48 : decode cX9_findStake 48 = .ok (.iand, 1) := by decide +kernel
theorem dX9_findStake_49 : decode cX9_findStake 49 = .ok (.iconst 1, 1) := by decide +kernel
theorem dX9_findStake_50 : decode cX9_findStake 50 = .ok (.if_icmp .ne 13, 3) := by decide +kernel
theorem dX9_findStake_53 : decode cX9_findStake 53 = .ok (.aload_n 0, 1) := by decide +kernel
theorem dX9_findStake_54 : decode cX9_findStake 54 = .ok (.getfield 22, 3) := by decide +kernel
theorem dX9_findStake_57 : decode cX9_findStake 57 = .ok (.iload 4, 2) := by decide +kernel
theorem dX9_findStake_59 : decode cX9_findStake 59 = .ok (.iaload, 1) := by decide +kernel
theorem dX9_findStake_60 : decode cX9_findStake 60 = .ok (.goto 4, 3) := by decide +kernel
theorem dX9_findStake_63 : decode cX9_findStake 63 = .ok (.iconst 0, 1) := by decide +kernel
theorem dX9_findStake_64 : decode cX9_findStake 64 = .ok (.iadd, 1) := by decide +kernel
theorem dX9_findStake_65 : decode cX9_findStake 65 = .ok (.istore_n 2, 1) := by decide +kernel
theorem dX9_findStake_66 : decode cX9_findStake 66 = .ok (.iload_n 3, 1) := by decide +kernel
theorem dX9_findStake_67 : decode cX9_findStake 67 = .ok (.iload_n 1, 1) := by decide +kernel
theorem dX9_findStake_68 : decode cX9_findStake 68 = .ok (.iload 4, 2) := by decide +kernel
theorem dX9_findStake_70 : decode cX9_findStake 70 = .ok (.ishr, 1) := by decide +kernel
theorem dX9_findStake_71 : decode cX9_findStake 71 = .ok (.iconst 1, 1) := by decide +kernel
theorem dX9_findStake_72 : decode cX9_findStake 72 = .ok (.iand, 1) := by decide +kernel
theorem dX9_findStake_73 : decode cX9_findStake 73 = .ok (.iadd, 1) := by decide +kernel
theorem dX9_findStake_74 : decode cX9_findStake 74 = .ok (.istore_n 3, 1) := by decide +kernel
theorem dX9_findStake_75 : decode cX9_findStake 75 = .ok (.iinc 4 1, 3) := by decide +kernel
theorem dX9_findStake_78 : decode cX9_findStake 78 = .ok (.goto (-45), 3) := by decide +kernel
theorem dX9_findStake_81 : decode cX9_findStake 81 = .ok (.iload_n 2, 1) := by decide +kernel
theorem dX9_findStake_82 : decode cX9_findStake 82 = .ok (.aload_n 0, 1) := by decide +kernel
theorem dX9_findStake_83 : decode cX9_findStake 83 = .ok (.getfield 160, 3) := by decide +kernel
theorem dX9_findStake_86 : decode cX9_findStake 86 = .ok (.imul, 1) := by decide +kernel
theorem dX9_findStake_87 : decode cX9_findStake 87 = .ok (.aload_n 0, 1) := by decide +kernel
theorem dX9_findStake_88 : decode cX9_findStake 88 = .ok (.getfield 157, 3) := by decide +kernel
theorem dX9_findStake_91 : decode cX9_findStake 91 = .ok (.iload_n 3, 1) := by decide +kernel
theorem dX9_findStake_92 : decode cX9_findStake 92 = .ok (.imul, 1) := by decide +kernel
theorem dX9_findStake_93 : decode cX9_findStake 93 = .ok (.if_icmp .le 13, 3) := by decide +kernel
theorem dX9_findStake_96 : decode cX9_findStake 96 = .ok (.aload_n 0, 1) := by decide +kernel
theorem dX9_findStake_97 : decode cX9_findStake 97 = .ok (.iload_n 2, 1) := by decide +kernel
theorem dX9_findStake_98 : decode cX9_findStake 98 = .ok (.putfield 157, 3) := by decide +kernel
theorem dX9_findStake_101 : decode cX9_findStake 101 = .ok (.aload_n 0, 1) := by decide +kernel
theorem dX9_findStake_102 : decode cX9_findStake 102 = .ok (.iload_n 3, 1) := by decide +kernel
theorem dX9_findStake_103 : decode cX9_findStake 103 = .ok (.putfield 160, 3) := by decide +kernel
theorem dX9_findStake_106 : decode cX9_findStake 106 = .ok (.iinc 1 1, 3) := by decide +kernel
theorem dX9_findStake_109 : decode cX9_findStake 109 = .ok (.goto (-97), 3) := by decide +kernel
theorem dX9_findStake_112 : decode cX9_findStake 112 = .ok (.return_, 1) := by decide +kernel
theorem dX9_common_0 : decode cX9_common 0 = .ok (.iload_n 0, 1) := by decide +kernel
theorem dX9_common_1 : decode cX9_common 1 = .ok (.istore_n 2, 1) := by decide +kernel
theorem dX9_common_2 : decode cX9_common 2 = .ok (.iload_n 1, 1) := by decide +kernel
theorem dX9_common_3 : decode cX9_common 3 = .ok (.istore_n 3, 1) := by decide +kernel
theorem dX9_common_4 : decode cX9_common 4 = .ok (.iload_n 3, 1) := by decide +kernel
theorem dX9_common_5 : decode cX9_common 5 = .ok (.ifCond .eq 16, 3) := by decide +kernel
theorem dX9_common_8 : decode cX9_common 8 = .ok (.iload_n 2, 1) := by decide +kernel
theorem dX9_common_9 : decode cX9_common 9 = .ok (.iload_n 3, 1) := by decide +kernel
theorem dX9_common_10 : decode cX9_common 10 = .ok (.irem, 1) := by decide +kernel
theorem dX9_common_11 : decode cX9_common 11 = .ok (.istore 4, 2) := by decide +kernel
theorem dX9_common_13 : decode cX9_common 13 = .ok (.iload_n 3, 1) := by decide +kernel
theorem dX9_common_14 : decode cX9_common 14 = .ok (.istore_n 2, 1) := by decide +kernel
theorem dX9_common_15 : decode cX9_common 15 = .ok (.iload 4, 2) := by decide +kernel
theorem dX9_common_17 : decode cX9_common 17 = .ok (.istore_n 3, 1) := by decide +kernel
theorem dX9_common_18 : decode cX9_common 18 = .ok (.goto (-14), 3) := by decide +kernel
theorem dX9_common_21 : decode cX9_common 21 = .ok (.iload_n 2, 1) := by decide +kernel
theorem dX9_common_22 : decode cX9_common 22 = .ok (.ireturn, 1) := by decide +kernel
theorem dX9_part_0 : decode cX9_part 0 = .ok (.iload_n 0, 1) := by decide +kernel
theorem dX9_part_1 : decode cX9_part 1 = .ok (.ifCond .gt 5, 3) := by decide +kernel
theorem dX9_part_4 : decode cX9_part 4 = .ok (.iload_n 2, 1) := by decide +kernel
theorem dX9_part_5 : decode cX9_part 5 = .ok (.ireturn, 1) := by decide +kernel
theorem dX9_part_6 : decode cX9_part 6 = .ok (.iload_n 2, 1) := by decide +kernel
theorem dX9_part_7 : decode cX9_part 7 = .ok (.ifCond .ne 7, 3) := by decide +kernel
theorem dX9_part_10 : decode cX9_part 10 = .ok (.iload_n 0, 1) := by decide +kernel
theorem dX9_part_11 : decode cX9_part 11 = .ok (.goto 4, 3) := by decide +kernel
theorem dX9_part_14 : decode cX9_part 14 = .ok (.iload_n 1, 1) := by decide +kernel
theorem dX9_part_15 : decode cX9_part 15 = .ok (.iload_n 0, 1) := by decide +kernel
theorem dX9_part_16 : decode cX9_part 16 = .ok (.iload_n 1, 1) := by decide +kernel
theorem dX9_part_17 : decode cX9_part 17 = .ok (.invokestatic 163, 3) := by decide +kernel
theorem dX9_part_20 : decode cX9_part 20 = .ok (.idiv, 1) := by decide +kernel
theorem dX9_part_21 : decode cX9_part 21 = .ok (.ireturn, 1) := by decide +kernel
theorem dX9_turn_0 : decode cX9_turn 0 = .ok (.aload_n 0, 1) := by decide +kernel
theorem dX9_turn_1 : decode cX9_turn 1 = .ok (.iload_n 1, 1) := by decide +kernel
theorem dX9_turn_2 : decode cX9_turn 2 = .ok (.invokevirtual 101, 3) := by decide +kernel
theorem dX9_turn_5 : decode cX9_turn 5 = .ok (.ifCond .eq 12, 3) := by decide +kernel
theorem dX9_turn_8 : decode cX9_turn 8 = .ok (.iload_n 2, 1) := by decide +kernel
theorem dX9_turn_9 : decode cX9_turn 9 = .ok (.iconst 0, 1) := by decide +kernel
theorem dX9_turn_10 : decode cX9_turn 10 = .ok (.iconst 1, 1) := by decide +kernel
theorem dX9_turn_11 : decode cX9_turn 11 = .ok (.invokestatic 90, 3) := by decide +kernel
theorem dX9_turn_14 : decode cX9_turn 14 = .ok (.ifCond .ne 5, 3) := by decide +kernel
theorem dX9_turn_17 : decode cX9_turn 17 = .ok (.iconst (-1), 1) := by decide +kernel
theorem dX9_turn_18 : decode cX9_turn 18 = .ok (.ireturn, 1) := by decide +kernel
theorem dX9_turn_19 : decode cX9_turn 19 = .ok (.aload_n 0, 1) := by decide +kernel
theorem dX9_turn_20 : decode cX9_turn 20 = .ok (.invokevirtual 166, 3) := by decide +kernel
theorem dX9_turn_23 : decode cX9_turn 23 = .ok (.aload_n 0, 1) := by decide +kernel
theorem dX9_turn_24 : decode cX9_turn 24 = .ok (.getfield 22, 3) := by decide +kernel
theorem dX9_turn_27 : decode cX9_turn 27 = .ok (.iload_n 1, 1) := by decide +kernel
theorem dX9_turn_28 : decode cX9_turn 28 = .ok (.iaload, 1) := by decide +kernel
theorem dX9_turn_29 : decode cX9_turn 29 = .ok (.aload_n 0, 1) := by decide +kernel
theorem dX9_turn_30 : decode cX9_turn 30 = .ok (.getfield 160, 3) := by decide +kernel
theorem dX9_turn_33 : decode cX9_turn 33 = .ok (.imul, 1) := by decide +kernel
theorem dX9_turn_34 : decode cX9_turn 34 = .ok (.aload_n 0, 1) := by decide +kernel
theorem dX9_turn_35 : decode cX9_turn 35 = .ok (.getfield 157, 3) := by decide +kernel
theorem dX9_turn_38 : decode cX9_turn 38 = .ok (.isub, 1) := by decide +kernel
theorem dX9_turn_39 : decode cX9_turn 39 = .ok (.aload_n 0, 1) := by decide +kernel
theorem dX9_turn_40 : decode cX9_turn 40 = .ok (.getfield 160, 3) := by decide +kernel
theorem dX9_turn_43 : decode cX9_turn 43 = .ok (.aload_n 0, 1) := by decide +kernel
theorem dX9_turn_44 : decode cX9_turn 44 = .ok (.getfield 53, 3) := by decide +kernel
theorem dX9_turn_47 : decode cX9_turn 47 = .ok (.imul, 1) := by decide +kernel
theorem dX9_turn_48 : decode cX9_turn 48 = .ok (.iload_n 2, 1) := by decide +kernel
theorem dX9_turn_49 : decode cX9_turn 49 = .ok (.invokestatic 169, 3) := by decide +kernel
theorem dX9_turn_52 : decode cX9_turn 52 = .ok (.ireturn, 1) := by decide +kernel
theorem dX9_stake_0 : decode cX9_stake 0 = .ok (.iload_n 1, 1) := by decide +kernel
theorem dX9_stake_1 : decode cX9_stake 1 = .ok (.iconst 0, 1) := by decide +kernel
theorem dX9_stake_2 : decode cX9_stake 2 = .ok (.iconst 1, 1) := by decide +kernel
theorem dX9_stake_3 : decode cX9_stake 3 = .ok (.invokestatic 90, 3) := by decide +kernel
theorem dX9_stake_6 : decode cX9_stake 6 = .ok (.ifCond .ne 5, 3) := by decide +kernel
theorem dX9_stake_9 : decode cX9_stake 9 = .ok (.iconst (-1), 1) := by decide +kernel
theorem dX9_stake_10 : decode cX9_stake 10 = .ok (.ireturn, 1) := by decide +kernel
theorem dX9_stake_11 : decode cX9_stake 11 = .ok (.aload_n 0, 1) := by decide +kernel
theorem dX9_stake_12 : decode cX9_stake 12 = .ok (.invokevirtual 166, 3) := by decide +kernel
theorem dX9_stake_15 : decode cX9_stake 15 = .ok (.aload_n 0, 1) := by decide +kernel
theorem dX9_stake_16 : decode cX9_stake 16 = .ok (.getfield 157, 3) := by decide +kernel
theorem dX9_stake_19 : decode cX9_stake 19 = .ok (.aload_n 0, 1) := by decide +kernel
theorem dX9_stake_20 : decode cX9_stake 20 = .ok (.getfield 160, 3) := by decide +kernel
theorem dX9_stake_23 : decode cX9_stake 23 = .ok (.iload_n 1, 1) := by decide +kernel
theorem dX9_stake_24 : decode cX9_stake 24 = .ok (.invokestatic 169, 3) := by decide +kernel
theorem dX9_stake_27 : decode cX9_stake 27 = .ok (.ireturn, 1) := by decide +kernel
theorem dX9_ticket_0 : decode cX9_ticket 0 = .ok (.aload_n 0, 1) := by decide +kernel
theorem dX9_ticket_1 : decode cX9_ticket 1 = .ok (.iload_n 1, 1) := by decide +kernel
theorem dX9_ticket_2 : decode cX9_ticket 2 = .ok (.invokevirtual 117, 3) := by decide +kernel
theorem dX9_ticket_5 : decode cX9_ticket 5 = .ok (.ifCond .eq 28, 3) := by decide +kernel
theorem dX9_ticket_8 : decode cX9_ticket 8 = .ok (.aload_n 0, 1) := by decide +kernel
theorem dX9_ticket_9 : decode cX9_ticket 9 = .ok (.iload_n 2, 1) := by decide +kernel
theorem dX9_ticket_10 : decode cX9_ticket 10 = .ok (.invokevirtual 101, 3) := by decide +kernel
theorem dX9_ticket_13 : decode cX9_ticket 13 = .ok (.ifCond .eq 20, 3) := by decide +kernel
theorem dX9_ticket_16 : decode cX9_ticket 16 = .ok (.iload_n 3, 1) := by decide +kernel
theorem dX9_ticket_17 : decode cX9_ticket 17 = .ok (.invokestatic 107, 3) := by decide +kernel
theorem dX9_ticket_20 : decode cX9_ticket 20 = .ok (.ifCond .eq 13, 3) := by decide +kernel
theorem dX9_ticket_23 : decode cX9_ticket 23 = .ok (.iload 4, 2) := by decide +kernel
theorem dX9_ticket_25 : decode cX9_ticket 25 = .ok (.iconst 0, 1) := by decide +kernel
theorem dX9_ticket_26 : decode cX9_ticket 26 = .ok (.iconst 2, 1) := by decide +kernel
theorem dX9_ticket_27 : decode cX9_ticket 27 = .ok (.invokestatic 90, 3) := by decide +kernel
theorem dX9_ticket_30 : decode cX9_ticket 30 = .ok (.ifCond .ne 5, 3) := by decide +kernel
theorem dX9_ticket_33 : decode cX9_ticket 33 = .ok (.iconst (-1), 1) := by decide +kernel
theorem dX9_ticket_34 : decode cX9_ticket 34 = .ok (.ireturn, 1) := by decide +kernel
theorem dX9_ticket_35 : decode cX9_ticket 35 = .ok (.aload_n 0, 1) := by decide +kernel
theorem dX9_ticket_36 : decode cX9_ticket 36 = .ok (.getfield 172, 3) := by decide +kernel
theorem dX9_ticket_39 : decode cX9_ticket 39 = .ok (.bipush 20, 2) := by decide +kernel
theorem dX9_ticket_41 : decode cX9_ticket 41 = .ok (.if_icmp .ne 6, 3) := by decide +kernel
theorem dX9_ticket_44 : decode cX9_ticket 44 = .ok (.bipush (-2), 2) := by decide +kernel
theorem dX9_ticket_46 : decode cX9_ticket 46 = .ok (.ireturn, 1) := by decide +kernel
theorem dX9_ticket_47 : decode cX9_ticket 47 = .ok (.aload_n 0, 1) := by decide +kernel
theorem dX9_ticket_48 : decode cX9_ticket 48 = .ok (.getfield 57, 3) := by decide +kernel
theorem dX9_ticket_51 : decode cX9_ticket 51 = .ok (.aload_n 0, 1) := by decide +kernel
theorem dX9_ticket_52 : decode cX9_ticket 52 = .ok (.getfield 172, 3) := by decide +kernel
theorem dX9_ticket_55 : decode cX9_ticket 55 = .ok (.iload_n 1, 1) := by decide +kernel
theorem dX9_ticket_56 : decode cX9_ticket 56 = .ok (.iastore, 1) := by decide +kernel
theorem dX9_ticket_57 : decode cX9_ticket 57 = .ok (.aload_n 0, 1) := by decide +kernel
theorem dX9_ticket_58 : decode cX9_ticket 58 = .ok (.getfield 60, 3) := by decide +kernel
theorem dX9_ticket_61 : decode cX9_ticket 61 = .ok (.aload_n 0, 1) := by decide +kernel
theorem dX9_ticket_62 : decode cX9_ticket 62 = .ok (.getfield 172, 3) := by decide +kernel
theorem dX9_ticket_65 : decode cX9_ticket 65 = .ok (.iload_n 2, 1) := by decide +kernel
theorem dX9_ticket_66 : decode cX9_ticket 66 = .ok (.iastore, 1) := by decide +kernel
theorem dX9_ticket_67 : decode cX9_ticket 67 = .ok (.aload_n 0, 1) := by decide +kernel
theorem dX9_ticket_68 : decode cX9_ticket 68 = .ok (.getfield 63, 3) := by decide +kernel
theorem dX9_ticket_71 : decode cX9_ticket 71 = .ok (.aload_n 0, 1) := by decide +kernel
theorem dX9_ticket_72 : decode cX9_ticket 72 = .ok (.getfield 172, 3) := by decide +kernel
theorem dX9_ticket_75 : decode cX9_ticket 75 = .ok (.iload_n 3, 1) := by decide +kernel
theorem dX9_ticket_76 : decode cX9_ticket 76 = .ok (.iastore, 1) := by decide +kernel
theorem dX9_ticket_77 : decode cX9_ticket 77 = .ok (.aload_n 0, 1) := by decide +kernel
theorem dX9_ticket_78 : decode cX9_ticket 78 = .ok (.getfield 66, 3) := by decide +kernel
theorem dX9_ticket_81 : decode cX9_ticket 81 = .ok (.aload_n 0, 1) := by decide +kernel
theorem dX9_ticket_82 : decode cX9_ticket 82 = .ok (.getfield 172, 3) := by decide +kernel
theorem dX9_ticket_85 : decode cX9_ticket 85 = .ok (.iload 4, 2) := by decide +kernel
theorem dX9_ticket_87 : decode cX9_ticket 87 = .ok (.iastore, 1) := by decide +kernel
theorem dX9_ticket_88 : decode cX9_ticket 88 = .ok (.aload_n 0, 1) := by decide +kernel
theorem dX9_ticket_89 : decode cX9_ticket 89 = .ok (.getfield 69, 3) := by decide +kernel
theorem dX9_ticket_92 : decode cX9_ticket 92 = .ok (.aload_n 0, 1) := by decide +kernel
theorem dX9_ticket_93 : decode cX9_ticket 93 = .ok (.getfield 172, 3) := by decide +kernel
theorem dX9_ticket_96 : decode cX9_ticket 96 = .ok (.aload_n 0, 1) := by decide +kernel
theorem dX9_ticket_97 : decode cX9_ticket 97 = .ok (.getfield 7, 3) := by decide +kernel
theorem dX9_ticket_100 : decode cX9_ticket 100 = .ok (.iload_n 2, 1) := by decide +kernel
theorem dX9_ticket_101 : decode cX9_ticket 101 = .ok (.iaload, 1) := by decide +kernel
theorem dX9_ticket_102 : decode cX9_ticket 102 = .ok (.iastore, 1) := by decide +kernel
theorem dX9_ticket_103 : decode cX9_ticket 103 = .ok (.aload_n 0, 1) := by decide +kernel
theorem dX9_ticket_104 : decode cX9_ticket 104 = .ok (.getfield 72, 3) := by decide +kernel
theorem dX9_ticket_107 : decode cX9_ticket 107 = .ok (.aload_n 0, 1) := by decide +kernel
theorem dX9_ticket_108 : decode cX9_ticket 108 = .ok (.getfield 172, 3) := by decide +kernel
theorem dX9_ticket_111 : decode cX9_ticket 111 = .ok (.aload_n 0, 1) := by decide +kernel
theorem dX9_ticket_112 : decode cX9_ticket 112 = .ok (.iload_n 1, 1) := by decide +kernel
theorem dX9_ticket_113 : decode cX9_ticket 113 = .ok (.aload_n 0, 1) := by decide +kernel
theorem dX9_ticket_114 : decode cX9_ticket 114 = .ok (.getfield 7, 3) := by decide +kernel
theorem dX9_ticket_117 : decode cX9_ticket 117 = .ok (.iload_n 2, 1) := by decide +kernel
theorem dX9_ticket_118 : decode cX9_ticket 118 = .ok (.iaload, 1) := by decide +kernel
theorem dX9_ticket_119 : decode cX9_ticket 119 = .ok (.iload_n 3, 1) := by decide +kernel
theorem dX9_ticket_120 : decode cX9_ticket 120 = .ok (.invokevirtual 123, 3) := by decide +kernel
theorem dX9_ticket_123 : decode cX9_ticket 123 = .ok (.iastore, 1) := by decide +kernel
theorem dX9_ticket_124 : decode cX9_ticket 124 = .ok (.aload_n 0, 1) := by decide +kernel
theorem dX9_ticket_125 : decode cX9_ticket 125 = .ok (.dup, 1) := by decide +kernel
theorem dX9_ticket_126 : decode cX9_ticket 126 = .ok (.getfield 172, 3) := by decide +kernel
theorem dX9_ticket_129 : decode cX9_ticket 129 = .ok (.iconst 1, 1) := by decide +kernel
theorem dX9_ticket_130 : decode cX9_ticket 130 = .ok (.iadd, 1) := by decide +kernel
theorem dX9_ticket_131 : decode cX9_ticket 131 = .ok (.putfield 172, 3) := by decide +kernel
theorem dX9_ticket_134 : decode cX9_ticket 134 = .ok (.aload_n 0, 1) := by decide +kernel
theorem dX9_ticket_135 : decode cX9_ticket 135 = .ok (.getfield 172, 3) := by decide +kernel
theorem dX9_ticket_138 : decode cX9_ticket 138 = .ok (.iconst 1, 1) := by decide +kernel
theorem dX9_ticket_139 : decode cX9_ticket 139 = .ok (.isub, 1) := by decide +kernel
theorem dX9_ticket_140 : decode cX9_ticket 140 = .ok (.ireturn, 1) := by decide +kernel
theorem dX9_judged_0 : decode cX9_judged 0 = .ok (.aload_n 0, 1) := by decide +kernel
theorem dX9_judged_1 : decode cX9_judged 1 = .ok (.getfield 72, 3) := by decide +kernel
theorem dX9_judged_4 : decode cX9_judged 4 = .ok (.iload_n 1, 1) := by decide +kernel
theorem dX9_judged_5 : decode cX9_judged 5 = .ok (.iaload, 1) := by decide +kernel
theorem dX9_judged_6 : decode cX9_judged 6 = .ok (.ifCond .gt 12, 3) := by decide +kernel
theorem dX9_judged_9 : decode cX9_judged 9 = .ok (.aload_n 0, 1) := by decide +kernel
theorem dX9_judged_10 : decode cX9_judged 10 = .ok (.getfield 66, 3) := by decide +kernel
theorem dX9_judged_13 : decode cX9_judged 13 = .ok (.iload_n 1, 1) := by decide +kernel
theorem dX9_judged_14 : decode cX9_judged 14 = .ok (.iaload, 1) := by decide +kernel
theorem dX9_judged_15 : decode cX9_judged 15 = .ok (.ifCond .ne 7, 3) := by decide +kernel
theorem dX9_judged_18 : decode cX9_judged 18 = .ok (.iconst 0, 1) := by decide +kernel
theorem dX9_judged_19 : decode cX9_judged 19 = .ok (.goto 18, 3) := by decide +kernel
theorem dX9_judged_22 : decode cX9_judged 22 = .ok (.aload_n 0, 1) := by decide +kernel
theorem dX9_judged_23 : decode cX9_judged 23 = .ok (.getfield 66, 3) := by decide +kernel
theorem dX9_judged_26 : decode cX9_judged 26 = .ok (.iload_n 1, 1) := by decide +kernel
theorem dX9_judged_27 : decode cX9_judged 27 = .ok (.iaload, 1) := by decide +kernel
theorem dX9_judged_28 : decode cX9_judged 28 = .ok (.iconst 1, 1) := by decide +kernel
theorem dX9_judged_29 : decode cX9_judged 29 = .ok (.if_icmp .ne 7, 3) := by decide +kernel
theorem dX9_judged_32 : decode cX9_judged 32 = .ok (.iconst 1, 1) := by decide +kernel
theorem dX9_judged_33 : decode cX9_judged 33 = .ok (.goto 4, 3) := by decide +kernel
theorem dX9_judged_36 : decode cX9_judged 36 = .ok (.iconst 2, 1) := by decide +kernel
theorem dX9_judged_37 : decode cX9_judged 37 = .ok (.ireturn, 1) := by decide +kernel
theorem dX9_likes_0 : decode cX9_likes 0 = .ok (.iconst 0, 1) := by decide +kernel
theorem dX9_likes_1 : decode cX9_likes 1 = .ok (.istore_n 3, 1) := by decide +kernel
theorem dX9_likes_2 : decode cX9_likes 2 = .ok (.iconst 0, 1) := by decide +kernel
theorem dX9_likes_3 : decode cX9_likes 3 = .ok (.istore 4, 2) := by decide +kernel
theorem dX9_likes_5 : decode cX9_likes 5 = .ok (.iload 4, 2) := by decide +kernel
theorem dX9_likes_7 : decode cX9_likes 7 = .ok (.aload_n 0, 1) := by decide +kernel
theorem dX9_likes_8 : decode cX9_likes 8 = .ok (.getfield 172, 3) := by decide +kernel
theorem dX9_likes_11 : decode cX9_likes 11 = .ok (.if_icmp .ge 66, 3) := by decide +kernel
theorem dX9_likes_14 : decode cX9_likes 14 = .ok (.iload_n 3, 1) := by decide +kernel
theorem dX9_likes_15 : decode cX9_likes 15 = .ok (.iload 4, 2) := by decide +kernel
theorem dX9_likes_17 : decode cX9_likes 17 = .ok (.iload_n 1, 1) := by decide +kernel
theorem dX9_likes_18 : decode cX9_likes 18 = .ok (.if_icmp .eq 50, 3) := by decide +kernel
theorem dX9_likes_21 : decode cX9_likes 21 = .ok (.aload_n 0, 1) := by decide +kernel
theorem dX9_likes_22 : decode cX9_likes 22 = .ok (.getfield 69, 3) := by decide +kernel
theorem dX9_likes_25 : decode cX9_likes 25 = .ok (.iload 4, 2) := by decide +kernel
theorem dX9_likes_27 : decode cX9_likes 27 = .ok (.iaload, 1) := by decide +kernel
theorem dX9_likes_28 : decode cX9_likes 28 = .ok (.aload_n 0, 1) := by decide +kernel
theorem dX9_likes_29 : decode cX9_likes 29 = .ok (.getfield 69, 3) := by decide +kernel
theorem dX9_likes_32 : decode cX9_likes 32 = .ok (.iload_n 1, 1) := by decide +kernel
theorem dX9_likes_33 : decode cX9_likes 33 = .ok (.iaload, 1) := by decide +kernel
theorem dX9_likes_34 : decode cX9_likes 34 = .ok (.if_icmp .ne 34, 3) := by decide +kernel
theorem dX9_likes_37 : decode cX9_likes 37 = .ok (.aload_n 0, 1) := by decide +kernel
theorem dX9_likes_38 : decode cX9_likes 38 = .ok (.getfield 63, 3) := by decide +kernel
theorem dX9_likes_41 : decode cX9_likes 41 = .ok (.iload 4, 2) := by decide +kernel
theorem dX9_likes_43 : decode cX9_likes 43 = .ok (.iaload, 1) := by decide +kernel
theorem dX9_likes_44 : decode cX9_likes 44 = .ok (.aload_n 0, 1) := by decide +kernel
theorem dX9_likes_45 : decode cX9_likes 45 = .ok (.getfield 63, 3) := by decide +kernel
theorem dX9_likes_48 : decode cX9_likes 48 = .ok (.iload_n 1, 1) := by decide +kernel
theorem dX9_likes_49 : decode cX9_likes 49 = .ok (.iaload, 1) := by decide +kernel
theorem dX9_likes_50 : decode cX9_likes 50 = .ok (.if_icmp .ne 18, 3) := by decide +kernel
theorem dX9_likes_53 : decode cX9_likes 53 = .ok (.aload_n 0, 1) := by decide +kernel
theorem dX9_likes_54 : decode cX9_likes 54 = .ok (.getfield 66, 3) := by decide +kernel
theorem dX9_likes_57 : decode cX9_likes 57 = .ok (.iload 4, 2) := by decide +kernel
theorem dX9_likes_59 : decode cX9_likes 59 = .ok (.iaload, 1) := by decide +kernel
theorem dX9_likes_60 : decode cX9_likes 60 = .ok (.iload_n 2, 1) := by decide +kernel
theorem dX9_likes_61 : decode cX9_likes 61 = .ok (.if_icmp .ne 7, 3) := by decide +kernel
theorem dX9_likes_64 : decode cX9_likes 64 = .ok (.iconst 1, 1) := by decide +kernel
theorem dX9_likes_65 : decode cX9_likes 65 = .ok (.goto 4, 3) := by decide +kernel
theorem dX9_likes_68 : decode cX9_likes 68 = .ok (.iconst 0, 1) := by decide +kernel
theorem dX9_likes_69 : decode cX9_likes 69 = .ok (.iadd, 1) := by decide +kernel
theorem dX9_likes_70 : decode cX9_likes 70 = .ok (.istore_n 3, 1) := by decide +kernel
theorem dX9_likes_71 : decode cX9_likes 71 = .ok (.iinc 4 1, 3) := by decide +kernel
theorem dX9_likes_74 : decode cX9_likes 74 = .ok (.goto (-69), 3) := by decide +kernel
theorem dX9_likes_77 : decode cX9_likes 77 = .ok (.iload_n 3, 1) := by decide +kernel
theorem dX9_likes_78 : decode cX9_likes 78 = .ok (.ireturn, 1) := by decide +kernel
theorem dX9_byLikes_0 : decode cX9_byLikes 0 = .ok (.aload_n 0, 1) := by decide +kernel
theorem dX9_byLikes_1 : decode cX9_byLikes 1 = .ok (.iload_n 1, 1) := by decide +kernel
theorem dX9_byLikes_2 : decode cX9_byLikes 2 = .ok (.invokevirtual 175, 3) := by decide +kernel
theorem dX9_byLikes_5 : decode cX9_byLikes 5 = .ok (.iconst 2, 1) := by decide +kernel
theorem dX9_byLikes_6 : decode cX9_byLikes 6 = .ok (.if_icmp .eq 9, 3) := by decide +kernel
theorem dX9_byLikes_9 : decode cX9_byLikes 9 = .ok (.aload_n 0, 1) := by decide +kernel
theorem dX9_byLikes_10 : decode cX9_byLikes 10 = .ok (.iload_n 1, 1) := by decide +kernel
theorem dX9_byLikes_11 : decode cX9_byLikes 11 = .ok (.invokevirtual 175, 3) := by decide +kernel
theorem dX9_byLikes_14 : decode cX9_byLikes 14 = .ok (.ireturn, 1) := by decide +kernel
theorem dX9_byLikes_15 : decode cX9_byLikes 15 = .ok (.aload_n 0, 1) := by decide +kernel
theorem dX9_byLikes_16 : decode cX9_byLikes 16 = .ok (.iload_n 1, 1) := by decide +kernel
theorem dX9_byLikes_17 : decode cX9_byLikes 17 = .ok (.iconst 1, 1) := by decide +kernel
theorem dX9_byLikes_18 : decode cX9_byLikes 18 = .ok (.invokevirtual 178, 3) := by decide +kernel
theorem dX9_byLikes_21 : decode cX9_byLikes 21 = .ok (.istore_n 2, 1) := by decide +kernel
theorem dX9_byLikes_22 : decode cX9_byLikes 22 = .ok (.aload_n 0, 1) := by decide +kernel
theorem dX9_byLikes_23 : decode cX9_byLikes 23 = .ok (.iload_n 1, 1) := by decide +kernel
theorem dX9_byLikes_24 : decode cX9_byLikes 24 = .ok (.iconst 0, 1) := by decide +kernel
theorem dX9_byLikes_25 : decode cX9_byLikes 25 = .ok (.invokevirtual 178, 3) := by decide +kernel
theorem dX9_byLikes_28 : decode cX9_byLikes 28 = .ok (.istore_n 3, 1) := by decide +kernel
theorem dX9_byLikes_29 : decode cX9_byLikes 29 = .ok (.iload_n 2, 1) := by decide +kernel
theorem dX9_byLikes_30 : decode cX9_byLikes 30 = .ok (.iload_n 3, 1) := by decide +kernel
theorem dX9_byLikes_31 : decode cX9_byLikes 31 = .ok (.if_icmp .le 7, 3) := by decide +kernel
theorem dX9_byLikes_34 : decode cX9_byLikes 34 = .ok (.iconst 1, 1) := by decide +kernel
theorem dX9_byLikes_35 : decode cX9_byLikes 35 = .ok (.goto 13, 3) := by decide +kernel
theorem dX9_byLikes_38 : decode cX9_byLikes 38 = .ok (.iload_n 2, 1) := by decide +kernel
theorem dX9_byLikes_39 : decode cX9_byLikes 39 = .ok (.iload_n 3, 1) := by decide +kernel
theorem dX9_byLikes_40 : decode cX9_byLikes 40 = .ok (.if_icmp .ge 7, 3) := by decide +kernel
theorem dX9_byLikes_43 : decode cX9_byLikes 43 = .ok (.iconst 0, 1) := by decide +kernel
theorem dX9_byLikes_44 : decode cX9_byLikes 44 = .ok (.goto 4, 3) := by decide +kernel
theorem dX9_byLikes_47 : decode cX9_byLikes 47 = .ok (.iconst 2, 1) := by decide +kernel
theorem dX9_byLikes_48 : decode cX9_byLikes 48 = .ok (.ireturn, 1) := by decide +kernel
theorem dX9_of_0 : decode cX9_of 0 = .ok (.iload_n 1, 1) := by decide +kernel
theorem dX9_of_1 : decode cX9_of 1 = .ok (.iconst 0, 1) := by decide +kernel
theorem dX9_of_2 : decode cX9_of 2 = .ok (.aload_n 0, 1) := by decide +kernel
theorem dX9_of_3 : decode cX9_of 3 = .ok (.getfield 172, 3) := by decide +kernel
theorem dX9_of_6 : decode cX9_of 6 = .ok (.iconst 1, 1) := by decide +kernel
theorem dX9_of_7 : decode cX9_of 7 = .ok (.isub, 1) := by decide +kernel
theorem dX9_of_8 : decode cX9_of 8 = .ok (.invokestatic 90, 3) := by decide +kernel
theorem dX9_of_11 : decode cX9_of 11 = .ok (.ifCond .ne 5, 3) := by decide +kernel
theorem dX9_of_14 : decode cX9_of 14 = .ok (.iconst (-1), 1) := by decide +kernel
theorem dX9_of_15 : decode cX9_of 15 = .ok (.ireturn, 1) := by decide +kernel
theorem dX9_of_16 : decode cX9_of 16 = .ok (.iload_n 2, 1) := by decide +kernel
theorem dX9_of_17 : decode cX9_of 17 = .ok (.tableswitch 108 0 7 #[47, 54, 61, 68, 75, 82, 88, 94], 47) := by decide +kernel
theorem dX9_of_64 : decode cX9_of 64 = .ok (.aload_n 0, 1) := by decide +kernel
theorem dX9_of_65 : decode cX9_of 65 = .ok (.getfield 57, 3) := by decide +kernel
theorem dX9_of_68 : decode cX9_of 68 = .ok (.iload_n 1, 1) := by decide +kernel
theorem dX9_of_69 : decode cX9_of 69 = .ok (.iaload, 1) := by decide +kernel
theorem dX9_of_70 : decode cX9_of 70 = .ok (.ireturn, 1) := by decide +kernel
theorem dX9_of_71 : decode cX9_of 71 = .ok (.aload_n 0, 1) := by decide +kernel
theorem dX9_of_72 : decode cX9_of 72 = .ok (.getfield 60, 3) := by decide +kernel
theorem dX9_of_75 : decode cX9_of 75 = .ok (.iload_n 1, 1) := by decide +kernel
theorem dX9_of_76 : decode cX9_of 76 = .ok (.iaload, 1) := by decide +kernel
theorem dX9_of_77 : decode cX9_of 77 = .ok (.ireturn, 1) := by decide +kernel
theorem dX9_of_78 : decode cX9_of 78 = .ok (.aload_n 0, 1) := by decide +kernel
theorem dX9_of_79 : decode cX9_of 79 = .ok (.getfield 63, 3) := by decide +kernel
theorem dX9_of_82 : decode cX9_of 82 = .ok (.iload_n 1, 1) := by decide +kernel
theorem dX9_of_83 : decode cX9_of 83 = .ok (.iaload, 1) := by decide +kernel
theorem dX9_of_84 : decode cX9_of 84 = .ok (.ireturn, 1) := by decide +kernel
theorem dX9_of_85 : decode cX9_of 85 = .ok (.aload_n 0, 1) := by decide +kernel
theorem dX9_of_86 : decode cX9_of 86 = .ok (.getfield 66, 3) := by decide +kernel
theorem dX9_of_89 : decode cX9_of 89 = .ok (.iload_n 1, 1) := by decide +kernel
theorem dX9_of_90 : decode cX9_of 90 = .ok (.iaload, 1) := by decide +kernel
theorem dX9_of_91 : decode cX9_of 91 = .ok (.ireturn, 1) := by decide +kernel
theorem dX9_of_92 : decode cX9_of 92 = .ok (.aload_n 0, 1) := by decide +kernel
theorem dX9_of_93 : decode cX9_of 93 = .ok (.getfield 69, 3) := by decide +kernel
theorem dX9_of_96 : decode cX9_of 96 = .ok (.iload_n 1, 1) := by decide +kernel
theorem dX9_of_97 : decode cX9_of 97 = .ok (.iaload, 1) := by decide +kernel
theorem dX9_of_98 : decode cX9_of 98 = .ok (.ireturn, 1) := by decide +kernel
theorem dX9_of_99 : decode cX9_of 99 = .ok (.aload_n 0, 1) := by decide +kernel
theorem dX9_of_100 : decode cX9_of 100 = .ok (.iload_n 1, 1) := by decide +kernel
theorem dX9_of_101 : decode cX9_of 101 = .ok (.invokevirtual 175, 3) := by decide +kernel
theorem dX9_of_104 : decode cX9_of 104 = .ok (.ireturn, 1) := by decide +kernel
theorem dX9_of_105 : decode cX9_of 105 = .ok (.aload_n 0, 1) := by decide +kernel
theorem dX9_of_106 : decode cX9_of 106 = .ok (.iload_n 1, 1) := by decide +kernel
theorem dX9_of_107 : decode cX9_of 107 = .ok (.invokevirtual 181, 3) := by decide +kernel
theorem dX9_of_110 : decode cX9_of 110 = .ok (.ireturn, 1) := by decide +kernel
theorem dX9_of_111 : decode cX9_of 111 = .ok (.aload_n 0, 1) := by decide +kernel
theorem dX9_of_112 : decode cX9_of 112 = .ok (.iload_n 1, 1) := by decide +kernel
theorem dX9_of_113 : decode cX9_of 113 = .ok (.iconst 0, 1) := by decide +kernel
theorem dX9_of_114 : decode cX9_of 114 = .ok (.invokevirtual 178, 3) := by decide +kernel
theorem dX9_of_117 : decode cX9_of 117 = .ok (.aload_n 0, 1) := by decide +kernel
theorem dX9_of_118 : decode cX9_of 118 = .ok (.iload_n 1, 1) := by decide +kernel
theorem dX9_of_119 : decode cX9_of 119 = .ok (.iconst 1, 1) := by decide +kernel
theorem dX9_of_120 : decode cX9_of 120 = .ok (.invokevirtual 178, 3) := by decide +kernel
theorem dX9_of_123 : decode cX9_of 123 = .ok (.iadd, 1) := by decide +kernel
theorem dX9_of_124 : decode cX9_of 124 = .ok (.ireturn, 1) := by decide +kernel
theorem dX9_of_125 : decode cX9_of 125 = .ok (.iconst (-1), 1) := by decide +kernel
theorem dX9_of_126 : decode cX9_of 126 = .ok (.ireturn, 1) := by decide +kernel
theorem dX9_ticketsThat_0 : decode cX9_ticketsThat 0 = .ok (.iconst 0, 1) := by decide +kernel
theorem dX9_ticketsThat_1 : decode cX9_ticketsThat 1 = .ok (.istore_n 2, 1) := by decide +kernel
theorem dX9_ticketsThat_2 : decode cX9_ticketsThat 2 = .ok (.iconst 0, 1) := by decide +kernel
theorem dX9_ticketsThat_3 : decode cX9_ticketsThat 3 = .ok (.istore_n 3, 1) := by decide +kernel
theorem dX9_ticketsThat_4 : decode cX9_ticketsThat 4 = .ok (.iload_n 3, 1) := by decide +kernel
theorem dX9_ticketsThat_5 : decode cX9_ticketsThat 5 = .ok (.aload_n 0, 1) := by decide +kernel
theorem dX9_ticketsThat_6 : decode cX9_ticketsThat 6 = .ok (.getfield 172, 3) := by decide +kernel
theorem dX9_ticketsThat_9 : decode cX9_ticketsThat 9 = .ok (.if_icmp .ge 26, 3) := by decide +kernel
theorem dX9_ticketsThat_12 : decode cX9_ticketsThat 12 = .ok (.iload_n 2, 1) := by decide +kernel
theorem dX9_ticketsThat_13 : decode cX9_ticketsThat 13 = .ok (.aload_n 0, 1) := by decide +kernel
theorem dX9_ticketsThat_14 : decode cX9_ticketsThat 14 = .ok (.iload_n 3, 1) := by decide +kernel
theorem dX9_ticketsThat_15 : decode cX9_ticketsThat 15 = .ok (.invokevirtual 175, 3) := by decide +kernel
theorem dX9_ticketsThat_18 : decode cX9_ticketsThat 18 = .ok (.iload_n 1, 1) := by decide +kernel
theorem dX9_ticketsThat_19 : decode cX9_ticketsThat 19 = .ok (.if_icmp .ne 7, 3) := by decide +kernel
theorem dX9_ticketsThat_22 : decode cX9_ticketsThat 22 = .ok (.iconst 1, 1) := by decide +kernel
theorem dX9_ticketsThat_23 : decode cX9_ticketsThat 23 = .ok (.goto 4, 3) := by decide +kernel
theorem dX9_ticketsThat_26 : decode cX9_ticketsThat 26 = .ok (.iconst 0, 1) := by decide +kernel
theorem dX9_ticketsThat_27 : decode cX9_ticketsThat 27 = .ok (.iadd, 1) := by decide +kernel
theorem dX9_ticketsThat_28 : decode cX9_ticketsThat 28 = .ok (.istore_n 2, 1) := by decide +kernel
theorem dX9_ticketsThat_29 : decode cX9_ticketsThat 29 = .ok (.iinc 3 1, 3) := by decide +kernel
theorem dX9_ticketsThat_32 : decode cX9_ticketsThat 32 = .ok (.goto (-28), 3) := by decide +kernel
theorem dX9_ticketsThat_35 : decode cX9_ticketsThat 35 = .ok (.iload_n 2, 1) := by decide +kernel
theorem dX9_ticketsThat_36 : decode cX9_ticketsThat 36 = .ok (.ireturn, 1) := by decide +kernel
theorem dX9_allBays_0 : decode cX9_allBays 0 = .ok (.iconst 0, 1) := by decide +kernel
theorem dX9_allBays_1 : decode cX9_allBays 1 = .ok (.istore_n 1, 1) := by decide +kernel
theorem dX9_allBays_2 : decode cX9_allBays 2 = .ok (.iconst 0, 1) := by decide +kernel
theorem dX9_allBays_3 : decode cX9_allBays 3 = .ok (.istore_n 2, 1) := by decide +kernel
theorem dX9_allBays_4 : decode cX9_allBays 4 = .ok (.iload_n 2, 1) := by decide +kernel
theorem dX9_allBays_5 : decode cX9_allBays 5 = .ok (.aload_n 0, 1) := by decide +kernel
theorem dX9_allBays_6 : decode cX9_allBays 6 = .ok (.getfield 87, 3) := by decide +kernel
theorem dX9_allBays_9 : decode cX9_allBays 9 = .ok (.if_icmp .ge 18, 3) := by decide +kernel
theorem dX9_allBays_12 : decode cX9_allBays 12 = .ok (.iload_n 1, 1) := by decide +kernel
theorem dX9_allBays_13 : decode cX9_allBays 13 = .ok (.aload_n 0, 1) := by decide +kernel
theorem dX9_allBays_14 : decode cX9_allBays 14 = .ok (.getfield 13, 3) := by decide +kernel
theorem dX9_allBays_17 : decode cX9_allBays 17 = .ok (.iload_n 2, 1) := by decide +kernel
theorem dX9_allBays_18 : decode cX9_allBays 18 = .ok (.iaload, 1) := by decide +kernel
theorem dX9_allBays_19 : decode cX9_allBays 19 = .ok (.iadd, 1) := by decide +kernel
theorem dX9_allBays_20 : decode cX9_allBays 20 = .ok (.istore_n 1, 1) := by decide +kernel
theorem dX9_allBays_21 : decode cX9_allBays 21 = .ok (.iinc 2 1, 3) := by decide +kernel
theorem dX9_allBays_24 : decode cX9_allBays 24 = .ok (.goto (-20), 3) := by decide +kernel
theorem dX9_allBays_27 : decode cX9_allBays 27 = .ok (.iload_n 1, 1) := by decide +kernel
theorem dX9_allBays_28 : decode cX9_allBays 28 = .ok (.ireturn, 1) := by decide +kernel
theorem dX9_allCards_0 : decode cX9_allCards 0 = .ok (.iconst 0, 1) := by decide +kernel
theorem dX9_allCards_1 : decode cX9_allCards 1 = .ok (.istore_n 1, 1) := by decide +kernel
theorem dX9_allCards_2 : decode cX9_allCards 2 = .ok (.iconst 0, 1) := by decide +kernel
theorem dX9_allCards_3 : decode cX9_allCards 3 = .ok (.istore_n 2, 1) := by decide +kernel
theorem dX9_allCards_4 : decode cX9_allCards 4 = .ok (.iload_n 2, 1) := by decide +kernel
theorem dX9_allCards_5 : decode cX9_allCards 5 = .ok (.iconst 4, 1) := by decide +kernel
theorem dX9_allCards_6 : decode cX9_allCards 6 = .ok (.aload_n 0, 1) := by decide +kernel
theorem dX9_allCards_7 : decode cX9_allCards 7 = .ok (.getfield 94, 3) := by decide +kernel
theorem dX9_allCards_10 : decode cX9_allCards 10 = .ok (.imul, 1) := by decide +kernel
theorem dX9_allCards_11 : decode cX9_allCards 11 = .ok (.if_icmp .ge 18, 3) := by decide +kernel
theorem dX9_allCards_14 : decode cX9_allCards 14 = .ok (.iload_n 1, 1) := by decide +kernel
theorem dX9_allCards_15 : decode cX9_allCards 15 = .ok (.aload_n 0, 1) := by decide +kernel
theorem dX9_allCards_16 : decode cX9_allCards 16 = .ok (.getfield 32, 3) := by decide +kernel
theorem dX9_allCards_19 : decode cX9_allCards 19 = .ok (.iload_n 2, 1) := by decide +kernel
theorem dX9_allCards_20 : decode cX9_allCards 20 = .ok (.iaload, 1) := by decide +kernel
theorem dX9_allCards_21 : decode cX9_allCards 21 = .ok (.iadd, 1) := by decide +kernel
theorem dX9_allCards_22 : decode cX9_allCards 22 = .ok (.istore_n 1, 1) := by decide +kernel
theorem dX9_allCards_23 : decode cX9_allCards 23 = .ok (.iinc 2 1, 3) := by decide +kernel
theorem dX9_allCards_26 : decode cX9_allCards 26 = .ok (.goto (-22), 3) := by decide +kernel
theorem dX9_allCards_29 : decode cX9_allCards 29 = .ok (.iload_n 1, 1) := by decide +kernel
theorem dX9_allCards_30 : decode cX9_allCards 30 = .ok (.ireturn, 1) := by decide +kernel
theorem dX9_many_0 : decode cX9_many 0 = .ok (.iload_n 1, 1) := by decide +kernel
theorem dX9_many_1 : decode cX9_many 1 = .ok (.tableswitch 90 0 7 #[47, 52, 57, 62, 68, 74, 80, 85], 47) := by decide +kernel
theorem dX9_many_48 : decode cX9_many 48 = .ok (.aload_n 0, 1) := by decide +kernel
theorem dX9_many_49 : decode cX9_many 49 = .ok (.getfield 87, 3) := by decide +kernel
theorem dX9_many_52 : decode cX9_many 52 = .ok (.ireturn, 1) := by decide +kernel
theorem dX9_many_53 : decode cX9_many 53 = .ok (.aload_n 0, 1) := by decide +kernel
theorem dX9_many_54 : decode cX9_many 54 = .ok (.getfield 94, 3) := by decide +kernel
theorem dX9_many_57 : decode cX9_many 57 = .ok (.ireturn, 1) := by decide +kernel
theorem dX9_many_58 : decode cX9_many 58 = .ok (.aload_n 0, 1) := by decide +kernel
theorem dX9_many_59 : decode cX9_many 59 = .ok (.getfield 172, 3) := by decide +kernel
theorem dX9_many_62 : decode cX9_many 62 = .ok (.ireturn, 1) := by decide +kernel
theorem dX9_many_63 : decode cX9_many 63 = .ok (.aload_n 0, 1) := by decide +kernel
theorem dX9_many_64 : decode cX9_many 64 = .ok (.iconst 1, 1) := by decide +kernel
theorem dX9_many_65 : decode cX9_many 65 = .ok (.invokevirtual 184, 3) := by decide +kernel
theorem dX9_many_68 : decode cX9_many 68 = .ok (.ireturn, 1) := by decide +kernel
theorem dX9_many_69 : decode cX9_many 69 = .ok (.aload_n 0, 1) := by decide +kernel
theorem dX9_many_70 : decode cX9_many 70 = .ok (.iconst 0, 1) := by decide +kernel
theorem dX9_many_71 : decode cX9_many 71 = .ok (.invokevirtual 184, 3) := by decide +kernel
theorem dX9_many_74 : decode cX9_many 74 = .ok (.ireturn, 1) := by decide +kernel
theorem dX9_many_75 : decode cX9_many 75 = .ok (.aload_n 0, 1) := by decide +kernel
theorem dX9_many_76 : decode cX9_many 76 = .ok (.iconst 2, 1) := by decide +kernel
theorem dX9_many_77 : decode cX9_many 77 = .ok (.invokevirtual 184, 3) := by decide +kernel
theorem dX9_many_80 : decode cX9_many 80 = .ok (.ireturn, 1) := by decide +kernel
theorem dX9_many_81 : decode cX9_many 81 = .ok (.aload_n 0, 1) := by decide +kernel
theorem dX9_many_82 : decode cX9_many 82 = .ok (.invokevirtual 187, 3) := by decide +kernel
theorem dX9_many_85 : decode cX9_many 85 = .ok (.ireturn, 1) := by decide +kernel
theorem dX9_many_86 : decode cX9_many 86 = .ok (.aload_n 0, 1) := by decide +kernel
theorem dX9_many_87 : decode cX9_many 87 = .ok (.invokevirtual 191, 3) := by decide +kernel
theorem dX9_many_90 : decode cX9_many 90 = .ok (.ireturn, 1) := by decide +kernel
theorem dX9_many_91 : decode cX9_many 91 = .ok (.iconst (-1), 1) := by decide +kernel
theorem dX9_many_92 : decode cX9_many 92 = .ok (.ireturn, 1) := by decide +kernel
end
section
theorem dL_law_0 : decode cL_law 0 = .ok (.new 7, 3) := by decide +kernel
theorem dL_law_3 : decode cL_law 3 = .ok (.dup, 1) := by decide +kernel
theorem dL_law_4 : decode cL_law 4 = .ok (.invokespecial 9, 3) := by decide +kernel
theorem dL_law_7 : decode cL_law 7 = .ok (.astore_n 1, 1) := by decide +kernel
theorem dL_law_8 : decode cL_law 8 = .ok (.new 10, 3) := by decide +kernel
theorem dL_law_11 : decode cL_law 11 = .ok (.dup, 1) := by decide +kernel
theorem dL_law_12 : decode cL_law 12 = .ok (.invokespecial 12, 3) := by decide +kernel
theorem dL_law_15 : decode cL_law 15 = .ok (.astore_n 2, 1) := by decide +kernel
theorem dL_law_16 : decode cL_law 16 = .ok (.iconst 0, 1) := by decide +kernel
theorem dL_law_17 : decode cL_law 17 = .ok (.istore_n 3, 1) := by decide +kernel
theorem dL_law_18 : decode cL_law 18 = .ok (.iload_n 3, 1) := by decide +kernel
theorem dL_law_19 : decode cL_law 19 = .ok (.aload_n 0, 1) := by decide +kernel
theorem dL_law_20 : decode cL_law 20 = .ok (.arraylength, 1) := by decide +kernel
theorem dL_law_21 : decode cL_law 21 = .ok (.bipush 6, 2) := by decide +kernel
theorem dL_law_23 : decode cL_law 23 = .ok (.isub, 1) := by decide +kernel
theorem dL_law_24 : decode cL_law 24 = .ok (.if_icmp .gt 1059, 3) := by decide +kernel
theorem dL_law_27 : decode cL_law 27 = .ok (.aload_n 0, 1) := by decide +kernel
theorem dL_law_28 : decode cL_law 28 = .ok (.iload_n 3, 1) := by decide +kernel
theorem dL_law_29 : decode cL_law 29 = .ok (.iaload, 1) := by decide +kernel
theorem dL_law_30 : decode cL_law 30 = .ok (.bipush 31, 2) := by decide +kernel
theorem dL_law_32 : decode cL_law 32 = .ok (.iand, 1) := by decide +kernel
theorem dL_law_33 : decode cL_law 33 = .ok (.tableswitch 1044 0 22 #[107, 140, 173, 216, 259, 302, 355, 378, 447, 490, 523, 546, 589, 658, 727, 760, 823, 856, 879, 912, 935, 988, 1021], 107) := by decide +kernel
theorem dL_law_140 : decode cL_law 140 = .ok (.aload_n 1, 1) := by decide +kernel
theorem dL_law_141 : decode cL_law 141 = .ok (.aload_n 0, 1) := by decide +kernel
theorem dL_law_142 : decode cL_law 142 = .ok (.iload_n 3, 1) := by decide +kernel
theorem dL_law_143 : decode cL_law 143 = .ok (.iconst 1, 1) := by decide +kernel
theorem dL_law_144 : decode cL_law 144 = .ok (.iadd, 1) := by decide +kernel
theorem dL_law_145 : decode cL_law 145 = .ok (.iaload, 1) := by decide +kernel
theorem dL_law_146 : decode cL_law 146 = .ok (.aload_n 0, 1) := by decide +kernel
theorem dL_law_147 : decode cL_law 147 = .ok (.iload_n 3, 1) := by decide +kernel
theorem dL_law_148 : decode cL_law 148 = .ok (.iconst 2, 1) := by decide +kernel
theorem dL_law_149 : decode cL_law 149 = .ok (.iadd, 1) := by decide +kernel
theorem dL_law_150 : decode cL_law 150 = .ok (.iaload, 1) := by decide +kernel
theorem dL_law_151 : decode cL_law 151 = .ok (.invokevirtual 13, 3) := by decide +kernel
theorem dL_law_154 : decode cL_law 154 = .ok (.aload_n 2, 1) := by decide +kernel
theorem dL_law_155 : decode cL_law 155 = .ok (.aload_n 0, 1) := by decide +kernel
theorem dL_law_156 : decode cL_law 156 = .ok (.iload_n 3, 1) := by decide +kernel
theorem dL_law_157 : decode cL_law 157 = .ok (.iconst 1, 1) := by decide +kernel
theorem dL_law_158 : decode cL_law 158 = .ok (.iadd, 1) := by decide +kernel
theorem dL_law_159 : decode cL_law 159 = .ok (.iaload, 1) := by decide +kernel
theorem dL_law_160 : decode cL_law 160 = .ok (.aload_n 0, 1) := by decide +kernel
theorem dL_law_161 : decode cL_law 161 = .ok (.iload_n 3, 1) := by decide +kernel
theorem dL_law_162 : decode cL_law 162 = .ok (.iconst 2, 1) := by decide +kernel
theorem dL_law_163 : decode cL_law 163 = .ok (.iadd, 1) := by decide +kernel
theorem dL_law_164 : decode cL_law 164 = .ok (.iaload, 1) := by decide +kernel
theorem dL_law_165 : decode cL_law 165 = .ok (.invokevirtual 17, 3) := by decide +kernel
theorem dL_law_168 : decode cL_law 168 = .ok (.if_icmp .eq 909, 3) := by decide +kernel
theorem dL_law_171 : decode cL_law 171 = .ok (.iconst 0, 1) := by decide +kernel
theorem dL_law_172 : decode cL_law 172 = .ok (.ireturn, 1) := by decide +kernel
theorem dL_law_173 : decode cL_law 173 = .ok (.aload_n 1, 1) := by decide +kernel
theorem dL_law_174 : decode cL_law 174 = .ok (.aload_n 0, 1) := by decide +kernel
theorem dL_law_175 : decode cL_law 175 = .ok (.iload_n 3, 1) := by decide +kernel
theorem dL_law_176 : decode cL_law 176 = .ok (.iconst 1, 1) := by decide +kernel
theorem dL_law_177 : decode cL_law 177 = .ok (.iadd, 1) := by decide +kernel
theorem dL_law_178 : decode cL_law 178 = .ok (.iaload, 1) := by decide +kernel
theorem dL_law_179 : decode cL_law 179 = .ok (.aload_n 0, 1) := by decide +kernel
theorem dL_law_180 : decode cL_law 180 = .ok (.iload_n 3, 1) := by decide +kernel
theorem dL_law_181 : decode cL_law 181 = .ok (.iconst 2, 1) := by decide +kernel
theorem dL_law_182 : decode cL_law 182 = .ok (.iadd, 1) := by decide +kernel
theorem dL_law_183 : decode cL_law 183 = .ok (.iaload, 1) := by decide +kernel
theorem dL_law_184 : decode cL_law 184 = .ok (.invokevirtual 18, 3) := by decide +kernel
theorem dL_law_187 : decode cL_law 187 = .ok (.aload_n 2, 1) := by decide +kernel
theorem dL_law_188 : decode cL_law 188 = .ok (.aload_n 0, 1) := by decide +kernel
theorem dL_law_189 : decode cL_law 189 = .ok (.iload_n 3, 1) := by decide +kernel
theorem dL_law_190 : decode cL_law 190 = .ok (.iconst 1, 1) := by decide +kernel
theorem dL_law_191 : decode cL_law 191 = .ok (.iadd, 1) := by decide +kernel
theorem dL_law_192 : decode cL_law 192 = .ok (.iaload, 1) := by decide +kernel
theorem dL_law_193 : decode cL_law 193 = .ok (.aload_n 0, 1) := by decide +kernel
theorem dL_law_194 : decode cL_law 194 = .ok (.iload_n 3, 1) := by decide +kernel
theorem dL_law_195 : decode cL_law 195 = .ok (.iconst 2, 1) := by decide +kernel
theorem dL_law_196 : decode cL_law 196 = .ok (.iadd, 1) := by decide +kernel
theorem dL_law_197 : decode cL_law 197 = .ok (.iaload, 1) := by decide +kernel
theorem dL_law_198 : decode cL_law 198 = .ok (.invokevirtual 21, 3) := by decide +kernel
theorem dL_law_201 : decode cL_law 201 = .ok (.if_icmp .eq 876, 3) := by decide +kernel
theorem dL_law_204 : decode cL_law 204 = .ok (.iconst 0, 1) := by decide +kernel
theorem dL_law_205 : decode cL_law 205 = .ok (.ireturn, 1) := by decide +kernel
theorem dL_law_206 : decode cL_law 206 = .ok (.aload_n 1, 1) := by decide +kernel
theorem dL_law_207 : decode cL_law 207 = .ok (.aload_n 0, 1) := by decide +kernel
theorem dL_law_208 : decode cL_law 208 = .ok (.iload_n 3, 1) := by decide +kernel
theorem dL_law_209 : decode cL_law 209 = .ok (.iconst 1, 1) := by decide +kernel
theorem dL_law_210 : decode cL_law 210 = .ok (.iadd, 1) := by decide +kernel
theorem dL_law_211 : decode cL_law 211 = .ok (.iaload, 1) := by decide +kernel
theorem dL_law_212 : decode cL_law 212 = .ok (.aload_n 0, 1) := by decide +kernel
theorem dL_law_213 : decode cL_law 213 = .ok (.iload_n 3, 1) := by decide +kernel
theorem dL_law_214 : decode cL_law 214 = .ok (.iconst 2, 1) := by decide +kernel
theorem dL_law_215 : decode cL_law 215 = .ok (.iadd, 1) := by decide +kernel
theorem dL_law_216 : decode cL_law 216 = .ok (.iaload, 1) := by decide +kernel
theorem dL_law_217 : decode cL_law 217 = .ok (.aload_n 0, 1) := by decide +kernel
theorem dL_law_218 : decode cL_law 218 = .ok (.iload_n 3, 1) := by decide +kernel
theorem dL_law_219 : decode cL_law 219 = .ok (.iconst 3, 1) := by decide +kernel
theorem dL_law_220 : decode cL_law 220 = .ok (.iadd, 1) := by decide +kernel
theorem dL_law_221 : decode cL_law 221 = .ok (.iaload, 1) := by decide +kernel
theorem dL_law_222 : decode cL_law 222 = .ok (.invokevirtual 22, 3) := by decide +kernel
theorem dL_law_225 : decode cL_law 225 = .ok (.aload_n 2, 1) := by decide +kernel
theorem dL_law_226 : decode cL_law 226 = .ok (.aload_n 0, 1) := by decide +kernel
theorem dL_law_227 : decode cL_law 227 = .ok (.iload_n 3, 1) := by decide +kernel
theorem dL_law_228 : decode cL_law 228 = .ok (.iconst 1, 1) := by decide +kernel
theorem dL_law_229 : decode cL_law 229 = .ok (.iadd, 1) := by decide +kernel
theorem dL_law_230 : decode cL_law 230 = .ok (.iaload, 1) := by decide +kernel
theorem dL_law_231 : decode cL_law 231 = .ok (.aload_n 0, 1) := by decide +kernel
theorem dL_law_232 : decode cL_law 232 = .ok (.iload_n 3, 1) := by decide +kernel
theorem dL_law_233 : decode cL_law 233 = .ok (.iconst 2, 1) := by decide +kernel
theorem dL_law_234 : decode cL_law 234 = .ok (.iadd, 1) := by decide +kernel
theorem dL_law_235 : decode cL_law 235 = .ok (.iaload, 1) := by decide +kernel
theorem dL_law_236 : decode cL_law 236 = .ok (.aload_n 0, 1) := by decide +kernel
theorem dL_law_237 : decode cL_law 237 = .ok (.iload_n 3, 1) := by decide +kernel
theorem dL_law_238 : decode cL_law 238 = .ok (.iconst 3, 1) := by decide +kernel
theorem dL_law_239 : decode cL_law 239 = .ok (.iadd, 1) := by decide +kernel
theorem dL_law_240 : decode cL_law 240 = .ok (.iaload, 1) := by decide +kernel
theorem dL_law_241 : decode cL_law 241 = .ok (.invokevirtual 26, 3) := by decide +kernel
theorem dL_law_244 : decode cL_law 244 = .ok (.if_icmp .eq 833, 3) := by decide +kernel
theorem dL_law_247 : decode cL_law 247 = .ok (.iconst 0, 1) := by decide +kernel
theorem dL_law_248 : decode cL_law 248 = .ok (.ireturn, 1) := by decide +kernel
theorem dL_law_249 : decode cL_law 249 = .ok (.aload_n 1, 1) := by decide +kernel
theorem dL_law_250 : decode cL_law 250 = .ok (.aload_n 0, 1) := by decide +kernel
theorem dL_law_251 : decode cL_law 251 = .ok (.iload_n 3, 1) := by decide +kernel
theorem dL_law_252 : decode cL_law 252 = .ok (.iconst 1, 1) := by decide +kernel
theorem dL_law_253 : decode cL_law 253 = .ok (.iadd, 1) := by decide +kernel
theorem dL_law_254 : decode cL_law 254 = .ok (.iaload, 1) := by decide +kernel
theorem dL_law_255 : decode cL_law 255 = .ok (.aload_n 0, 1) := by decide +kernel
theorem dL_law_256 : decode cL_law 256 = .ok (.iload_n 3, 1) := by decide +kernel
theorem dL_law_257 : decode cL_law 257 = .ok (.iconst 2, 1) := by decide +kernel
theorem dL_law_258 : decode cL_law 258 = .ok (.iadd, 1) := by decide +kernel
theorem dL_law_259 : decode cL_law 259 = .ok (.iaload, 1) := by decide +kernel
theorem dL_law_260 : decode cL_law 260 = .ok (.aload_n 0, 1) := by decide +kernel
theorem dL_law_261 : decode cL_law 261 = .ok (.iload_n 3, 1) := by decide +kernel
theorem dL_law_262 : decode cL_law 262 = .ok (.iconst 3, 1) := by decide +kernel
theorem dL_law_263 : decode cL_law 263 = .ok (.iadd, 1) := by decide +kernel
theorem dL_law_264 : decode cL_law 264 = .ok (.iaload, 1) := by decide +kernel
theorem dL_law_265 : decode cL_law 265 = .ok (.invokevirtual 27, 3) := by decide +kernel
theorem dL_law_268 : decode cL_law 268 = .ok (.aload_n 2, 1) := by decide +kernel
theorem dL_law_269 : decode cL_law 269 = .ok (.aload_n 0, 1) := by decide +kernel
theorem dL_law_270 : decode cL_law 270 = .ok (.iload_n 3, 1) := by decide +kernel
theorem dL_law_271 : decode cL_law 271 = .ok (.iconst 1, 1) := by decide +kernel
theorem dL_law_272 : decode cL_law 272 = .ok (.iadd, 1) := by decide +kernel
theorem dL_law_273 : decode cL_law 273 = .ok (.iaload, 1) := by decide +kernel
theorem dL_law_274 : decode cL_law 274 = .ok (.aload_n 0, 1) := by decide +kernel
theorem dL_law_275 : decode cL_law 275 = .ok (.iload_n 3, 1) := by decide +kernel
theorem dL_law_276 : decode cL_law 276 = .ok (.iconst 2, 1) := by decide +kernel
theorem dL_law_277 : decode cL_law 277 = .ok (.iadd, 1) := by decide +kernel
theorem dL_law_278 : decode cL_law 278 = .ok (.iaload, 1) := by decide +kernel
theorem dL_law_279 : decode cL_law 279 = .ok (.aload_n 0, 1) := by decide +kernel
theorem dL_law_280 : decode cL_law 280 = .ok (.iload_n 3, 1) := by decide +kernel
theorem dL_law_281 : decode cL_law 281 = .ok (.iconst 3, 1) := by decide +kernel
theorem dL_law_282 : decode cL_law 282 = .ok (.iadd, 1) := by decide +kernel
theorem dL_law_283 : decode cL_law 283 = .ok (.iaload, 1) := by decide +kernel
theorem dL_law_284 : decode cL_law 284 = .ok (.invokevirtual 30, 3) := by decide +kernel
theorem dL_law_287 : decode cL_law 287 = .ok (.if_icmp .eq 790, 3) := by decide +kernel
theorem dL_law_290 : decode cL_law 290 = .ok (.iconst 0, 1) := by decide +kernel
theorem dL_law_291 : decode cL_law 291 = .ok (.ireturn, 1) := by decide +kernel
theorem dL_law_292 : decode cL_law 292 = .ok (.aload_n 1, 1) := by decide +kernel
theorem dL_law_293 : decode cL_law 293 = .ok (.aload_n 0, 1) := by decide +kernel
theorem dL_law_294 : decode cL_law 294 = .ok (.iload_n 3, 1) := by decide +kernel
theorem dL_law_295 : decode cL_law 295 = .ok (.iconst 1, 1) := by decide +kernel
theorem dL_law_296 : decode cL_law 296 = .ok (.iadd, 1) := by decide +kernel
theorem dL_law_297 : decode cL_law 297 = .ok (.iaload, 1) := by decide +kernel
theorem dL_law_298 : decode cL_law 298 = .ok (.aload_n 0, 1) := by decide +kernel
theorem dL_law_299 : decode cL_law 299 = .ok (.iload_n 3, 1) := by decide +kernel
theorem dL_law_300 : decode cL_law 300 = .ok (.iconst 2, 1) := by decide +kernel
theorem dL_law_301 : decode cL_law 301 = .ok (.iadd, 1) := by decide +kernel
theorem dL_law_302 : decode cL_law 302 = .ok (.iaload, 1) := by decide +kernel
theorem dL_law_303 : decode cL_law 303 = .ok (.aload_n 0, 1) := by decide +kernel
theorem dL_law_304 : decode cL_law 304 = .ok (.iload_n 3, 1) := by decide +kernel
theorem dL_law_305 : decode cL_law 305 = .ok (.iconst 3, 1) := by decide +kernel
theorem dL_law_306 : decode cL_law 306 = .ok (.iadd, 1) := by decide +kernel
theorem dL_law_307 : decode cL_law 307 = .ok (.iaload, 1) := by decide +kernel
theorem dL_law_308 : decode cL_law 308 = .ok (.invokevirtual 31, 3) := by decide +kernel
theorem dL_law_311 : decode cL_law 311 = .ok (.aload_n 2, 1) := by decide +kernel
theorem dL_law_312 : decode cL_law 312 = .ok (.aload_n 0, 1) := by decide +kernel
theorem dL_law_313 : decode cL_law 313 = .ok (.iload_n 3, 1) := by decide +kernel
theorem dL_law_314 : decode cL_law 314 = .ok (.iconst 1, 1) := by decide +kernel
theorem dL_law_315 : decode cL_law 315 = .ok (.iadd, 1) := by decide +kernel
theorem dL_law_316 : decode cL_law 316 = .ok (.iaload, 1) := by decide +kernel
theorem dL_law_317 : decode cL_law 317 = .ok (.aload_n 0, 1) := by decide +kernel
theorem dL_law_318 : decode cL_law 318 = .ok (.iload_n 3, 1) := by decide +kernel
theorem dL_law_319 : decode cL_law 319 = .ok (.iconst 2, 1) := by decide +kernel
theorem dL_law_320 : decode cL_law 320 = .ok (.iadd, 1) := by decide +kernel
theorem dL_law_321 : decode cL_law 321 = .ok (.iaload, 1) := by decide +kernel
theorem dL_law_322 : decode cL_law 322 = .ok (.aload_n 0, 1) := by decide +kernel
theorem dL_law_323 : decode cL_law 323 = .ok (.iload_n 3, 1) := by decide +kernel
theorem dL_law_324 : decode cL_law 324 = .ok (.iconst 3, 1) := by decide +kernel
theorem dL_law_325 : decode cL_law 325 = .ok (.iadd, 1) := by decide +kernel
theorem dL_law_326 : decode cL_law 326 = .ok (.iaload, 1) := by decide +kernel
theorem dL_law_327 : decode cL_law 327 = .ok (.invokevirtual 34, 3) := by decide +kernel
theorem dL_law_330 : decode cL_law 330 = .ok (.if_icmp .eq 747, 3) := by decide +kernel
theorem dL_law_333 : decode cL_law 333 = .ok (.iconst 0, 1) := by decide +kernel
theorem dL_law_334 : decode cL_law 334 = .ok (.ireturn, 1) := by decide +kernel
theorem dL_law_335 : decode cL_law 335 = .ok (.aload_n 1, 1) := by decide +kernel
theorem dL_law_336 : decode cL_law 336 = .ok (.aload_n 0, 1) := by decide +kernel
theorem dL_law_337 : decode cL_law 337 = .ok (.iload_n 3, 1) := by decide +kernel
theorem dL_law_338 : decode cL_law 338 = .ok (.iconst 1, 1) := by decide +kernel
theorem dL_law_339 : decode cL_law 339 = .ok (.iadd, 1) := by decide +kernel
theorem dL_law_340 : decode cL_law 340 = .ok (.iaload, 1) := by decide +kernel
theorem dL_law_341 : decode cL_law 341 = .ok (.aload_n 0, 1) := by decide +kernel
theorem dL_law_342 : decode cL_law 342 = .ok (.iload_n 3, 1) := by decide +kernel
theorem dL_law_343 : decode cL_law 343 = .ok (.iconst 2, 1) := by decide +kernel
theorem dL_law_344 : decode cL_law 344 = .ok (.iadd, 1) := by decide +kernel
theorem dL_law_345 : decode cL_law 345 = .ok (.iaload, 1) := by decide +kernel
theorem dL_law_346 : decode cL_law 346 = .ok (.aload_n 0, 1) := by decide +kernel
theorem dL_law_347 : decode cL_law 347 = .ok (.iload_n 3, 1) := by decide +kernel
theorem dL_law_348 : decode cL_law 348 = .ok (.iconst 3, 1) := by decide +kernel
theorem dL_law_349 : decode cL_law 349 = .ok (.iadd, 1) := by decide +kernel
theorem dL_law_350 : decode cL_law 350 = .ok (.iaload, 1) := by decide +kernel
theorem dL_law_351 : decode cL_law 351 = .ok (.aload_n 0, 1) := by decide +kernel
theorem dL_law_352 : decode cL_law 352 = .ok (.iload_n 3, 1) := by decide +kernel
theorem dL_law_353 : decode cL_law 353 = .ok (.iconst 4, 1) := by decide +kernel
theorem dL_law_354 : decode cL_law 354 = .ok (.iadd, 1) := by decide +kernel
theorem dL_law_355 : decode cL_law 355 = .ok (.iaload, 1) := by decide +kernel
theorem dL_law_356 : decode cL_law 356 = .ok (.invokevirtual 35, 3) := by decide +kernel
theorem dL_law_359 : decode cL_law 359 = .ok (.aload_n 2, 1) := by decide +kernel
theorem dL_law_360 : decode cL_law 360 = .ok (.aload_n 0, 1) := by decide +kernel
theorem dL_law_361 : decode cL_law 361 = .ok (.iload_n 3, 1) := by decide +kernel
theorem dL_law_362 : decode cL_law 362 = .ok (.iconst 1, 1) := by decide +kernel
theorem dL_law_363 : decode cL_law 363 = .ok (.iadd, 1) := by decide +kernel
theorem dL_law_364 : decode cL_law 364 = .ok (.iaload, 1) := by decide +kernel
theorem dL_law_365 : decode cL_law 365 = .ok (.aload_n 0, 1) := by decide +kernel
theorem dL_law_366 : decode cL_law 366 = .ok (.iload_n 3, 1) := by decide +kernel
theorem dL_law_367 : decode cL_law 367 = .ok (.iconst 2, 1) := by decide +kernel
theorem dL_law_368 : decode cL_law 368 = .ok (.iadd, 1) := by decide +kernel
theorem dL_law_369 : decode cL_law 369 = .ok (.iaload, 1) := by decide +kernel
theorem dL_law_370 : decode cL_law 370 = .ok (.aload_n 0, 1) := by decide +kernel
theorem dL_law_371 : decode cL_law 371 = .ok (.iload_n 3, 1) := by decide +kernel
theorem dL_law_372 : decode cL_law 372 = .ok (.iconst 3, 1) := by decide +kernel
theorem dL_law_373 : decode cL_law 373 = .ok (.iadd, 1) := by decide +kernel
theorem dL_law_374 : decode cL_law 374 = .ok (.iaload, 1) := by decide +kernel
theorem dL_law_375 : decode cL_law 375 = .ok (.aload_n 0, 1) := by decide +kernel
theorem dL_law_376 : decode cL_law 376 = .ok (.iload_n 3, 1) := by decide +kernel
theorem dL_law_377 : decode cL_law 377 = .ok (.iconst 4, 1) := by decide +kernel
theorem dL_law_378 : decode cL_law 378 = .ok (.iadd, 1) := by decide +kernel
theorem dL_law_379 : decode cL_law 379 = .ok (.iaload, 1) := by decide +kernel
theorem dL_law_380 : decode cL_law 380 = .ok (.invokevirtual 39, 3) := by decide +kernel
theorem dL_law_383 : decode cL_law 383 = .ok (.if_icmp .eq 694, 3) := by decide +kernel
theorem dL_law_386 : decode cL_law 386 = .ok (.iconst 0, 1) := by decide +kernel
theorem dL_law_387 : decode cL_law 387 = .ok (.ireturn, 1) := by decide +kernel
theorem dL_law_388 : decode cL_law 388 = .ok (.aload_n 1, 1) := by decide +kernel
theorem dL_law_389 : decode cL_law 389 = .ok (.aload_n 0, 1) := by decide +kernel
theorem dL_law_390 : decode cL_law 390 = .ok (.iload_n 3, 1) := by decide +kernel
theorem dL_law_391 : decode cL_law 391 = .ok (.iconst 1, 1) := by decide +kernel
theorem dL_law_392 : decode cL_law 392 = .ok (.iadd, 1) := by decide +kernel
theorem dL_law_393 : decode cL_law 393 = .ok (.iaload, 1) := by decide +kernel
theorem dL_law_394 : decode cL_law 394 = .ok (.invokevirtual 40, 3) := by decide +kernel
theorem dL_law_397 : decode cL_law 397 = .ok (.aload_n 2, 1) := by decide +kernel
theorem dL_law_398 : decode cL_law 398 = .ok (.aload_n 0, 1) := by decide +kernel
theorem dL_law_399 : decode cL_law 399 = .ok (.iload_n 3, 1) := by decide +kernel
theorem dL_law_400 : decode cL_law 400 = .ok (.iconst 1, 1) := by decide +kernel
theorem dL_law_401 : decode cL_law 401 = .ok (.iadd, 1) := by decide +kernel
theorem dL_law_402 : decode cL_law 402 = .ok (.iaload, 1) := by decide +kernel
theorem dL_law_403 : decode cL_law 403 = .ok (.invokevirtual 44, 3) := by decide +kernel
theorem dL_law_406 : decode cL_law 406 = .ok (.if_icmp .eq 671, 3) := by decide +kernel
theorem dL_law_409 : decode cL_law 409 = .ok (.iconst 0, 1) := by decide +kernel
theorem dL_law_410 : decode cL_law 410 = .ok (.ireturn, 1) := by decide +kernel
theorem dL_law_411 : decode cL_law 411 = .ok (.aload_n 1, 1) := by decide +kernel
theorem dL_law_412 : decode cL_law 412 = .ok (.aload_n 0, 1) := by decide +kernel
theorem dL_law_413 : decode cL_law 413 = .ok (.iload_n 3, 1) := by decide +kernel
theorem dL_law_414 : decode cL_law 414 = .ok (.iconst 1, 1) := by decide +kernel
theorem dL_law_415 : decode cL_law 415 = .ok (.iadd, 1) := by decide +kernel
theorem dL_law_416 : decode cL_law 416 = .ok (.iaload, 1) := by decide +kernel
theorem dL_law_417 : decode cL_law 417 = .ok (.aload_n 0, 1) := by decide +kernel
theorem dL_law_418 : decode cL_law 418 = .ok (.iload_n 3, 1) := by decide +kernel
theorem dL_law_419 : decode cL_law 419 = .ok (.iconst 2, 1) := by decide +kernel
theorem dL_law_420 : decode cL_law 420 = .ok (.iadd, 1) := by decide +kernel
theorem dL_law_421 : decode cL_law 421 = .ok (.iaload, 1) := by decide +kernel
theorem dL_law_422 : decode cL_law 422 = .ok (.aload_n 0, 1) := by decide +kernel
theorem dL_law_423 : decode cL_law 423 = .ok (.iload_n 3, 1) := by decide +kernel
theorem dL_law_424 : decode cL_law 424 = .ok (.iconst 3, 1) := by decide +kernel
theorem dL_law_425 : decode cL_law 425 = .ok (.iadd, 1) := by decide +kernel
theorem dL_law_426 : decode cL_law 426 = .ok (.iaload, 1) := by decide +kernel
theorem dL_law_427 : decode cL_law 427 = .ok (.aload_n 0, 1) := by decide +kernel
theorem dL_law_428 : decode cL_law 428 = .ok (.iload_n 3, 1) := by decide +kernel
theorem dL_law_429 : decode cL_law 429 = .ok (.iconst 4, 1) := by decide +kernel
theorem dL_law_430 : decode cL_law 430 = .ok (.iadd, 1) := by decide +kernel
theorem dL_law_431 : decode cL_law 431 = .ok (.iaload, 1) := by decide +kernel
theorem dL_law_432 : decode cL_law 432 = .ok (.ifCond .eq 7, 3) := by decide +kernel
theorem dL_law_435 : decode cL_law 435 = .ok (.iconst 1, 1) := by decide +kernel
theorem dL_law_436 : decode cL_law 436 = .ok (.goto 4, 3) := by decide +kernel
theorem dL_law_439 : decode cL_law 439 = .ok (.iconst 0, 1) := by decide +kernel
theorem dL_law_440 : decode cL_law 440 = .ok (.invokevirtual 45, 3) := by decide +kernel
theorem dL_law_443 : decode cL_law 443 = .ok (.aload_n 2, 1) := by decide +kernel
theorem dL_law_444 : decode cL_law 444 = .ok (.aload_n 0, 1) := by decide +kernel
theorem dL_law_445 : decode cL_law 445 = .ok (.iload_n 3, 1) := by decide +kernel
theorem dL_law_446 : decode cL_law 446 = .ok (.iconst 1, 1) := by decide +kernel
theorem dL_law_447 : decode cL_law 447 = .ok (.iadd, 1) := by decide +kernel
theorem dL_law_448 : decode cL_law 448 = .ok (.iaload, 1) := by decide +kernel
theorem dL_law_449 : decode cL_law 449 = .ok (.aload_n 0, 1) := by decide +kernel
theorem dL_law_450 : decode cL_law 450 = .ok (.iload_n 3, 1) := by decide +kernel
theorem dL_law_451 : decode cL_law 451 = .ok (.iconst 2, 1) := by decide +kernel
theorem dL_law_452 : decode cL_law 452 = .ok (.iadd, 1) := by decide +kernel
theorem dL_law_453 : decode cL_law 453 = .ok (.iaload, 1) := by decide +kernel
theorem dL_law_454 : decode cL_law 454 = .ok (.aload_n 0, 1) := by decide +kernel
theorem dL_law_455 : decode cL_law 455 = .ok (.iload_n 3, 1) := by decide +kernel
theorem dL_law_456 : decode cL_law 456 = .ok (.iconst 3, 1) := by decide +kernel
theorem dL_law_457 : decode cL_law 457 = .ok (.iadd, 1) := by decide +kernel
theorem dL_law_458 : decode cL_law 458 = .ok (.iaload, 1) := by decide +kernel
theorem dL_law_459 : decode cL_law 459 = .ok (.aload_n 0, 1) := by decide +kernel
theorem dL_law_460 : decode cL_law 460 = .ok (.iload_n 3, 1) := by decide +kernel
theorem dL_law_461 : decode cL_law 461 = .ok (.iconst 4, 1) := by decide +kernel
theorem dL_law_462 : decode cL_law 462 = .ok (.iadd, 1) := by decide +kernel
theorem dL_law_463 : decode cL_law 463 = .ok (.iaload, 1) := by decide +kernel
theorem dL_law_464 : decode cL_law 464 = .ok (.ifCond .eq 7, 3) := by decide +kernel
theorem dL_law_467 : decode cL_law 467 = .ok (.iconst 1, 1) := by decide +kernel
theorem dL_law_468 : decode cL_law 468 = .ok (.goto 4, 3) := by decide +kernel
theorem dL_law_471 : decode cL_law 471 = .ok (.iconst 0, 1) := by decide +kernel
theorem dL_law_472 : decode cL_law 472 = .ok (.invokevirtual 49, 3) := by decide +kernel
theorem dL_law_475 : decode cL_law 475 = .ok (.if_icmp .eq 602, 3) := by decide +kernel
theorem dL_law_478 : decode cL_law 478 = .ok (.iconst 0, 1) := by decide +kernel
theorem dL_law_479 : decode cL_law 479 = .ok (.ireturn, 1) := by decide +kernel
theorem dL_law_480 : decode cL_law 480 = .ok (.aload_n 1, 1) := by decide +kernel
theorem dL_law_481 : decode cL_law 481 = .ok (.aload_n 0, 1) := by decide +kernel
theorem dL_law_482 : decode cL_law 482 = .ok (.iload_n 3, 1) := by decide +kernel
theorem dL_law_483 : decode cL_law 483 = .ok (.iconst 1, 1) := by decide +kernel
theorem dL_law_484 : decode cL_law 484 = .ok (.iadd, 1) := by decide +kernel
theorem dL_law_485 : decode cL_law 485 = .ok (.iaload, 1) := by decide +kernel
theorem dL_law_486 : decode cL_law 486 = .ok (.aload_n 0, 1) := by decide +kernel
theorem dL_law_487 : decode cL_law 487 = .ok (.iload_n 3, 1) := by decide +kernel
theorem dL_law_488 : decode cL_law 488 = .ok (.iconst 2, 1) := by decide +kernel
theorem dL_law_489 : decode cL_law 489 = .ok (.iadd, 1) := by decide +kernel
theorem dL_law_490 : decode cL_law 490 = .ok (.iaload, 1) := by decide +kernel
theorem dL_law_491 : decode cL_law 491 = .ok (.aload_n 0, 1) := by decide +kernel
theorem dL_law_492 : decode cL_law 492 = .ok (.iload_n 3, 1) := by decide +kernel
theorem dL_law_493 : decode cL_law 493 = .ok (.iconst 3, 1) := by decide +kernel
theorem dL_law_494 : decode cL_law 494 = .ok (.iadd, 1) := by decide +kernel
theorem dL_law_495 : decode cL_law 495 = .ok (.iaload, 1) := by decide +kernel
theorem dL_law_496 : decode cL_law 496 = .ok (.invokevirtual 50, 3) := by decide +kernel
theorem dL_law_499 : decode cL_law 499 = .ok (.aload_n 2, 1) := by decide +kernel
theorem dL_law_500 : decode cL_law 500 = .ok (.aload_n 0, 1) := by decide +kernel
theorem dL_law_501 : decode cL_law 501 = .ok (.iload_n 3, 1) := by decide +kernel
theorem dL_law_502 : decode cL_law 502 = .ok (.iconst 1, 1) := by decide +kernel
theorem dL_law_503 : decode cL_law 503 = .ok (.iadd, 1) := by decide +kernel
theorem dL_law_504 : decode cL_law 504 = .ok (.iaload, 1) := by decide +kernel
theorem dL_law_505 : decode cL_law 505 = .ok (.aload_n 0, 1) := by decide +kernel
theorem dL_law_506 : decode cL_law 506 = .ok (.iload_n 3, 1) := by decide +kernel
theorem dL_law_507 : decode cL_law 507 = .ok (.iconst 2, 1) := by decide +kernel
theorem dL_law_508 : decode cL_law 508 = .ok (.iadd, 1) := by decide +kernel
theorem dL_law_509 : decode cL_law 509 = .ok (.iaload, 1) := by decide +kernel
theorem dL_law_510 : decode cL_law 510 = .ok (.aload_n 0, 1) := by decide +kernel
theorem dL_law_511 : decode cL_law 511 = .ok (.iload_n 3, 1) := by decide +kernel
theorem dL_law_512 : decode cL_law 512 = .ok (.iconst 3, 1) := by decide +kernel
theorem dL_law_513 : decode cL_law 513 = .ok (.iadd, 1) := by decide +kernel
theorem dL_law_514 : decode cL_law 514 = .ok (.iaload, 1) := by decide +kernel
theorem dL_law_515 : decode cL_law 515 = .ok (.invokevirtual 53, 3) := by decide +kernel
theorem dL_law_518 : decode cL_law 518 = .ok (.if_icmp .eq 559, 3) := by decide +kernel
theorem dL_law_521 : decode cL_law 521 = .ok (.iconst 0, 1) := by decide +kernel
theorem dL_law_522 : decode cL_law 522 = .ok (.ireturn, 1) := by decide +kernel
theorem dL_law_523 : decode cL_law 523 = .ok (.aload_n 1, 1) := by decide +kernel
theorem dL_law_524 : decode cL_law 524 = .ok (.aload_n 0, 1) := by decide +kernel
theorem dL_law_525 : decode cL_law 525 = .ok (.iload_n 3, 1) := by decide +kernel
theorem dL_law_526 : decode cL_law 526 = .ok (.iconst 1, 1) := by decide +kernel
theorem dL_law_527 : decode cL_law 527 = .ok (.iadd, 1) := by decide +kernel
theorem dL_law_528 : decode cL_law 528 = .ok (.iaload, 1) := by decide +kernel
theorem dL_law_529 : decode cL_law 529 = .ok (.aload_n 0, 1) := by decide +kernel
theorem dL_law_530 : decode cL_law 530 = .ok (.iload_n 3, 1) := by decide +kernel
theorem dL_law_531 : decode cL_law 531 = .ok (.iconst 2, 1) := by decide +kernel
theorem dL_law_532 : decode cL_law 532 = .ok (.iadd, 1) := by decide +kernel
theorem dL_law_533 : decode cL_law 533 = .ok (.iaload, 1) := by decide +kernel
theorem dL_law_534 : decode cL_law 534 = .ok (.invokevirtual 54, 3) := by decide +kernel
theorem dL_law_537 : decode cL_law 537 = .ok (.aload_n 2, 1) := by decide +kernel
theorem dL_law_538 : decode cL_law 538 = .ok (.aload_n 0, 1) := by decide +kernel
theorem dL_law_539 : decode cL_law 539 = .ok (.iload_n 3, 1) := by decide +kernel
theorem dL_law_540 : decode cL_law 540 = .ok (.iconst 1, 1) := by decide +kernel
theorem dL_law_541 : decode cL_law 541 = .ok (.iadd, 1) := by decide +kernel
theorem dL_law_542 : decode cL_law 542 = .ok (.iaload, 1) := by decide +kernel
theorem dL_law_543 : decode cL_law 543 = .ok (.aload_n 0, 1) := by decide +kernel
theorem dL_law_544 : decode cL_law 544 = .ok (.iload_n 3, 1) := by decide +kernel
theorem dL_law_545 : decode cL_law 545 = .ok (.iconst 2, 1) := by decide +kernel
theorem dL_law_546 : decode cL_law 546 = .ok (.iadd, 1) := by decide +kernel
theorem dL_law_547 : decode cL_law 547 = .ok (.iaload, 1) := by decide +kernel
theorem dL_law_548 : decode cL_law 548 = .ok (.invokevirtual 57, 3) := by decide +kernel
theorem dL_law_551 : decode cL_law 551 = .ok (.if_icmp .eq 526, 3) := by decide +kernel
theorem dL_law_554 : decode cL_law 554 = .ok (.iconst 0, 1) := by decide +kernel
theorem dL_law_555 : decode cL_law 555 = .ok (.ireturn, 1) := by decide +kernel
theorem dL_law_556 : decode cL_law 556 = .ok (.aload_n 1, 1) := by decide +kernel
theorem dL_law_557 : decode cL_law 557 = .ok (.aload_n 0, 1) := by decide +kernel
theorem dL_law_558 : decode cL_law 558 = .ok (.iload_n 3, 1) := by decide +kernel
theorem dL_law_559 : decode cL_law 559 = .ok (.iconst 1, 1) := by decide +kernel
theorem dL_law_560 : decode cL_law 560 = .ok (.iadd, 1) := by decide +kernel
theorem dL_law_561 : decode cL_law 561 = .ok (.iaload, 1) := by decide +kernel
theorem dL_law_562 : decode cL_law 562 = .ok (.invokevirtual 58, 3) := by decide +kernel
theorem dL_law_565 : decode cL_law 565 = .ok (.aload_n 2, 1) := by decide +kernel
theorem dL_law_566 : decode cL_law 566 = .ok (.aload_n 0, 1) := by decide +kernel
theorem dL_law_567 : decode cL_law 567 = .ok (.iload_n 3, 1) := by decide +kernel
theorem dL_law_568 : decode cL_law 568 = .ok (.iconst 1, 1) := by decide +kernel
theorem dL_law_569 : decode cL_law 569 = .ok (.iadd, 1) := by decide +kernel
theorem dL_law_570 : decode cL_law 570 = .ok (.iaload, 1) := by decide +kernel
theorem dL_law_571 : decode cL_law 571 = .ok (.invokevirtual 61, 3) := by decide +kernel
theorem dL_law_574 : decode cL_law 574 = .ok (.if_icmp .eq 503, 3) := by decide +kernel
theorem dL_law_577 : decode cL_law 577 = .ok (.iconst 0, 1) := by decide +kernel
theorem dL_law_578 : decode cL_law 578 = .ok (.ireturn, 1) := by decide +kernel
theorem dL_law_579 : decode cL_law 579 = .ok (.aload_n 1, 1) := by decide +kernel
theorem dL_law_580 : decode cL_law 580 = .ok (.aload_n 0, 1) := by decide +kernel
theorem dL_law_581 : decode cL_law 581 = .ok (.iload_n 3, 1) := by decide +kernel
theorem dL_law_582 : decode cL_law 582 = .ok (.iconst 1, 1) := by decide +kernel
theorem dL_law_583 : decode cL_law 583 = .ok (.iadd, 1) := by decide +kernel
theorem dL_law_584 : decode cL_law 584 = .ok (.iaload, 1) := by decide +kernel
theorem dL_law_585 : decode cL_law 585 = .ok (.aload_n 0, 1) := by decide +kernel
theorem dL_law_586 : decode cL_law 586 = .ok (.iload_n 3, 1) := by decide +kernel
theorem dL_law_587 : decode cL_law 587 = .ok (.iconst 2, 1) := by decide +kernel
theorem dL_law_588 : decode cL_law 588 = .ok (.iadd, 1) := by decide +kernel
theorem dL_law_589 : decode cL_law 589 = .ok (.iaload, 1) := by decide +kernel
theorem dL_law_590 : decode cL_law 590 = .ok (.aload_n 0, 1) := by decide +kernel
theorem dL_law_591 : decode cL_law 591 = .ok (.iload_n 3, 1) := by decide +kernel
theorem dL_law_592 : decode cL_law 592 = .ok (.iconst 3, 1) := by decide +kernel
theorem dL_law_593 : decode cL_law 593 = .ok (.iadd, 1) := by decide +kernel
theorem dL_law_594 : decode cL_law 594 = .ok (.iaload, 1) := by decide +kernel
theorem dL_law_595 : decode cL_law 595 = .ok (.invokevirtual 62, 3) := by decide +kernel
theorem dL_law_598 : decode cL_law 598 = .ok (.aload_n 2, 1) := by decide +kernel
theorem dL_law_599 : decode cL_law 599 = .ok (.aload_n 0, 1) := by decide +kernel
theorem dL_law_600 : decode cL_law 600 = .ok (.iload_n 3, 1) := by decide +kernel
theorem dL_law_601 : decode cL_law 601 = .ok (.iconst 1, 1) := by decide +kernel
theorem dL_law_602 : decode cL_law 602 = .ok (.iadd, 1) := by decide +kernel
theorem dL_law_603 : decode cL_law 603 = .ok (.iaload, 1) := by decide +kernel
theorem dL_law_604 : decode cL_law 604 = .ok (.aload_n 0, 1) := by decide +kernel
theorem dL_law_605 : decode cL_law 605 = .ok (.iload_n 3, 1) := by decide +kernel
theorem dL_law_606 : decode cL_law 606 = .ok (.iconst 2, 1) := by decide +kernel
theorem dL_law_607 : decode cL_law 607 = .ok (.iadd, 1) := by decide +kernel
theorem dL_law_608 : decode cL_law 608 = .ok (.iaload, 1) := by decide +kernel
theorem dL_law_609 : decode cL_law 609 = .ok (.aload_n 0, 1) := by decide +kernel
theorem dL_law_610 : decode cL_law 610 = .ok (.iload_n 3, 1) := by decide +kernel
theorem dL_law_611 : decode cL_law 611 = .ok (.iconst 3, 1) := by decide +kernel
theorem dL_law_612 : decode cL_law 612 = .ok (.iadd, 1) := by decide +kernel
theorem dL_law_613 : decode cL_law 613 = .ok (.iaload, 1) := by decide +kernel
theorem dL_law_614 : decode cL_law 614 = .ok (.invokevirtual 65, 3) := by decide +kernel
theorem dL_law_617 : decode cL_law 617 = .ok (.if_icmp .eq 460, 3) := by decide +kernel
theorem dL_law_620 : decode cL_law 620 = .ok (.iconst 0, 1) := by decide +kernel
theorem dL_law_621 : decode cL_law 621 = .ok (.ireturn, 1) := by decide +kernel
theorem dL_law_622 : decode cL_law 622 = .ok (.aload_n 1, 1) := by decide +kernel
theorem dL_law_623 : decode cL_law 623 = .ok (.aload_n 0, 1) := by decide +kernel
theorem dL_law_624 : decode cL_law 624 = .ok (.iload_n 3, 1) := by decide +kernel
theorem dL_law_625 : decode cL_law 625 = .ok (.iconst 1, 1) := by decide +kernel
theorem dL_law_626 : decode cL_law 626 = .ok (.iadd, 1) := by decide +kernel
theorem dL_law_627 : decode cL_law 627 = .ok (.iaload, 1) := by decide +kernel
theorem dL_law_628 : decode cL_law 628 = .ok (.aload_n 0, 1) := by decide +kernel
theorem dL_law_629 : decode cL_law 629 = .ok (.iload_n 3, 1) := by decide +kernel
theorem dL_law_630 : decode cL_law 630 = .ok (.iconst 2, 1) := by decide +kernel
theorem dL_law_631 : decode cL_law 631 = .ok (.iadd, 1) := by decide +kernel
theorem dL_law_632 : decode cL_law 632 = .ok (.iaload, 1) := by decide +kernel
theorem dL_law_633 : decode cL_law 633 = .ok (.aload_n 0, 1) := by decide +kernel
theorem dL_law_634 : decode cL_law 634 = .ok (.iload_n 3, 1) := by decide +kernel
theorem dL_law_635 : decode cL_law 635 = .ok (.iconst 3, 1) := by decide +kernel
theorem dL_law_636 : decode cL_law 636 = .ok (.iadd, 1) := by decide +kernel
theorem dL_law_637 : decode cL_law 637 = .ok (.iaload, 1) := by decide +kernel
theorem dL_law_638 : decode cL_law 638 = .ok (.aload_n 0, 1) := by decide +kernel
theorem dL_law_639 : decode cL_law 639 = .ok (.iload_n 3, 1) := by decide +kernel
theorem dL_law_640 : decode cL_law 640 = .ok (.iconst 4, 1) := by decide +kernel
theorem dL_law_641 : decode cL_law 641 = .ok (.iadd, 1) := by decide +kernel
theorem dL_law_642 : decode cL_law 642 = .ok (.iaload, 1) := by decide +kernel
theorem dL_law_643 : decode cL_law 643 = .ok (.ifCond .eq 7, 3) := by decide +kernel
theorem dL_law_646 : decode cL_law 646 = .ok (.iconst 1, 1) := by decide +kernel
theorem dL_law_647 : decode cL_law 647 = .ok (.goto 4, 3) := by decide +kernel
theorem dL_law_650 : decode cL_law 650 = .ok (.iconst 0, 1) := by decide +kernel
theorem dL_law_651 : decode cL_law 651 = .ok (.invokevirtual 66, 3) := by decide +kernel
theorem dL_law_654 : decode cL_law 654 = .ok (.aload_n 2, 1) := by decide +kernel
theorem dL_law_655 : decode cL_law 655 = .ok (.aload_n 0, 1) := by decide +kernel
theorem dL_law_656 : decode cL_law 656 = .ok (.iload_n 3, 1) := by decide +kernel
theorem dL_law_657 : decode cL_law 657 = .ok (.iconst 1, 1) := by decide +kernel
theorem dL_law_658 : decode cL_law 658 = .ok (.iadd, 1) := by decide +kernel
theorem dL_law_659 : decode cL_law 659 = .ok (.iaload, 1) := by decide +kernel
theorem dL_law_660 : decode cL_law 660 = .ok (.aload_n 0, 1) := by decide +kernel
theorem dL_law_661 : decode cL_law 661 = .ok (.iload_n 3, 1) := by decide +kernel
theorem dL_law_662 : decode cL_law 662 = .ok (.iconst 2, 1) := by decide +kernel
theorem dL_law_663 : decode cL_law 663 = .ok (.iadd, 1) := by decide +kernel
theorem dL_law_664 : decode cL_law 664 = .ok (.iaload, 1) := by decide +kernel
theorem dL_law_665 : decode cL_law 665 = .ok (.aload_n 0, 1) := by decide +kernel
theorem dL_law_666 : decode cL_law 666 = .ok (.iload_n 3, 1) := by decide +kernel
theorem dL_law_667 : decode cL_law 667 = .ok (.iconst 3, 1) := by decide +kernel
theorem dL_law_668 : decode cL_law 668 = .ok (.iadd, 1) := by decide +kernel
theorem dL_law_669 : decode cL_law 669 = .ok (.iaload, 1) := by decide +kernel
theorem dL_law_670 : decode cL_law 670 = .ok (.aload_n 0, 1) := by decide +kernel
theorem dL_law_671 : decode cL_law 671 = .ok (.iload_n 3, 1) := by decide +kernel
theorem dL_law_672 : decode cL_law 672 = .ok (.iconst 4, 1) := by decide +kernel
theorem dL_law_673 : decode cL_law 673 = .ok (.iadd, 1) := by decide +kernel
theorem dL_law_674 : decode cL_law 674 = .ok (.iaload, 1) := by decide +kernel
theorem dL_law_675 : decode cL_law 675 = .ok (.ifCond .eq 7, 3) := by decide +kernel
theorem dL_law_678 : decode cL_law 678 = .ok (.iconst 1, 1) := by decide +kernel
theorem dL_law_679 : decode cL_law 679 = .ok (.goto 4, 3) := by decide +kernel
theorem dL_law_682 : decode cL_law 682 = .ok (.iconst 0, 1) := by decide +kernel
theorem dL_law_683 : decode cL_law 683 = .ok (.invokevirtual 69, 3) := by decide +kernel
theorem dL_law_686 : decode cL_law 686 = .ok (.if_icmp .eq 391, 3) := by decide +kernel
theorem dL_law_689 : decode cL_law 689 = .ok (.iconst 0, 1) := by decide +kernel
theorem dL_law_690 : decode cL_law 690 = .ok (.ireturn, 1) := by decide +kernel
theorem dL_law_691 : decode cL_law 691 = .ok (.aload_n 1, 1) := by decide +kernel
theorem dL_law_692 : decode cL_law 692 = .ok (.aload_n 0, 1) := by decide +kernel
theorem dL_law_693 : decode cL_law 693 = .ok (.iload_n 3, 1) := by decide +kernel
theorem dL_law_694 : decode cL_law 694 = .ok (.iconst 1, 1) := by decide +kernel
theorem dL_law_695 : decode cL_law 695 = .ok (.iadd, 1) := by decide +kernel
theorem dL_law_696 : decode cL_law 696 = .ok (.iaload, 1) := by decide +kernel
theorem dL_law_697 : decode cL_law 697 = .ok (.aload_n 0, 1) := by decide +kernel
theorem dL_law_698 : decode cL_law 698 = .ok (.iload_n 3, 1) := by decide +kernel
theorem dL_law_699 : decode cL_law 699 = .ok (.iconst 2, 1) := by decide +kernel
theorem dL_law_700 : decode cL_law 700 = .ok (.iadd, 1) := by decide +kernel
theorem dL_law_701 : decode cL_law 701 = .ok (.iaload, 1) := by decide +kernel
theorem dL_law_702 : decode cL_law 702 = .ok (.aload_n 0, 1) := by decide +kernel
theorem dL_law_703 : decode cL_law 703 = .ok (.iload_n 3, 1) := by decide +kernel
theorem dL_law_704 : decode cL_law 704 = .ok (.iconst 3, 1) := by decide +kernel
theorem dL_law_705 : decode cL_law 705 = .ok (.iadd, 1) := by decide +kernel
theorem dL_law_706 : decode cL_law 706 = .ok (.iaload, 1) := by decide +kernel
theorem dL_law_707 : decode cL_law 707 = .ok (.aload_n 0, 1) := by decide +kernel
theorem dL_law_708 : decode cL_law 708 = .ok (.iload_n 3, 1) := by decide +kernel
theorem dL_law_709 : decode cL_law 709 = .ok (.iconst 4, 1) := by decide +kernel
theorem dL_law_710 : decode cL_law 710 = .ok (.iadd, 1) := by decide +kernel
theorem dL_law_711 : decode cL_law 711 = .ok (.iaload, 1) := by decide +kernel
theorem dL_law_712 : decode cL_law 712 = .ok (.ifCond .eq 7, 3) := by decide +kernel
theorem dL_law_715 : decode cL_law 715 = .ok (.iconst 1, 1) := by decide +kernel
theorem dL_law_716 : decode cL_law 716 = .ok (.goto 4, 3) := by decide +kernel
theorem dL_law_719 : decode cL_law 719 = .ok (.iconst 0, 1) := by decide +kernel
theorem dL_law_720 : decode cL_law 720 = .ok (.invokevirtual 70, 3) := by decide +kernel
theorem dL_law_723 : decode cL_law 723 = .ok (.aload_n 2, 1) := by decide +kernel
theorem dL_law_724 : decode cL_law 724 = .ok (.aload_n 0, 1) := by decide +kernel
theorem dL_law_725 : decode cL_law 725 = .ok (.iload_n 3, 1) := by decide +kernel
theorem dL_law_726 : decode cL_law 726 = .ok (.iconst 1, 1) := by decide +kernel
theorem dL_law_727 : decode cL_law 727 = .ok (.iadd, 1) := by decide +kernel
theorem dL_law_728 : decode cL_law 728 = .ok (.iaload, 1) := by decide +kernel
theorem dL_law_729 : decode cL_law 729 = .ok (.aload_n 0, 1) := by decide +kernel
theorem dL_law_730 : decode cL_law 730 = .ok (.iload_n 3, 1) := by decide +kernel
theorem dL_law_731 : decode cL_law 731 = .ok (.iconst 2, 1) := by decide +kernel
theorem dL_law_732 : decode cL_law 732 = .ok (.iadd, 1) := by decide +kernel
theorem dL_law_733 : decode cL_law 733 = .ok (.iaload, 1) := by decide +kernel
theorem dL_law_734 : decode cL_law 734 = .ok (.aload_n 0, 1) := by decide +kernel
theorem dL_law_735 : decode cL_law 735 = .ok (.iload_n 3, 1) := by decide +kernel
theorem dL_law_736 : decode cL_law 736 = .ok (.iconst 3, 1) := by decide +kernel
theorem dL_law_737 : decode cL_law 737 = .ok (.iadd, 1) := by decide +kernel
theorem dL_law_738 : decode cL_law 738 = .ok (.iaload, 1) := by decide +kernel
theorem dL_law_739 : decode cL_law 739 = .ok (.aload_n 0, 1) := by decide +kernel
theorem dL_law_740 : decode cL_law 740 = .ok (.iload_n 3, 1) := by decide +kernel
theorem dL_law_741 : decode cL_law 741 = .ok (.iconst 4, 1) := by decide +kernel
theorem dL_law_742 : decode cL_law 742 = .ok (.iadd, 1) := by decide +kernel
theorem dL_law_743 : decode cL_law 743 = .ok (.iaload, 1) := by decide +kernel
theorem dL_law_744 : decode cL_law 744 = .ok (.ifCond .eq 7, 3) := by decide +kernel
theorem dL_law_747 : decode cL_law 747 = .ok (.iconst 1, 1) := by decide +kernel
theorem dL_law_748 : decode cL_law 748 = .ok (.goto 4, 3) := by decide +kernel
theorem dL_law_751 : decode cL_law 751 = .ok (.iconst 0, 1) := by decide +kernel
theorem dL_law_752 : decode cL_law 752 = .ok (.invokevirtual 73, 3) := by decide +kernel
theorem dL_law_755 : decode cL_law 755 = .ok (.if_icmp .eq 322, 3) := by decide +kernel
theorem dL_law_758 : decode cL_law 758 = .ok (.iconst 0, 1) := by decide +kernel
theorem dL_law_759 : decode cL_law 759 = .ok (.ireturn, 1) := by decide +kernel
theorem dL_law_760 : decode cL_law 760 = .ok (.aload_n 1, 1) := by decide +kernel
theorem dL_law_761 : decode cL_law 761 = .ok (.aload_n 0, 1) := by decide +kernel
theorem dL_law_762 : decode cL_law 762 = .ok (.iload_n 3, 1) := by decide +kernel
theorem dL_law_763 : decode cL_law 763 = .ok (.iconst 1, 1) := by decide +kernel
theorem dL_law_764 : decode cL_law 764 = .ok (.iadd, 1) := by decide +kernel
theorem dL_law_765 : decode cL_law 765 = .ok (.iaload, 1) := by decide +kernel
theorem dL_law_766 : decode cL_law 766 = .ok (.aload_n 0, 1) := by decide +kernel
theorem dL_law_767 : decode cL_law 767 = .ok (.iload_n 3, 1) := by decide +kernel
theorem dL_law_768 : decode cL_law 768 = .ok (.iconst 2, 1) := by decide +kernel
theorem dL_law_769 : decode cL_law 769 = .ok (.iadd, 1) := by decide +kernel
theorem dL_law_770 : decode cL_law 770 = .ok (.iaload, 1) := by decide +kernel
theorem dL_law_771 : decode cL_law 771 = .ok (.invokevirtual 74, 3) := by decide +kernel
theorem dL_law_774 : decode cL_law 774 = .ok (.aload_n 2, 1) := by decide +kernel
theorem dL_law_775 : decode cL_law 775 = .ok (.aload_n 0, 1) := by decide +kernel
theorem dL_law_776 : decode cL_law 776 = .ok (.iload_n 3, 1) := by decide +kernel
theorem dL_law_777 : decode cL_law 777 = .ok (.iconst 1, 1) := by decide +kernel
theorem dL_law_778 : decode cL_law 778 = .ok (.iadd, 1) := by decide +kernel
theorem dL_law_779 : decode cL_law 779 = .ok (.iaload, 1) := by decide +kernel
theorem dL_law_780 : decode cL_law 780 = .ok (.aload_n 0, 1) := by decide +kernel
theorem dL_law_781 : decode cL_law 781 = .ok (.iload_n 3, 1) := by decide +kernel
theorem dL_law_782 : decode cL_law 782 = .ok (.iconst 2, 1) := by decide +kernel
theorem dL_law_783 : decode cL_law 783 = .ok (.iadd, 1) := by decide +kernel
theorem dL_law_784 : decode cL_law 784 = .ok (.iaload, 1) := by decide +kernel
theorem dL_law_785 : decode cL_law 785 = .ok (.invokevirtual 77, 3) := by decide +kernel
theorem dL_law_788 : decode cL_law 788 = .ok (.if_icmp .eq 289, 3) := by decide +kernel
theorem dL_law_791 : decode cL_law 791 = .ok (.iconst 0, 1) := by decide +kernel
theorem dL_law_792 : decode cL_law 792 = .ok (.ireturn, 1) := by decide +kernel
theorem dL_law_793 : decode cL_law 793 = .ok (.aload_n 1, 1) := by decide +kernel
theorem dL_law_794 : decode cL_law 794 = .ok (.aload_n 0, 1) := by decide +kernel
theorem dL_law_795 : decode cL_law 795 = .ok (.iload_n 3, 1) := by decide +kernel
theorem dL_law_796 : decode cL_law 796 = .ok (.iconst 1, 1) := by decide +kernel
theorem dL_law_797 : decode cL_law 797 = .ok (.iadd, 1) := by decide +kernel
theorem dL_law_798 : decode cL_law 798 = .ok (.iaload, 1) := by decide +kernel
theorem dL_law_799 : decode cL_law 799 = .ok (.aload_n 0, 1) := by decide +kernel
theorem dL_law_800 : decode cL_law 800 = .ok (.iload_n 3, 1) := by decide +kernel
theorem dL_law_801 : decode cL_law 801 = .ok (.iconst 2, 1) := by decide +kernel
theorem dL_law_802 : decode cL_law 802 = .ok (.iadd, 1) := by decide +kernel
theorem dL_law_803 : decode cL_law 803 = .ok (.iaload, 1) := by decide +kernel
theorem dL_law_804 : decode cL_law 804 = .ok (.aload_n 0, 1) := by decide +kernel
theorem dL_law_805 : decode cL_law 805 = .ok (.iload_n 3, 1) := by decide +kernel
theorem dL_law_806 : decode cL_law 806 = .ok (.iconst 3, 1) := by decide +kernel
theorem dL_law_807 : decode cL_law 807 = .ok (.iadd, 1) := by decide +kernel
theorem dL_law_808 : decode cL_law 808 = .ok (.iaload, 1) := by decide +kernel
theorem dL_law_809 : decode cL_law 809 = .ok (.aload_n 0, 1) := by decide +kernel
theorem dL_law_810 : decode cL_law 810 = .ok (.iload_n 3, 1) := by decide +kernel
theorem dL_law_811 : decode cL_law 811 = .ok (.iconst 4, 1) := by decide +kernel
theorem dL_law_812 : decode cL_law 812 = .ok (.iadd, 1) := by decide +kernel
theorem dL_law_813 : decode cL_law 813 = .ok (.iaload, 1) := by decide +kernel
theorem dL_law_814 : decode cL_law 814 = .ok (.aload_n 0, 1) := by decide +kernel
theorem dL_law_815 : decode cL_law 815 = .ok (.iload_n 3, 1) := by decide +kernel
theorem dL_law_816 : decode cL_law 816 = .ok (.iconst 5, 1) := by decide +kernel
theorem dL_law_817 : decode cL_law 817 = .ok (.iadd, 1) := by decide +kernel
theorem dL_law_818 : decode cL_law 818 = .ok (.iaload, 1) := by decide +kernel
theorem dL_law_819 : decode cL_law 819 = .ok (.invokevirtual 78, 3) := by decide +kernel
theorem dL_law_822 : decode cL_law 822 = .ok (.aload_n 2, 1) := by decide +kernel
theorem dL_law_823 : decode cL_law 823 = .ok (.aload_n 0, 1) := by decide +kernel
theorem dL_law_824 : decode cL_law 824 = .ok (.iload_n 3, 1) := by decide +kernel
theorem dL_law_825 : decode cL_law 825 = .ok (.iconst 1, 1) := by decide +kernel
theorem dL_law_826 : decode cL_law 826 = .ok (.iadd, 1) := by decide +kernel
theorem dL_law_827 : decode cL_law 827 = .ok (.iaload, 1) := by decide +kernel
theorem dL_law_828 : decode cL_law 828 = .ok (.aload_n 0, 1) := by decide +kernel
theorem dL_law_829 : decode cL_law 829 = .ok (.iload_n 3, 1) := by decide +kernel
theorem dL_law_830 : decode cL_law 830 = .ok (.iconst 2, 1) := by decide +kernel
theorem dL_law_831 : decode cL_law 831 = .ok (.iadd, 1) := by decide +kernel
theorem dL_law_832 : decode cL_law 832 = .ok (.iaload, 1) := by decide +kernel
theorem dL_law_833 : decode cL_law 833 = .ok (.aload_n 0, 1) := by decide +kernel
theorem dL_law_834 : decode cL_law 834 = .ok (.iload_n 3, 1) := by decide +kernel
theorem dL_law_835 : decode cL_law 835 = .ok (.iconst 3, 1) := by decide +kernel
theorem dL_law_836 : decode cL_law 836 = .ok (.iadd, 1) := by decide +kernel
theorem dL_law_837 : decode cL_law 837 = .ok (.iaload, 1) := by decide +kernel
theorem dL_law_838 : decode cL_law 838 = .ok (.aload_n 0, 1) := by decide +kernel
theorem dL_law_839 : decode cL_law 839 = .ok (.iload_n 3, 1) := by decide +kernel
theorem dL_law_840 : decode cL_law 840 = .ok (.iconst 4, 1) := by decide +kernel
theorem dL_law_841 : decode cL_law 841 = .ok (.iadd, 1) := by decide +kernel
theorem dL_law_842 : decode cL_law 842 = .ok (.iaload, 1) := by decide +kernel
theorem dL_law_843 : decode cL_law 843 = .ok (.aload_n 0, 1) := by decide +kernel
theorem dL_law_844 : decode cL_law 844 = .ok (.iload_n 3, 1) := by decide +kernel
theorem dL_law_845 : decode cL_law 845 = .ok (.iconst 5, 1) := by decide +kernel
theorem dL_law_846 : decode cL_law 846 = .ok (.iadd, 1) := by decide +kernel
theorem dL_law_847 : decode cL_law 847 = .ok (.iaload, 1) := by decide +kernel
theorem dL_law_848 : decode cL_law 848 = .ok (.invokevirtual 82, 3) := by decide +kernel
theorem dL_law_851 : decode cL_law 851 = .ok (.if_icmp .eq 226, 3) := by decide +kernel
theorem dL_law_854 : decode cL_law 854 = .ok (.iconst 0, 1) := by decide +kernel
theorem dL_law_855 : decode cL_law 855 = .ok (.ireturn, 1) := by decide +kernel
theorem dL_law_856 : decode cL_law 856 = .ok (.aload_n 1, 1) := by decide +kernel
theorem dL_law_857 : decode cL_law 857 = .ok (.aload_n 0, 1) := by decide +kernel
theorem dL_law_858 : decode cL_law 858 = .ok (.iload_n 3, 1) := by decide +kernel
theorem dL_law_859 : decode cL_law 859 = .ok (.iconst 1, 1) := by decide +kernel
theorem dL_law_860 : decode cL_law 860 = .ok (.iadd, 1) := by decide +kernel
theorem dL_law_861 : decode cL_law 861 = .ok (.iaload, 1) := by decide +kernel
theorem dL_law_862 : decode cL_law 862 = .ok (.aload_n 0, 1) := by decide +kernel
theorem dL_law_863 : decode cL_law 863 = .ok (.iload_n 3, 1) := by decide +kernel
theorem dL_law_864 : decode cL_law 864 = .ok (.iconst 2, 1) := by decide +kernel
theorem dL_law_865 : decode cL_law 865 = .ok (.iadd, 1) := by decide +kernel
theorem dL_law_866 : decode cL_law 866 = .ok (.iaload, 1) := by decide +kernel
theorem dL_law_867 : decode cL_law 867 = .ok (.invokevirtual 83, 3) := by decide +kernel
theorem dL_law_870 : decode cL_law 870 = .ok (.aload_n 2, 1) := by decide +kernel
theorem dL_law_871 : decode cL_law 871 = .ok (.aload_n 0, 1) := by decide +kernel
theorem dL_law_872 : decode cL_law 872 = .ok (.iload_n 3, 1) := by decide +kernel
theorem dL_law_873 : decode cL_law 873 = .ok (.iconst 1, 1) := by decide +kernel
theorem dL_law_874 : decode cL_law 874 = .ok (.iadd, 1) := by decide +kernel
theorem dL_law_875 : decode cL_law 875 = .ok (.iaload, 1) := by decide +kernel
theorem dL_law_876 : decode cL_law 876 = .ok (.aload_n 0, 1) := by decide +kernel
theorem dL_law_877 : decode cL_law 877 = .ok (.iload_n 3, 1) := by decide +kernel
theorem dL_law_878 : decode cL_law 878 = .ok (.iconst 2, 1) := by decide +kernel
theorem dL_law_879 : decode cL_law 879 = .ok (.iadd, 1) := by decide +kernel
theorem dL_law_880 : decode cL_law 880 = .ok (.iaload, 1) := by decide +kernel
theorem dL_law_881 : decode cL_law 881 = .ok (.invokevirtual 86, 3) := by decide +kernel
theorem dL_law_884 : decode cL_law 884 = .ok (.if_icmp .eq 193, 3) := by decide +kernel
theorem dL_law_887 : decode cL_law 887 = .ok (.iconst 0, 1) := by decide +kernel
theorem dL_law_888 : decode cL_law 888 = .ok (.ireturn, 1) := by decide +kernel
theorem dL_law_889 : decode cL_law 889 = .ok (.aload_n 1, 1) := by decide +kernel
theorem dL_law_890 : decode cL_law 890 = .ok (.aload_n 0, 1) := by decide +kernel
theorem dL_law_891 : decode cL_law 891 = .ok (.iload_n 3, 1) := by decide +kernel
theorem dL_law_892 : decode cL_law 892 = .ok (.iconst 1, 1) := by decide +kernel
theorem dL_law_893 : decode cL_law 893 = .ok (.iadd, 1) := by decide +kernel
theorem dL_law_894 : decode cL_law 894 = .ok (.iaload, 1) := by decide +kernel
theorem dL_law_895 : decode cL_law 895 = .ok (.invokevirtual 87, 3) := by decide +kernel
theorem dL_law_898 : decode cL_law 898 = .ok (.aload_n 2, 1) := by decide +kernel
theorem dL_law_899 : decode cL_law 899 = .ok (.aload_n 0, 1) := by decide +kernel
theorem dL_law_900 : decode cL_law 900 = .ok (.iload_n 3, 1) := by decide +kernel
theorem dL_law_901 : decode cL_law 901 = .ok (.iconst 1, 1) := by decide +kernel
theorem dL_law_902 : decode cL_law 902 = .ok (.iadd, 1) := by decide +kernel
theorem dL_law_903 : decode cL_law 903 = .ok (.iaload, 1) := by decide +kernel
theorem dL_law_904 : decode cL_law 904 = .ok (.invokevirtual 90, 3) := by decide +kernel
theorem dL_law_907 : decode cL_law 907 = .ok (.if_icmp .eq 170, 3) := by decide +kernel
theorem dL_law_910 : decode cL_law 910 = .ok (.iconst 0, 1) := by decide +kernel
theorem dL_law_911 : decode cL_law 911 = .ok (.ireturn, 1) := by decide +kernel
theorem dL_law_912 : decode cL_law 912 = .ok (.aload_n 1, 1) := by decide +kernel
theorem dL_law_913 : decode cL_law 913 = .ok (.aload_n 0, 1) := by decide +kernel
theorem dL_law_914 : decode cL_law 914 = .ok (.iload_n 3, 1) := by decide +kernel
theorem dL_law_915 : decode cL_law 915 = .ok (.iconst 1, 1) := by decide +kernel
theorem dL_law_916 : decode cL_law 916 = .ok (.iadd, 1) := by decide +kernel
theorem dL_law_917 : decode cL_law 917 = .ok (.iaload, 1) := by decide +kernel
theorem dL_law_918 : decode cL_law 918 = .ok (.aload_n 0, 1) := by decide +kernel
theorem dL_law_919 : decode cL_law 919 = .ok (.iload_n 3, 1) := by decide +kernel
theorem dL_law_920 : decode cL_law 920 = .ok (.iconst 2, 1) := by decide +kernel
theorem dL_law_921 : decode cL_law 921 = .ok (.iadd, 1) := by decide +kernel
theorem dL_law_922 : decode cL_law 922 = .ok (.iaload, 1) := by decide +kernel
theorem dL_law_923 : decode cL_law 923 = .ok (.invokevirtual 91, 3) := by decide +kernel
theorem dL_law_926 : decode cL_law 926 = .ok (.aload_n 2, 1) := by decide +kernel
theorem dL_law_927 : decode cL_law 927 = .ok (.aload_n 0, 1) := by decide +kernel
theorem dL_law_928 : decode cL_law 928 = .ok (.iload_n 3, 1) := by decide +kernel
theorem dL_law_929 : decode cL_law 929 = .ok (.iconst 1, 1) := by decide +kernel
theorem dL_law_930 : decode cL_law 930 = .ok (.iadd, 1) := by decide +kernel
theorem dL_law_931 : decode cL_law 931 = .ok (.iaload, 1) := by decide +kernel
theorem dL_law_932 : decode cL_law 932 = .ok (.aload_n 0, 1) := by decide +kernel
theorem dL_law_933 : decode cL_law 933 = .ok (.iload_n 3, 1) := by decide +kernel
theorem dL_law_934 : decode cL_law 934 = .ok (.iconst 2, 1) := by decide +kernel
theorem dL_law_935 : decode cL_law 935 = .ok (.iadd, 1) := by decide +kernel
theorem dL_law_936 : decode cL_law 936 = .ok (.iaload, 1) := by decide +kernel
theorem dL_law_937 : decode cL_law 937 = .ok (.invokevirtual 94, 3) := by decide +kernel
theorem dL_law_940 : decode cL_law 940 = .ok (.if_icmp .eq 137, 3) := by decide +kernel
theorem dL_law_943 : decode cL_law 943 = .ok (.iconst 0, 1) := by decide +kernel
theorem dL_law_944 : decode cL_law 944 = .ok (.ireturn, 1) := by decide +kernel
theorem dL_law_945 : decode cL_law 945 = .ok (.aload_n 1, 1) := by decide +kernel
theorem dL_law_946 : decode cL_law 946 = .ok (.aload_n 0, 1) := by decide +kernel
theorem dL_law_947 : decode cL_law 947 = .ok (.iload_n 3, 1) := by decide +kernel
theorem dL_law_948 : decode cL_law 948 = .ok (.iconst 1, 1) := by decide +kernel
theorem dL_law_949 : decode cL_law 949 = .ok (.iadd, 1) := by decide +kernel
theorem dL_law_950 : decode cL_law 950 = .ok (.iaload, 1) := by decide +kernel
theorem dL_law_951 : decode cL_law 951 = .ok (.invokevirtual 95, 3) := by decide +kernel
theorem dL_law_954 : decode cL_law 954 = .ok (.aload_n 2, 1) := by decide +kernel
theorem dL_law_955 : decode cL_law 955 = .ok (.aload_n 0, 1) := by decide +kernel
theorem dL_law_956 : decode cL_law 956 = .ok (.iload_n 3, 1) := by decide +kernel
theorem dL_law_957 : decode cL_law 957 = .ok (.iconst 1, 1) := by decide +kernel
theorem dL_law_958 : decode cL_law 958 = .ok (.iadd, 1) := by decide +kernel
theorem dL_law_959 : decode cL_law 959 = .ok (.iaload, 1) := by decide +kernel
theorem dL_law_960 : decode cL_law 960 = .ok (.invokevirtual 98, 3) := by decide +kernel
theorem dL_law_963 : decode cL_law 963 = .ok (.if_icmp .eq 114, 3) := by decide +kernel
theorem dL_law_966 : decode cL_law 966 = .ok (.iconst 0, 1) := by decide +kernel
theorem dL_law_967 : decode cL_law 967 = .ok (.ireturn, 1) := by decide +kernel
theorem dL_law_968 : decode cL_law 968 = .ok (.aload_n 1, 1) := by decide +kernel
theorem dL_law_969 : decode cL_law 969 = .ok (.aload_n 0, 1) := by decide +kernel
theorem dL_law_970 : decode cL_law 970 = .ok (.iload_n 3, 1) := by decide +kernel
theorem dL_law_971 : decode cL_law 971 = .ok (.iconst 1, 1) := by decide +kernel
theorem dL_law_972 : decode cL_law 972 = .ok (.iadd, 1) := by decide +kernel
theorem dL_law_973 : decode cL_law 973 = .ok (.iaload, 1) := by decide +kernel
theorem dL_law_974 : decode cL_law 974 = .ok (.aload_n 0, 1) := by decide +kernel
theorem dL_law_975 : decode cL_law 975 = .ok (.iload_n 3, 1) := by decide +kernel
theorem dL_law_976 : decode cL_law 976 = .ok (.iconst 2, 1) := by decide +kernel
theorem dL_law_977 : decode cL_law 977 = .ok (.iadd, 1) := by decide +kernel
theorem dL_law_978 : decode cL_law 978 = .ok (.iaload, 1) := by decide +kernel
theorem dL_law_979 : decode cL_law 979 = .ok (.aload_n 0, 1) := by decide +kernel
theorem dL_law_980 : decode cL_law 980 = .ok (.iload_n 3, 1) := by decide +kernel
theorem dL_law_981 : decode cL_law 981 = .ok (.iconst 3, 1) := by decide +kernel
theorem dL_law_982 : decode cL_law 982 = .ok (.iadd, 1) := by decide +kernel
theorem dL_law_983 : decode cL_law 983 = .ok (.iaload, 1) := by decide +kernel
theorem dL_law_984 : decode cL_law 984 = .ok (.aload_n 0, 1) := by decide +kernel
theorem dL_law_985 : decode cL_law 985 = .ok (.iload_n 3, 1) := by decide +kernel
theorem dL_law_986 : decode cL_law 986 = .ok (.iconst 4, 1) := by decide +kernel
theorem dL_law_987 : decode cL_law 987 = .ok (.iadd, 1) := by decide +kernel
theorem dL_law_988 : decode cL_law 988 = .ok (.iaload, 1) := by decide +kernel
theorem dL_law_989 : decode cL_law 989 = .ok (.invokevirtual 99, 3) := by decide +kernel
theorem dL_law_992 : decode cL_law 992 = .ok (.aload_n 2, 1) := by decide +kernel
theorem dL_law_993 : decode cL_law 993 = .ok (.aload_n 0, 1) := by decide +kernel
theorem dL_law_994 : decode cL_law 994 = .ok (.iload_n 3, 1) := by decide +kernel
theorem dL_law_995 : decode cL_law 995 = .ok (.iconst 1, 1) := by decide +kernel
theorem dL_law_996 : decode cL_law 996 = .ok (.iadd, 1) := by decide +kernel
theorem dL_law_997 : decode cL_law 997 = .ok (.iaload, 1) := by decide +kernel
theorem dL_law_998 : decode cL_law 998 = .ok (.aload_n 0, 1) := by decide +kernel
theorem dL_law_999 : decode cL_law 999 = .ok (.iload_n 3, 1) := by decide +kernel
theorem dL_law_1000 : decode cL_law 1000 = .ok (.iconst 2, 1) := by decide +kernel
theorem dL_law_1001 : decode cL_law 1001 = .ok (.iadd, 1) := by decide +kernel
theorem dL_law_1002 : decode cL_law 1002 = .ok (.iaload, 1) := by decide +kernel
theorem dL_law_1003 : decode cL_law 1003 = .ok (.aload_n 0, 1) := by decide +kernel
theorem dL_law_1004 : decode cL_law 1004 = .ok (.iload_n 3, 1) := by decide +kernel
theorem dL_law_1005 : decode cL_law 1005 = .ok (.iconst 3, 1) := by decide +kernel
theorem dL_law_1006 : decode cL_law 1006 = .ok (.iadd, 1) := by decide +kernel
theorem dL_law_1007 : decode cL_law 1007 = .ok (.iaload, 1) := by decide +kernel
theorem dL_law_1008 : decode cL_law 1008 = .ok (.aload_n 0, 1) := by decide +kernel
theorem dL_law_1009 : decode cL_law 1009 = .ok (.iload_n 3, 1) := by decide +kernel
theorem dL_law_1010 : decode cL_law 1010 = .ok (.iconst 4, 1) := by decide +kernel
theorem dL_law_1011 : decode cL_law 1011 = .ok (.iadd, 1) := by decide +kernel
theorem dL_law_1012 : decode cL_law 1012 = .ok (.iaload, 1) := by decide +kernel
theorem dL_law_1013 : decode cL_law 1013 = .ok (.invokevirtual 102, 3) := by decide +kernel
theorem dL_law_1016 : decode cL_law 1016 = .ok (.if_icmp .eq 61, 3) := by decide +kernel
theorem dL_law_1019 : decode cL_law 1019 = .ok (.iconst 0, 1) := by decide +kernel
theorem dL_law_1020 : decode cL_law 1020 = .ok (.ireturn, 1) := by decide +kernel
theorem dL_law_1021 : decode cL_law 1021 = .ok (.aload_n 1, 1) := by decide +kernel
theorem dL_law_1022 : decode cL_law 1022 = .ok (.aload_n 0, 1) := by decide +kernel
theorem dL_law_1023 : decode cL_law 1023 = .ok (.iload_n 3, 1) := by decide +kernel
theorem dL_law_1024 : decode cL_law 1024 = .ok (.iconst 1, 1) := by decide +kernel
theorem dL_law_1025 : decode cL_law 1025 = .ok (.iadd, 1) := by decide +kernel
theorem dL_law_1026 : decode cL_law 1026 = .ok (.iaload, 1) := by decide +kernel
theorem dL_law_1027 : decode cL_law 1027 = .ok (.aload_n 0, 1) := by decide +kernel
theorem dL_law_1028 : decode cL_law 1028 = .ok (.iload_n 3, 1) := by decide +kernel
theorem dL_law_1029 : decode cL_law 1029 = .ok (.iconst 2, 1) := by decide +kernel
theorem dL_law_1030 : decode cL_law 1030 = .ok (.iadd, 1) := by decide +kernel
theorem dL_law_1031 : decode cL_law 1031 = .ok (.iaload, 1) := by decide +kernel
theorem dL_law_1032 : decode cL_law 1032 = .ok (.invokevirtual 103, 3) := by decide +kernel
theorem dL_law_1035 : decode cL_law 1035 = .ok (.aload_n 2, 1) := by decide +kernel
theorem dL_law_1036 : decode cL_law 1036 = .ok (.aload_n 0, 1) := by decide +kernel
theorem dL_law_1037 : decode cL_law 1037 = .ok (.iload_n 3, 1) := by decide +kernel
theorem dL_law_1038 : decode cL_law 1038 = .ok (.iconst 1, 1) := by decide +kernel
theorem dL_law_1039 : decode cL_law 1039 = .ok (.iadd, 1) := by decide +kernel
theorem dL_law_1040 : decode cL_law 1040 = .ok (.iaload, 1) := by decide +kernel
theorem dL_law_1041 : decode cL_law 1041 = .ok (.aload_n 0, 1) := by decide +kernel
theorem dL_law_1042 : decode cL_law 1042 = .ok (.iload_n 3, 1) := by decide +kernel
theorem dL_law_1043 : decode cL_law 1043 = .ok (.iconst 2, 1) := by decide +kernel
theorem dL_law_1044 : decode cL_law 1044 = .ok (.iadd, 1) := by decide +kernel
theorem dL_law_1045 : decode cL_law 1045 = .ok (.iaload, 1) := by decide +kernel
theorem dL_law_1046 : decode cL_law 1046 = .ok (.invokevirtual 106, 3) := by decide +kernel
theorem dL_law_1049 : decode cL_law 1049 = .ok (.if_icmp .eq 28, 3) := by decide +kernel
theorem dL_law_1052 : decode cL_law 1052 = .ok (.iconst 0, 1) := by decide +kernel
theorem dL_law_1053 : decode cL_law 1053 = .ok (.ireturn, 1) := by decide +kernel
theorem dL_law_1054 : decode cL_law 1054 = .ok (.aload_n 1, 1) := by decide +kernel
theorem dL_law_1055 : decode cL_law 1055 = .ok (.aload_n 0, 1) := by decide +kernel
theorem dL_law_1056 : decode cL_law 1056 = .ok (.iload_n 3, 1) := by decide +kernel
theorem dL_law_1057 : decode cL_law 1057 = .ok (.iconst 1, 1) := by decide +kernel
theorem dL_law_1058 : decode cL_law 1058 = .ok (.iadd, 1) := by decide +kernel
theorem dL_law_1059 : decode cL_law 1059 = .ok (.iaload, 1) := by decide +kernel
theorem dL_law_1060 : decode cL_law 1060 = .ok (.invokevirtual 107, 3) := by decide +kernel
theorem dL_law_1063 : decode cL_law 1063 = .ok (.aload_n 2, 1) := by decide +kernel
theorem dL_law_1064 : decode cL_law 1064 = .ok (.aload_n 0, 1) := by decide +kernel
theorem dL_law_1065 : decode cL_law 1065 = .ok (.iload_n 3, 1) := by decide +kernel
theorem dL_law_1066 : decode cL_law 1066 = .ok (.iconst 1, 1) := by decide +kernel
theorem dL_law_1067 : decode cL_law 1067 = .ok (.iadd, 1) := by decide +kernel
theorem dL_law_1068 : decode cL_law 1068 = .ok (.iaload, 1) := by decide +kernel
theorem dL_law_1069 : decode cL_law 1069 = .ok (.invokevirtual 110, 3) := by decide +kernel
theorem dL_law_1072 : decode cL_law 1072 = .ok (.if_icmp .eq 5, 3) := by decide +kernel
theorem dL_law_1075 : decode cL_law 1075 = .ok (.iconst 0, 1) := by decide +kernel
theorem dL_law_1076 : decode cL_law 1076 = .ok (.ireturn, 1) := by decide +kernel
theorem dL_law_1077 : decode cL_law 1077 = .ok (.iinc 3 6, 3) := by decide +kernel
theorem dL_law_1080 : decode cL_law 1080 = .ok (.goto (-1062), 3) := by decide +kernel
theorem dL_law_1083 : decode cL_law 1083 = .ok (.iconst 1, 1) := by decide +kernel
theorem dL_law_1084 : decode cL_law 1084 = .ok (.ireturn, 1) := by decide +kernel
end
section
abbrev TB : List Cond := lw_tbl.filter goodWord
theorem tb_in {w : Cond} (h : w ∈ lw_tbl) (g : goodWord w = true) : w ∈ TB := List.mem_filter.mpr ⟨h, g⟩
theorem tb_of {w : Cond} (h : w ∈ TB) : w ∈ lw_tbl := (List.mem_filter.mp h).1
theorem tb_good : GoodIn TB TB := fun w h => ⟨h, good_of_word (List.mem_filter.mp h).2⟩
theorem tb_cons {x w : Cond} (hw : w ∈ TB) : GoodIn (x :: TB) (w :: TB) := fun v h => by
  rcases List.mem_cons.mp h with rfl | h
  · exact ⟨List.mem_cons_of_mem _ hw, (tb_good _ hw).2⟩
  · exact ⟨List.mem_cons_of_mem _ h, (tb_good _ h).2⟩
theorem tb_1 {w : Cond} (h : w ∈ tables_1_1) (g : goodWord w = true) : w ∈ TB := tb_in (List.mem_append_right _ (show w ∈ tables_1 from (List.mem_append_left _ h))) g
theorem tb_2 {w : Cond} (h : w ∈ tables_1_2) (g : goodWord w = true) : w ∈ TB := tb_in (List.mem_append_right _ (show w ∈ tables_1 from (List.mem_append_right _ (List.mem_append_left _ h)))) g
theorem tb_3 {w : Cond} (h : w ∈ tables_1_3) (g : goodWord w = true) : w ∈ TB := tb_in (List.mem_append_right _ (show w ∈ tables_1 from (List.mem_append_right _ (List.mem_append_right _ (List.mem_append_left _ h))))) g
theorem tb_4 {w : Cond} (h : w ∈ tables_1_4) (g : goodWord w = true) : w ∈ TB := tb_in (List.mem_append_right _ (show w ∈ tables_1 from (List.mem_append_right _ (List.mem_append_right _ (List.mem_append_right _ h))))) g
theorem mI_L : Cond.initialized RL ∈ TB := tb_1 (List.mem_of_getElem? (i := 0) rfl) rfl
theorem mI_X8 : Cond.initialized RX8 ∈ TB := tb_1 (List.mem_of_getElem? (i := 1) rfl) rfl
theorem mI_X7 : Cond.initialized RX7 ∈ TB := tb_1 (List.mem_of_getElem? (i := 2) rfl) rfl
theorem mI_X4 : Cond.initialized RX4 ∈ TB := tb_1 (List.mem_of_getElem? (i := 3) rfl) rfl
theorem mI_X0 : Cond.initialized RX0 ∈ TB := tb_1 (List.mem_of_getElem? (i := 4) rfl) rfl
theorem mI_X2 : Cond.initialized RX2 ∈ TB := tb_1 (List.mem_of_getElem? (i := 5) rfl) rfl
theorem mI_X1 : Cond.initialized RX1 ∈ TB := tb_1 (List.mem_of_getElem? (i := 6) rfl) rfl
theorem mI_X6 : Cond.initialized RX6 ∈ TB := tb_1 (List.mem_of_getElem? (i := 7) rfl) rfl
theorem mI_X5 : Cond.initialized RX5 ∈ TB := tb_1 (List.mem_of_getElem? (i := 8) rfl) rfl
theorem mI_X9 : Cond.initialized RX9 ∈ TB := tb_1 (List.mem_of_getElem? (i := 9) rfl) rfl
theorem mI_X3 : Cond.initialized RX3 ∈ TB := tb_1 (List.mem_of_getElem? (i := 10) rfl) rfl
theorem mK_L_7 : Cond.classLink RL 7 RX8 ∈ TB := tb_1 (List.mem_of_getElem? (i := 11) rfl) rfl
theorem mN_X8 : Cond.instantiable RX8 6 ∈ TB := tb_1 (List.mem_of_getElem? (i := 12) rfl) rfl
theorem mM_L_9 : Cond.methodLink RL 9 yX8_init ∈ TB := tb_1 (List.mem_of_getElem? (i := 13) rfl) rfl
theorem mO_yX8_init : Cond.instanceMethod yX8_init ∈ TB := tb_1 (List.mem_of_getElem? (i := 14) rfl) rfl
theorem mC_yX8_init : Cond.code yX8_init cX8_init 1 (Option.none : Option FieldType) ∈ TB := tb_1 (List.mem_of_getElem? (i := 15) rfl) rfl
theorem mM_X8_3 : Cond.methodLink RX8 3 objectInit ∈ TB := tb_1 (List.mem_of_getElem? (i := 16) rfl) rfl
theorem mO_objectInit : Cond.instanceMethod objectInit ∈ TB := tb_1 (List.mem_of_getElem? (i := 17) rfl) rfl
theorem mC_objectInit : Cond.code objectInit ⟨#[0xb1]⟩ 1 none ∈ TB := tb_1 (List.mem_of_getElem? (i := 18) rfl) rfl
theorem mK_X8_9 : Cond.classLink RX8 9 RX7 ∈ TB := tb_1 (List.mem_of_getElem? (i := 19) rfl) rfl
theorem mN_X7 : Cond.instantiable RX7 2 ∈ TB := tb_1 (List.mem_of_getElem? (i := 20) rfl) rfl
theorem mO_yX7_init : Cond.instanceMethod yX7_init ∈ TB := tb_1 (List.mem_of_getElem? (i := 22) rfl) rfl
theorem mC_yX7_init : Cond.code yX7_init cX7_init 1 (Option.none : Option FieldType) ∈ TB := tb_1 (List.mem_of_getElem? (i := 23) rfl) rfl
theorem mM_X7_3 : Cond.methodLink RX7 3 objectInit ∈ TB := tb_1 (List.mem_of_getElem? (i := 24) rfl) rfl
theorem mK_X7_15 : Cond.classLink RX7 15 "[[I" ∈ TB := tb_1 (List.mem_of_getElem? (i := 25) rfl) rfl
theorem mF_X7_9 : Cond.fieldLink RX7 9 "ParkDesk$Zones" "ruled" "[I" ∈ TB := tb_1 (List.mem_of_getElem? (i := 27) rfl) rfl
theorem mF_X8_92 : Cond.fieldLink RX8 92 "ParkDesk$Zones" "ruled" "[I" ∈ TB := tb_1 (List.mem_of_getElem? (i := 28) rfl) rfl
theorem mF_X7_17 : Cond.fieldLink RX7 17 "ParkDesk$Zones" "good" "[[I" ∈ TB := tb_1 (List.mem_of_getElem? (i := 29) rfl) rfl
theorem mF_X8_101 : Cond.fieldLink RX8 101 "ParkDesk$Zones" "good" "[[I" ∈ TB := tb_1 (List.mem_of_getElem? (i := 30) rfl) rfl
theorem mL_X7_ruled : Cond.laysFinal RX7 RX7 "ruled" "[I" ∈ TB := tb_1 (List.mem_of_getElem? (i := 31) rfl) rfl
theorem mL_X7_good : Cond.laysFinal RX7 RX7 "good" "[[I" ∈ TB := tb_1 (List.mem_of_getElem? (i := 33) rfl) rfl
theorem mA_int : Cond.arrayClass FieldType.int ∈ TB := tb_1 (List.mem_of_getElem? (i := 36) rfl) rfl
theorem mK_X8_16 : Cond.classLink RX8 16 RX4 ∈ TB := tb_1 (List.mem_of_getElem? (i := 37) rfl) rfl
theorem mN_X4 : Cond.instantiable RX4 6 ∈ TB := tb_1 (List.mem_of_getElem? (i := 38) rfl) rfl
theorem mM_X8_18 : Cond.methodLink RX8 18 yX4_init ∈ TB := tb_1 (List.mem_of_getElem? (i := 39) rfl) rfl
theorem mO_yX4_init : Cond.instanceMethod yX4_init ∈ TB := tb_1 (List.mem_of_getElem? (i := 40) rfl) rfl
theorem mC_yX4_init : Cond.code yX4_init cX4_init 3 (Option.none : Option FieldType) ∈ TB := tb_1 (List.mem_of_getElem? (i := 41) rfl) rfl
theorem mM_X4_3 : Cond.methodLink RX4 3 objectInit ∈ TB := tb_1 (List.mem_of_getElem? (i := 42) rfl) rfl
theorem mK_X4_22 : Cond.classLink RX4 22 "[[I" ∈ TB := tb_1 (List.mem_of_getElem? (i := 43) rfl) rfl
theorem mF_X4_9 : Cond.fieldLink RX4 9 "ParkDesk$Streets" "count" "I" ∈ TB := tb_1 (List.mem_of_getElem? (i := 44) rfl) rfl
theorem mF_X6_24 : Cond.fieldLink RX6 24 "ParkDesk$Streets" "count" "I" ∈ TB := tb_1 (List.mem_of_getElem? (i := 45) rfl) rfl
theorem mF_X2_51 : Cond.fieldLink RX2 51 "ParkDesk$Streets" "count" "I" ∈ TB := tb_1 (List.mem_of_getElem? (i := 46) rfl) rfl
theorem mF_X8_185 : Cond.fieldLink RX8 185 "ParkDesk$Streets" "count" "I" ∈ TB := tb_1 (List.mem_of_getElem? (i := 47) rfl) rfl
theorem mF_X4_15 : Cond.fieldLink RX4 15 "ParkDesk$Streets" "zone" "[I" ∈ TB := tb_1 (List.mem_of_getElem? (i := 48) rfl) rfl
theorem mF_X8_72 : Cond.fieldLink RX8 72 "ParkDesk$Streets" "zone" "[I" ∈ TB := tb_1 (List.mem_of_getElem? (i := 49) rfl) rfl
theorem mF_X2_66 : Cond.fieldLink RX2 66 "ParkDesk$Streets" "zone" "[I" ∈ TB := tb_1 (List.mem_of_getElem? (i := 50) rfl) rfl
theorem mF_X4_19 : Cond.fieldLink RX4 19 "ParkDesk$Streets" "bays" "[I" ∈ TB := tb_1 (List.mem_of_getElem? (i := 51) rfl) rfl
theorem mF_X2_57 : Cond.fieldLink RX2 57 "ParkDesk$Streets" "bays" "[I" ∈ TB := tb_1 (List.mem_of_getElem? (i := 52) rfl) rfl
theorem mF_X8_83 : Cond.fieldLink RX8 83 "ParkDesk$Streets" "bays" "[I" ∈ TB := tb_1 (List.mem_of_getElem? (i := 53) rfl) rfl
theorem mF_X4_24 : Cond.fieldLink RX4 24 "ParkDesk$Streets" "closed" "[[I" ∈ TB := tb_1 (List.mem_of_getElem? (i := 54) rfl) rfl
theorem mF_X2_60 : Cond.fieldLink RX2 60 "ParkDesk$Streets" "closed" "[[I" ∈ TB := tb_1 (List.mem_of_getElem? (i := 55) rfl) rfl
theorem mF_X8_86 : Cond.fieldLink RX8 86 "ParkDesk$Streets" "closed" "[[I" ∈ TB := tb_1 (List.mem_of_getElem? (i := 56) rfl) rfl
theorem mF_X4_27 : Cond.fieldLink RX4 27 "ParkDesk$Streets" "walk" "[[I" ∈ TB := tb_1 (List.mem_of_getElem? (i := 57) rfl) rfl
theorem mF_X8_76 : Cond.fieldLink RX8 76 "ParkDesk$Streets" "walk" "[[I" ∈ TB := tb_1 (List.mem_of_getElem? (i := 58) rfl) rfl
theorem mF_X2_94 : Cond.fieldLink RX2 94 "ParkDesk$Streets" "walk" "[[I" ∈ TB := tb_1 (List.mem_of_getElem? (i := 59) rfl) rfl
theorem mF_X4_30 : Cond.fieldLink RX4 30 "ParkDesk$Streets" "gain" "[I" ∈ TB := tb_1 (List.mem_of_getElem? (i := 60) rfl) rfl
theorem mF_X6_29 : Cond.fieldLink RX6 29 "ParkDesk$Streets" "gain" "[I" ∈ TB := tb_1 (List.mem_of_getElem? (i := 61) rfl) rfl
theorem mF_X8_144 : Cond.fieldLink RX8 144 "ParkDesk$Streets" "gain" "[I" ∈ TB := tb_1 (List.mem_of_getElem? (i := 62) rfl) rfl
theorem mL_X4_count : Cond.lays RX4 RX4 "count" "I" ∈ TB := tb_1 (List.mem_of_getElem? (i := 63) rfl) rfl
theorem mL_X4_zone : Cond.laysFinal RX4 RX4 "zone" "[I" ∈ TB := tb_1 (List.mem_of_getElem? (i := 65) rfl) rfl
theorem mL_X4_bays : Cond.laysFinal RX4 RX4 "bays" "[I" ∈ TB := tb_1 (List.mem_of_getElem? (i := 67) rfl) rfl
theorem mL_X4_closed : Cond.laysFinal RX4 RX4 "closed" "[[I" ∈ TB := tb_1 (List.mem_of_getElem? (i := 69) rfl) rfl
theorem mL_X4_walk : Cond.laysFinal RX4 RX4 "walk" "[[I" ∈ TB := tb_1 (List.mem_of_getElem? (i := 71) rfl) rfl
theorem mL_X4_gain : Cond.laysFinal RX4 RX4 "gain" "[I" ∈ TB := tb_1 (List.mem_of_getElem? (i := 73) rfl) rfl
theorem mK_X8_23 : Cond.classLink RX8 23 RX0 ∈ TB := tb_1 (List.mem_of_getElem? (i := 76) rfl) rfl
theorem mN_X0 : Cond.instantiable RX0 7 ∈ TB := tb_1 (List.mem_of_getElem? (i := 77) rfl) rfl
theorem mM_X8_25 : Cond.methodLink RX8 25 yX0_init ∈ TB := tb_1 (List.mem_of_getElem? (i := 78) rfl) rfl
theorem mO_yX0_init : Cond.instanceMethod yX0_init ∈ TB := tb_1 (List.mem_of_getElem? (i := 79) rfl) rfl
theorem mC_yX0_init : Cond.code yX0_init cX0_init 2 (Option.none : Option FieldType) ∈ TB := tb_1 (List.mem_of_getElem? (i := 80) rfl) rfl
theorem mM_X0_3 : Cond.methodLink RX0 3 objectInit ∈ TB := tb_1 (List.mem_of_getElem? (i := 81) rfl) rfl
theorem mK_X0_25 : Cond.classLink RX0 25 "[[I" ∈ TB := tb_1 (List.mem_of_getElem? (i := 82) rfl) rfl
theorem mF_X0_33 : Cond.fieldLink RX0 33 "ParkDesk$Cars" "zones" "LParkDesk$Zones;" ∈ TB := tb_1 (List.mem_of_getElem? (i := 83) rfl) rfl
theorem mF_X0_9 : Cond.fieldLink RX0 9 "ParkDesk$Cars" "count" "I" ∈ TB := tb_1 (List.mem_of_getElem? (i := 84) rfl) rfl
theorem mF_X2_63 : Cond.fieldLink RX2 63 "ParkDesk$Cars" "count" "I" ∈ TB := tb_1 (List.mem_of_getElem? (i := 85) rfl) rfl
theorem mF_X8_186 : Cond.fieldLink RX8 186 "ParkDesk$Cars" "count" "I" ∈ TB := tb_1 (List.mem_of_getElem? (i := 86) rfl) rfl
theorem mF_X0_15 : Cond.fieldLink RX0 15 "ParkDesk$Cars" "home" "[I" ∈ TB := tb_1 (List.mem_of_getElem? (i := 87) rfl) rfl
theorem mF_X2_97 : Cond.fieldLink RX2 97 "ParkDesk$Cars" "home" "[I" ∈ TB := tb_1 (List.mem_of_getElem? (i := 88) rfl) rfl
theorem mF_X0_19 : Cond.fieldLink RX0 19 "ParkDesk$Cars" "limit" "[I" ∈ TB := tb_1 (List.mem_of_getElem? (i := 89) rfl) rfl
theorem mF_X2_91 : Cond.fieldLink RX2 91 "ParkDesk$Cars" "limit" "[I" ∈ TB := tb_1 (List.mem_of_getElem? (i := 90) rfl) rfl
theorem mF_X8_117 : Cond.fieldLink RX8 117 "ParkDesk$Cars" "limit" "[I" ∈ TB := tb_1 (List.mem_of_getElem? (i := 91) rfl) rfl
theorem mF_X0_22 : Cond.fieldLink RX0 22 "ParkDesk$Cars" "permits" "[I" ∈ TB := tb_1 (List.mem_of_getElem? (i := 92) rfl) rfl
theorem mF_X0_27 : Cond.fieldLink RX0 27 "ParkDesk$Cars" "cards" "[[I" ∈ TB := tb_1 (List.mem_of_getElem? (i := 93) rfl) rfl
theorem mF_X8_114 : Cond.fieldLink RX8 114 "ParkDesk$Cars" "cards" "[[I" ∈ TB := tb_1 (List.mem_of_getElem? (i := 94) rfl) rfl
theorem mF_X2_122 : Cond.fieldLink RX2 122 "ParkDesk$Cars" "cards" "[[I" ∈ TB := tb_1 (List.mem_of_getElem? (i := 95) rfl) rfl
theorem mF_X0_30 : Cond.fieldLink RX0 30 "ParkDesk$Cars" "order" "[I" ∈ TB := tb_1 (List.mem_of_getElem? (i := 96) rfl) rfl
theorem mF_X2_72 : Cond.fieldLink RX2 72 "ParkDesk$Cars" "order" "[I" ∈ TB := tb_1 (List.mem_of_getElem? (i := 97) rfl) rfl
theorem mL_X0_zones : Cond.laysFinal RX0 RX0 "zones" "LParkDesk$Zones;" ∈ TB := tb_1 (List.mem_of_getElem? (i := 98) rfl) rfl
theorem mL_X0_count : Cond.lays RX0 RX0 "count" "I" ∈ TB := tb_1 (List.mem_of_getElem? (i := 100) rfl) rfl
theorem mL_X0_home : Cond.laysFinal RX0 RX0 "home" "[I" ∈ TB := tb_1 (List.mem_of_getElem? (i := 102) rfl) rfl
theorem mL_X0_limit : Cond.laysFinal RX0 RX0 "limit" "[I" ∈ TB := tb_1 (List.mem_of_getElem? (i := 104) rfl) rfl
theorem mL_X0_permits : Cond.laysFinal RX0 RX0 "permits" "[I" ∈ TB := tb_1 (List.mem_of_getElem? (i := 106) rfl) rfl
theorem mL_X0_cards : Cond.laysFinal RX0 RX0 "cards" "[[I" ∈ TB := tb_1 (List.mem_of_getElem? (i := 108) rfl) rfl
theorem mL_X0_order : Cond.laysFinal RX0 RX0 "order" "[I" ∈ TB := tb_1 (List.mem_of_getElem? (i := 110) rfl) rfl
theorem mK_X8_32 : Cond.classLink RX8 32 RX2 ∈ TB := tb_1 (List.mem_of_getElem? (i := 113) rfl) rfl
theorem mN_X2 : Cond.instantiable RX2 6 ∈ TB := tb_1 (List.mem_of_getElem? (i := 114) rfl) rfl
theorem mM_X8_34 : Cond.methodLink RX8 34 yX2_init ∈ TB := tb_1 (List.mem_of_getElem? (i := 115) rfl) rfl
theorem mO_yX2_init : Cond.instanceMethod yX2_init ∈ TB := tb_1 (List.mem_of_getElem? (i := 116) rfl) rfl
theorem mC_yX2_init : Cond.code yX2_init cX2_init 3 (Option.none : Option FieldType) ∈ TB := tb_1 (List.mem_of_getElem? (i := 117) rfl) rfl
theorem mM_X2_3 : Cond.methodLink RX2 3 objectInit ∈ TB := tb_1 (List.mem_of_getElem? (i := 118) rfl) rfl
theorem mK_X2_15 : Cond.classLink RX2 15 "[[I" ∈ TB := tb_1 (List.mem_of_getElem? (i := 119) rfl) rfl
theorem mK_X2_23 : Cond.classLink RX2 23 RX1 ∈ TB := tb_1 (List.mem_of_getElem? (i := 120) rfl) rfl
theorem mN_X1 : Cond.instantiable RX1 3 ∈ TB := tb_1 (List.mem_of_getElem? (i := 121) rfl) rfl
theorem mO_yX1_init : Cond.instanceMethod yX1_init ∈ TB := tb_1 (List.mem_of_getElem? (i := 123) rfl) rfl
theorem mC_yX1_init : Cond.code yX1_init cX1_init 1 (Option.none : Option FieldType) ∈ TB := tb_1 (List.mem_of_getElem? (i := 124) rfl) rfl
theorem mM_X1_5 : Cond.methodLink RX1 5 objectInit ∈ TB := tb_1 (List.mem_of_getElem? (i := 125) rfl) rfl
theorem mK_X1_11 : Cond.classLink RX1 11 "[[J" ∈ TB := tb_1 (List.mem_of_getElem? (i := 126) rfl) rfl
theorem mF_X1_13 : Cond.fieldLink RX1 13 "ParkDesk$Cheapest" "price" "[[J" ∈ TB := tb_1 (List.mem_of_getElem? (i := 128) rfl) rfl
theorem mF_X1_16 : Cond.fieldLink RX1 16 "ParkDesk$Cheapest" "reach" "[J" ∈ TB := tb_1 (List.mem_of_getElem? (i := 129) rfl) rfl
theorem mF_X1_20 : Cond.fieldLink RX1 20 "ParkDesk$Cheapest" "comer" "[I" ∈ TB := tb_1 (List.mem_of_getElem? (i := 130) rfl) rfl
theorem mL_X1_price : Cond.laysFinal RX1 RX1 "price" "[[J" ∈ TB := tb_1 (List.mem_of_getElem? (i := 131) rfl) rfl
theorem mL_X1_reach : Cond.laysFinal RX1 RX1 "reach" "[J" ∈ TB := tb_1 (List.mem_of_getElem? (i := 133) rfl) rfl
theorem mL_X1_comer : Cond.laysFinal RX1 RX1 "comer" "[I" ∈ TB := tb_1 (List.mem_of_getElem? (i := 135) rfl) rfl
theorem mA_long : Cond.arrayClass FieldType.long ∈ TB := tb_1 (List.mem_of_getElem? (i := 138) rfl) rfl
theorem mF_X2_30 : Cond.fieldLink RX2 30 "ParkDesk$Laying" "streets" "LParkDesk$Streets;" ∈ TB := tb_1 (List.mem_of_getElem? (i := 139) rfl) rfl
theorem mF_X2_34 : Cond.fieldLink RX2 34 "ParkDesk$Laying" "cars" "LParkDesk$Cars;" ∈ TB := tb_1 (List.mem_of_getElem? (i := 140) rfl) rfl
theorem mF_X2_9 : Cond.fieldLink RX2 9 "ParkDesk$Laying" "place" "[I" ∈ TB := tb_1 (List.mem_of_getElem? (i := 141) rfl) rfl
theorem mF_X8_134 : Cond.fieldLink RX8 134 "ParkDesk$Laying" "place" "[I" ∈ TB := tb_1 (List.mem_of_getElem? (i := 142) rfl) rfl
theorem mF_X2_17 : Cond.fieldLink RX2 17 "ParkDesk$Laying" "right" "[[I" ∈ TB := tb_1 (List.mem_of_getElem? (i := 143) rfl) rfl
theorem mF_X2_20 : Cond.fieldLink RX2 20 "ParkDesk$Laying" "left" "[I" ∈ TB := tb_1 (List.mem_of_getElem? (i := 144) rfl) rfl
theorem mF_X2_26 : Cond.fieldLink RX2 26 "ParkDesk$Laying" "cheapest" "LParkDesk$Cheapest;" ∈ TB := tb_1 (List.mem_of_getElem? (i := 145) rfl) rfl
theorem mL_X2_streets : Cond.laysFinal RX2 RX2 "streets" "LParkDesk$Streets;" ∈ TB := tb_1 (List.mem_of_getElem? (i := 146) rfl) rfl
theorem mL_X2_cars : Cond.laysFinal RX2 RX2 "cars" "LParkDesk$Cars;" ∈ TB := tb_1 (List.mem_of_getElem? (i := 148) rfl) rfl
theorem mL_X2_place : Cond.laysFinal RX2 RX2 "place" "[I" ∈ TB := tb_1 (List.mem_of_getElem? (i := 150) rfl) rfl
theorem mL_X2_right : Cond.laysFinal RX2 RX2 "right" "[[I" ∈ TB := tb_1 (List.mem_of_getElem? (i := 152) rfl) rfl
theorem mL_X2_left : Cond.laysFinal RX2 RX2 "left" "[I" ∈ TB := tb_1 (List.mem_of_getElem? (i := 154) rfl) rfl
theorem mL_X2_cheapest : Cond.laysFinal RX2 RX2 "cheapest" "LParkDesk$Cheapest;" ∈ TB := tb_1 (List.mem_of_getElem? (i := 156) rfl) rfl
theorem mK_X8_41 : Cond.classLink RX8 41 RX6 ∈ TB := tb_1 (List.mem_of_getElem? (i := 159) rfl) rfl
theorem mN_X6 : Cond.instantiable RX6 2 ∈ TB := tb_1 (List.mem_of_getElem? (i := 160) rfl) rfl
theorem mM_X8_43 : Cond.methodLink RX8 43 yX6_init ∈ TB := tb_1 (List.mem_of_getElem? (i := 161) rfl) rfl
theorem mO_yX6_init : Cond.instanceMethod yX6_init ∈ TB := tb_1 (List.mem_of_getElem? (i := 162) rfl) rfl
theorem mC_yX6_init : Cond.code yX6_init cX6_init 2 (Option.none : Option FieldType) ∈ TB := tb_1 (List.mem_of_getElem? (i := 163) rfl) rfl
theorem mM_X6_3 : Cond.methodLink RX6 3 objectInit ∈ TB := tb_1 (List.mem_of_getElem? (i := 164) rfl) rfl
theorem mF_X6_15 : Cond.fieldLink RX6 15 "ParkDesk$Wardens" "streets" "LParkDesk$Streets;" ∈ TB := tb_1 (List.mem_of_getElem? (i := 165) rfl) rfl
theorem mF_X6_9 : Cond.fieldLink RX6 9 "ParkDesk$Wardens" "fine" "I" ∈ TB := tb_1 (List.mem_of_getElem? (i := 166) rfl) rfl
theorem mF_X8_147 : Cond.fieldLink RX8 147 "ParkDesk$Wardens" "fine" "I" ∈ TB := tb_1 (List.mem_of_getElem? (i := 167) rfl) rfl
theorem mL_X6_streets : Cond.laysFinal RX6 RX6 "streets" "LParkDesk$Streets;" ∈ TB := tb_1 (List.mem_of_getElem? (i := 168) rfl) rfl
theorem mL_X6_fine : Cond.lays RX6 RX6 "fine" "I" ∈ TB := tb_1 (List.mem_of_getElem? (i := 170) rfl) rfl
theorem mK_X8_50 : Cond.classLink RX8 50 RX5 ∈ TB := tb_1 (List.mem_of_getElem? (i := 173) rfl) rfl
theorem mN_X5 : Cond.instantiable RX5 2 ∈ TB := tb_1 (List.mem_of_getElem? (i := 174) rfl) rfl
theorem mO_yX5_init : Cond.instanceMethod yX5_init ∈ TB := tb_1 (List.mem_of_getElem? (i := 176) rfl) rfl
theorem mC_yX5_init : Cond.code yX5_init cX5_init 1 (Option.none : Option FieldType) ∈ TB := tb_1 (List.mem_of_getElem? (i := 177) rfl) rfl
theorem mM_X5_3 : Cond.methodLink RX5 3 objectInit ∈ TB := tb_1 (List.mem_of_getElem? (i := 178) rfl) rfl
theorem mK_X5_15 : Cond.classLink RX5 15 "[[I" ∈ TB := tb_1 (List.mem_of_getElem? (i := 179) rfl) rfl
theorem mF_X5_9 : Cond.fieldLink RX5 9 "ParkDesk$Tickets" "count" "I" ∈ TB := tb_1 (List.mem_of_getElem? (i := 180) rfl) rfl
theorem mF_X8_173 : Cond.fieldLink RX8 173 "ParkDesk$Tickets" "count" "I" ∈ TB := tb_1 (List.mem_of_getElem? (i := 181) rfl) rfl
theorem mF_X5_17 : Cond.fieldLink RX5 17 "ParkDesk$Tickets" "row" "[[I" ∈ TB := tb_1 (List.mem_of_getElem? (i := 182) rfl) rfl
theorem mF_X8_176 : Cond.fieldLink RX8 176 "ParkDesk$Tickets" "row" "[[I" ∈ TB := tb_1 (List.mem_of_getElem? (i := 183) rfl) rfl
theorem mL_X5_count : Cond.lays RX5 RX5 "count" "I" ∈ TB := tb_1 (List.mem_of_getElem? (i := 184) rfl) rfl
theorem mL_X5_row : Cond.laysFinal RX5 RX5 "row" "[[I" ∈ TB := tb_1 (List.mem_of_getElem? (i := 186) rfl) rfl
theorem mF_X8_12 : Cond.fieldLink RX8 12 "ParkDesk" "zones" "LParkDesk$Zones;" ∈ TB := tb_1 (List.mem_of_getElem? (i := 189) rfl) rfl
theorem mF_X8_19 : Cond.fieldLink RX8 19 "ParkDesk" "streets" "LParkDesk$Streets;" ∈ TB := tb_1 (List.mem_of_getElem? (i := 190) rfl) rfl
theorem mF_X8_28 : Cond.fieldLink RX8 28 "ParkDesk" "cars" "LParkDesk$Cars;" ∈ TB := tb_1 (List.mem_of_getElem? (i := 191) rfl) rfl
theorem mF_X8_37 : Cond.fieldLink RX8 37 "ParkDesk" "laying" "LParkDesk$Laying;" ∈ TB := tb_1 (List.mem_of_getElem? (i := 192) rfl) rfl
theorem mF_X8_46 : Cond.fieldLink RX8 46 "ParkDesk" "wardens" "LParkDesk$Wardens;" ∈ TB := tb_1 (List.mem_of_getElem? (i := 193) rfl) rfl
theorem mF_X8_53 : Cond.fieldLink RX8 53 "ParkDesk" "tickets" "LParkDesk$Tickets;" ∈ TB := tb_1 (List.mem_of_getElem? (i := 194) rfl) rfl
theorem mL_X8_zones : Cond.laysFinal RX8 RX8 "zones" "LParkDesk$Zones;" ∈ TB := tb_1 (List.mem_of_getElem? (i := 195) rfl) rfl
theorem mL_X8_streets : Cond.laysFinal RX8 RX8 "streets" "LParkDesk$Streets;" ∈ TB := tb_1 (List.mem_of_getElem? (i := 197) rfl) rfl
theorem mL_X8_cars : Cond.laysFinal RX8 RX8 "cars" "LParkDesk$Cars;" ∈ TB := tb_1 (List.mem_of_getElem? (i := 199) rfl) rfl
theorem mL_X8_laying : Cond.laysFinal RX8 RX8 "laying" "LParkDesk$Laying;" ∈ TB := tb_1 (List.mem_of_getElem? (i := 201) rfl) rfl
theorem mL_X8_wardens : Cond.laysFinal RX8 RX8 "wardens" "LParkDesk$Wardens;" ∈ TB := tb_1 (List.mem_of_getElem? (i := 203) rfl) rfl
theorem mL_X8_tickets : Cond.laysFinal RX8 RX8 "tickets" "LParkDesk$Tickets;" ∈ TB := tb_1 (List.mem_of_getElem? (i := 205) rfl) rfl
theorem mM_L_13 : Cond.methodLink RL 13 yX8_street ∈ TB := tb_1 (List.mem_of_getElem? (i := 208) rfl) rfl
theorem mO_yX8_street : Cond.instanceMethod yX8_street ∈ TB := tb_1 (List.mem_of_getElem? (i := 209) rfl) rfl
theorem mV_yX8_street : Cond.selects RX8 yX8_street yX8_street ∈ TB := tb_1 (List.mem_of_getElem? (i := 210) rfl) rfl
theorem mC_yX8_street : Cond.code yX8_street cX8_street 3 (Option.some FieldType.int) ∈ TB := tb_1 (List.mem_of_getElem? (i := 211) rfl) rfl
theorem mM_X8_57 : Cond.methodLink RX8 57 yX8_isZone ∈ TB := tb_1 (List.mem_of_getElem? (i := 212) rfl) rfl
theorem mS_yX8_isZone : Cond.static yX8_isZone ∈ TB := tb_1 (List.mem_of_getElem? (i := 213) rfl) rfl
theorem mC_yX8_isZone : Cond.code yX8_isZone cX8_isZone 1 (Option.some FieldType.boolean) ∈ TB := tb_1 (List.mem_of_getElem? (i := 214) rfl) rfl
theorem mM_X8_164 : Cond.methodLink RX8 164 yX8_isNumbered ∈ TB := tb_1 (List.mem_of_getElem? (i := 215) rfl) rfl
theorem mS_yX8_isNumbered : Cond.static yX8_isNumbered ∈ TB := tb_1 (List.mem_of_getElem? (i := 216) rfl) rfl
theorem mC_yX8_isNumbered : Cond.code yX8_isNumbered cX8_isNumbered 2 (Option.some FieldType.boolean) ∈ TB := tb_1 (List.mem_of_getElem? (i := 217) rfl) rfl
theorem mM_X8_61 : Cond.methodLink RX8 61 yX8_isUpTo ∈ TB := tb_1 (List.mem_of_getElem? (i := 218) rfl) rfl
theorem mS_yX8_isUpTo : Cond.static yX8_isUpTo ∈ TB := tb_1 (List.mem_of_getElem? (i := 219) rfl) rfl
theorem mC_yX8_isUpTo : Cond.code yX8_isUpTo cX8_isUpTo 2 (Option.some FieldType.boolean) ∈ TB := tb_1 (List.mem_of_getElem? (i := 220) rfl) rfl
theorem mM_X8_65 : Cond.methodLink RX8 65 yX4_add ∈ TB := tb_1 (List.mem_of_getElem? (i := 221) rfl) rfl
theorem mO_yX4_add : Cond.instanceMethod yX4_add ∈ TB := tb_1 (List.mem_of_getElem? (i := 222) rfl) rfl
theorem mV_yX4_add : Cond.selects RX4 yX4_add yX4_add ∈ TB := tb_1 (List.mem_of_getElem? (i := 223) rfl) rfl
theorem mC_yX4_add : Cond.code yX4_add cX4_add 3 (Option.some FieldType.int) ∈ TB := tb_1 (List.mem_of_getElem? (i := 224) rfl) rfl
theorem mM_L_18 : Cond.methodLink RL 18 yX8_move ∈ TB := tb_1 (List.mem_of_getElem? (i := 225) rfl) rfl
theorem mO_yX8_move : Cond.instanceMethod yX8_move ∈ TB := tb_1 (List.mem_of_getElem? (i := 226) rfl) rfl
theorem mV_yX8_move : Cond.selects RX8 yX8_move yX8_move ∈ TB := tb_1 (List.mem_of_getElem? (i := 227) rfl) rfl
theorem mC_yX8_move : Cond.code yX8_move cX8_move 4 (Option.some FieldType.int) ∈ TB := tb_1 (List.mem_of_getElem? (i := 228) rfl) rfl
theorem mM_X8_69 : Cond.methodLink RX8 69 yX8_isStreet ∈ TB := tb_1 (List.mem_of_getElem? (i := 229) rfl) rfl
theorem mO_yX8_isStreet : Cond.instanceMethod yX8_isStreet ∈ TB := tb_1 (List.mem_of_getElem? (i := 231) rfl) rfl
theorem mC_yX8_isStreet : Cond.code yX8_isStreet cX8_isStreet 2 (Option.some FieldType.boolean) ∈ TB := tb_1 (List.mem_of_getElem? (i := 232) rfl) rfl
theorem mM_L_22 : Cond.methodLink RL 22 yX8_walk ∈ TB := tb_1 (List.mem_of_getElem? (i := 233) rfl) rfl
theorem mO_yX8_walk : Cond.instanceMethod yX8_walk ∈ TB := tb_1 (List.mem_of_getElem? (i := 234) rfl) rfl
theorem mV_yX8_walk : Cond.selects RX8 yX8_walk yX8_walk ∈ TB := tb_1 (List.mem_of_getElem? (i := 235) rfl) rfl
theorem mC_yX8_walk : Cond.code yX8_walk cX8_walk 5 (Option.some FieldType.int) ∈ TB := tb_1 (List.mem_of_getElem? (i := 236) rfl) rfl
theorem mM_L_27 : Cond.methodLink RL 27 yX8_close ∈ TB := tb_1 (List.mem_of_getElem? (i := 237) rfl) rfl
theorem mO_yX8_close : Cond.instanceMethod yX8_close ∈ TB := tb_1 (List.mem_of_getElem? (i := 238) rfl) rfl
theorem mV_yX8_close : Cond.selects RX8 yX8_close yX8_close ∈ TB := tb_1 (List.mem_of_getElem? (i := 239) rfl) rfl
theorem mC_yX8_close : Cond.code yX8_close cX8_close 5 (Option.some FieldType.int) ∈ TB := tb_2 (List.mem_of_getElem? (i := 0) rfl) rfl
theorem mM_X8_80 : Cond.methodLink RX8 80 yX8_isNight ∈ TB := tb_2 (List.mem_of_getElem? (i := 1) rfl) rfl
theorem mS_yX8_isNight : Cond.static yX8_isNight ∈ TB := tb_2 (List.mem_of_getElem? (i := 2) rfl) rfl
theorem mC_yX8_isNight : Cond.code yX8_isNight cX8_isNight 1 (Option.some FieldType.boolean) ∈ TB := tb_2 (List.mem_of_getElem? (i := 3) rfl) rfl
theorem mM_L_31 : Cond.methodLink RL 31 yX8_rule ∈ TB := tb_2 (List.mem_of_getElem? (i := 4) rfl) rfl
theorem mO_yX8_rule : Cond.instanceMethod yX8_rule ∈ TB := tb_2 (List.mem_of_getElem? (i := 5) rfl) rfl
theorem mV_yX8_rule : Cond.selects RX8 yX8_rule yX8_rule ∈ TB := tb_2 (List.mem_of_getElem? (i := 6) rfl) rfl
theorem mC_yX8_rule : Cond.code yX8_rule cX8_rule 4 (Option.some FieldType.int) ∈ TB := tb_2 (List.mem_of_getElem? (i := 7) rfl) rfl
theorem mM_X8_89 : Cond.methodLink RX8 89 yX8_isSpan ∈ TB := tb_2 (List.mem_of_getElem? (i := 8) rfl) rfl
theorem mS_yX8_isSpan : Cond.static yX8_isSpan ∈ TB := tb_2 (List.mem_of_getElem? (i := 9) rfl) rfl
theorem mC_yX8_isSpan : Cond.code yX8_isSpan cX8_isSpan 2 (Option.some FieldType.boolean) ∈ TB := tb_2 (List.mem_of_getElem? (i := 10) rfl) rfl
theorem mM_X8_123 : Cond.methodLink RX8 123 yX8_isHour ∈ TB := tb_2 (List.mem_of_getElem? (i := 11) rfl) rfl
theorem mS_yX8_isHour : Cond.static yX8_isHour ∈ TB := tb_2 (List.mem_of_getElem? (i := 12) rfl) rfl
theorem mC_yX8_isHour : Cond.code yX8_isHour cX8_isHour 1 (Option.some FieldType.boolean) ∈ TB := tb_2 (List.mem_of_getElem? (i := 13) rfl) rfl
theorem mM_X8_95 : Cond.methodLink RX8 95 yX8_span ∈ TB := tb_2 (List.mem_of_getElem? (i := 14) rfl) rfl
theorem mS_yX8_span : Cond.static yX8_span ∈ TB := tb_2 (List.mem_of_getElem? (i := 15) rfl) rfl
theorem mC_yX8_span : Cond.code yX8_span cX8_span 5 (Option.some FieldType.int) ∈ TB := tb_2 (List.mem_of_getElem? (i := 16) rfl) rfl
theorem mM_L_35 : Cond.methodLink RL 35 yX8_hours ∈ TB := tb_2 (List.mem_of_getElem? (i := 17) rfl) rfl
theorem mO_yX8_hours : Cond.instanceMethod yX8_hours ∈ TB := tb_2 (List.mem_of_getElem? (i := 18) rfl) rfl
theorem mV_yX8_hours : Cond.selects RX8 yX8_hours yX8_hours ∈ TB := tb_2 (List.mem_of_getElem? (i := 19) rfl) rfl
theorem mC_yX8_hours : Cond.code yX8_hours cX8_hours 5 (Option.some FieldType.int) ∈ TB := tb_2 (List.mem_of_getElem? (i := 20) rfl) rfl
theorem mM_X8_98 : Cond.methodLink RX8 98 yX8_isSort ∈ TB := tb_2 (List.mem_of_getElem? (i := 21) rfl) rfl
theorem mS_yX8_isSort : Cond.static yX8_isSort ∈ TB := tb_2 (List.mem_of_getElem? (i := 22) rfl) rfl
theorem mC_yX8_isSort : Cond.code yX8_isSort cX8_isSort 1 (Option.some FieldType.boolean) ∈ TB := tb_2 (List.mem_of_getElem? (i := 23) rfl) rfl
theorem mM_L_40 : Cond.methodLink RL 40 yX8_car ∈ TB := tb_2 (List.mem_of_getElem? (i := 24) rfl) rfl
theorem mO_yX8_car : Cond.instanceMethod yX8_car ∈ TB := tb_2 (List.mem_of_getElem? (i := 25) rfl) rfl
theorem mV_yX8_car : Cond.selects RX8 yX8_car yX8_car ∈ TB := tb_2 (List.mem_of_getElem? (i := 26) rfl) rfl
theorem mC_yX8_car : Cond.code yX8_car cX8_car 2 (Option.some FieldType.int) ∈ TB := tb_2 (List.mem_of_getElem? (i := 27) rfl) rfl
theorem mM_X8_104 : Cond.methodLink RX8 104 yX0_add ∈ TB := tb_2 (List.mem_of_getElem? (i := 28) rfl) rfl
theorem mO_yX0_add : Cond.instanceMethod yX0_add ∈ TB := tb_2 (List.mem_of_getElem? (i := 29) rfl) rfl
theorem mV_yX0_add : Cond.selects RX0 yX0_add yX0_add ∈ TB := tb_2 (List.mem_of_getElem? (i := 30) rfl) rfl
theorem mC_yX0_add : Cond.code yX0_add cX0_add 2 (Option.some FieldType.int) ∈ TB := tb_2 (List.mem_of_getElem? (i := 31) rfl) rfl
theorem mM_L_45 : Cond.methodLink RL 45 yX8_permit ∈ TB := tb_2 (List.mem_of_getElem? (i := 32) rfl) rfl
theorem mO_yX8_permit : Cond.instanceMethod yX8_permit ∈ TB := tb_2 (List.mem_of_getElem? (i := 33) rfl) rfl
theorem mV_yX8_permit : Cond.selects RX8 yX8_permit yX8_permit ∈ TB := tb_2 (List.mem_of_getElem? (i := 34) rfl) rfl
theorem mC_yX8_permit : Cond.code yX8_permit cX8_permit 5 (Option.some FieldType.int) ∈ TB := tb_2 (List.mem_of_getElem? (i := 35) rfl) rfl
theorem mM_X8_107 : Cond.methodLink RX8 107 yX8_isCar ∈ TB := tb_2 (List.mem_of_getElem? (i := 36) rfl) rfl
theorem mO_yX8_isCar : Cond.instanceMethod yX8_isCar ∈ TB := tb_2 (List.mem_of_getElem? (i := 38) rfl) rfl
theorem mC_yX8_isCar : Cond.code yX8_isCar cX8_isCar 2 (Option.some FieldType.boolean) ∈ TB := tb_2 (List.mem_of_getElem? (i := 39) rfl) rfl
theorem mM_X8_110 : Cond.methodLink RX8 110 yX0_setPermit ∈ TB := tb_2 (List.mem_of_getElem? (i := 40) rfl) rfl
theorem mO_yX0_setPermit : Cond.instanceMethod yX0_setPermit ∈ TB := tb_2 (List.mem_of_getElem? (i := 41) rfl) rfl
theorem mV_yX0_setPermit : Cond.selects RX0 yX0_setPermit yX0_setPermit ∈ TB := tb_2 (List.mem_of_getElem? (i := 42) rfl) rfl
theorem mC_yX0_setPermit : Cond.code yX0_setPermit cX0_setPermit 5 (Option.some FieldType.boolean) ∈ TB := tb_2 (List.mem_of_getElem? (i := 43) rfl) rfl
theorem mM_X0_41 : Cond.methodLink RX0 41 yX0_hasPermit ∈ TB := tb_2 (List.mem_of_getElem? (i := 44) rfl) rfl
theorem mO_yX0_hasPermit : Cond.instanceMethod yX0_hasPermit ∈ TB := tb_2 (List.mem_of_getElem? (i := 45) rfl) rfl
theorem mV_yX0_hasPermit : Cond.selects RX0 yX0_hasPermit yX0_hasPermit ∈ TB := tb_2 (List.mem_of_getElem? (i := 46) rfl) rfl
theorem mC_yX0_hasPermit : Cond.code yX0_hasPermit cX0_hasPermit 4 (Option.some FieldType.boolean) ∈ TB := tb_2 (List.mem_of_getElem? (i := 47) rfl) rfl
theorem mM_X0_37 : Cond.methodLink RX0 37 yX0_permitBit ∈ TB := tb_2 (List.mem_of_getElem? (i := 48) rfl) rfl
theorem mS_yX0_permitBit : Cond.static yX0_permitBit ∈ TB := tb_2 (List.mem_of_getElem? (i := 49) rfl) rfl
theorem mC_yX0_permitBit : Cond.code yX0_permitBit cX0_permitBit 2 (Option.some FieldType.int) ∈ TB := tb_2 (List.mem_of_getElem? (i := 50) rfl) rfl
theorem mM_L_50 : Cond.methodLink RL 50 yX8_cards ∈ TB := tb_2 (List.mem_of_getElem? (i := 51) rfl) rfl
theorem mO_yX8_cards : Cond.instanceMethod yX8_cards ∈ TB := tb_2 (List.mem_of_getElem? (i := 52) rfl) rfl
theorem mV_yX8_cards : Cond.selects RX8 yX8_cards yX8_cards ∈ TB := tb_2 (List.mem_of_getElem? (i := 53) rfl) rfl
theorem mC_yX8_cards : Cond.code yX8_cards cX8_cards 5 (Option.some FieldType.int) ∈ TB := tb_2 (List.mem_of_getElem? (i := 54) rfl) rfl
theorem mM_L_54 : Cond.methodLink RL 54 yX8_limit ∈ TB := tb_2 (List.mem_of_getElem? (i := 55) rfl) rfl
theorem mO_yX8_limit : Cond.instanceMethod yX8_limit ∈ TB := tb_2 (List.mem_of_getElem? (i := 56) rfl) rfl
theorem mV_yX8_limit : Cond.selects RX8 yX8_limit yX8_limit ∈ TB := tb_2 (List.mem_of_getElem? (i := 57) rfl) rfl
theorem mC_yX8_limit : Cond.code yX8_limit cX8_limit 4 (Option.some FieldType.int) ∈ TB := tb_2 (List.mem_of_getElem? (i := 58) rfl) rfl
theorem mM_L_58 : Cond.methodLink RL 58 yX8_late ∈ TB := tb_2 (List.mem_of_getElem? (i := 59) rfl) rfl
theorem mO_yX8_late : Cond.instanceMethod yX8_late ∈ TB := tb_2 (List.mem_of_getElem? (i := 60) rfl) rfl
theorem mV_yX8_late : Cond.selects RX8 yX8_late yX8_late ∈ TB := tb_2 (List.mem_of_getElem? (i := 61) rfl) rfl
theorem mC_yX8_late : Cond.code yX8_late cX8_late 2 (Option.some FieldType.int) ∈ TB := tb_2 (List.mem_of_getElem? (i := 62) rfl) rfl
theorem mM_X8_120 : Cond.methodLink RX8 120 yX0_putLast ∈ TB := tb_2 (List.mem_of_getElem? (i := 63) rfl) rfl
theorem mO_yX0_putLast : Cond.instanceMethod yX0_putLast ∈ TB := tb_2 (List.mem_of_getElem? (i := 64) rfl) rfl
theorem mV_yX0_putLast : Cond.selects RX0 yX0_putLast yX0_putLast ∈ TB := tb_2 (List.mem_of_getElem? (i := 65) rfl) rfl
theorem mC_yX0_putLast : Cond.code yX0_putLast cX0_putLast 5 (Option.some FieldType.int) ∈ TB := tb_2 (List.mem_of_getElem? (i := 66) rfl) rfl
theorem mM_L_62 : Cond.methodLink RL 62 yX8_may ∈ TB := tb_2 (List.mem_of_getElem? (i := 67) rfl) rfl
theorem mO_yX8_may : Cond.instanceMethod yX8_may ∈ TB := tb_2 (List.mem_of_getElem? (i := 68) rfl) rfl
theorem mV_yX8_may : Cond.selects RX8 yX8_may yX8_may ∈ TB := tb_2 (List.mem_of_getElem? (i := 69) rfl) rfl
theorem mC_yX8_may : Cond.code yX8_may cX8_may 4 (Option.some FieldType.int) ∈ TB := tb_2 (List.mem_of_getElem? (i := 70) rfl) rfl
theorem mM_X8_126 : Cond.methodLink RX8 126 yX0_right ∈ TB := tb_2 (List.mem_of_getElem? (i := 71) rfl) rfl
theorem mO_yX0_right : Cond.instanceMethod yX0_right ∈ TB := tb_2 (List.mem_of_getElem? (i := 72) rfl) rfl
theorem mV_yX0_right : Cond.selects RX0 yX0_right yX0_right ∈ TB := tb_2 (List.mem_of_getElem? (i := 73) rfl) rfl
theorem mC_yX0_right : Cond.code yX0_right cX0_right 5 (Option.some FieldType.int) ∈ TB := tb_2 (List.mem_of_getElem? (i := 74) rfl) rfl
theorem mM_X0_45 : Cond.methodLink RX0 45 yX7_isRuled ∈ TB := tb_2 (List.mem_of_getElem? (i := 75) rfl) rfl
theorem mO_yX7_isRuled : Cond.instanceMethod yX7_isRuled ∈ TB := tb_2 (List.mem_of_getElem? (i := 76) rfl) rfl
theorem mV_yX7_isRuled : Cond.selects RX7 yX7_isRuled yX7_isRuled ∈ TB := tb_2 (List.mem_of_getElem? (i := 77) rfl) rfl
theorem mC_yX7_isRuled : Cond.code yX7_isRuled cX7_isRuled 3 (Option.some FieldType.boolean) ∈ TB := tb_2 (List.mem_of_getElem? (i := 78) rfl) rfl
theorem mM_X0_51 : Cond.methodLink RX0 51 yX7_isGood ∈ TB := tb_2 (List.mem_of_getElem? (i := 79) rfl) rfl
theorem mO_yX7_isGood : Cond.instanceMethod yX7_isGood ∈ TB := tb_2 (List.mem_of_getElem? (i := 80) rfl) rfl
theorem mV_yX7_isGood : Cond.selects RX7 yX7_isGood yX7_isGood ∈ TB := tb_2 (List.mem_of_getElem? (i := 81) rfl) rfl
theorem mC_yX7_isGood : Cond.code yX7_isGood cX7_isGood 4 (Option.some FieldType.boolean) ∈ TB := tb_2 (List.mem_of_getElem? (i := 82) rfl) rfl
theorem mM_L_66 : Cond.methodLink RL 66 yX8_stands ∈ TB := tb_2 (List.mem_of_getElem? (i := 83) rfl) rfl
theorem mO_yX8_stands : Cond.instanceMethod yX8_stands ∈ TB := tb_2 (List.mem_of_getElem? (i := 84) rfl) rfl
theorem mV_yX8_stands : Cond.selects RX8 yX8_stands yX8_stands ∈ TB := tb_2 (List.mem_of_getElem? (i := 85) rfl) rfl
theorem mC_yX8_stands : Cond.code yX8_stands cX8_stands 6 (Option.some FieldType.int) ∈ TB := tb_2 (List.mem_of_getElem? (i := 86) rfl) rfl
theorem mM_X8_130 : Cond.methodLink RX8 130 yX2_lay ∈ TB := tb_2 (List.mem_of_getElem? (i := 87) rfl) rfl
theorem mO_yX2_lay : Cond.instanceMethod yX2_lay ∈ TB := tb_2 (List.mem_of_getElem? (i := 88) rfl) rfl
theorem mV_yX2_lay : Cond.selects RX2 yX2_lay yX2_lay ∈ TB := tb_2 (List.mem_of_getElem? (i := 89) rfl) rfl
theorem mC_yX2_lay : Cond.code yX2_lay cX2_lay 4 (Option.none : Option FieldType) ∈ TB := tb_2 (List.mem_of_getElem? (i := 90) rfl) rfl
theorem mM_X2_38 : Cond.methodLink RX2 38 yX2_openBays ∈ TB := tb_2 (List.mem_of_getElem? (i := 91) rfl) rfl
theorem mO_yX2_openBays : Cond.instanceMethod yX2_openBays ∈ TB := tb_2 (List.mem_of_getElem? (i := 93) rfl) rfl
theorem mC_yX2_openBays : Cond.code yX2_openBays cX2_openBays 3 (Option.none : Option FieldType) ∈ TB := tb_2 (List.mem_of_getElem? (i := 94) rfl) rfl
theorem mM_X2_42 : Cond.methodLink RX2 42 yX2_readRights ∈ TB := tb_2 (List.mem_of_getElem? (i := 95) rfl) rfl
theorem mO_yX2_readRights : Cond.instanceMethod yX2_readRights ∈ TB := tb_2 (List.mem_of_getElem? (i := 97) rfl) rfl
theorem mC_yX2_readRights : Cond.code yX2_readRights cX2_readRights 4 (Option.none : Option FieldType) ∈ TB := tb_2 (List.mem_of_getElem? (i := 98) rfl) rfl
theorem mM_X2_69 : Cond.methodLink RX2 69 yX0_right ∈ TB := tb_2 (List.mem_of_getElem? (i := 99) rfl) rfl
theorem mM_X2_45 : Cond.methodLink RX2 45 yX2_layLeast ∈ TB := tb_2 (List.mem_of_getElem? (i := 100) rfl) rfl
theorem mO_yX2_layLeast : Cond.instanceMethod yX2_layLeast ∈ TB := tb_2 (List.mem_of_getElem? (i := 102) rfl) rfl
theorem mC_yX2_layLeast : Cond.code yX2_layLeast cX2_layLeast 3 (Option.none : Option FieldType) ∈ TB := tb_2 (List.mem_of_getElem? (i := 103) rfl) rfl
theorem mM_X2_79 : Cond.methodLink RX2 79 yX2_isWithin ∈ TB := tb_2 (List.mem_of_getElem? (i := 104) rfl) rfl
theorem mO_yX2_isWithin : Cond.instanceMethod yX2_isWithin ∈ TB := tb_2 (List.mem_of_getElem? (i := 106) rfl) rfl
theorem mC_yX2_isWithin : Cond.code yX2_isWithin cX2_isWithin 3 (Option.some FieldType.boolean) ∈ TB := tb_2 (List.mem_of_getElem? (i := 107) rfl) rfl
theorem mM_X2_87 : Cond.methodLink RX2 87 yX2_walkTo ∈ TB := tb_2 (List.mem_of_getElem? (i := 108) rfl) rfl
theorem mO_yX2_walkTo : Cond.instanceMethod yX2_walkTo ∈ TB := tb_2 (List.mem_of_getElem? (i := 110) rfl) rfl
theorem mC_yX2_walkTo : Cond.code yX2_walkTo cX2_walkTo 3 (Option.some FieldType.int) ∈ TB := tb_2 (List.mem_of_getElem? (i := 111) rfl) rfl
theorem mM_X2_100 : Cond.methodLink RX2 100 yX1_setPrice ∈ TB := tb_2 (List.mem_of_getElem? (i := 112) rfl) rfl
theorem mO_yX1_setPrice : Cond.instanceMethod yX1_setPrice ∈ TB := tb_2 (List.mem_of_getElem? (i := 113) rfl) rfl
theorem mV_yX1_setPrice : Cond.selects RX1 yX1_setPrice yX1_setPrice ∈ TB := tb_2 (List.mem_of_getElem? (i := 114) rfl) rfl
theorem mC_yX1_setPrice : Cond.code yX1_setPrice cX1_setPrice 4 (Option.none : Option FieldType) ∈ TB := tb_2 (List.mem_of_getElem? (i := 115) rfl) rfl
theorem mJ_X1_24 : Cond.constantLong RX1 24 (279936 : Int64) ∈ TB := tb_2 (List.mem_of_getElem? (i := 116) rfl) rfl
theorem mF_X1_26 : Cond.fieldLink RX1 26 "ParkDesk$Cheapest" "PLACE_PRICE" "[I" ∈ TB := tb_2 (List.mem_of_getElem? (i := 117) rfl) rfl
theorem mM_X2_104 : Cond.methodLink RX2 104 yX1_forbid ∈ TB := tb_2 (List.mem_of_getElem? (i := 119) rfl) rfl
theorem mO_yX1_forbid : Cond.instanceMethod yX1_forbid ∈ TB := tb_2 (List.mem_of_getElem? (i := 120) rfl) rfl
theorem mV_yX1_forbid : Cond.selects RX1 yX1_forbid yX1_forbid ∈ TB := tb_2 (List.mem_of_getElem? (i := 121) rfl) rfl
theorem mC_yX1_forbid : Cond.code yX1_forbid cX1_forbid 3 (Option.none : Option FieldType) ∈ TB := tb_2 (List.mem_of_getElem? (i := 122) rfl) rfl
theorem mJ_X1_33 : Cond.constantLong RX1 33 (-1 : Int64) ∈ TB := tb_2 (List.mem_of_getElem? (i := 123) rfl) rfl
theorem mM_X2_108 : Cond.methodLink RX2 108 yX1_setPriceOut ∈ TB := tb_2 (List.mem_of_getElem? (i := 124) rfl) rfl
theorem mO_yX1_setPriceOut : Cond.instanceMethod yX1_setPriceOut ∈ TB := tb_2 (List.mem_of_getElem? (i := 125) rfl) rfl
theorem mV_yX1_setPriceOut : Cond.selects RX1 yX1_setPriceOut yX1_setPriceOut ∈ TB := tb_2 (List.mem_of_getElem? (i := 126) rfl) rfl
theorem mC_yX1_setPriceOut : Cond.code yX1_setPriceOut cX1_setPriceOut 2 (Option.none : Option FieldType) ∈ TB := tb_2 (List.mem_of_getElem? (i := 127) rfl) rfl
theorem mJ_X1_29 : Cond.constantLong RX1 29 (279936000 : Int64) ∈ TB := tb_2 (List.mem_of_getElem? (i := 128) rfl) rfl
theorem mJ_X1_31 : Cond.constantLong RX1 31 (5 : Int64) ∈ TB := tb_2 (List.mem_of_getElem? (i := 129) rfl) rfl
theorem mM_X2_111 : Cond.methodLink RX2 111 yX1_add ∈ TB := tb_2 (List.mem_of_getElem? (i := 130) rfl) rfl
theorem mO_yX1_add : Cond.instanceMethod yX1_add ∈ TB := tb_2 (List.mem_of_getElem? (i := 131) rfl) rfl
theorem mV_yX1_add : Cond.selects RX1 yX1_add yX1_add ∈ TB := tb_2 (List.mem_of_getElem? (i := 132) rfl) rfl
theorem mC_yX1_add : Cond.code yX1_add cX1_add 7 (Option.none : Option FieldType) ∈ TB := tb_2 (List.mem_of_getElem? (i := 133) rfl) rfl
theorem mM_X1_35 : Cond.methodLink RX1 35 yX1_startAt ∈ TB := tb_2 (List.mem_of_getElem? (i := 134) rfl) rfl
theorem mO_yX1_startAt : Cond.instanceMethod yX1_startAt ∈ TB := tb_2 (List.mem_of_getElem? (i := 136) rfl) rfl
theorem mC_yX1_startAt : Cond.code yX1_startAt cX1_startAt 3 (Option.none : Option FieldType) ∈ TB := tb_2 (List.mem_of_getElem? (i := 137) rfl) rfl
theorem mJ_X1_51 : Cond.constantLong RX1 51 (1000000000000000 : Int64) ∈ TB := tb_2 (List.mem_of_getElem? (i := 138) rfl) rfl
theorem mM_X1_39 : Cond.methodLink RX1 39 yX1_passOn ∈ TB := tb_2 (List.mem_of_getElem? (i := 139) rfl) rfl
theorem mO_yX1_passOn : Cond.instanceMethod yX1_passOn ∈ TB := tb_2 (List.mem_of_getElem? (i := 141) rfl) rfl
theorem mC_yX1_passOn : Cond.code yX1_passOn cX1_passOn 7 (Option.some FieldType.boolean) ∈ TB := tb_2 (List.mem_of_getElem? (i := 142) rfl) rfl
theorem mM_X1_43 : Cond.methodLink RX1 43 yX1_cheapestEnd ∈ TB := tb_2 (List.mem_of_getElem? (i := 143) rfl) rfl
theorem mO_yX1_cheapestEnd : Cond.instanceMethod yX1_cheapestEnd ∈ TB := tb_2 (List.mem_of_getElem? (i := 145) rfl) rfl
theorem mC_yX1_cheapestEnd : Cond.code yX1_cheapestEnd cX1_cheapestEnd 4 (Option.some FieldType.int) ∈ TB := tb_2 (List.mem_of_getElem? (i := 146) rfl) rfl
theorem mM_X1_47 : Cond.methodLink RX1 47 yX1_shift ∈ TB := tb_2 (List.mem_of_getElem? (i := 147) rfl) rfl
theorem mO_yX1_shift : Cond.instanceMethod yX1_shift ∈ TB := tb_2 (List.mem_of_getElem? (i := 149) rfl) rfl
theorem mC_yX1_shift : Cond.code yX1_shift cX1_shift 7 (Option.none : Option FieldType) ∈ TB := tb_2 (List.mem_of_getElem? (i := 150) rfl) rfl
theorem mM_X2_48 : Cond.methodLink RX2 48 yX2_comeHome ∈ TB := tb_2 (List.mem_of_getElem? (i := 151) rfl) rfl
theorem mO_yX2_comeHome : Cond.instanceMethod yX2_comeHome ∈ TB := tb_2 (List.mem_of_getElem? (i := 153) rfl) rfl
theorem mC_yX2_comeHome : Cond.code yX2_comeHome cX2_comeHome 3 (Option.none : Option FieldType) ∈ TB := tb_2 (List.mem_of_getElem? (i := 154) rfl) rfl
theorem mM_X2_75 : Cond.methodLink RX2 75 yX2_choose ∈ TB := tb_2 (List.mem_of_getElem? (i := 155) rfl) rfl
theorem mO_yX2_choose : Cond.instanceMethod yX2_choose ∈ TB := tb_2 (List.mem_of_getElem? (i := 157) rfl) rfl
theorem mC_yX2_choose : Cond.code yX2_choose cX2_choose 4 (Option.some FieldType.int) ∈ TB := tb_2 (List.mem_of_getElem? (i := 158) rfl) rfl
theorem mM_X2_83 : Cond.methodLink RX2 83 yX2_isBetter ∈ TB := tb_2 (List.mem_of_getElem? (i := 159) rfl) rfl
theorem mO_yX2_isBetter : Cond.instanceMethod yX2_isBetter ∈ TB := tb_2 (List.mem_of_getElem? (i := 161) rfl) rfl
theorem mC_yX2_isBetter : Cond.code yX2_isBetter cX2_isBetter 6 (Option.some FieldType.boolean) ∈ TB := tb_2 (List.mem_of_getElem? (i := 162) rfl) rfl
theorem mM_L_70 : Cond.methodLink RL 70 yX8_told ∈ TB := tb_2 (List.mem_of_getElem? (i := 163) rfl) rfl
theorem mO_yX8_told : Cond.instanceMethod yX8_told ∈ TB := tb_2 (List.mem_of_getElem? (i := 164) rfl) rfl
theorem mV_yX8_told : Cond.selects RX8 yX8_told yX8_told ∈ TB := tb_2 (List.mem_of_getElem? (i := 165) rfl) rfl
theorem mC_yX8_told : Cond.code yX8_told cX8_told 5 (Option.some FieldType.int) ∈ TB := tb_2 (List.mem_of_getElem? (i := 166) rfl) rfl
theorem mM_X8_137 : Cond.methodLink RX8 137 yX2_tell ∈ TB := tb_2 (List.mem_of_getElem? (i := 167) rfl) rfl
theorem mO_yX2_tell : Cond.instanceMethod yX2_tell ∈ TB := tb_2 (List.mem_of_getElem? (i := 168) rfl) rfl
theorem mV_yX2_tell : Cond.selects RX2 yX2_tell yX2_tell ∈ TB := tb_2 (List.mem_of_getElem? (i := 169) rfl) rfl
theorem mC_yX2_tell : Cond.code yX2_tell cX2_tell 4 (Option.some FieldType.int) ∈ TB := tb_2 (List.mem_of_getElem? (i := 170) rfl) rfl
theorem mM_X2_115 : Cond.methodLink RX2 115 yX2_tellOne ∈ TB := tb_2 (List.mem_of_getElem? (i := 171) rfl) rfl
theorem mO_yX2_tellOne : Cond.instanceMethod yX2_tellOne ∈ TB := tb_2 (List.mem_of_getElem? (i := 173) rfl) rfl
theorem mC_yX2_tellOne : Cond.code yX2_tellOne cX2_tellOne 3 (Option.some FieldType.int) ∈ TB := tb_2 (List.mem_of_getElem? (i := 174) rfl) rfl
theorem mM_X2_118 : Cond.methodLink RX2 118 yX2_standsByCard ∈ TB := tb_2 (List.mem_of_getElem? (i := 175) rfl) rfl
theorem mO_yX2_standsByCard : Cond.instanceMethod yX2_standsByCard ∈ TB := tb_2 (List.mem_of_getElem? (i := 177) rfl) rfl
theorem mC_yX2_standsByCard : Cond.code yX2_standsByCard cX2_standsByCard 2 (Option.some FieldType.boolean) ∈ TB := tb_2 (List.mem_of_getElem? (i := 178) rfl) rfl
theorem mM_L_74 : Cond.methodLink RL 74 yX8_keep ∈ TB := tb_2 (List.mem_of_getElem? (i := 179) rfl) rfl
theorem mO_yX8_keep : Cond.instanceMethod yX8_keep ∈ TB := tb_2 (List.mem_of_getElem? (i := 180) rfl) rfl
theorem mV_yX8_keep : Cond.selects RX8 yX8_keep yX8_keep ∈ TB := tb_2 (List.mem_of_getElem? (i := 181) rfl) rfl
theorem mC_yX8_keep : Cond.code yX8_keep cX8_keep 3 (Option.some FieldType.int) ∈ TB := tb_2 (List.mem_of_getElem? (i := 182) rfl) rfl
theorem mM_X8_140 : Cond.methodLink RX8 140 yX2_useCards ∈ TB := tb_2 (List.mem_of_getElem? (i := 183) rfl) rfl
theorem mO_yX2_useCards : Cond.instanceMethod yX2_useCards ∈ TB := tb_2 (List.mem_of_getElem? (i := 184) rfl) rfl
theorem mV_yX2_useCards : Cond.selects RX2 yX2_useCards yX2_useCards ∈ TB := tb_2 (List.mem_of_getElem? (i := 185) rfl) rfl
theorem mC_yX2_useCards : Cond.code yX2_useCards cX2_useCards 3 (Option.some FieldType.int) ∈ TB := tb_2 (List.mem_of_getElem? (i := 186) rfl) rfl
theorem mM_L_78 : Cond.methodLink RL 78 yX8_moved ∈ TB := tb_2 (List.mem_of_getElem? (i := 187) rfl) rfl
theorem mO_yX8_moved : Cond.instanceMethod yX8_moved ∈ TB := tb_2 (List.mem_of_getElem? (i := 188) rfl) rfl
theorem mV_yX8_moved : Cond.selects RX8 yX8_moved yX8_moved ∈ TB := tb_2 (List.mem_of_getElem? (i := 189) rfl) rfl
theorem mC_yX8_moved : Cond.code yX8_moved cX8_moved 8 (Option.some FieldType.int) ∈ TB := tb_2 (List.mem_of_getElem? (i := 190) rfl) rfl
theorem mM_L_83 : Cond.methodLink RL 83 yX8_gain ∈ TB := tb_2 (List.mem_of_getElem? (i := 191) rfl) rfl
theorem mO_yX8_gain : Cond.instanceMethod yX8_gain ∈ TB := tb_2 (List.mem_of_getElem? (i := 192) rfl) rfl
theorem mV_yX8_gain : Cond.selects RX8 yX8_gain yX8_gain ∈ TB := tb_2 (List.mem_of_getElem? (i := 193) rfl) rfl
theorem mC_yX8_gain : Cond.code yX8_gain cX8_gain 4 (Option.some FieldType.int) ∈ TB := tb_2 (List.mem_of_getElem? (i := 194) rfl) rfl
theorem mM_L_87 : Cond.methodLink RL 87 yX8_fine ∈ TB := tb_2 (List.mem_of_getElem? (i := 195) rfl) rfl
theorem mO_yX8_fine : Cond.instanceMethod yX8_fine ∈ TB := tb_2 (List.mem_of_getElem? (i := 196) rfl) rfl
theorem mV_yX8_fine : Cond.selects RX8 yX8_fine yX8_fine ∈ TB := tb_2 (List.mem_of_getElem? (i := 197) rfl) rfl
theorem mC_yX8_fine : Cond.code yX8_fine cX8_fine 3 (Option.some FieldType.int) ∈ TB := tb_2 (List.mem_of_getElem? (i := 198) rfl) rfl
theorem mM_L_91 : Cond.methodLink RL 91 yX8_turn ∈ TB := tb_2 (List.mem_of_getElem? (i := 199) rfl) rfl
theorem mO_yX8_turn : Cond.instanceMethod yX8_turn ∈ TB := tb_2 (List.mem_of_getElem? (i := 200) rfl) rfl
theorem mV_yX8_turn : Cond.selects RX8 yX8_turn yX8_turn ∈ TB := tb_2 (List.mem_of_getElem? (i := 201) rfl) rfl
theorem mC_yX8_turn : Cond.code yX8_turn cX8_turn 3 (Option.some FieldType.int) ∈ TB := tb_2 (List.mem_of_getElem? (i := 202) rfl) rfl
theorem mM_X8_151 : Cond.methodLink RX8 151 yX6_chance ∈ TB := tb_2 (List.mem_of_getElem? (i := 203) rfl) rfl
theorem mO_yX6_chance : Cond.instanceMethod yX6_chance ∈ TB := tb_2 (List.mem_of_getElem? (i := 204) rfl) rfl
theorem mV_yX6_chance : Cond.selects RX6 yX6_chance yX6_chance ∈ TB := tb_2 (List.mem_of_getElem? (i := 205) rfl) rfl
theorem mC_yX6_chance : Cond.code yX6_chance cX6_chance 3 (Option.some (FieldType.object "ParkDesk$Ratio")) ∈ TB := tb_2 (List.mem_of_getElem? (i := 206) rfl) rfl
theorem mM_X6_37 : Cond.methodLink RX6 37 yX6_greatest ∈ TB := tb_2 (List.mem_of_getElem? (i := 207) rfl) rfl
theorem mO_yX6_greatest : Cond.instanceMethod yX6_greatest ∈ TB := tb_2 (List.mem_of_getElem? (i := 208) rfl) rfl
theorem mV_yX6_greatest : Cond.selects RX6 yX6_greatest yX6_greatest ∈ TB := tb_2 (List.mem_of_getElem? (i := 209) rfl) rfl
theorem mC_yX6_greatest : Cond.code yX6_greatest cX6_greatest 6 (Option.some (FieldType.object "ParkDesk$Ratio")) ∈ TB := tb_2 (List.mem_of_getElem? (i := 210) rfl) rfl
theorem mK_X6_19 : Cond.classLink RX6 19 RX3 ∈ TB := tb_2 (List.mem_of_getElem? (i := 211) rfl) rfl
theorem mN_X3 : Cond.instantiable RX3 2 ∈ TB := tb_2 (List.mem_of_getElem? (i := 212) rfl) rfl
theorem mM_X6_21 : Cond.methodLink RX6 21 yX3_init ∈ TB := tb_2 (List.mem_of_getElem? (i := 213) rfl) rfl
theorem mO_yX3_init : Cond.instanceMethod yX3_init ∈ TB := tb_2 (List.mem_of_getElem? (i := 214) rfl) rfl
theorem mC_yX3_init : Cond.code yX3_init cX3_init 4 (Option.none : Option FieldType) ∈ TB := tb_2 (List.mem_of_getElem? (i := 215) rfl) rfl
theorem mM_X3_1 : Cond.methodLink RX3 1 objectInit ∈ TB := tb_2 (List.mem_of_getElem? (i := 216) rfl) rfl
theorem mM_X3_7 : Cond.methodLink RX3 7 yX3_commonDivisor ∈ TB := tb_2 (List.mem_of_getElem? (i := 217) rfl) rfl
theorem mS_yX3_commonDivisor : Cond.static yX3_commonDivisor ∈ TB := tb_2 (List.mem_of_getElem? (i := 218) rfl) rfl
theorem mC_yX3_commonDivisor : Cond.code yX3_commonDivisor cX3_commonDivisor 6 (Option.some FieldType.int) ∈ TB := tb_2 (List.mem_of_getElem? (i := 219) rfl) rfl
theorem mF_X3_13 : Cond.fieldLink RX3 13 "ParkDesk$Ratio" "above" "I" ∈ TB := tb_2 (List.mem_of_getElem? (i := 220) rfl) rfl
theorem mF_X6_44 : Cond.fieldLink RX6 44 "ParkDesk$Ratio" "above" "I" ∈ TB := tb_2 (List.mem_of_getElem? (i := 221) rfl) rfl
theorem mF_X3_17 : Cond.fieldLink RX3 17 "ParkDesk$Ratio" "below" "I" ∈ TB := tb_2 (List.mem_of_getElem? (i := 222) rfl) rfl
theorem mF_X6_41 : Cond.fieldLink RX6 41 "ParkDesk$Ratio" "below" "I" ∈ TB := tb_2 (List.mem_of_getElem? (i := 223) rfl) rfl
theorem mL_X3_above : Cond.laysFinal RX3 RX3 "above" "I" ∈ TB := tb_2 (List.mem_of_getElem? (i := 224) rfl) rfl
theorem mL_X3_below : Cond.laysFinal RX3 RX3 "below" "I" ∈ TB := tb_2 (List.mem_of_getElem? (i := 226) rfl) rfl
theorem mM_X6_33 : Cond.methodLink RX6 33 yX3_isBelow ∈ TB := tb_2 (List.mem_of_getElem? (i := 229) rfl) rfl
theorem mO_yX3_isBelow : Cond.instanceMethod yX3_isBelow ∈ TB := tb_2 (List.mem_of_getElem? (i := 230) rfl) rfl
theorem mV_yX3_isBelow : Cond.selects RX3 yX3_isBelow yX3_isBelow ∈ TB := tb_2 (List.mem_of_getElem? (i := 231) rfl) rfl
theorem mC_yX3_isBelow : Cond.code yX3_isBelow cX3_isBelow 3 (Option.some FieldType.boolean) ∈ TB := tb_2 (List.mem_of_getElem? (i := 232) rfl) rfl
theorem mM_X8_155 : Cond.methodLink RX8 155 yX3_part ∈ TB := tb_2 (List.mem_of_getElem? (i := 233) rfl) rfl
theorem mO_yX3_part : Cond.instanceMethod yX3_part ∈ TB := tb_2 (List.mem_of_getElem? (i := 234) rfl) rfl
theorem mV_yX3_part : Cond.selects RX3 yX3_part yX3_part ∈ TB := tb_2 (List.mem_of_getElem? (i := 235) rfl) rfl
theorem mC_yX3_part : Cond.code yX3_part cX3_part 2 (Option.some FieldType.int) ∈ TB := tb_2 (List.mem_of_getElem? (i := 236) rfl) rfl
theorem mM_L_95 : Cond.methodLink RL 95 yX8_stake ∈ TB := tb_2 (List.mem_of_getElem? (i := 237) rfl) rfl
theorem mO_yX8_stake : Cond.instanceMethod yX8_stake ∈ TB := tb_2 (List.mem_of_getElem? (i := 238) rfl) rfl
theorem mV_yX8_stake : Cond.selects RX8 yX8_stake yX8_stake ∈ TB := tb_2 (List.mem_of_getElem? (i := 239) rfl) rfl
theorem mC_yX8_stake : Cond.code yX8_stake cX8_stake 2 (Option.some FieldType.int) ∈ TB := tb_3 (List.mem_of_getElem? (i := 0) rfl) rfl
theorem mM_X8_160 : Cond.methodLink RX8 160 yX6_greatest ∈ TB := tb_3 (List.mem_of_getElem? (i := 1) rfl) rfl
theorem mM_L_99 : Cond.methodLink RL 99 yX8_ticket ∈ TB := tb_3 (List.mem_of_getElem? (i := 2) rfl) rfl
theorem mO_yX8_ticket : Cond.instanceMethod yX8_ticket ∈ TB := tb_3 (List.mem_of_getElem? (i := 3) rfl) rfl
theorem mV_yX8_ticket : Cond.selects RX8 yX8_ticket yX8_ticket ∈ TB := tb_3 (List.mem_of_getElem? (i := 4) rfl) rfl
theorem mC_yX8_ticket : Cond.code yX8_ticket cX8_ticket 7 (Option.some FieldType.int) ∈ TB := tb_3 (List.mem_of_getElem? (i := 5) rfl) rfl
theorem mM_X8_167 : Cond.methodLink RX8 167 yX5_judge ∈ TB := tb_3 (List.mem_of_getElem? (i := 6) rfl) rfl
theorem mS_yX5_judge : Cond.static yX5_judge ∈ TB := tb_3 (List.mem_of_getElem? (i := 7) rfl) rfl
theorem mC_yX5_judge : Cond.code yX5_judge cX5_judge 2 (Option.some FieldType.int) ∈ TB := tb_3 (List.mem_of_getElem? (i := 8) rfl) rfl
theorem mM_X8_170 : Cond.methodLink RX8 170 yX5_add ∈ TB := tb_3 (List.mem_of_getElem? (i := 9) rfl) rfl
theorem mO_yX5_add : Cond.instanceMethod yX5_add ∈ TB := tb_3 (List.mem_of_getElem? (i := 10) rfl) rfl
theorem mV_yX5_add : Cond.selects RX5 yX5_add yX5_add ∈ TB := tb_3 (List.mem_of_getElem? (i := 11) rfl) rfl
theorem mC_yX5_add : Cond.code yX5_add cX5_add 7 (Option.some FieldType.int) ∈ TB := tb_3 (List.mem_of_getElem? (i := 12) rfl) rfl
theorem mM_L_103 : Cond.methodLink RL 103 yX8_of ∈ TB := tb_3 (List.mem_of_getElem? (i := 13) rfl) rfl
theorem mO_yX8_of : Cond.instanceMethod yX8_of ∈ TB := tb_3 (List.mem_of_getElem? (i := 14) rfl) rfl
theorem mV_yX8_of : Cond.selects RX8 yX8_of yX8_of ∈ TB := tb_3 (List.mem_of_getElem? (i := 15) rfl) rfl
theorem mC_yX8_of : Cond.code yX8_of cX8_of 3 (Option.some FieldType.int) ∈ TB := tb_3 (List.mem_of_getElem? (i := 16) rfl) rfl
theorem mM_X8_179 : Cond.methodLink RX8 179 yX5_stateByLikes ∈ TB := tb_3 (List.mem_of_getElem? (i := 17) rfl) rfl
theorem mO_yX5_stateByLikes : Cond.instanceMethod yX5_stateByLikes ∈ TB := tb_3 (List.mem_of_getElem? (i := 18) rfl) rfl
theorem mV_yX5_stateByLikes : Cond.selects RX5 yX5_stateByLikes yX5_stateByLikes ∈ TB := tb_3 (List.mem_of_getElem? (i := 19) rfl) rfl
theorem mC_yX5_stateByLikes : Cond.code yX5_stateByLikes cX5_stateByLikes 4 (Option.some FieldType.int) ∈ TB := tb_3 (List.mem_of_getElem? (i := 20) rfl) rfl
theorem mM_X5_24 : Cond.methodLink RX5 24 yX5_countLikes ∈ TB := tb_3 (List.mem_of_getElem? (i := 21) rfl) rfl
theorem mO_yX5_countLikes : Cond.instanceMethod yX5_countLikes ∈ TB := tb_3 (List.mem_of_getElem? (i := 22) rfl) rfl
theorem mV_yX5_countLikes : Cond.selects RX5 yX5_countLikes yX5_countLikes ∈ TB := tb_3 (List.mem_of_getElem? (i := 23) rfl) rfl
theorem mC_yX5_countLikes : Cond.code yX5_countLikes cX5_countLikes 5 (Option.some FieldType.int) ∈ TB := tb_3 (List.mem_of_getElem? (i := 24) rfl) rfl
theorem mM_X5_20 : Cond.methodLink RX5 20 yX5_isSameZoneAndHour ∈ TB := tb_3 (List.mem_of_getElem? (i := 25) rfl) rfl
theorem mO_yX5_isSameZoneAndHour : Cond.instanceMethod yX5_isSameZoneAndHour ∈ TB := tb_3 (List.mem_of_getElem? (i := 27) rfl) rfl
theorem mC_yX5_isSameZoneAndHour : Cond.code yX5_isSameZoneAndHour cX5_isSameZoneAndHour 3 (Option.some FieldType.boolean) ∈ TB := tb_3 (List.mem_of_getElem? (i := 28) rfl) rfl
theorem mM_X8_182 : Cond.methodLink RX8 182 yX5_countLikes ∈ TB := tb_3 (List.mem_of_getElem? (i := 29) rfl) rfl
theorem mM_L_107 : Cond.methodLink RL 107 yX8_many ∈ TB := tb_3 (List.mem_of_getElem? (i := 30) rfl) rfl
theorem mO_yX8_many : Cond.instanceMethod yX8_many ∈ TB := tb_3 (List.mem_of_getElem? (i := 31) rfl) rfl
theorem mV_yX8_many : Cond.selects RX8 yX8_many yX8_many ∈ TB := tb_3 (List.mem_of_getElem? (i := 32) rfl) rfl
theorem mC_yX8_many : Cond.code yX8_many cX8_many 2 (Option.some FieldType.int) ∈ TB := tb_3 (List.mem_of_getElem? (i := 33) rfl) rfl
theorem mM_X8_187 : Cond.methodLink RX8 187 yX5_countState ∈ TB := tb_3 (List.mem_of_getElem? (i := 34) rfl) rfl
theorem mO_yX5_countState : Cond.instanceMethod yX5_countState ∈ TB := tb_3 (List.mem_of_getElem? (i := 35) rfl) rfl
theorem mV_yX5_countState : Cond.selects RX5 yX5_countState yX5_countState ∈ TB := tb_3 (List.mem_of_getElem? (i := 36) rfl) rfl
theorem mC_yX5_countState : Cond.code yX5_countState cX5_countState 4 (Option.some FieldType.int) ∈ TB := tb_3 (List.mem_of_getElem? (i := 37) rfl) rfl
theorem mM_X8_190 : Cond.methodLink RX8 190 yX4_countBays ∈ TB := tb_3 (List.mem_of_getElem? (i := 38) rfl) rfl
theorem mO_yX4_countBays : Cond.instanceMethod yX4_countBays ∈ TB := tb_3 (List.mem_of_getElem? (i := 39) rfl) rfl
theorem mV_yX4_countBays : Cond.selects RX4 yX4_countBays yX4_countBays ∈ TB := tb_3 (List.mem_of_getElem? (i := 40) rfl) rfl
theorem mC_yX4_countBays : Cond.code yX4_countBays cX4_countBays 3 (Option.some FieldType.int) ∈ TB := tb_3 (List.mem_of_getElem? (i := 41) rfl) rfl
theorem mM_X8_193 : Cond.methodLink RX8 193 yX0_countCards ∈ TB := tb_3 (List.mem_of_getElem? (i := 42) rfl) rfl
theorem mO_yX0_countCards : Cond.instanceMethod yX0_countCards ∈ TB := tb_3 (List.mem_of_getElem? (i := 43) rfl) rfl
theorem mV_yX0_countCards : Cond.selects RX0 yX0_countCards yX0_countCards ∈ TB := tb_3 (List.mem_of_getElem? (i := 44) rfl) rfl
theorem mC_yX0_countCards : Cond.code yX0_countCards cX0_countCards 4 (Option.some FieldType.int) ∈ TB := tb_3 (List.mem_of_getElem? (i := 45) rfl) rfl
theorem mK_L_10 : Cond.classLink RL 10 RX9 ∈ TB := tb_3 (List.mem_of_getElem? (i := 46) rfl) rfl
theorem mN_X9 : Cond.instantiable RX9 30 ∈ TB := tb_3 (List.mem_of_getElem? (i := 47) rfl) rfl
theorem mM_L_12 : Cond.methodLink RL 12 yX9_init ∈ TB := tb_3 (List.mem_of_getElem? (i := 48) rfl) rfl
theorem mO_yX9_init : Cond.instanceMethod yX9_init ∈ TB := tb_3 (List.mem_of_getElem? (i := 49) rfl) rfl
theorem mC_yX9_init : Cond.code yX9_init cX9_init 3 (Option.none : Option FieldType) ∈ TB := tb_3 (List.mem_of_getElem? (i := 50) rfl) rfl
theorem mM_X9_1 : Cond.methodLink RX9 1 objectInit ∈ TB := tb_3 (List.mem_of_getElem? (i := 51) rfl) rfl
theorem mF_X9_87 : Cond.fieldLink RX9 87 "ParkDeskModel" "streets" "I" ∈ TB := tb_3 (List.mem_of_getElem? (i := 52) rfl) rfl
theorem mF_X9_7 : Cond.fieldLink RX9 7 "ParkDeskModel" "zoneOf" "[I" ∈ TB := tb_3 (List.mem_of_getElem? (i := 53) rfl) rfl
theorem mF_X9_13 : Cond.fieldLink RX9 13 "ParkDeskModel" "bays" "[I" ∈ TB := tb_3 (List.mem_of_getElem? (i := 54) rfl) rfl
theorem mF_X9_16 : Cond.fieldLink RX9 16 "ParkDeskModel" "closed" "[I" ∈ TB := tb_3 (List.mem_of_getElem? (i := 55) rfl) rfl
theorem mF_X9_19 : Cond.fieldLink RX9 19 "ParkDeskModel" "walks" "[I" ∈ TB := tb_3 (List.mem_of_getElem? (i := 56) rfl) rfl
theorem mF_X9_22 : Cond.fieldLink RX9 22 "ParkDeskModel" "gains" "[I" ∈ TB := tb_3 (List.mem_of_getElem? (i := 57) rfl) rfl
theorem mF_X9_94 : Cond.fieldLink RX9 94 "ParkDeskModel" "cars" "I" ∈ TB := tb_3 (List.mem_of_getElem? (i := 58) rfl) rfl
theorem mF_X9_25 : Cond.fieldLink RX9 25 "ParkDeskModel" "homes" "[I" ∈ TB := tb_3 (List.mem_of_getElem? (i := 59) rfl) rfl
theorem mF_X9_28 : Cond.fieldLink RX9 28 "ParkDeskModel" "permits" "[Z" ∈ TB := tb_3 (List.mem_of_getElem? (i := 60) rfl) rfl
theorem mF_X9_32 : Cond.fieldLink RX9 32 "ParkDeskModel" "cards" "[I" ∈ TB := tb_3 (List.mem_of_getElem? (i := 61) rfl) rfl
theorem mF_X9_35 : Cond.fieldLink RX9 35 "ParkDeskModel" "limits" "[I" ∈ TB := tb_3 (List.mem_of_getElem? (i := 62) rfl) rfl
theorem mF_X9_38 : Cond.fieldLink RX9 38 "ParkDeskModel" "order" "[I" ∈ TB := tb_3 (List.mem_of_getElem? (i := 63) rfl) rfl
theorem mF_X9_41 : Cond.fieldLink RX9 41 "ParkDeskModel" "ruledFrom" "[I" ∈ TB := tb_3 (List.mem_of_getElem? (i := 64) rfl) rfl
theorem mF_X9_44 : Cond.fieldLink RX9 44 "ParkDeskModel" "ruledTo" "[I" ∈ TB := tb_3 (List.mem_of_getElem? (i := 65) rfl) rfl
theorem mF_X9_47 : Cond.fieldLink RX9 47 "ParkDeskModel" "goodFrom" "[I" ∈ TB := tb_3 (List.mem_of_getElem? (i := 66) rfl) rfl
theorem mF_X9_50 : Cond.fieldLink RX9 50 "ParkDeskModel" "goodTo" "[I" ∈ TB := tb_3 (List.mem_of_getElem? (i := 67) rfl) rfl
theorem mF_X9_53 : Cond.fieldLink RX9 53 "ParkDeskModel" "fine" "I" ∈ TB := tb_3 (List.mem_of_getElem? (i := 68) rfl) rfl
theorem mF_X9_172 : Cond.fieldLink RX9 172 "ParkDeskModel" "tickets" "I" ∈ TB := tb_3 (List.mem_of_getElem? (i := 69) rfl) rfl
theorem mF_X9_57 : Cond.fieldLink RX9 57 "ParkDeskModel" "ticketCar" "[I" ∈ TB := tb_3 (List.mem_of_getElem? (i := 70) rfl) rfl
theorem mF_X9_60 : Cond.fieldLink RX9 60 "ParkDeskModel" "ticketStreet" "[I" ∈ TB := tb_3 (List.mem_of_getElem? (i := 71) rfl) rfl
theorem mF_X9_63 : Cond.fieldLink RX9 63 "ParkDeskModel" "ticketHour" "[I" ∈ TB := tb_3 (List.mem_of_getElem? (i := 72) rfl) rfl
theorem mF_X9_66 : Cond.fieldLink RX9 66 "ParkDeskModel" "ticketSign" "[I" ∈ TB := tb_3 (List.mem_of_getElem? (i := 73) rfl) rfl
theorem mF_X9_69 : Cond.fieldLink RX9 69 "ParkDeskModel" "ticketZone" "[I" ∈ TB := tb_3 (List.mem_of_getElem? (i := 74) rfl) rfl
theorem mF_X9_72 : Cond.fieldLink RX9 72 "ParkDeskModel" "ticketMay" "[I" ∈ TB := tb_3 (List.mem_of_getElem? (i := 75) rfl) rfl
theorem mF_X9_75 : Cond.fieldLink RX9 75 "ParkDeskModel" "stand" "[I" ∈ TB := tb_3 (List.mem_of_getElem? (i := 76) rfl) rfl
theorem mF_X9_78 : Cond.fieldLink RX9 78 "ParkDeskModel" "best" "[I" ∈ TB := tb_3 (List.mem_of_getElem? (i := 77) rfl) rfl
theorem mF_X9_81 : Cond.fieldLink RX9 81 "ParkDeskModel" "free" "[I" ∈ TB := tb_3 (List.mem_of_getElem? (i := 78) rfl) rfl
theorem mF_X9_84 : Cond.fieldLink RX9 84 "ParkDeskModel" "mayAt" "[I" ∈ TB := tb_3 (List.mem_of_getElem? (i := 79) rfl) rfl
theorem mF_X9_157 : Cond.fieldLink RX9 157 "ParkDeskModel" "above" "I" ∈ TB := tb_3 (List.mem_of_getElem? (i := 80) rfl) rfl
theorem mF_X9_160 : Cond.fieldLink RX9 160 "ParkDeskModel" "below" "I" ∈ TB := tb_3 (List.mem_of_getElem? (i := 81) rfl) rfl
theorem mL_X9_streets : Cond.lays RX9 RX9 "streets" "I" ∈ TB := tb_3 (List.mem_of_getElem? (i := 82) rfl) rfl
theorem mL_X9_zoneOf : Cond.laysFinal RX9 RX9 "zoneOf" "[I" ∈ TB := tb_3 (List.mem_of_getElem? (i := 84) rfl) rfl
theorem mL_X9_bays : Cond.laysFinal RX9 RX9 "bays" "[I" ∈ TB := tb_3 (List.mem_of_getElem? (i := 86) rfl) rfl
theorem mL_X9_closed : Cond.laysFinal RX9 RX9 "closed" "[I" ∈ TB := tb_3 (List.mem_of_getElem? (i := 88) rfl) rfl
theorem mL_X9_walks : Cond.laysFinal RX9 RX9 "walks" "[I" ∈ TB := tb_3 (List.mem_of_getElem? (i := 90) rfl) rfl
theorem mL_X9_gains : Cond.laysFinal RX9 RX9 "gains" "[I" ∈ TB := tb_3 (List.mem_of_getElem? (i := 92) rfl) rfl
theorem mL_X9_cars : Cond.lays RX9 RX9 "cars" "I" ∈ TB := tb_3 (List.mem_of_getElem? (i := 94) rfl) rfl
theorem mL_X9_homes : Cond.laysFinal RX9 RX9 "homes" "[I" ∈ TB := tb_3 (List.mem_of_getElem? (i := 96) rfl) rfl
theorem mL_X9_permits : Cond.laysFinal RX9 RX9 "permits" "[Z" ∈ TB := tb_3 (List.mem_of_getElem? (i := 98) rfl) rfl
theorem mL_X9_cards : Cond.laysFinal RX9 RX9 "cards" "[I" ∈ TB := tb_3 (List.mem_of_getElem? (i := 100) rfl) rfl
theorem mL_X9_limits : Cond.laysFinal RX9 RX9 "limits" "[I" ∈ TB := tb_3 (List.mem_of_getElem? (i := 102) rfl) rfl
theorem mL_X9_order : Cond.laysFinal RX9 RX9 "order" "[I" ∈ TB := tb_3 (List.mem_of_getElem? (i := 104) rfl) rfl
theorem mL_X9_ruledFrom : Cond.laysFinal RX9 RX9 "ruledFrom" "[I" ∈ TB := tb_3 (List.mem_of_getElem? (i := 106) rfl) rfl
theorem mL_X9_ruledTo : Cond.laysFinal RX9 RX9 "ruledTo" "[I" ∈ TB := tb_3 (List.mem_of_getElem? (i := 108) rfl) rfl
theorem mL_X9_goodFrom : Cond.laysFinal RX9 RX9 "goodFrom" "[I" ∈ TB := tb_3 (List.mem_of_getElem? (i := 110) rfl) rfl
theorem mL_X9_goodTo : Cond.laysFinal RX9 RX9 "goodTo" "[I" ∈ TB := tb_3 (List.mem_of_getElem? (i := 112) rfl) rfl
theorem mL_X9_fine : Cond.lays RX9 RX9 "fine" "I" ∈ TB := tb_3 (List.mem_of_getElem? (i := 114) rfl) rfl
theorem mL_X9_tickets : Cond.lays RX9 RX9 "tickets" "I" ∈ TB := tb_3 (List.mem_of_getElem? (i := 116) rfl) rfl
theorem mL_X9_ticketCar : Cond.laysFinal RX9 RX9 "ticketCar" "[I" ∈ TB := tb_3 (List.mem_of_getElem? (i := 118) rfl) rfl
theorem mL_X9_ticketStreet : Cond.laysFinal RX9 RX9 "ticketStreet" "[I" ∈ TB := tb_3 (List.mem_of_getElem? (i := 120) rfl) rfl
theorem mL_X9_ticketHour : Cond.laysFinal RX9 RX9 "ticketHour" "[I" ∈ TB := tb_3 (List.mem_of_getElem? (i := 122) rfl) rfl
theorem mL_X9_ticketSign : Cond.laysFinal RX9 RX9 "ticketSign" "[I" ∈ TB := tb_3 (List.mem_of_getElem? (i := 124) rfl) rfl
theorem mL_X9_ticketZone : Cond.laysFinal RX9 RX9 "ticketZone" "[I" ∈ TB := tb_3 (List.mem_of_getElem? (i := 126) rfl) rfl
theorem mL_X9_ticketMay : Cond.laysFinal RX9 RX9 "ticketMay" "[I" ∈ TB := tb_3 (List.mem_of_getElem? (i := 128) rfl) rfl
theorem mL_X9_stand : Cond.laysFinal RX9 RX9 "stand" "[I" ∈ TB := tb_3 (List.mem_of_getElem? (i := 130) rfl) rfl
theorem mL_X9_best : Cond.laysFinal RX9 RX9 "best" "[I" ∈ TB := tb_3 (List.mem_of_getElem? (i := 132) rfl) rfl
theorem mL_X9_free : Cond.laysFinal RX9 RX9 "free" "[I" ∈ TB := tb_3 (List.mem_of_getElem? (i := 134) rfl) rfl
theorem mL_X9_mayAt : Cond.laysFinal RX9 RX9 "mayAt" "[I" ∈ TB := tb_3 (List.mem_of_getElem? (i := 136) rfl) rfl
theorem mL_X9_above : Cond.lays RX9 RX9 "above" "I" ∈ TB := tb_3 (List.mem_of_getElem? (i := 138) rfl) rfl
theorem mL_X9_below : Cond.lays RX9 RX9 "below" "I" ∈ TB := tb_3 (List.mem_of_getElem? (i := 140) rfl) rfl
theorem mA_boolean : Cond.arrayClass FieldType.boolean ∈ TB := tb_3 (List.mem_of_getElem? (i := 143) rfl) rfl
theorem mM_L_17 : Cond.methodLink RL 17 yX9_street ∈ TB := tb_3 (List.mem_of_getElem? (i := 144) rfl) rfl
theorem mO_yX9_street : Cond.instanceMethod yX9_street ∈ TB := tb_3 (List.mem_of_getElem? (i := 145) rfl) rfl
theorem mV_yX9_street : Cond.selects RX9 yX9_street yX9_street ∈ TB := tb_3 (List.mem_of_getElem? (i := 146) rfl) rfl
theorem mC_yX9_street : Cond.code yX9_street cX9_street 5 (Option.some FieldType.int) ∈ TB := tb_3 (List.mem_of_getElem? (i := 147) rfl) rfl
theorem mM_X9_97 : Cond.methodLink RX9 97 yX9_isZone ∈ TB := tb_3 (List.mem_of_getElem? (i := 148) rfl) rfl
theorem mS_yX9_isZone : Cond.static yX9_isZone ∈ TB := tb_3 (List.mem_of_getElem? (i := 149) rfl) rfl
theorem mC_yX9_isZone : Cond.code yX9_isZone cX9_isZone 1 (Option.some FieldType.boolean) ∈ TB := tb_3 (List.mem_of_getElem? (i := 150) rfl) rfl
theorem mM_X9_90 : Cond.methodLink RX9 90 yX9_in ∈ TB := tb_3 (List.mem_of_getElem? (i := 151) rfl) rfl
theorem mS_yX9_in : Cond.static yX9_in ∈ TB := tb_3 (List.mem_of_getElem? (i := 152) rfl) rfl
theorem mC_yX9_in : Cond.code yX9_in cX9_in 3 (Option.some FieldType.boolean) ∈ TB := tb_3 (List.mem_of_getElem? (i := 153) rfl) rfl
theorem mM_L_21 : Cond.methodLink RL 21 yX9_move ∈ TB := tb_3 (List.mem_of_getElem? (i := 154) rfl) rfl
theorem mO_yX9_move : Cond.instanceMethod yX9_move ∈ TB := tb_3 (List.mem_of_getElem? (i := 155) rfl) rfl
theorem mV_yX9_move : Cond.selects RX9 yX9_move yX9_move ∈ TB := tb_3 (List.mem_of_getElem? (i := 156) rfl) rfl
theorem mC_yX9_move : Cond.code yX9_move cX9_move 4 (Option.some FieldType.int) ∈ TB := tb_3 (List.mem_of_getElem? (i := 157) rfl) rfl
theorem mM_X9_101 : Cond.methodLink RX9 101 yX9_isStreet ∈ TB := tb_3 (List.mem_of_getElem? (i := 158) rfl) rfl
theorem mO_yX9_isStreet : Cond.instanceMethod yX9_isStreet ∈ TB := tb_3 (List.mem_of_getElem? (i := 160) rfl) rfl
theorem mC_yX9_isStreet : Cond.code yX9_isStreet cX9_isStreet 2 (Option.some FieldType.boolean) ∈ TB := tb_3 (List.mem_of_getElem? (i := 161) rfl) rfl
theorem mM_L_26 : Cond.methodLink RL 26 yX9_walk ∈ TB := tb_3 (List.mem_of_getElem? (i := 162) rfl) rfl
theorem mO_yX9_walk : Cond.instanceMethod yX9_walk ∈ TB := tb_3 (List.mem_of_getElem? (i := 163) rfl) rfl
theorem mV_yX9_walk : Cond.selects RX9 yX9_walk yX9_walk ∈ TB := tb_3 (List.mem_of_getElem? (i := 164) rfl) rfl
theorem mC_yX9_walk : Cond.code yX9_walk cX9_walk 5 (Option.some FieldType.int) ∈ TB := tb_3 (List.mem_of_getElem? (i := 165) rfl) rfl
theorem mM_L_30 : Cond.methodLink RL 30 yX9_close ∈ TB := tb_3 (List.mem_of_getElem? (i := 166) rfl) rfl
theorem mO_yX9_close : Cond.instanceMethod yX9_close ∈ TB := tb_3 (List.mem_of_getElem? (i := 167) rfl) rfl
theorem mV_yX9_close : Cond.selects RX9 yX9_close yX9_close ∈ TB := tb_3 (List.mem_of_getElem? (i := 168) rfl) rfl
theorem mC_yX9_close : Cond.code yX9_close cX9_close 5 (Option.some FieldType.int) ∈ TB := tb_3 (List.mem_of_getElem? (i := 169) rfl) rfl
theorem mM_X9_104 : Cond.methodLink RX9 104 yX9_isNight ∈ TB := tb_3 (List.mem_of_getElem? (i := 170) rfl) rfl
theorem mS_yX9_isNight : Cond.static yX9_isNight ∈ TB := tb_3 (List.mem_of_getElem? (i := 171) rfl) rfl
theorem mC_yX9_isNight : Cond.code yX9_isNight cX9_isNight 1 (Option.some FieldType.boolean) ∈ TB := tb_3 (List.mem_of_getElem? (i := 172) rfl) rfl
theorem mM_L_34 : Cond.methodLink RL 34 yX9_rule ∈ TB := tb_3 (List.mem_of_getElem? (i := 173) rfl) rfl
theorem mO_yX9_rule : Cond.instanceMethod yX9_rule ∈ TB := tb_3 (List.mem_of_getElem? (i := 174) rfl) rfl
theorem mV_yX9_rule : Cond.selects RX9 yX9_rule yX9_rule ∈ TB := tb_3 (List.mem_of_getElem? (i := 175) rfl) rfl
theorem mC_yX9_rule : Cond.code yX9_rule cX9_rule 4 (Option.some FieldType.int) ∈ TB := tb_3 (List.mem_of_getElem? (i := 176) rfl) rfl
theorem mM_X9_110 : Cond.methodLink RX9 110 yX9_areHours ∈ TB := tb_3 (List.mem_of_getElem? (i := 177) rfl) rfl
theorem mS_yX9_areHours : Cond.static yX9_areHours ∈ TB := tb_3 (List.mem_of_getElem? (i := 178) rfl) rfl
theorem mC_yX9_areHours : Cond.code yX9_areHours cX9_areHours 2 (Option.some FieldType.boolean) ∈ TB := tb_3 (List.mem_of_getElem? (i := 179) rfl) rfl
theorem mM_X9_107 : Cond.methodLink RX9 107 yX9_isHour ∈ TB := tb_3 (List.mem_of_getElem? (i := 180) rfl) rfl
theorem mS_yX9_isHour : Cond.static yX9_isHour ∈ TB := tb_3 (List.mem_of_getElem? (i := 181) rfl) rfl
theorem mC_yX9_isHour : Cond.code yX9_isHour cX9_isHour 1 (Option.some FieldType.boolean) ∈ TB := tb_3 (List.mem_of_getElem? (i := 182) rfl) rfl
theorem mM_L_39 : Cond.methodLink RL 39 yX9_hours ∈ TB := tb_3 (List.mem_of_getElem? (i := 183) rfl) rfl
theorem mO_yX9_hours : Cond.instanceMethod yX9_hours ∈ TB := tb_3 (List.mem_of_getElem? (i := 184) rfl) rfl
theorem mV_yX9_hours : Cond.selects RX9 yX9_hours yX9_hours ∈ TB := tb_3 (List.mem_of_getElem? (i := 185) rfl) rfl
theorem mC_yX9_hours : Cond.code yX9_hours cX9_hours 5 (Option.some FieldType.int) ∈ TB := tb_3 (List.mem_of_getElem? (i := 186) rfl) rfl
theorem mM_X9_114 : Cond.methodLink RX9 114 yX9_isSort ∈ TB := tb_3 (List.mem_of_getElem? (i := 187) rfl) rfl
theorem mS_yX9_isSort : Cond.static yX9_isSort ∈ TB := tb_3 (List.mem_of_getElem? (i := 188) rfl) rfl
theorem mC_yX9_isSort : Cond.code yX9_isSort cX9_isSort 1 (Option.some FieldType.boolean) ∈ TB := tb_3 (List.mem_of_getElem? (i := 189) rfl) rfl
theorem mM_L_44 : Cond.methodLink RL 44 yX9_car ∈ TB := tb_3 (List.mem_of_getElem? (i := 190) rfl) rfl
theorem mO_yX9_car : Cond.instanceMethod yX9_car ∈ TB := tb_3 (List.mem_of_getElem? (i := 191) rfl) rfl
theorem mV_yX9_car : Cond.selects RX9 yX9_car yX9_car ∈ TB := tb_3 (List.mem_of_getElem? (i := 192) rfl) rfl
theorem mC_yX9_car : Cond.code yX9_car cX9_car 5 (Option.some FieldType.int) ∈ TB := tb_3 (List.mem_of_getElem? (i := 193) rfl) rfl
theorem mM_L_49 : Cond.methodLink RL 49 yX9_permit ∈ TB := tb_3 (List.mem_of_getElem? (i := 194) rfl) rfl
theorem mO_yX9_permit : Cond.instanceMethod yX9_permit ∈ TB := tb_3 (List.mem_of_getElem? (i := 195) rfl) rfl
theorem mV_yX9_permit : Cond.selects RX9 yX9_permit yX9_permit ∈ TB := tb_3 (List.mem_of_getElem? (i := 196) rfl) rfl
theorem mC_yX9_permit : Cond.code yX9_permit cX9_permit 7 (Option.some FieldType.int) ∈ TB := tb_3 (List.mem_of_getElem? (i := 197) rfl) rfl
theorem mM_X9_117 : Cond.methodLink RX9 117 yX9_isCar ∈ TB := tb_3 (List.mem_of_getElem? (i := 198) rfl) rfl
theorem mO_yX9_isCar : Cond.instanceMethod yX9_isCar ∈ TB := tb_3 (List.mem_of_getElem? (i := 200) rfl) rfl
theorem mC_yX9_isCar : Cond.code yX9_isCar cX9_isCar 2 (Option.some FieldType.boolean) ∈ TB := tb_3 (List.mem_of_getElem? (i := 201) rfl) rfl
theorem mM_L_53 : Cond.methodLink RL 53 yX9_cards ∈ TB := tb_3 (List.mem_of_getElem? (i := 202) rfl) rfl
theorem mO_yX9_cards : Cond.instanceMethod yX9_cards ∈ TB := tb_3 (List.mem_of_getElem? (i := 203) rfl) rfl
theorem mV_yX9_cards : Cond.selects RX9 yX9_cards yX9_cards ∈ TB := tb_3 (List.mem_of_getElem? (i := 204) rfl) rfl
theorem mC_yX9_cards : Cond.code yX9_cards cX9_cards 5 (Option.some FieldType.int) ∈ TB := tb_3 (List.mem_of_getElem? (i := 205) rfl) rfl
theorem mM_L_57 : Cond.methodLink RL 57 yX9_limit ∈ TB := tb_3 (List.mem_of_getElem? (i := 206) rfl) rfl
theorem mO_yX9_limit : Cond.instanceMethod yX9_limit ∈ TB := tb_3 (List.mem_of_getElem? (i := 207) rfl) rfl
theorem mV_yX9_limit : Cond.selects RX9 yX9_limit yX9_limit ∈ TB := tb_3 (List.mem_of_getElem? (i := 208) rfl) rfl
theorem mC_yX9_limit : Cond.code yX9_limit cX9_limit 4 (Option.some FieldType.int) ∈ TB := tb_3 (List.mem_of_getElem? (i := 209) rfl) rfl
theorem mM_L_61 : Cond.methodLink RL 61 yX9_late ∈ TB := tb_3 (List.mem_of_getElem? (i := 210) rfl) rfl
theorem mO_yX9_late : Cond.instanceMethod yX9_late ∈ TB := tb_3 (List.mem_of_getElem? (i := 211) rfl) rfl
theorem mV_yX9_late : Cond.selects RX9 yX9_late yX9_late ∈ TB := tb_3 (List.mem_of_getElem? (i := 212) rfl) rfl
theorem mC_yX9_late : Cond.code yX9_late cX9_late 4 (Option.some FieldType.int) ∈ TB := tb_3 (List.mem_of_getElem? (i := 213) rfl) rfl
theorem mM_L_65 : Cond.methodLink RL 65 yX9_may ∈ TB := tb_3 (List.mem_of_getElem? (i := 214) rfl) rfl
theorem mO_yX9_may : Cond.instanceMethod yX9_may ∈ TB := tb_3 (List.mem_of_getElem? (i := 215) rfl) rfl
theorem mV_yX9_may : Cond.selects RX9 yX9_may yX9_may ∈ TB := tb_3 (List.mem_of_getElem? (i := 216) rfl) rfl
theorem mC_yX9_may : Cond.code yX9_may cX9_may 4 (Option.some FieldType.int) ∈ TB := tb_3 (List.mem_of_getElem? (i := 217) rfl) rfl
theorem mM_X9_123 : Cond.methodLink RX9 123 yX9_mayIn ∈ TB := tb_3 (List.mem_of_getElem? (i := 218) rfl) rfl
theorem mO_yX9_mayIn : Cond.instanceMethod yX9_mayIn ∈ TB := tb_3 (List.mem_of_getElem? (i := 220) rfl) rfl
theorem mC_yX9_mayIn : Cond.code yX9_mayIn cX9_mayIn 7 (Option.some FieldType.int) ∈ TB := tb_3 (List.mem_of_getElem? (i := 221) rfl) rfl
theorem mM_X9_120 : Cond.methodLink RX9 120 yX9_isWithin ∈ TB := tb_3 (List.mem_of_getElem? (i := 222) rfl) rfl
theorem mS_yX9_isWithin : Cond.static yX9_isWithin ∈ TB := tb_3 (List.mem_of_getElem? (i := 223) rfl) rfl
theorem mC_yX9_isWithin : Cond.code yX9_isWithin cX9_isWithin 3 (Option.some FieldType.boolean) ∈ TB := tb_3 (List.mem_of_getElem? (i := 224) rfl) rfl
theorem mM_L_69 : Cond.methodLink RL 69 yX9_stands ∈ TB := tb_3 (List.mem_of_getElem? (i := 225) rfl) rfl
theorem mO_yX9_stands : Cond.instanceMethod yX9_stands ∈ TB := tb_3 (List.mem_of_getElem? (i := 226) rfl) rfl
theorem mV_yX9_stands : Cond.selects RX9 yX9_stands yX9_stands ∈ TB := tb_3 (List.mem_of_getElem? (i := 227) rfl) rfl
theorem mC_yX9_stands : Cond.code yX9_stands cX9_stands 5 (Option.some FieldType.int) ∈ TB := tb_3 (List.mem_of_getElem? (i := 228) rfl) rfl
theorem mM_X9_149 : Cond.methodLink RX9 149 yX9_park ∈ TB := tb_3 (List.mem_of_getElem? (i := 229) rfl) rfl
theorem mO_yX9_park : Cond.instanceMethod yX9_park ∈ TB := tb_3 (List.mem_of_getElem? (i := 231) rfl) rfl
theorem mC_yX9_park : Cond.code yX9_park cX9_park 4 (Option.none : Option FieldType) ∈ TB := tb_3 (List.mem_of_getElem? (i := 232) rfl) rfl
theorem mM_X9_143 : Cond.methodLink RX9 143 yX9_parkLeast ∈ TB := tb_3 (List.mem_of_getElem? (i := 233) rfl) rfl
theorem mO_yX9_parkLeast : Cond.instanceMethod yX9_parkLeast ∈ TB := tb_3 (List.mem_of_getElem? (i := 235) rfl) rfl
theorem mC_yX9_parkLeast : Cond.code yX9_parkLeast cX9_parkLeast 7 (Option.none : Option FieldType) ∈ TB := tb_3 (List.mem_of_getElem? (i := 236) rfl) rfl
theorem mM_X9_128 : Cond.methodLink RX9 128 yX9_begin ∈ TB := tb_3 (List.mem_of_getElem? (i := 237) rfl) rfl
theorem mO_yX9_begin : Cond.instanceMethod yX9_begin ∈ TB := tb_3 (List.mem_of_getElem? (i := 239) rfl) rfl
theorem mC_yX9_begin : Cond.code yX9_begin cX9_begin 6 (Option.none : Option FieldType) ∈ TB := tb_4 (List.mem_of_getElem? (i := 0) rfl) rfl
theorem mJ_X9_127 : Cond.constant RX9 127 (1000000 : Int32) ∈ TB := tb_4 (List.mem_of_getElem? (i := 1) rfl) rfl
theorem mM_X9_136 : Cond.methodLink RX9 136 yX9_costOf ∈ TB := tb_4 (List.mem_of_getElem? (i := 2) rfl) rfl
theorem mO_yX9_costOf : Cond.instanceMethod yX9_costOf ∈ TB := tb_4 (List.mem_of_getElem? (i := 4) rfl) rfl
theorem mC_yX9_costOf : Cond.code yX9_costOf cX9_costOf 3 (Option.some FieldType.int) ∈ TB := tb_4 (List.mem_of_getElem? (i := 5) rfl) rfl
theorem mM_X9_140 : Cond.methodLink RX9 140 yX9_mayTake ∈ TB := tb_4 (List.mem_of_getElem? (i := 6) rfl) rfl
theorem mO_yX9_mayTake : Cond.instanceMethod yX9_mayTake ∈ TB := tb_4 (List.mem_of_getElem? (i := 8) rfl) rfl
theorem mC_yX9_mayTake : Cond.code yX9_mayTake cX9_mayTake 3 (Option.some FieldType.boolean) ∈ TB := tb_4 (List.mem_of_getElem? (i := 9) rfl) rfl
theorem mM_X9_146 : Cond.methodLink RX9 146 yX9_parkNight ∈ TB := tb_4 (List.mem_of_getElem? (i := 10) rfl) rfl
theorem mO_yX9_parkNight : Cond.instanceMethod yX9_parkNight ∈ TB := tb_4 (List.mem_of_getElem? (i := 12) rfl) rfl
theorem mC_yX9_parkNight : Cond.code yX9_parkNight cX9_parkNight 4 (Option.none : Option FieldType) ∈ TB := tb_4 (List.mem_of_getElem? (i := 13) rfl) rfl
theorem mM_X9_132 : Cond.methodLink RX9 132 yX9_parkOne ∈ TB := tb_4 (List.mem_of_getElem? (i := 14) rfl) rfl
theorem mO_yX9_parkOne : Cond.instanceMethod yX9_parkOne ∈ TB := tb_4 (List.mem_of_getElem? (i := 16) rfl) rfl
theorem mC_yX9_parkOne : Cond.code yX9_parkOne cX9_parkOne 7 (Option.none : Option FieldType) ∈ TB := tb_4 (List.mem_of_getElem? (i := 17) rfl) rfl
theorem mM_L_73 : Cond.methodLink RL 73 yX9_told ∈ TB := tb_4 (List.mem_of_getElem? (i := 18) rfl) rfl
theorem mO_yX9_told : Cond.instanceMethod yX9_told ∈ TB := tb_4 (List.mem_of_getElem? (i := 19) rfl) rfl
theorem mV_yX9_told : Cond.selects RX9 yX9_told yX9_told ∈ TB := tb_4 (List.mem_of_getElem? (i := 20) rfl) rfl
theorem mC_yX9_told : Cond.code yX9_told cX9_told 5 (Option.some FieldType.int) ∈ TB := tb_4 (List.mem_of_getElem? (i := 21) rfl) rfl
theorem mM_X9_153 : Cond.methodLink RX9 153 yX9_sumOf ∈ TB := tb_4 (List.mem_of_getElem? (i := 22) rfl) rfl
theorem mO_yX9_sumOf : Cond.instanceMethod yX9_sumOf ∈ TB := tb_4 (List.mem_of_getElem? (i := 24) rfl) rfl
theorem mC_yX9_sumOf : Cond.code yX9_sumOf cX9_sumOf 5 (Option.some FieldType.int) ∈ TB := tb_4 (List.mem_of_getElem? (i := 25) rfl) rfl
theorem mM_L_77 : Cond.methodLink RL 77 yX9_keep ∈ TB := tb_4 (List.mem_of_getElem? (i := 26) rfl) rfl
theorem mO_yX9_keep : Cond.instanceMethod yX9_keep ∈ TB := tb_4 (List.mem_of_getElem? (i := 27) rfl) rfl
theorem mV_yX9_keep : Cond.selects RX9 yX9_keep yX9_keep ∈ TB := tb_4 (List.mem_of_getElem? (i := 28) rfl) rfl
theorem mC_yX9_keep : Cond.code yX9_keep cX9_keep 5 (Option.some FieldType.int) ∈ TB := tb_4 (List.mem_of_getElem? (i := 29) rfl) rfl
theorem mM_L_82 : Cond.methodLink RL 82 yX9_moved ∈ TB := tb_4 (List.mem_of_getElem? (i := 30) rfl) rfl
theorem mO_yX9_moved : Cond.instanceMethod yX9_moved ∈ TB := tb_4 (List.mem_of_getElem? (i := 31) rfl) rfl
theorem mV_yX9_moved : Cond.selects RX9 yX9_moved yX9_moved ∈ TB := tb_4 (List.mem_of_getElem? (i := 32) rfl) rfl
theorem mC_yX9_moved : Cond.code yX9_moved cX9_moved 8 (Option.some FieldType.int) ∈ TB := tb_4 (List.mem_of_getElem? (i := 33) rfl) rfl
theorem mM_L_86 : Cond.methodLink RL 86 yX9_gain ∈ TB := tb_4 (List.mem_of_getElem? (i := 34) rfl) rfl
theorem mO_yX9_gain : Cond.instanceMethod yX9_gain ∈ TB := tb_4 (List.mem_of_getElem? (i := 35) rfl) rfl
theorem mV_yX9_gain : Cond.selects RX9 yX9_gain yX9_gain ∈ TB := tb_4 (List.mem_of_getElem? (i := 36) rfl) rfl
theorem mC_yX9_gain : Cond.code yX9_gain cX9_gain 4 (Option.some FieldType.int) ∈ TB := tb_4 (List.mem_of_getElem? (i := 37) rfl) rfl
theorem mM_L_90 : Cond.methodLink RL 90 yX9_fine ∈ TB := tb_4 (List.mem_of_getElem? (i := 38) rfl) rfl
theorem mO_yX9_fine : Cond.instanceMethod yX9_fine ∈ TB := tb_4 (List.mem_of_getElem? (i := 39) rfl) rfl
theorem mV_yX9_fine : Cond.selects RX9 yX9_fine yX9_fine ∈ TB := tb_4 (List.mem_of_getElem? (i := 40) rfl) rfl
theorem mC_yX9_fine : Cond.code yX9_fine cX9_fine 3 (Option.some FieldType.int) ∈ TB := tb_4 (List.mem_of_getElem? (i := 41) rfl) rfl
theorem mM_L_94 : Cond.methodLink RL 94 yX9_turn ∈ TB := tb_4 (List.mem_of_getElem? (i := 42) rfl) rfl
theorem mO_yX9_turn : Cond.instanceMethod yX9_turn ∈ TB := tb_4 (List.mem_of_getElem? (i := 43) rfl) rfl
theorem mV_yX9_turn : Cond.selects RX9 yX9_turn yX9_turn ∈ TB := tb_4 (List.mem_of_getElem? (i := 44) rfl) rfl
theorem mC_yX9_turn : Cond.code yX9_turn cX9_turn 3 (Option.some FieldType.int) ∈ TB := tb_4 (List.mem_of_getElem? (i := 45) rfl) rfl
theorem mM_X9_166 : Cond.methodLink RX9 166 yX9_findStake ∈ TB := tb_4 (List.mem_of_getElem? (i := 46) rfl) rfl
theorem mO_yX9_findStake : Cond.instanceMethod yX9_findStake ∈ TB := tb_4 (List.mem_of_getElem? (i := 48) rfl) rfl
theorem mC_yX9_findStake : Cond.code yX9_findStake cX9_findStake 5 (Option.none : Option FieldType) ∈ TB := tb_4 (List.mem_of_getElem? (i := 49) rfl) rfl
theorem mM_X9_169 : Cond.methodLink RX9 169 yX9_part ∈ TB := tb_4 (List.mem_of_getElem? (i := 50) rfl) rfl
theorem mS_yX9_part : Cond.static yX9_part ∈ TB := tb_4 (List.mem_of_getElem? (i := 51) rfl) rfl
theorem mC_yX9_part : Cond.code yX9_part cX9_part 3 (Option.some FieldType.int) ∈ TB := tb_4 (List.mem_of_getElem? (i := 52) rfl) rfl
theorem mM_X9_163 : Cond.methodLink RX9 163 yX9_common ∈ TB := tb_4 (List.mem_of_getElem? (i := 53) rfl) rfl
theorem mS_yX9_common : Cond.static yX9_common ∈ TB := tb_4 (List.mem_of_getElem? (i := 54) rfl) rfl
theorem mC_yX9_common : Cond.code yX9_common cX9_common 5 (Option.some FieldType.int) ∈ TB := tb_4 (List.mem_of_getElem? (i := 55) rfl) rfl
theorem mM_L_98 : Cond.methodLink RL 98 yX9_stake ∈ TB := tb_4 (List.mem_of_getElem? (i := 56) rfl) rfl
theorem mO_yX9_stake : Cond.instanceMethod yX9_stake ∈ TB := tb_4 (List.mem_of_getElem? (i := 57) rfl) rfl
theorem mV_yX9_stake : Cond.selects RX9 yX9_stake yX9_stake ∈ TB := tb_4 (List.mem_of_getElem? (i := 58) rfl) rfl
theorem mC_yX9_stake : Cond.code yX9_stake cX9_stake 2 (Option.some FieldType.int) ∈ TB := tb_4 (List.mem_of_getElem? (i := 59) rfl) rfl
theorem mM_L_102 : Cond.methodLink RL 102 yX9_ticket ∈ TB := tb_4 (List.mem_of_getElem? (i := 60) rfl) rfl
theorem mO_yX9_ticket : Cond.instanceMethod yX9_ticket ∈ TB := tb_4 (List.mem_of_getElem? (i := 61) rfl) rfl
theorem mV_yX9_ticket : Cond.selects RX9 yX9_ticket yX9_ticket ∈ TB := tb_4 (List.mem_of_getElem? (i := 62) rfl) rfl
theorem mC_yX9_ticket : Cond.code yX9_ticket cX9_ticket 5 (Option.some FieldType.int) ∈ TB := tb_4 (List.mem_of_getElem? (i := 63) rfl) rfl
theorem mM_L_106 : Cond.methodLink RL 106 yX9_of ∈ TB := tb_4 (List.mem_of_getElem? (i := 64) rfl) rfl
theorem mO_yX9_of : Cond.instanceMethod yX9_of ∈ TB := tb_4 (List.mem_of_getElem? (i := 65) rfl) rfl
theorem mV_yX9_of : Cond.selects RX9 yX9_of yX9_of ∈ TB := tb_4 (List.mem_of_getElem? (i := 66) rfl) rfl
theorem mC_yX9_of : Cond.code yX9_of cX9_of 3 (Option.some FieldType.int) ∈ TB := tb_4 (List.mem_of_getElem? (i := 67) rfl) rfl
theorem mM_X9_175 : Cond.methodLink RX9 175 yX9_judged ∈ TB := tb_4 (List.mem_of_getElem? (i := 68) rfl) rfl
theorem mO_yX9_judged : Cond.instanceMethod yX9_judged ∈ TB := tb_4 (List.mem_of_getElem? (i := 70) rfl) rfl
theorem mC_yX9_judged : Cond.code yX9_judged cX9_judged 2 (Option.some FieldType.int) ∈ TB := tb_4 (List.mem_of_getElem? (i := 71) rfl) rfl
theorem mM_X9_181 : Cond.methodLink RX9 181 yX9_byLikes ∈ TB := tb_4 (List.mem_of_getElem? (i := 72) rfl) rfl
theorem mO_yX9_byLikes : Cond.instanceMethod yX9_byLikes ∈ TB := tb_4 (List.mem_of_getElem? (i := 74) rfl) rfl
theorem mC_yX9_byLikes : Cond.code yX9_byLikes cX9_byLikes 4 (Option.some FieldType.int) ∈ TB := tb_4 (List.mem_of_getElem? (i := 75) rfl) rfl
theorem mM_X9_178 : Cond.methodLink RX9 178 yX9_likes ∈ TB := tb_4 (List.mem_of_getElem? (i := 76) rfl) rfl
theorem mO_yX9_likes : Cond.instanceMethod yX9_likes ∈ TB := tb_4 (List.mem_of_getElem? (i := 78) rfl) rfl
theorem mC_yX9_likes : Cond.code yX9_likes cX9_likes 5 (Option.some FieldType.int) ∈ TB := tb_4 (List.mem_of_getElem? (i := 79) rfl) rfl
theorem mM_L_110 : Cond.methodLink RL 110 yX9_many ∈ TB := tb_4 (List.mem_of_getElem? (i := 80) rfl) rfl
theorem mO_yX9_many : Cond.instanceMethod yX9_many ∈ TB := tb_4 (List.mem_of_getElem? (i := 81) rfl) rfl
theorem mV_yX9_many : Cond.selects RX9 yX9_many yX9_many ∈ TB := tb_4 (List.mem_of_getElem? (i := 82) rfl) rfl
theorem mC_yX9_many : Cond.code yX9_many cX9_many 2 (Option.some FieldType.int) ∈ TB := tb_4 (List.mem_of_getElem? (i := 83) rfl) rfl
theorem mM_X9_184 : Cond.methodLink RX9 184 yX9_ticketsThat ∈ TB := tb_4 (List.mem_of_getElem? (i := 84) rfl) rfl
theorem mO_yX9_ticketsThat : Cond.instanceMethod yX9_ticketsThat ∈ TB := tb_4 (List.mem_of_getElem? (i := 86) rfl) rfl
theorem mC_yX9_ticketsThat : Cond.code yX9_ticketsThat cX9_ticketsThat 4 (Option.some FieldType.int) ∈ TB := tb_4 (List.mem_of_getElem? (i := 87) rfl) rfl
theorem mM_X9_187 : Cond.methodLink RX9 187 yX9_allBays ∈ TB := tb_4 (List.mem_of_getElem? (i := 88) rfl) rfl
theorem mO_yX9_allBays : Cond.instanceMethod yX9_allBays ∈ TB := tb_4 (List.mem_of_getElem? (i := 90) rfl) rfl
theorem mC_yX9_allBays : Cond.code yX9_allBays cX9_allBays 3 (Option.some FieldType.int) ∈ TB := tb_4 (List.mem_of_getElem? (i := 91) rfl) rfl
theorem mM_X9_191 : Cond.methodLink RX9 191 yX9_allCards ∈ TB := tb_4 (List.mem_of_getElem? (i := 92) rfl) rfl
theorem mO_yX9_allCards : Cond.instanceMethod yX9_allCards ∈ TB := tb_4 (List.mem_of_getElem? (i := 94) rfl) rfl
theorem mC_yX9_allCards : Cond.code yX9_allCards cX9_allCards 3 (Option.some FieldType.int) ∈ TB := tb_4 (List.mem_of_getElem? (i := 95) rfl) rfl
theorem mV_yX8_isStreet : Cond.selects RX8 yX8_isStreet yX8_isStreet ∈ TB := tb_in (List.mem_append_left _ (show _ ∈ k2_sels lw_privs from List.mem_of_getElem? (i := 0) rfl)) rfl
theorem mV_yX8_isCar : Cond.selects RX8 yX8_isCar yX8_isCar ∈ TB := tb_in (List.mem_append_left _ (show _ ∈ k2_sels lw_privs from List.mem_of_getElem? (i := 1) rfl)) rfl
theorem mV_yX2_openBays : Cond.selects RX2 yX2_openBays yX2_openBays ∈ TB := tb_in (List.mem_append_left _ (show _ ∈ k2_sels lw_privs from List.mem_of_getElem? (i := 2) rfl)) rfl
theorem mV_yX2_readRights : Cond.selects RX2 yX2_readRights yX2_readRights ∈ TB := tb_in (List.mem_append_left _ (show _ ∈ k2_sels lw_privs from List.mem_of_getElem? (i := 3) rfl)) rfl
theorem mV_yX2_layLeast : Cond.selects RX2 yX2_layLeast yX2_layLeast ∈ TB := tb_in (List.mem_append_left _ (show _ ∈ k2_sels lw_privs from List.mem_of_getElem? (i := 4) rfl)) rfl
theorem mV_yX2_isWithin : Cond.selects RX2 yX2_isWithin yX2_isWithin ∈ TB := tb_in (List.mem_append_left _ (show _ ∈ k2_sels lw_privs from List.mem_of_getElem? (i := 5) rfl)) rfl
theorem mV_yX2_walkTo : Cond.selects RX2 yX2_walkTo yX2_walkTo ∈ TB := tb_in (List.mem_append_left _ (show _ ∈ k2_sels lw_privs from List.mem_of_getElem? (i := 6) rfl)) rfl
theorem mV_yX1_startAt : Cond.selects RX1 yX1_startAt yX1_startAt ∈ TB := tb_in (List.mem_append_left _ (show _ ∈ k2_sels lw_privs from List.mem_of_getElem? (i := 7) rfl)) rfl
theorem mV_yX1_passOn : Cond.selects RX1 yX1_passOn yX1_passOn ∈ TB := tb_in (List.mem_append_left _ (show _ ∈ k2_sels lw_privs from List.mem_of_getElem? (i := 8) rfl)) rfl
theorem mV_yX1_cheapestEnd : Cond.selects RX1 yX1_cheapestEnd yX1_cheapestEnd ∈ TB := tb_in (List.mem_append_left _ (show _ ∈ k2_sels lw_privs from List.mem_of_getElem? (i := 9) rfl)) rfl
theorem mV_yX1_shift : Cond.selects RX1 yX1_shift yX1_shift ∈ TB := tb_in (List.mem_append_left _ (show _ ∈ k2_sels lw_privs from List.mem_of_getElem? (i := 10) rfl)) rfl
theorem mV_yX2_comeHome : Cond.selects RX2 yX2_comeHome yX2_comeHome ∈ TB := tb_in (List.mem_append_left _ (show _ ∈ k2_sels lw_privs from List.mem_of_getElem? (i := 11) rfl)) rfl
theorem mV_yX2_choose : Cond.selects RX2 yX2_choose yX2_choose ∈ TB := tb_in (List.mem_append_left _ (show _ ∈ k2_sels lw_privs from List.mem_of_getElem? (i := 12) rfl)) rfl
theorem mV_yX2_isBetter : Cond.selects RX2 yX2_isBetter yX2_isBetter ∈ TB := tb_in (List.mem_append_left _ (show _ ∈ k2_sels lw_privs from List.mem_of_getElem? (i := 13) rfl)) rfl
theorem mV_yX2_tellOne : Cond.selects RX2 yX2_tellOne yX2_tellOne ∈ TB := tb_in (List.mem_append_left _ (show _ ∈ k2_sels lw_privs from List.mem_of_getElem? (i := 14) rfl)) rfl
theorem mV_yX2_standsByCard : Cond.selects RX2 yX2_standsByCard yX2_standsByCard ∈ TB := tb_in (List.mem_append_left _ (show _ ∈ k2_sels lw_privs from List.mem_of_getElem? (i := 15) rfl)) rfl
theorem mV_yX5_isSameZoneAndHour : Cond.selects RX5 yX5_isSameZoneAndHour yX5_isSameZoneAndHour ∈ TB := tb_in (List.mem_append_left _ (show _ ∈ k2_sels lw_privs from List.mem_of_getElem? (i := 16) rfl)) rfl
theorem mV_yX9_isStreet : Cond.selects RX9 yX9_isStreet yX9_isStreet ∈ TB := tb_in (List.mem_append_left _ (show _ ∈ k2_sels lw_privs from List.mem_of_getElem? (i := 17) rfl)) rfl
theorem mV_yX9_isCar : Cond.selects RX9 yX9_isCar yX9_isCar ∈ TB := tb_in (List.mem_append_left _ (show _ ∈ k2_sels lw_privs from List.mem_of_getElem? (i := 18) rfl)) rfl
theorem mV_yX9_mayIn : Cond.selects RX9 yX9_mayIn yX9_mayIn ∈ TB := tb_in (List.mem_append_left _ (show _ ∈ k2_sels lw_privs from List.mem_of_getElem? (i := 19) rfl)) rfl
theorem mV_yX9_park : Cond.selects RX9 yX9_park yX9_park ∈ TB := tb_in (List.mem_append_left _ (show _ ∈ k2_sels lw_privs from List.mem_of_getElem? (i := 20) rfl)) rfl
theorem mV_yX9_parkLeast : Cond.selects RX9 yX9_parkLeast yX9_parkLeast ∈ TB := tb_in (List.mem_append_left _ (show _ ∈ k2_sels lw_privs from List.mem_of_getElem? (i := 21) rfl)) rfl
theorem mV_yX9_begin : Cond.selects RX9 yX9_begin yX9_begin ∈ TB := tb_in (List.mem_append_left _ (show _ ∈ k2_sels lw_privs from List.mem_of_getElem? (i := 22) rfl)) rfl
theorem mV_yX9_costOf : Cond.selects RX9 yX9_costOf yX9_costOf ∈ TB := tb_in (List.mem_append_left _ (show _ ∈ k2_sels lw_privs from List.mem_of_getElem? (i := 23) rfl)) rfl
theorem mV_yX9_mayTake : Cond.selects RX9 yX9_mayTake yX9_mayTake ∈ TB := tb_in (List.mem_append_left _ (show _ ∈ k2_sels lw_privs from List.mem_of_getElem? (i := 24) rfl)) rfl
theorem mV_yX9_parkNight : Cond.selects RX9 yX9_parkNight yX9_parkNight ∈ TB := tb_in (List.mem_append_left _ (show _ ∈ k2_sels lw_privs from List.mem_of_getElem? (i := 25) rfl)) rfl
theorem mV_yX9_parkOne : Cond.selects RX9 yX9_parkOne yX9_parkOne ∈ TB := tb_in (List.mem_append_left _ (show _ ∈ k2_sels lw_privs from List.mem_of_getElem? (i := 26) rfl)) rfl
theorem mV_yX9_sumOf : Cond.selects RX9 yX9_sumOf yX9_sumOf ∈ TB := tb_in (List.mem_append_left _ (show _ ∈ k2_sels lw_privs from List.mem_of_getElem? (i := 27) rfl)) rfl
theorem mV_yX9_findStake : Cond.selects RX9 yX9_findStake yX9_findStake ∈ TB := tb_in (List.mem_append_left _ (show _ ∈ k2_sels lw_privs from List.mem_of_getElem? (i := 28) rfl)) rfl
theorem mV_yX9_judged : Cond.selects RX9 yX9_judged yX9_judged ∈ TB := tb_in (List.mem_append_left _ (show _ ∈ k2_sels lw_privs from List.mem_of_getElem? (i := 29) rfl)) rfl
theorem mV_yX9_byLikes : Cond.selects RX9 yX9_byLikes yX9_byLikes ∈ TB := tb_in (List.mem_append_left _ (show _ ∈ k2_sels lw_privs from List.mem_of_getElem? (i := 30) rfl)) rfl
theorem mV_yX9_likes : Cond.selects RX9 yX9_likes yX9_likes ∈ TB := tb_in (List.mem_append_left _ (show _ ∈ k2_sels lw_privs from List.mem_of_getElem? (i := 31) rfl)) rfl
theorem mV_yX9_ticketsThat : Cond.selects RX9 yX9_ticketsThat yX9_ticketsThat ∈ TB := tb_in (List.mem_append_left _ (show _ ∈ k2_sels lw_privs from List.mem_of_getElem? (i := 32) rfl)) rfl
theorem mV_yX9_allBays : Cond.selects RX9 yX9_allBays yX9_allBays ∈ TB := tb_in (List.mem_append_left _ (show _ ∈ k2_sels lw_privs from List.mem_of_getElem? (i := 33) rfl)) rfl
theorem mV_yX9_allCards : Cond.selects RX9 yX9_allCards yX9_allCards ∈ TB := tb_in (List.mem_append_left _ (show _ ∈ k2_sels lw_privs from List.mem_of_getElem? (i := 34) rfl)) rfl
theorem inX0 : ∀ w ∈ wsX00, w ∈ TB := fun w h => by
  obtain ⟨k, hk, rfl⟩ := List.mem_map.mp h
  have hk := List.mem_range.mp hk
  rcases (show k = 0 ∨ k = 1 ∨ k = 2 ∨ k = 3 ∨ k = 4 ∨ k = 5 ∨ k = 6 by omega) with rfl | rfl | rfl | rfl | rfl | rfl | rfl
  · exact mL_X0_zones
  · exact mL_X0_count
  · exact mL_X0_home
  · exact mL_X0_limit
  · exact mL_X0_permits
  · exact mL_X0_cards
  · exact mL_X0_order
theorem inX1 : ∀ w ∈ wsX10, w ∈ TB := fun w h => by
  obtain ⟨k, hk, rfl⟩ := List.mem_map.mp h
  have hk := List.mem_range.mp hk
  rcases (show k = 0 ∨ k = 1 ∨ k = 2 by omega) with rfl | rfl | rfl
  · exact mL_X1_price
  · exact mL_X1_reach
  · exact mL_X1_comer
theorem inX2 : ∀ w ∈ wsX20, w ∈ TB := fun w h => by
  obtain ⟨k, hk, rfl⟩ := List.mem_map.mp h
  have hk := List.mem_range.mp hk
  rcases (show k = 0 ∨ k = 1 ∨ k = 2 ∨ k = 3 ∨ k = 4 ∨ k = 5 by omega) with rfl | rfl | rfl | rfl | rfl | rfl
  · exact mL_X2_streets
  · exact mL_X2_cars
  · exact mL_X2_place
  · exact mL_X2_right
  · exact mL_X2_left
  · exact mL_X2_cheapest
theorem inX3 : ∀ w ∈ wsX30, w ∈ TB := fun w h => by
  obtain ⟨k, hk, rfl⟩ := List.mem_map.mp h
  have hk := List.mem_range.mp hk
  rcases (show k = 0 ∨ k = 1 by omega) with rfl | rfl
  · exact mL_X3_above
  · exact mL_X3_below
theorem inX4 : ∀ w ∈ wsX40, w ∈ TB := fun w h => by
  obtain ⟨k, hk, rfl⟩ := List.mem_map.mp h
  have hk := List.mem_range.mp hk
  rcases (show k = 0 ∨ k = 1 ∨ k = 2 ∨ k = 3 ∨ k = 4 ∨ k = 5 by omega) with rfl | rfl | rfl | rfl | rfl | rfl
  · exact mL_X4_count
  · exact mL_X4_zone
  · exact mL_X4_bays
  · exact mL_X4_closed
  · exact mL_X4_walk
  · exact mL_X4_gain
theorem inX5 : ∀ w ∈ wsX50, w ∈ TB := fun w h => by
  obtain ⟨k, hk, rfl⟩ := List.mem_map.mp h
  have hk := List.mem_range.mp hk
  rcases (show k = 0 ∨ k = 1 by omega) with rfl | rfl
  · exact mL_X5_count
  · exact mL_X5_row
theorem inX6 : ∀ w ∈ wsX60, w ∈ TB := fun w h => by
  obtain ⟨k, hk, rfl⟩ := List.mem_map.mp h
  have hk := List.mem_range.mp hk
  rcases (show k = 0 ∨ k = 1 by omega) with rfl | rfl
  · exact mL_X6_streets
  · exact mL_X6_fine
theorem inX7 : ∀ w ∈ wsX70, w ∈ TB := fun w h => by
  obtain ⟨k, hk, rfl⟩ := List.mem_map.mp h
  have hk := List.mem_range.mp hk
  rcases (show k = 0 ∨ k = 1 by omega) with rfl | rfl
  · exact mL_X7_ruled
  · exact mL_X7_good
theorem inX8 : ∀ w ∈ wsX80, w ∈ TB := fun w h => by
  obtain ⟨k, hk, rfl⟩ := List.mem_map.mp h
  have hk := List.mem_range.mp hk
  rcases (show k = 0 ∨ k = 1 ∨ k = 2 ∨ k = 3 ∨ k = 4 ∨ k = 5 by omega) with rfl | rfl | rfl | rfl | rfl | rfl
  · exact mL_X8_zones
  · exact mL_X8_streets
  · exact mL_X8_cars
  · exact mL_X8_laying
  · exact mL_X8_wardens
  · exact mL_X8_tickets
theorem inX9 : ∀ w ∈ wsX90, w ∈ TB := fun w h => by
  obtain ⟨k, hk, rfl⟩ := List.mem_map.mp h
  have hk := List.mem_range.mp hk
  rcases (show k = 0 ∨ k = 1 ∨ k = 2 ∨ k = 3 ∨ k = 4 ∨ k = 5 ∨ k = 6 ∨ k = 7 ∨ k = 8 ∨ k = 9 ∨ k = 10 ∨ k = 11 ∨ k = 12 ∨ k = 13 ∨ k = 14 ∨ k = 15 ∨ k = 16 ∨ k = 17 ∨ k = 18 ∨ k = 19 ∨ k = 20 ∨ k = 21 ∨ k = 22 ∨ k = 23 ∨ k = 24 ∨ k = 25 ∨ k = 26 ∨ k = 27 ∨ k = 28 ∨ k = 29 by omega) with rfl | rfl | rfl | rfl | rfl | rfl | rfl | rfl | rfl | rfl | rfl | rfl | rfl | rfl | rfl | rfl | rfl | rfl | rfl | rfl | rfl | rfl | rfl | rfl | rfl | rfl | rfl | rfl | rfl | rfl
  · exact mL_X9_streets
  · exact mL_X9_zoneOf
  · exact mL_X9_bays
  · exact mL_X9_closed
  · exact mL_X9_walks
  · exact mL_X9_gains
  · exact mL_X9_cars
  · exact mL_X9_homes
  · exact mL_X9_permits
  · exact mL_X9_cards
  · exact mL_X9_limits
  · exact mL_X9_order
  · exact mL_X9_ruledFrom
  · exact mL_X9_ruledTo
  · exact mL_X9_goodFrom
  · exact mL_X9_goodTo
  · exact mL_X9_fine
  · exact mL_X9_tickets
  · exact mL_X9_ticketCar
  · exact mL_X9_ticketStreet
  · exact mL_X9_ticketHour
  · exact mL_X9_ticketSign
  · exact mL_X9_ticketZone
  · exact mL_X9_ticketMay
  · exact mL_X9_stand
  · exact mL_X9_best
  · exact mL_X9_free
  · exact mL_X9_mayAt
  · exact mL_X9_above
  · exact mL_X9_below
end
section
/-! the memory: whole numbers by place and index; longs likewise; the cells by their places -/
abbrev pd_M : Type := (Nat → Nat → Int32) × (Nat → Nat → Int64)
abbrev pd_G : Type := (Nat → Nat) × (Nat → ClassId)
def pd_KT : List (Nat × Nat × Nat × List Nat) := [(5, 8, 0, [2, 3, 4, 5, 6, 7]), (5, 7, 0, [10, 11]), (5, 4, 0, [0, 16, 17, 18, 24, 30]), (5, 0, 0, [2, 0, 31, 32, 33, 34, 42]), (5, 2, 0, [3, 4, 43, 44, 52, 8]), (5, 6, 0, [3, 0]), (5, 5, 0, [0, 63]), (5, 1, 0, [53, 61, 62]), (5, 9, 0, [0, 84, 85, 86, 87, 88, 0, 89, 90, 91, 92, 93, 94, 95, 96, 97, 0, 0, 98, 99, 100, 101, 102, 103, 104, 105, 106, 107, 0, 0]), (0, 4, 0, []), (3, 4, 11, []), (0, 3, 0, []), (0, 3, 0, []), (0, 3, 0, []), (0, 3, 0, []), (0, 5, 0, []), (0, 5, 0, []), (3, 5, 18, []), (0, 7, 0, []), (0, 7, 0, []), (0, 7, 0, []), (0, 7, 0, []), (0, 7, 0, []), (3, 5, 24, []), (0, 5, 0, []), (0, 5, 0, []), (0, 5, 0, []), (0, 5, 0, []), (0, 5, 0, []), (0, 5, 0, []), (0, 7, 0, []), (0, 7, 0, []), (0, 7, 0, []), (3, 7, 34, []), (0, 4, 0, []), (0, 4, 0, []), (0, 4, 0, []), (0, 4, 0, []), (0, 4, 0, []), (0, 4, 0, []), (0, 4, 0, []), (0, 7, 0, []), (0, 7, 0, []), (3, 7, 44, []), (0, 5, 0, []), (0, 5, 0, []), (0, 5, 0, []), (0, 5, 0, []), (0, 5, 0, []), (0, 5, 0, []), (0, 5, 0, []), (0, 6, 0, []), (4, 7, 53, []), (1, 6, 0, []), (1, 6, 0, []), (1, 6, 0, []), (1, 6, 0, []), (1, 6, 0, []), (1, 6, 0, []), (1, 6, 0, []), (1, 6, 0, []), (0, 6, 0, []), (3, 20, 63, []), (0, 6, 0, []), (0, 6, 0, []), (0, 6, 0, []), (0, 6, 0, []), (0, 6, 0, []), (0, 6, 0, []), (0, 6, 0, []), (0, 6, 0, []), (0, 6, 0, []), (0, 6, 0, []), (0, 6, 0, []), (0, 6, 0, []), (0, 6, 0, []), (0, 6, 0, []), (0, 6, 0, []), (0, 6, 0, []), (0, 6, 0, []), (0, 6, 0, []), (0, 6, 0, []), (0, 6, 0, []), (0, 5, 0, []), (0, 5, 0, []), (0, 35, 0, []), (0, 25, 0, []), (0, 5, 0, []), (0, 7, 0, []), (2, 84, 0, []), (0, 28, 0, []), (0, 7, 0, []), (0, 7, 0, []), (0, 4, 0, []), (0, 4, 0, []), (0, 12, 0, []), (0, 12, 0, []), (0, 20, 0, []), (0, 20, 0, []), (0, 20, 0, []), (0, 20, 0, []), (0, 20, 0, []), (0, 20, 0, []), (0, 7, 0, []), (0, 7, 0, []), (0, 5, 0, []), (0, 35, 0, [])]
def pd_kind (k : Nat) : Nat × Nat × Nat × List Nat := pd_KT.getD k (9, 0, 0, [])
def pd_fv (g : pd_G) (r : Nat → Int32) : Nat → List Nat → List Value
  | _, [] => []
  | j, q :: fs => (match q with
    | 0 => Value.int (r j)
    | k + 1 => Value.ref (g.1 k)) :: pd_fv g r (j + 1) fs
def pd_cell (g : pd_G) (M : pd_M) (k : Nat) : va_E := match pd_kind k with
  | (0, n, _, _) => .inl (g.2 0, n, .inl (M.1 k))
  | (1, n, _, _) => .inl (g.2 1, n, .inr (.inl (M.2 k)))
  | (2, n, _, _) => .inl (g.2 2, n, .inl (M.1 k))
  | (3, n, b, _) => .inl (g.2 3, n, .inr (.inr (.inr (.inr (fun i => if i < n then some (g.1 (b + i)) else none)))))
  | (4, n, b, _) => .inl (g.2 4, n, .inr (.inr (.inr (.inr (fun i => if i < n then some (g.1 (b + i)) else none)))))
  | (_, c, _, fs) => .inr (c, pd_fv g (M.1 k) 0 fs)
abbrev pd_N : Nat := 107
def pd_WL (g : pd_G) (M : pd_M) : va_W := (List.range pd_N).map (fun k => (g.1 k, pd_cell g M k))
abbrev pd_ty (g : pd_G) : List (ClassId × FieldType) := [(g.2 0, .int), (g.2 1, .long), (g.2 2, .boolean), (g.2 3, .array .int), (g.2 4, .array .long)]
def sI (M : pd_M) (k i : Nat) (v : Int32) : pd_M := (va_up M.1 k (upd (M.1 k) i v), M.2)
def sJ (M : pd_M) (k i : Nat) (v : Int64) : pd_M := (M.1, va_up M.2 k (vp_updL (M.2 k) i v))
theorem sI_at (M : pd_M) (k i : Nat) (v : Int32) (k' i' : Nat) : (sI M k i v).1 k' i' = if k' = k ∧ i' = i then v else M.1 k' i' := by
  by_cases h : k' = k
  · subst h
    by_cases hi : i' = i
    · subst hi; simp [sI, va_up, upd]
    · simp [sI, va_up, upd, hi]
  · simp [sI, va_up, h]
theorem sI_2 (M : pd_M) (k i : Nat) (v : Int32) : (sI M k i v).2 = M.2 := rfl
theorem sJ_1 (M : pd_M) (k i : Nat) (v : Int64) : (sJ M k i v).1 = M.1 := rfl
theorem sJ_at (M : pd_M) (k i : Nat) (v : Int64) (k' i' : Nat) : (sJ M k i v).2 k' i' = if k' = k ∧ i' = i then v else M.2 k' i' := by
  by_cases h : k' = k
  · subst h
    by_cases hi : i' = i
    · subst hi; simp [sJ, va_up, vp_updL]
    · simp [sJ, va_up, vp_updL, hi]
  · simp [sJ, va_up, h]
theorem pd_cell_congr {g : pd_G} {M M' : pd_M} {k : Nat} (h1 : M'.1 k = M.1 k) (h2 : M'.2 k = M.2 k) : pd_cell g M' k = pd_cell g M k := by
  unfold pd_cell
  rw [h1, h2]
theorem pd_cell_0 {g : pd_G} {M : pd_M} {k n b : Nat} {fs : List Nat} (h : pd_kind k = (0, n, b, fs)) : pd_cell g M k = .inl (g.2 0, n, .inl (M.1 k)) := by
  unfold pd_cell; rw [h]; rfl
theorem pd_cell_1 {g : pd_G} {M : pd_M} {k n b : Nat} {fs : List Nat} (h : pd_kind k = (1, n, b, fs)) : pd_cell g M k = .inl (g.2 1, n, .inr (.inl (M.2 k))) := by
  unfold pd_cell; rw [h]; rfl
theorem pd_cell_2 {g : pd_G} {M : pd_M} {k n b : Nat} {fs : List Nat} (h : pd_kind k = (2, n, b, fs)) : pd_cell g M k = .inl (g.2 2, n, .inl (M.1 k)) := by
  unfold pd_cell; rw [h]; rfl
theorem pd_cell_3 {g : pd_G} {M : pd_M} {k n b : Nat} {fs : List Nat} (h : pd_kind k = (3, n, b, fs)) : pd_cell g M k = .inl (g.2 3, n, .inr (.inr (.inr (.inr (fun i => if i < n then some (g.1 (b + i)) else none))))) := by
  unfold pd_cell; rw [h]; rfl
theorem pd_cell_4 {g : pd_G} {M : pd_M} {k n b : Nat} {fs : List Nat} (h : pd_kind k = (4, n, b, fs)) : pd_cell g M k = .inl (g.2 4, n, .inr (.inr (.inr (.inr (fun i => if i < n then some (g.1 (b + i)) else none))))) := by
  unfold pd_cell; rw [h]; rfl
theorem pd_cell_5 {g : pd_G} {M : pd_M} {k c b : Nat} {fs : List Nat} (h : pd_kind k = (5, c, b, fs)) : pd_cell g M k = .inr (c, pd_fv g (M.1 k) 0 fs) := by
  unfold pd_cell; rw [h]; rfl
theorem pd_kN {k t n b : Nat} {fs : List Nat} (h : pd_kind k = (t, n, b, fs)) (ht : t < 9) : k < pd_N := by
  rcases Nat.lt_or_ge k pd_N with q | q
  · exact q
  · have e : pd_kind k = (9, 0, 0, []) := by
      unfold pd_kind
      rw [List.getD_eq_getElem?_getD, List.getElem?_eq_none (by exact q)]; rfl
    rw [e] at h
    cases h
    omega
theorem pd_len (g : pd_G) (M : pd_M) : (pd_WL g M).length = pd_N := by simp [pd_WL]
theorem pd_at {g : pd_G} {M : pd_M} {X : va_W} {k : Nat} (hk : k < pd_N) : (pd_WL g M ++ X)[k]? = some (g.1 k, pd_cell g M k) := by
  rw [List.getElem?_append_left (by rw [pd_len]; exact hk)]
  unfold pd_WL
  rw [List.getElem?_map, List.getElem?_range hk]
  rfl
theorem pd_set {g : pd_G} {M M' : pd_M} {X : va_W} {k : Nat} {e : va_E} (hk : k < pd_N) (h1 : pd_cell g M' k = e) (h2 : ∀ j, j ≠ k → pd_cell g M' j = pd_cell g M j) : (pd_WL g M ++ X).set k (g.1 k, e) = pd_WL g M' ++ X := by
  apply List.ext_getElem?
  intro i
  by_cases hi : i < pd_N
  · rw [pd_at hi]
    by_cases e1 : i = k
    · subst e1
      rw [List.getElem?_set_self (by rw [List.length_append, pd_len]; omega), h1]
    · rw [List.getElem?_set_ne (Ne.symm e1), pd_at hi, h2 i e1]
  · rw [List.getElem?_set_ne (by omega), List.getElem?_append_right (by rw [pd_len]; omega), List.getElem?_append_right (by rw [pd_len]; omega), pd_len, pd_len]
theorem pd_setI {g : pd_G} {M : pd_M} {X : va_W} {k i : Nat} {v : Int32} {e : va_E} (hk : k < pd_N) (h1 : pd_cell g (sI M k i v) k = e) : (pd_WL g M ++ X).set k (g.1 k, e) = pd_WL g (sI M k i v) ++ X :=
  pd_set hk h1 (fun j hj => pd_cell_congr (by simp [sI, va_up, hj]) rfl)
theorem pd_setJ {g : pd_G} {M : pd_M} {X : va_W} {k i : Nat} {v : Int64} {e : va_E} (hk : k < pd_N) (h1 : pd_cell g (sJ M k i v) k = e) : (pd_WL g M ++ X).set k (g.1 k, e) = pd_WL g (sJ M k i v) ++ X :=
  pd_set hk h1 (fun j hj => pd_cell_congr rfl (by simp [sJ, va_up, hj]))
theorem pd_fv_get (g : pd_G) (r : Nat → Int32) : ∀ (fs : List Nat) (j0 j : Nat), (pd_fv g r j0 fs)[j]? = (fs[j]?).map (fun q => match q with | 0 => Value.int (r (j0 + j)) | k + 1 => Value.ref (g.1 k))
  | [], j0, j => by simp [pd_fv]
  | q :: fs, j0, 0 => by cases q <;> simp [pd_fv]
  | q :: fs, j0, j + 1 => by
    have h := pd_fv_get g r fs (j0 + 1) j
    simp only [pd_fv, List.getElem?_cons_succ]
    rw [h, show j0 + 1 + j = j0 + (j + 1) by omega]
theorem pd_fv_set (g : pd_G) (r : Nat → Int32) (v : Int32) : ∀ (fs : List Nat) (j0 j : Nat), fs[j]? = some 0 → (pd_fv g r j0 fs).set j (.int v) = pd_fv g (upd r (j0 + j) v) j0 fs
  | [], j0, j, h => by simp at h
  | q :: fs, j0, 0, h => by
    have e : q = 0 := by simpa using h
    subst e
    have hr : ∀ (fs : List Nat) (j1 : Nat), j0 < j1 → pd_fv g r j1 fs = pd_fv g (upd r (j0 + 0) v) j1 fs := by
      intro fs
      induction fs with
      | nil => intro j1 _; rfl
      | cons q fs ih =>
        intro j1 hj
        simp only [pd_fv]
        rw [ih (j1 + 1) (by omega)]
        have e2 : upd r (j0 + 0) v j1 = r j1 := by simp [upd]; omega
        rw [e2]
    simp only [pd_fv, List.set_cons_zero]
    rw [← hr fs (j0 + 1) (by omega)]
    simp [upd]
  | q :: fs, j0, j + 1, h => by
    have h' : fs[j]? = some 0 := by simpa using h
    have ih := pd_fv_set g r v fs (j0 + 1) j h'
    simp only [pd_fv, List.set_cons_succ]
    rw [ih, show j0 + 1 + j = j0 + (j + 1) by omega]
    have e2 : upd r (j0 + (j + 1)) v j0 = r j0 := by simp [upd]
    rw [e2]
def pd_pp (j : Nat) : Int32 := match j with
  | 0 => 46656
  | 1 => 7776
  | 2 => 1296
  | 3 => 216
  | 4 => 36
  | 5 => 6
  | _ => 1
/-- the one static row, which nothing changes -/
def pd_St (t : Nat) (A : Nat → Prop) (U : State) (H : Heap) : Prop := va_Z RX1 "PLACE_PRICE" "[I" (.ref t) A U H ∧ va_T .int t 7 (fun j => .int (pd_pp j)) A U H
/-- the whole picture at a point of a walk -/
def pd_W (D : va_G) (g : pd_G) (t : Nat) (M : pd_M) (X : va_W) (A : Nat → Prop) (s : State) (H : Heap) (locs : List Loc) : Prop :=
  va_K D vwCl (pd_ty g) s ∧ va_P D vwCl (pd_WL g M ++ X) H ∧ va_D A (pd_WL g M ++ X) ∧ va_S A s.heap H locs ∧ (∀ q, s.heap.size ≤ q → A q) ∧ pd_St t A s s.heap
/-- what a method may take as given -/
def pd_Pre (D : va_G) (g : pd_G) (t : Nat) (M : pd_M) (X : va_W) (sz : Nat) (av : List Value) : Array Value → State → Prop :=
  va_Pc av (fun U => U.heap.size = sz ∧ va_P D vwCl (pd_WL g M ++ X) U.heap ∧ va_K D vwCl (pd_ty g) U ∧ va_D (fun _ => True) (pd_WL g M ++ X) ∧ pd_St t (va_A (pd_WL g M ++ X) sz) U U.heap)
abbrev pd_B (D : va_G) (g : pd_G) (M : pd_M) (X : va_W) (sz : Nat) (M' : pd_M) (t : State) : Prop := va_P D vwCl (pd_WL g M' ++ X) t.heap ∧ va_K D vwCl (pd_ty g) t ∧ va_D (va_A (pd_WL g M ++ X) sz) (pd_WL g M' ++ X)
abbrev pd_Qi (D : va_G) (g : pd_G) (M : pd_M) (X : va_W) (sz : Nat) (Q : Int32 → pd_M → Prop) := va_Qi Q (pd_B D g M X sz) (va_A (pd_WL g M ++ X) sz)
abbrev pd_Qv (D : va_G) (g : pd_G) (M : pd_M) (X : va_W) (sz : Nat) (Q : pd_M → Prop) := va_Qv Q (pd_B D g M X sz) (va_A (pd_WL g M ++ X) sz)
/-- what stays fixed along a method's walk -/
def pd_C (p : Program) (m : MethodId) (c : Code) (cc : ByteArray) (nL : Nat) (s : State) (args : Array Value) (own : String) (meth : Method) (ret : Option FieldType) : Prop :=
  CallFix p m c cc nL s args TB own ∧ meth.sig.returnType = ret ∧ meth.locks = false
theorem pd_all_map {ws : va_W} : (List.range ws.length).map (fun i => ws[i]?) = ws.map some := by
  apply List.ext_getElem?
  intro i
  by_cases h : i < ws.length
  · simp [h]
  · simp [h]
theorem pd_free {A : Nat → Prop} {ws : va_W} {H0 H : Heap} {locs : List Loc} (hD : va_D A ws) (hS : va_S A H0 H locs) (hA : ∀ q, H0.size ≤ q → A q) : ∀ q, va_A ws H.size q → A q := va_free hD hS hA (List.range ws.length) pd_all_map
theorem pd_blind {D : va_G} {g : pd_G} {t : Nat} {M : pd_M} {X : va_W} {sz : Nat} {av : List Value} : FrameBlind (pd_Pre D g t M X sz av) := by
  intro a U f mk q
  obtain ⟨q0, q1, qP, qK, qD, qZ, qT⟩ := q
  exact ⟨q0, q1, qP, va_K.moved (u := U) (U := U.calling f mk a) (Vm.Alike.refl U.vm) qK, qD, va_Z.moved (u := U) (U := U.calling f mk a) (Vm.Alike.refl U.vm) qZ, va_T.moved (u := U) (U := U.calling f mk a) (Vm.Alike.refl U.vm) qT⟩
theorem pd_pre {D : va_G} {g : pd_G} {t : Nat} {M : pd_M} {X : va_W} {A : Nat → Prop} {s U : State} {H : Heap} {locs : List Loc} (hW : pd_W D g t M X A s H locs) (hU : U.heap = H) (hw : s.WarmedH U.vm) (av : List Value) : pd_Pre D g t M X H.size av av.toArray U := by
  obtain ⟨hK, hP, hD, hS, hA, hZ, hT⟩ := hW
  have hF := pd_free hD hS hA
  refine ⟨rfl, by rw [hU], by rw [hU]; exact hP, va_K.moved hw.alike hK, hD.weaken (fun _ _ _ _ => trivial), ?_, ?_⟩
  · rw [hU]; exact ((hZ.kept hS.2.1).narrow hF).moved hw.alike
  · rw [hU]; exact ((hT.kept hS.2.1).narrow hF).moved hw.alike
theorem pd_goodV {own C : String} {idx : Nat} {y : MethodName} {w : Cond} (h1 : Cond.methodLink own idx y ∈ TB) (h2 : Cond.instanceMethod y ∈ TB) (h3 : Cond.selects C y y ∈ TB) (h4 : Cond.initialized C ∈ TB) (h5 : w ∈ TB) : GoodIn TB (wsV own idx C y (w :: TB)) := by
  intro v hv
  have hm : v ∈ TB := by
    unfold wsV at hv
    simp only [List.cons_append, List.nil_append, List.mem_cons] at hv
    rcases hv with rfl | rfl | rfl | rfl | rfl | hv
    · exact h1
    · exact h2
    · exact h3
    · exact h4
    · exact h5
    · exact hv
  exact tb_good v hm
theorem pd_goodS {own : String} {idx : Nat} {y : MethodName} {w : Cond} (h1 : Cond.methodLink own idx y ∈ TB) (h2 : Cond.static y ∈ TB) (h4 : Cond.initialized y.cls ∈ TB) (h5 : w ∈ TB) : GoodIn TB (va_wsS own idx y (w :: TB)) := by
  intro v hv
  have hm : v ∈ TB := by
    unfold va_wsS at hv
    simp only [List.cons_append, List.nil_append, List.mem_cons] at hv
    rcases hv with rfl | rfl | rfl | rfl | hv
    · exact h1
    · exact h2
    · exact h4
    · exact h5
    · exact hv
  exact tb_good v hm
theorem pd_lt {i : Int32} {n : Nat} (h : vp_in i n) : i.toNatClampNeg < n := Nat.not_le.mp fun q => h (Or.inr q)
section PDW
variable {p : Program} {l : Launch} {e : Env} {R : Room} {s : State} {m : MethodId} {args : Array Value} {below : List Frame} {meth : Method} {c : Code} {H : Heap} {locs : List Loc} {cells slots : Nat} {Q : State → Prop}
variable {cc : ByteArray} {pc : Nat} {ls : Array Slot} {rest : List Value} {D : va_G} {g : pd_G} {t : Nat} {M : pd_M} {X : va_W} {A : Nat → Prop} {nL : Nat} {own : String} {ret : Option FieldType}
theorem pd_get (C : pd_C p m c cc nL s args own meth ret) (hW : pd_W D g t M X A s H locs) {k ci b : Nat} {fs : List Nat} (hk : pd_kind k = (5, ci, b, fs)) {Cn : String} {T : u_T} {N : Nat} (hc : vwCl[ci]? = some (Cn, T, N)) (hin : ∀ w ∈ u_ws Cn T N, w ∈ TB) (j : Nat) (hj : j < N) {idx : Nat} (hl : Cond.fieldLink own idx (T j).1 (T j).2.1 (T j).2.2.1 ∈ TB) {v : Value} (hv : (pd_fv g (M.1 k) 0 fs)[j]? = some v) (hdg : decode cc pc = .ok (.getfield idx, 3))
    (kk : W p l e R s m args below meth c H locs cells slots Q (F0 m (pc + 3) ls (v :: rest))) : W p l e R s m args below meth c H locs cells slots Q (F0 m pc ls (.ref (g.1 k) :: rest)) := by
  obtain ⟨⟨hx, hb, -, hown, hts⟩, -, -⟩ := C
  obtain ⟨hK, hP, -⟩ := hW
  exact va_get hx hb hts hin hown hK hP k (by rw [pd_at (pd_kN hk (by decide)), pd_cell_5 hk]) hc j hj (hts _ hl) (fun _ h9 => h9) hv hdg kk
theorem pd_put (C : pd_C p m c cc nL s args own meth ret) (hW : pd_W D g t M X A s H locs) {k ci b : Nat} {fs : List Nat} (hk : pd_kind k = (5, ci, b, fs)) {Cn : String} {T : u_T} {N : Nat} (hc : vwCl[ci]? = some (Cn, T, N)) (hin : ∀ w ∈ u_ws Cn T N, w ∈ TB) {ty0 : Nat → FieldType} (hty : ∀ k, k < N → parseFieldDescriptor (T k).2.2.1 = some (ty0 k)) (hnm : ∀ a, a < N → ∀ b, b < N → a ≠ b → (T a).2.1 ≠ (T b).2.1) (j : Nat) (hj : j < N) {idx : Nat} (hl : Cond.fieldLink own idx (T j).1 (T j).2.1 (T j).2.2.1 ∈ TB) (hfin : (T j).2.2.2 = false) (hd : parseFieldDescriptor (T j).2.2.1 = some .int) (hv : fs[j]? = some 0) {v : Int32} (hdg : decode cc pc = .ok (.putfield idx, 3))
    (kk : ∀ (M1 : pd_M) (H1 : Heap) (locs1 : List Loc), M1 = sI M k j v → pd_W D g t M1 X A s H1 locs1 → W p l e R s m args below meth c H1 locs1 cells slots Q (F0 m (pc + 3) ls rest)) : W p l e R s m args below meth c H locs cells slots Q (F0 m pc ls (.int v :: .ref (g.1 k) :: rest)) := by
  obtain ⟨⟨hx, hb, -, hown, hts⟩, -, -⟩ := C
  obtain ⟨hK, hP, hD, hS, hA, hZ⟩ := hW
  have hkn := pd_kN hk (by decide)
  have hlen : j < (pd_fv g (M.1 k) 0 fs).length := by
    have h9 := pd_fv_get g (M.1 k) fs 0 j
    rw [hv] at h9
    exact (List.getElem?_eq_some_iff.mp h9).1
  refine va_put (ty := .int) (v := .int v) hx hb hts hin ty0 hty hnm hown hK hP hD hS k (by rw [pd_at hkn, pd_cell_5 hk]) hc j hj (hts _ hl) (fun _ h9 => h9) hfin hd rfl rfl hlen hdg (fun H1 locs1 hP1 hD1 hS1 => ?_)
  have e : (pd_WL g M ++ X).set k (g.1 k, .inr (ci, (pd_fv g (M.1 k) 0 fs).set j (.int v))) = pd_WL g (sI M k j v) ++ X := pd_setI hkn (by
    rw [pd_cell_5 hk, pd_fv_set g (M.1 k) v fs 0 j hv]
    simp [sI, va_up])
  rw [e] at hP1 hD1
  exact kk _ H1 locs1 rfl ⟨hK, hP1, hD1, hS1, hA, hZ⟩
theorem pd_iald (C : pd_C p m c cc nL s args own meth ret) (hW : pd_W D g t M X A s H locs) {k n b : Nat} {fs : List Nat} (hk : pd_kind k = (0, n, b, fs)) {i : Int32} (hin : vp_in i n) (hdg : decode cc pc = .ok (.iaload, 1))
    (kk : W p l e R s m args below meth c H locs cells slots Q (F0 m (pc + 1) ls (.int (M.1 k i.toNatClampNeg) :: rest))) : W p l e R s m args below meth c H locs cells slots Q (F0 m pc ls (.int i :: .ref (g.1 k) :: rest)) := by
  obtain ⟨⟨hx, hb, -, hown, hts⟩, -, -⟩ := C
  obtain ⟨hK, hP, -⟩ := hW
  exact va_iald hx hb hK hP k 0 (by rw [pd_at (pd_kN hk (by decide)), pd_cell_0 hk]) rfl hin hdg kk
theorem pd_lald (C : pd_C p m c cc nL s args own meth ret) (hW : pd_W D g t M X A s H locs) {k n b : Nat} {fs : List Nat} (hk : pd_kind k = (1, n, b, fs)) {i : Int32} (hin : vp_in i n) (hdg : decode cc pc = .ok (.laload, 1))
    (kk : W p l e R s m args below meth c H locs cells slots Q (F0 m (pc + 1) ls (.long (M.2 k i.toNatClampNeg) :: rest))) : W p l e R s m args below meth c H locs cells slots Q (F0 m pc ls (.int i :: .ref (g.1 k) :: rest)) := by
  obtain ⟨⟨hx, hb, -, hown, hts⟩, -, -⟩ := C
  obtain ⟨hK, hP, -⟩ := hW
  exact va_lald hx hb hK hP k 1 (by rw [pd_at (pd_kN hk (by decide)), pd_cell_1 hk]) rfl hin hdg kk
theorem pd_zald (C : pd_C p m c cc nL s args own meth ret) (hW : pd_W D g t M X A s H locs) {k n b : Nat} {fs : List Nat} (hk : pd_kind k = (2, n, b, fs)) {i : Int32} (hin : vp_in i n) (hdg : decode cc pc = .ok (.baload, 1))
    (kk : W p l e R s m args below meth c H locs cells slots Q (F0 m (pc + 1) ls (.int (M.1 k i.toNatClampNeg) :: rest))) : W p l e R s m args below meth c H locs cells slots Q (F0 m pc ls (.int i :: .ref (g.1 k) :: rest)) := by
  obtain ⟨⟨hx, hb, -, hown, hts⟩, -, -⟩ := C
  obtain ⟨hK, hP, -⟩ := hW
  exact va_zald hx hb hK hP k 2 (by rw [pd_at (pd_kN hk (by decide)), pd_cell_2 hk]) rfl hin hdg kk
theorem pd_aald (C : pd_C p m c cc nL s args own meth ret) (hW : pd_W D g t M X A s H locs) {k n b : Nat} {fs : List Nat} (hk : pd_kind k = (3, n, b, fs)) {i : Int32} (hin : vp_in i n) (hdg : decode cc pc = .ok (.aaload, 1))
    (kk : W p l e R s m args below meth c H locs cells slots Q (F0 m (pc + 1) ls (.ref (g.1 (b + i.toNatClampNeg)) :: rest))) : W p l e R s m args below meth c H locs cells slots Q (F0 m pc ls (.int i :: .ref (g.1 k) :: rest)) := by
  obtain ⟨⟨hx, hb, -, hown, hts⟩, -, -⟩ := C
  obtain ⟨hK, hP, -⟩ := hW
  have hlt := pd_lt hin
  have he : (pd_WL g M ++ X)[k]? = some (g.1 k, .inl (g.2 3, n, .inr (.inr (.inr (.inr (fun i => if i < n then some (g.1 (b + i)) else none)))))) := by rw [pd_at (pd_kN hk (by decide)), pd_cell_3 hk]
  exact W.aald (v := .ref (g.1 (b + i.toNatClampNeg))) (ty := .array .int) hx hb (hP k _ he) ((hK.2 3 (g.2 3, .array .int) rfl).1 n (fun j => va_rf ((fun i => if i < n then some (g.1 (b + i)) else none) j))) rfl (fun q => by cases q) (by show ¬ (i < 0 ∨ (arrV _ _ _).slots.size ≤ _); rw [arrV_size]; exact hin) (by show (arrV _ _ _).slots[_]? = _; rw [arrV_read _ _ hlt]; simp [hlt, va_rf]) rfl rfl hdg kk
theorem pd_aaldJ (C : pd_C p m c cc nL s args own meth ret) (hW : pd_W D g t M X A s H locs) {k n b : Nat} {fs : List Nat} (hk : pd_kind k = (4, n, b, fs)) {i : Int32} (hin : vp_in i n) (hdg : decode cc pc = .ok (.aaload, 1))
    (kk : W p l e R s m args below meth c H locs cells slots Q (F0 m (pc + 1) ls (.ref (g.1 (b + i.toNatClampNeg)) :: rest))) : W p l e R s m args below meth c H locs cells slots Q (F0 m pc ls (.int i :: .ref (g.1 k) :: rest)) := by
  obtain ⟨⟨hx, hb, -, hown, hts⟩, -, -⟩ := C
  obtain ⟨hK, hP, -⟩ := hW
  have hlt := pd_lt hin
  have he : (pd_WL g M ++ X)[k]? = some (g.1 k, .inl (g.2 4, n, .inr (.inr (.inr (.inr (fun i => if i < n then some (g.1 (b + i)) else none)))))) := by rw [pd_at (pd_kN hk (by decide)), pd_cell_4 hk]
  exact W.aald (v := .ref (g.1 (b + i.toNatClampNeg))) (ty := .array .long) hx hb (hP k _ he) ((hK.2 4 (g.2 4, .array .long) rfl).1 n (fun j => va_rf ((fun i => if i < n then some (g.1 (b + i)) else none) j))) rfl (fun q => by cases q) (by show ¬ (i < 0 ∨ (arrV _ _ _).slots.size ≤ _); rw [arrV_size]; exact hin) (by show (arrV _ _ _).slots[_]? = _; rw [arrV_read _ _ hlt]; simp [hlt, va_rf]) rfl rfl hdg kk
theorem pd_iast (C : pd_C p m c cc nL s args own meth ret) (hW : pd_W D g t M X A s H locs) {k n b : Nat} {fs : List Nat} (hk : pd_kind k = (0, n, b, fs)) {i x : Int32} (hin : vp_in i n) (hdg : decode cc pc = .ok (.iastore, 1))
    (kk : ∀ (M1 : pd_M) (H1 : Heap) (locs1 : List Loc), M1 = sI M k i.toNatClampNeg x → pd_W D g t M1 X A s H1 locs1 → W p l e R s m args below meth c H1 locs1 cells slots Q (F0 m (pc + 1) ls rest)) : W p l e R s m args below meth c H locs cells slots Q (F0 m pc ls (.int x :: .int i :: .ref (g.1 k) :: rest)) := by
  obtain ⟨⟨hx, hb, -, hown, hts⟩, -, -⟩ := C
  obtain ⟨hK, hP, hD, hS, hA, hZ⟩ := hW
  have hkn := pd_kN hk (by decide)
  refine va_iast hx hb hK hP hD hS k 0 (by rw [pd_at hkn, pd_cell_0 hk]) rfl hin hdg (fun H1 locs1 hP1 hD1 hS1 => ?_)
  have e : (pd_WL g M ++ X).set k (g.1 k, .inl (g.2 0, n, .inl (upd (M.1 k) i.toNatClampNeg x))) = pd_WL g (sI M k i.toNatClampNeg x) ++ X := pd_setI hkn (by
    rw [pd_cell_0 hk]
    simp [sI, va_up])
  rw [e] at hP1 hD1
  exact kk _ H1 locs1 rfl ⟨hK, hP1, hD1, hS1, hA, hZ⟩
theorem pd_zast (C : pd_C p m c cc nL s args own meth ret) (hW : pd_W D g t M X A s H locs) {k n b : Nat} {fs : List Nat} (hk : pd_kind k = (2, n, b, fs)) {i x : Int32} (hin : vp_in i n) (hdg : decode cc pc = .ok (.bastore, 1))
    (kk : ∀ (M1 : pd_M) (H1 : Heap) (locs1 : List Loc), M1 = sI M k i.toNatClampNeg (vp_nar .boolean x) → pd_W D g t M1 X A s H1 locs1 → W p l e R s m args below meth c H1 locs1 cells slots Q (F0 m (pc + 1) ls rest)) : W p l e R s m args below meth c H locs cells slots Q (F0 m pc ls (.int x :: .int i :: .ref (g.1 k) :: rest)) := by
  obtain ⟨⟨hx, hb, -, hown, hts⟩, -, -⟩ := C
  obtain ⟨hK, hP, hD, hS, hA, hZ⟩ := hW
  have hkn := pd_kN hk (by decide)
  refine va_zast hx hb hK hP hD hS k 2 (by rw [pd_at hkn, pd_cell_2 hk]) rfl hin hdg (fun H1 locs1 hP1 hD1 hS1 => ?_)
  have e : (pd_WL g M ++ X).set k (g.1 k, .inl (g.2 2, n, .inl (upd (M.1 k) i.toNatClampNeg (vp_nar .boolean x)))) = pd_WL g (sI M k i.toNatClampNeg (vp_nar .boolean x)) ++ X := pd_setI hkn (by
    rw [pd_cell_2 hk]
    simp [sI, va_up])
  rw [e] at hP1 hD1
  exact kk _ H1 locs1 rfl ⟨hK, hP1, hD1, hS1, hA, hZ⟩
theorem pd_last (C : pd_C p m c cc nL s args own meth ret) (hW : pd_W D g t M X A s H locs) {k n b : Nat} {fs : List Nat} (hk : pd_kind k = (1, n, b, fs)) {i : Int32} {x : Int64} (hin : vp_in i n) (hdg : decode cc pc = .ok (.lastore, 1))
    (kk : ∀ (M1 : pd_M) (H1 : Heap) (locs1 : List Loc), M1 = sJ M k i.toNatClampNeg x → pd_W D g t M1 X A s H1 locs1 → W p l e R s m args below meth c H1 locs1 cells slots Q (F0 m (pc + 1) ls rest)) : W p l e R s m args below meth c H locs cells slots Q (F0 m pc ls (.long x :: .int i :: .ref (g.1 k) :: rest)) := by
  obtain ⟨⟨hx, hb, -, hown, hts⟩, -, -⟩ := C
  obtain ⟨hK, hP, hD, hS, hA, hZ⟩ := hW
  have hkn := pd_kN hk (by decide)
  refine va_last hx hb hK hP hD hS k 1 (by rw [pd_at hkn, pd_cell_1 hk]) rfl hin hdg (fun H1 locs1 hP1 hD1 hS1 => ?_)
  have e : (pd_WL g M ++ X).set k (g.1 k, .inl (g.2 1, n, .inr (.inl (vp_updL (M.2 k) i.toNatClampNeg x)))) = pd_WL g (sJ M k i.toNatClampNeg x) ++ X := pd_setJ hkn (by
    rw [pd_cell_1 hk]
    simp [sJ, va_up])
  rw [e] at hP1 hD1
  exact kk _ H1 locs1 rfl ⟨hK, hP1, hD1, hS1, hA, hZ⟩
/-- the static row -/
theorem pd_gets (C : pd_C p m c cc nL s args RX1 meth ret) (hW : pd_W D g t M X A s H locs) {idx : Nat} (hl : Cond.fieldLink RX1 idx RX1 "PLACE_PRICE" "[I" ∈ TB) (hdg : decode cc pc = .ok (.getstatic idx, 3))
    (kk : W p l e R s m args below meth c H locs cells slots Q (F0 m (pc + 3) ls (.ref t :: rest))) : W p l e R s m args below meth c H locs cells slots Q (F0 m pc ls rest) := by
  obtain ⟨⟨hx, hb, -, hown, hts⟩, -, -⟩ := C
  obtain ⟨-, -, -, hS, -, hZ, -⟩ := hW
  exact va_gets hx hb hZ hS hown (hts _ hl) (fun _ h => h) hdg kk
theorem pd_tald (C : pd_C p m c cc nL s args own meth ret) (hW : pd_W D g t M X A s H locs) {i : Int32} (hin : vp_in i 7) (hdg : decode cc pc = .ok (.iaload, 1))
    (kk : W p l e R s m args below meth c H locs cells slots Q (F0 m (pc + 1) ls (.int (pd_pp i.toNatClampNeg) :: rest))) : W p l e R s m args below meth c H locs cells slots Q (F0 m pc ls (.int i :: .ref t :: rest)) := by
  obtain ⟨⟨hx, hb, -, hown, hts⟩, -, -⟩ := C
  obtain ⟨-, -, -, hS, -, -, hT⟩ := hW
  exact va_ti hx hb hT hS hin rfl hdg kk
end PDW
section PDC
variable {p : Program} {l : Launch} {e : Env} {R : Room} {s : State} {m : MethodId} {args : Array Value} {below : List Frame} {meth : Method} {c : Code} {H : Heap} {locs : List Loc} {cells slots : Nat} {Q : State → Prop}
variable {cc bytes : ByteArray} {pc : Nat} {ls : Array Slot} {rest : List Value} {D : va_G} {g : pd_G} {t : Nat} {M : pd_M} {X : va_W} {A : Nat → Prop} {nL maxL : Nat} {own : String} {ret ret' : Option FieldType} {y : MethodName} {rm : Room} {As : List Value} {idx : Nat}
theorem pd_back {M' : pd_M} {tt : State} {H1 : Heap} {locs1 : List Loc} (hW : pd_W D g t M X A s H locs) (ht : tt.heap = H1) (hvm : s.vm.Alike tt.vm) (hB : pd_B D g M X H.size M' tt) (hS1 : va_S A s.heap H1 locs1) : pd_W D g t M' X A s H1 locs1 := by
  obtain ⟨hP1, hK1, hD1⟩ := hB
  obtain ⟨hK, hP, hD, hS, hA, hZ⟩ := hW
  rw [ht] at hP1
  exact ⟨hK, hP1, ⟨hD1.1, fun k q hk => pd_free hD hS hA _ (hD1.2 k q hk)⟩, hS1, hA, hZ⟩
/-- a call of a method of an object at a place; it makes no cells -/
theorem pd_callVi {Qc : Int32 → pd_M → Prop} {k ci b : Nat} {fs : List Nat} {T : u_T} {N : Nat} (C : pd_C p m c cc nL s args own meth ret) (hW : pd_W D g t M X A s H locs)
    (hM : Met l y (Cond.code y bytes maxL ret' :: TB) rm (pd_Pre D g t M X H.size (.ref (g.1 k) :: As)) (pd_Qi D g M X H.size Qc) 0 0 (va_A (pd_WL g M ++ X) H.size))
    (hk : pd_kind k = (5, ci, b, fs)) (hc : vwCl[ci]? = some (y.cls, T, N)) (h1 : Cond.methodLink own idx y ∈ TB) (h2 : Cond.instanceMethod y ∈ TB) (h3 : Cond.selects y.cls y y ∈ TB) (h4 : Cond.initialized y.cls ∈ TB) (h5 : Cond.code y bytes maxL ret' ∈ TB)
    (hd : y.cls ≠ "java/lang/invoke/MethodHandle" ∧ y.cls ≠ "java/lang/invoke/VarHandle" ∧ (parseMethodDescriptor y.desc).map (fun d => d.parameters.length) = some As.length) (hrm : rm.cells = 0 ∧ rm.slots = 0) (hR : rm.frames + 1 ≤ R.frames ∧ 8 + (maxL + 11) + rm.locals ≤ R.locals) (hcs : cells ≤ R.cells ∧ slots ≤ R.slots)
    (hls : ls.size = nL) {st : List Value} (hst : st = As.reverse ++ .ref (g.1 k) :: rest) (hw8 : (rest.map fun v => v.category).sum ≤ 8) (hdg : decode cc pc = .ok (.invokevirtual idx, 3))
    (kk : ∀ (r : Int32) (M1 : pd_M) (H1 : Heap) (locs1 : List Loc), Qc r M1 → pd_W D g t M1 X A s H1 locs1 → W p l e R s m args below meth c H1 locs1 cells slots Q (F0 m (pc + 3) ls (.int r :: rest))) : W p l e R s m args below meth c H locs cells slots Q (F0 m pc ls st) := by
  subst hst
  have hF := pd_free hW.2.2.1 hW.2.2.2.1 hW.2.2.2.2.1
  have he : (pd_WL g M ++ X)[k]? = some (g.1 k, .inr (ci, pd_fv g (M.1 k) 0 fs)) := by rw [pd_at (pd_kN hk (by decide)), pd_cell_5 hk]
  refine va_calli (va_runV (As := As) (rest := rest) C.1 hM (cwV As.length C.1.2.2.2.2 (pd_goodV h1 h2 h3 h4 h5) rfl hrm.1 hrm.2 ⟨rfl, hd⟩ hR) ⟨pd_blind, va_recv hW.1 hW.2.1 hc he, fun U hU hw => pd_pre hW hU hw _⟩ rfl rfl hls rfl (lv_room hw8) hdg hcs) hW.2.2.2.1 (fun q _ h => hF q h) hF (fun r M1 tt H1 locs1 ht hvm hq hB hz hk1 hS1 => ?_)
  exact kk r M1 H1 locs1 hq (pd_back hW ht hvm hB hS1)
theorem pd_callVv {Qc : pd_M → Prop} {k ci b : Nat} {fs : List Nat} {T : u_T} {N : Nat} (C : pd_C p m c cc nL s args own meth ret) (hW : pd_W D g t M X A s H locs)
    (hM : Met l y (Cond.code y bytes maxL ret' :: TB) rm (pd_Pre D g t M X H.size (.ref (g.1 k) :: As)) (pd_Qv D g M X H.size Qc) 0 0 (va_A (pd_WL g M ++ X) H.size))
    (hk : pd_kind k = (5, ci, b, fs)) (hc : vwCl[ci]? = some (y.cls, T, N)) (h1 : Cond.methodLink own idx y ∈ TB) (h2 : Cond.instanceMethod y ∈ TB) (h3 : Cond.selects y.cls y y ∈ TB) (h4 : Cond.initialized y.cls ∈ TB) (h5 : Cond.code y bytes maxL ret' ∈ TB)
    (hd : y.cls ≠ "java/lang/invoke/MethodHandle" ∧ y.cls ≠ "java/lang/invoke/VarHandle" ∧ (parseMethodDescriptor y.desc).map (fun d => d.parameters.length) = some As.length) (hrm : rm.cells = 0 ∧ rm.slots = 0) (hR : rm.frames + 1 ≤ R.frames ∧ 8 + (maxL + 11) + rm.locals ≤ R.locals) (hcs : cells ≤ R.cells ∧ slots ≤ R.slots)
    (hls : ls.size = nL) {st : List Value} (hst : st = As.reverse ++ .ref (g.1 k) :: rest) (hw8 : (rest.map fun v => v.category).sum ≤ 8) (hdg : decode cc pc = .ok (.invokevirtual idx, 3))
    (kk : ∀ (M1 : pd_M) (H1 : Heap) (locs1 : List Loc), Qc M1 → pd_W D g t M1 X A s H1 locs1 → W p l e R s m args below meth c H1 locs1 cells slots Q (F0 m (pc + 3) ls rest)) : W p l e R s m args below meth c H locs cells slots Q (F0 m pc ls st) := by
  subst hst
  have hF := pd_free hW.2.2.1 hW.2.2.2.1 hW.2.2.2.2.1
  have he : (pd_WL g M ++ X)[k]? = some (g.1 k, .inr (ci, pd_fv g (M.1 k) 0 fs)) := by rw [pd_at (pd_kN hk (by decide)), pd_cell_5 hk]
  refine va_callv (va_runV (As := As) (rest := rest) C.1 hM (cwV As.length C.1.2.2.2.2 (pd_goodV h1 h2 h3 h4 h5) rfl hrm.1 hrm.2 ⟨rfl, hd⟩ hR) ⟨pd_blind, va_recv hW.1 hW.2.1 hc he, fun U hU hw => pd_pre hW hU hw _⟩ rfl rfl hls rfl (lv_room hw8) hdg hcs) hW.2.2.2.1 (fun q _ h => hF q h) hF (fun M1 tt H1 locs1 ht hvm hq hB hz hk1 hS1 => ?_)
  exact kk M1 H1 locs1 hq (pd_back hW ht hvm hB hS1)
theorem pd_callSi {Qc : Int32 → pd_M → Prop} (C : pd_C p m c cc nL s args own meth ret) (hW : pd_W D g t M X A s H locs)
    (hM : Met l y (Cond.code y bytes maxL ret' :: TB) rm (pd_Pre D g t M X H.size As) (pd_Qi D g M X H.size Qc) 0 0 (va_A (pd_WL g M ++ X) H.size))
    (h1 : Cond.methodLink own idx y ∈ TB) (h2 : Cond.static y ∈ TB) (h4 : Cond.initialized y.cls ∈ TB) (h5 : Cond.code y bytes maxL ret' ∈ TB)
    (hd : y.cls ≠ "java/lang/invoke/MethodHandle" ∧ y.cls ≠ "java/lang/invoke/VarHandle" ∧ (parseMethodDescriptor y.desc).map (fun d => d.parameters.length) = some As.length) (hrm : rm.cells = 0 ∧ rm.slots = 0) (hR : rm.frames + 1 ≤ R.frames ∧ 8 + (maxL + 11) + rm.locals ≤ R.locals) (hcs : cells ≤ R.cells ∧ slots ≤ R.slots)
    (hls : ls.size = nL) {st : List Value} (hst : st = As.reverse ++ rest) (hw8 : (rest.map fun v => v.category).sum ≤ 8) (hdg : decode cc pc = .ok (.invokestatic idx, 3))
    (kk : ∀ (r : Int32) (M1 : pd_M) (H1 : Heap) (locs1 : List Loc), Qc r M1 → pd_W D g t M1 X A s H1 locs1 → W p l e R s m args below meth c H1 locs1 cells slots Q (F0 m (pc + 3) ls (.int r :: rest))) : W p l e R s m args below meth c H locs cells slots Q (F0 m pc ls st) := by
  subst hst
  have hF := pd_free hW.2.2.1 hW.2.2.2.1 hW.2.2.2.2.1
  refine va_calli (va_runS (As := As) (rest := rest) C.1 hM (va_cwS As.length C.1.2.2.2.2 (pd_goodS h1 h2 h4 h5) rfl hrm.1 hrm.2 hd hR) ⟨pd_blind, fun U hU hw => pd_pre hW hU hw _⟩ rfl rfl hls rfl (lv_room hw8) hdg hcs) hW.2.2.2.1 (fun q _ h => hF q h) hF (fun r M1 tt H1 locs1 ht hvm hq hB hz hk1 hS1 => ?_)
  exact kk r M1 H1 locs1 hq (pd_back hW ht hvm hB hS1)
/-- the ends -/
theorem pd_iret {Qc : Int32 → pd_M → Prop} {M0 : pd_M} {sz : Nat} {v : Int32} (C : pd_C p m c cc nL s args own meth (some .int)) (hA0 : A = va_A (pd_WL g M0 ++ X) sz) (hW : pd_W D g t M X A s H locs) (hq : Qc v M) (hdg : decode cc pc = .ok (.ireturn, 1)) :
    W p l e R s m args below meth c H locs cells slots (MQ below (pd_Qi D g M0 X sz Qc) args s cells slots (va_A (pd_WL g M0 ++ X) sz)) (F0 m pc ls [.int v]) := by
  obtain ⟨⟨hx, hb, -, hown, hts⟩, hr, hlocks⟩ := C
  obtain ⟨hK, hP, hD, hS, hA, hZ⟩ := hW
  subst hA0
  exact W.iret hx hb hr (fun tt ht hw => ⟨⟨v, M, rfl, hq, by rw [ht]; exact hP, va_K.moved hw.alike hK, hD⟩, hS.F ht⟩) hS.2.2 hdg hlocks
theorem pd_zret {Qc : Int32 → pd_M → Prop} {M0 : pd_M} {sz : Nat} {v : Int32} (C : pd_C p m c cc nL s args own meth (some .boolean)) (hA0 : A = va_A (pd_WL g M0 ++ X) sz) (hW : pd_W D g t M X A s H locs) (hn : narrow .boolean (.int v) = .int v) (hq : Qc v M) (hdg : decode cc pc = .ok (.ireturn, 1)) :
    W p l e R s m args below meth c H locs cells slots (MQ below (pd_Qi D g M0 X sz Qc) args s cells slots (va_A (pd_WL g M0 ++ X) sz)) (F0 m pc ls [.int v]) := by
  obtain ⟨⟨hx, hb, -, hown, hts⟩, hr, hlocks⟩ := C
  obtain ⟨hK, hP, hD, hS, hA, hZ⟩ := hW
  subst hA0
  exact W.zret hx hb hr hn (fun tt ht hw => ⟨⟨v, M, rfl, hq, by rw [ht]; exact hP, va_K.moved hw.alike hK, hD⟩, hS.F ht⟩) hS.2.2 hdg hlocks
theorem pd_vret {Qc : pd_M → Prop} {M0 : pd_M} {sz : Nat} (C : pd_C p m c cc nL s args own meth none) (hA0 : A = va_A (pd_WL g M0 ++ X) sz) (hW : pd_W D g t M X A s H locs) (hq : Qc M) (hdg : decode cc pc = .ok (.return_, 1)) :
    W p l e R s m args below meth c H locs cells slots (MQ below (pd_Qv D g M0 X sz Qc) args s cells slots (va_A (pd_WL g M0 ++ X) sz)) (F0 m pc ls []) := by
  obtain ⟨⟨hx, hb, -, hown, hts⟩, hr, hlocks⟩ := C
  obtain ⟨hK, hP, hD, hS, hA, hZ⟩ := hW
  subst hA0
  exact W.vret hx hb hr (fun tt ht hw => ⟨⟨M, rfl, hq, by rw [ht]; exact hP, va_K.moved hw.alike hK, hD⟩, hS.F ht⟩) hS.2.2 hdg hlocks
/-- a contract out of a walk of the body -/
theorem pd_met {av : List Value} {sz mc ms : Nat} {Qc : Array Value → State → Outcome → State → Prop} (hy : plainName y.cls = true) (hlen : (lg_sl av).length ≤ maxL)
    (body : ∀ (p : Program) (e : Env) (s : State) (m : MethodId) (below : List Frame) (meth : Method) (c : Code) (A : Nat → Prop) (ls : Array Slot), pd_C p m c cc maxL s av.toArray y.cls meth ret → A = va_A (pd_WL g M ++ X) sz → pd_W D g t M X A s s.heap [] → lv_has ls maxL (lv_args 0 av) →
      W p l e rm s m av.toArray below meth c s.heap [] 0 0 (MQ below Qc av.toArray s mc ms (va_A (pd_WL g M ++ X) sz)) (F0 m 0 ls [])) :
    Met l y (Cond.code y cc maxL ret :: TB) rm (pd_Pre D g t M X sz av) Qc mc ms (va_A (pd_WL g M ++ X) sz) := by
  refine Met.ofW (cc := cc) (maxL := maxL) (ret := ret) hy rfl ?_
  intro p e s m args below meth c s₁ B hml hv
  obtain ⟨rfl, hsz, hP, hK, hD0, hZ⟩ := hv
  have hts := atoms_spec (ws := Cond.code y cc maxL ret :: TB) B.pre
  have hown : s.vm.findClass y.cls = some m.cls := findClass_of_methodNamed B.named
  subst hsz
  have hD := hD0.self (sz := s.heap.size)
  have hl := lv_entry av (n := maxL) hlen
  rw [lg_entry_eq]
  exact body p e s m below meth c _ _ ⟨⟨B.exec, B.bytes, hml, hown, fun w hw => hts w (List.mem_cons_of_mem _ hw)⟩, B.returns, B.notSynchronized⟩ rfl ⟨hK, hP, hD, va_S.rf, fun q h => Or.inr h, hZ⟩ hl
end PDC

theorem pd_k11 : ∀ i, i < 4 → pd_kind (11 + i) = (0, 3, 0, []) := by decide
theorem pd_k18 : ∀ i, i < 5 → pd_kind (18 + i) = (0, 7, 0, []) := by decide
theorem pd_k24 : ∀ i, i < 5 → pd_kind (24 + i) = (0, 5, 0, []) := by decide
theorem pd_k34 : ∀ i, i < 7 → pd_kind (34 + i) = (0, 4, 0, []) := by decide
theorem pd_k44 : ∀ i, i < 7 → pd_kind (44 + i) = (0, 5, 0, []) := by decide
theorem pd_k53 : ∀ i, i < 7 → pd_kind (53 + i) = (1, 6, 0, []) := by decide
theorem pd_k63 : ∀ i, i < 20 → pd_kind (63 + i) = (0, 6, 0, []) := by decide
end
