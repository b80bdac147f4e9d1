abbrev TB : List Cond := lw_tbl.filter goodWord
theorem tb_in {w : Cond} (h : w ∈ lw_tbl) (g : goodWord w = true) : w ∈ TB := List.mem_filter.mpr ⟨h, g⟩
theorem tb_of {w : Cond} (h : w ∈ TB) : w ∈ lw_tbl := (List.mem_filter.mp h).1
theorem tb_good : GoodIn TB TB := fun w h => ⟨h, good_of_word (List.mem_filter.mp h).2⟩
theorem tb_cons {x w : Cond} (hw : w ∈ TB) : GoodIn (x :: TB) (w :: TB) := fun v h => by
  rcases List.mem_cons.mp h with rfl | h
  · exact ⟨List.mem_cons_of_mem _ hw, (tb_good _ hw).2⟩
  · exact ⟨List.mem_cons_of_mem _ h, (tb_good _ h).2⟩
theorem tb_1 {w : Cond} (h : w ∈ tables_1_1) (g : goodWord w = true) : w ∈ TB := tb_in (List.mem_append_right _ (show w ∈ tables_1 from (List.mem_append_left _ h))) g
theorem tb_2 {w : Cond} (h : w ∈ tables_1_2) (g : goodWord w = true) : w ∈ TB := tb_in (List.mem_append_right _ (show w ∈ tables_1 from (List.mem_append_right _ (List.mem_append_left _ h)))) g
theorem tb_3 {w : Cond} (h : w ∈ tables_1_3) (g : goodWord w = true) : w ∈ TB := tb_in (List.mem_append_right _ (show w ∈ tables_1 from (List.mem_append_right _ (List.mem_append_right _ (List.mem_append_left _ h))))) g
theorem tb_4 {w : Cond} (h : w ∈ tables_1_4) (g : goodWord w = true) : w ∈ TB := tb_in (List.mem_append_right _ (show w ∈ tables_1 from (List.mem_append_right _ (List.mem_append_right _ (List.mem_append_right _ h))))) g
theorem mI_L : Cond.initialized RL ∈ TB := tb_1 (List.mem_of_getElem? (i := 0) rfl) rfl
theorem mI_X8 : Cond.initialized RX8 ∈ TB := tb_1 (List.mem_of_getElem? (i := 1) rfl) rfl
theorem mI_X7 : Cond.initialized RX7 ∈ TB := tb_1 (List.mem_of_getElem? (i := 2) rfl) rfl
theorem mI_X4 : Cond.initialized RX4 ∈ TB := tb_1 (List.mem_of_getElem? (i := 3) rfl) rfl
theorem mI_X0 : Cond.initialized RX0 ∈ TB := tb_1 (List.mem_of_getElem? (i := 4) rfl) rfl
theorem mI_X2 : Cond.initialized RX2 ∈ TB := tb_1 (List.mem_of_getElem? (i := 5) rfl) rfl
theorem mI_X1 : Cond.initialized RX1 ∈ TB := tb_1 (List.mem_of_getElem? (i := 6) rfl) rfl
theorem mI_X6 : Cond.initialized RX6 ∈ TB := tb_1 (List.mem_of_getElem? (i := 7) rfl) rfl
theorem mI_X5 : Cond.initialized RX5 ∈ TB := tb_1 (List.mem_of_getElem? (i := 8) rfl) rfl
theorem mI_X9 : Cond.initialized RX9 ∈ TB := tb_1 (List.mem_of_getElem? (i := 9) rfl) rfl
theorem mI_X3 : Cond.initialized RX3 ∈ TB := tb_1 (List.mem_of_getElem? (i := 10) rfl) rfl
theorem mK_L_7 : Cond.classLink RL 7 RX8 ∈ TB := tb_1 (List.mem_of_getElem? (i := 11) rfl) rfl
theorem mN_X8 : Cond.instantiable RX8 6 ∈ TB := tb_1 (List.mem_of_getElem? (i := 12) rfl) rfl
theorem mM_L_9 : Cond.methodLink RL 9 yX8_init ∈ TB := tb_1 (List.mem_of_getElem? (i := 13) rfl) rfl
theorem mO_yX8_init : Cond.instanceMethod yX8_init ∈ TB := tb_1 (List.mem_of_getElem? (i := 14) rfl) rfl
theorem mC_yX8_init : Cond.code yX8_init cX8_init 1 (Option.none : Option FieldType) ∈ TB := tb_1 (List.mem_of_getElem? (i := 15) rfl) rfl
theorem mM_X8_3 : Cond.methodLink RX8 3 objectInit ∈ TB := tb_1 (List.mem_of_getElem? (i := 16) rfl) rfl
theorem mO_objectInit : Cond.instanceMethod objectInit ∈ TB := tb_1 (List.mem_of_getElem? (i := 17) rfl) rfl
theorem mC_objectInit : Cond.code objectInit ⟨#[0xb1]⟩ 1 none ∈ TB := tb_1 (List.mem_of_getElem? (i := 18) rfl) rfl
theorem mK_X8_9 : Cond.classLink RX8 9 RX7 ∈ TB := tb_1 (List.mem_of_getElem? (i := 19) rfl) rfl
theorem mN_X7 : Cond.instantiable RX7 2 ∈ TB := tb_1 (List.mem_of_getElem? (i := 20) rfl) rfl
theorem mO_yX7_init : Cond.instanceMethod yX7_init ∈ TB := tb_1 (List.mem_of_getElem? (i := 22) rfl) rfl
theorem mC_yX7_init : Cond.code yX7_init cX7_init 1 (Option.none : Option FieldType) ∈ TB := tb_1 (List.mem_of_getElem? (i := 23) rfl) rfl
theorem mM_X7_3 : Cond.methodLink RX7 3 objectInit ∈ TB := tb_1 (List.mem_of_getElem? (i := 24) rfl) rfl
theorem mK_X7_15 : Cond.classLink RX7 15 "[[I" ∈ TB := tb_1 (List.mem_of_getElem? (i := 25) rfl) rfl
theorem mF_X7_9 : Cond.fieldLink RX7 9 "ParkDesk$Zones" "ruled" "[I" ∈ TB := tb_1 (List.mem_of_getElem? (i := 27) rfl) rfl
theorem mF_X8_92 : Cond.fieldLink RX8 92 "ParkDesk$Zones" "ruled" "[I" ∈ TB := tb_1 (List.mem_of_getElem? (i := 28) rfl) rfl
theorem mF_X7_17 : Cond.fieldLink RX7 17 "ParkDesk$Zones" "good" "[[I" ∈ TB := tb_1 (List.mem_of_getElem? (i := 29) rfl) rfl
theorem mF_X8_101 : Cond.fieldLink RX8 101 "ParkDesk$Zones" "good" "[[I" ∈ TB := tb_1 (List.mem_of_getElem? (i := 30) rfl) rfl
theorem mL_X7_ruled : Cond.laysFinal RX7 RX7 "ruled" "[I" ∈ TB := tb_1 (List.mem_of_getElem? (i := 31) rfl) rfl
theorem mL_X7_good : Cond.laysFinal RX7 RX7 "good" "[[I" ∈ TB := tb_1 (List.mem_of_getElem? (i := 33) rfl) rfl
theorem mA_int : Cond.arrayClass FieldType.int ∈ TB := tb_1 (List.mem_of_getElem? (i := 36) rfl) rfl
theorem mK_X8_16 : Cond.classLink RX8 16 RX4 ∈ TB := tb_1 (List.mem_of_getElem? (i := 37) rfl) rfl
theorem mN_X4 : Cond.instantiable RX4 6 ∈ TB := tb_1 (List.mem_of_getElem? (i := 38) rfl) rfl
theorem mM_X8_18 : Cond.methodLink RX8 18 yX4_init ∈ TB := tb_1 (List.mem_of_getElem? (i := 39) rfl) rfl
theorem mO_yX4_init : Cond.instanceMethod yX4_init ∈ TB := tb_1 (List.mem_of_getElem? (i := 40) rfl) rfl
theorem mC_yX4_init : Cond.code yX4_init cX4_init 3 (Option.none : Option FieldType) ∈ TB := tb_1 (List.mem_of_getElem? (i := 41) rfl) rfl
theorem mM_X4_3 : Cond.methodLink RX4 3 objectInit ∈ TB := tb_1 (List.mem_of_getElem? (i := 42) rfl) rfl
theorem mK_X4_22 : Cond.classLink RX4 22 "[[I" ∈ TB := tb_1 (List.mem_of_getElem? (i := 43) rfl) rfl
theorem mF_X4_9 : Cond.fieldLink RX4 9 "ParkDesk$Streets" "count" "I" ∈ TB := tb_1 (List.mem_of_getElem? (i := 44) rfl) rfl
theorem mF_X6_24 : Cond.fieldLink RX6 24 "ParkDesk$Streets" "count" "I" ∈ TB := tb_1 (List.mem_of_getElem? (i := 45) rfl) rfl
theorem mF_X2_51 : Cond.fieldLink RX2 51 "ParkDesk$Streets" "count" "I" ∈ TB := tb_1 (List.mem_of_getElem? (i := 46) rfl) rfl
theorem mF_X8_185 : Cond.fieldLink RX8 185 "ParkDesk$Streets" "count" "I" ∈ TB := tb_1 (List.mem_of_getElem? (i := 47) rfl) rfl
theorem mF_X4_15 : Cond.fieldLink RX4 15 "ParkDesk$Streets" "zone" "[I" ∈ TB := tb_1 (List.mem_of_getElem? (i := 48) rfl) rfl
theorem mF_X8_72 : Cond.fieldLink RX8 72 "ParkDesk$Streets" "zone" "[I" ∈ TB := tb_1 (List.mem_of_getElem? (i := 49) rfl) rfl
theorem mF_X2_66 : Cond.fieldLink RX2 66 "ParkDesk$Streets" "zone" "[I" ∈ TB := tb_1 (List.mem_of_getElem? (i := 50) rfl) rfl
theorem mF_X4_19 : Cond.fieldLink RX4 19 "ParkDesk$Streets" "bays" "[I" ∈ TB := tb_1 (List.mem_of_getElem? (i := 51) rfl) rfl
theorem mF_X2_57 : Cond.fieldLink RX2 57 "ParkDesk$Streets" "bays" "[I" ∈ TB := tb_1 (List.mem_of_getElem? (i := 52) rfl) rfl
theorem mF_X8_83 : Cond.fieldLink RX8 83 "ParkDesk$Streets" "bays" "[I" ∈ TB := tb_1 (List.mem_of_getElem? (i := 53) rfl) rfl
theorem mF_X4_24 : Cond.fieldLink RX4 24 "ParkDesk$Streets" "closed" "[[I" ∈ TB := tb_1 (List.mem_of_getElem? (i := 54) rfl) rfl
theorem mF_X2_60 : Cond.fieldLink RX2 60 "ParkDesk$Streets" "closed" "[[I" ∈ TB := tb_1 (List.mem_of_getElem? (i := 55) rfl) rfl
theorem mF_X8_86 : Cond.fieldLink RX8 86 "ParkDesk$Streets" "closed" "[[I" ∈ TB := tb_1 (List.mem_of_getElem? (i := 56) rfl) rfl
theorem mF_X4_27 : Cond.fieldLink RX4 27 "ParkDesk$Streets" "walk" "[[I" ∈ TB := tb_1 (List.mem_of_getElem? (i := 57) rfl) rfl
theorem mF_X8_76 : Cond.fieldLink RX8 76 "ParkDesk$Streets" "walk" "[[I" ∈ TB := tb_1 (List.mem_of_getElem? (i := 58) rfl) rfl
theorem mF_X2_94 : Cond.fieldLink RX2 94 "ParkDesk$Streets" "walk" "[[I" ∈ TB := tb_1 (List.mem_of_getElem? (i := 59) rfl) rfl
theorem mF_X4_30 : Cond.fieldLink RX4 30 "ParkDesk$Streets" "gain" "[I" ∈ TB := tb_1 (List.mem_of_getElem? (i := 60) rfl) rfl
theorem mF_X6_29 : Cond.fieldLink RX6 29 "ParkDesk$Streets" "gain" "[I" ∈ TB := tb_1 (List.mem_of_getElem? (i := 61) rfl) rfl
theorem mF_X8_144 : Cond.fieldLink RX8 144 "ParkDesk$Streets" "gain" "[I" ∈ TB := tb_1 (List.mem_of_getElem? (i := 62) rfl) rfl
theorem mL_X4_count : Cond.lays RX4 RX4 "count" "I" ∈ TB := tb_1 (List.mem_of_getElem? (i := 63) rfl) rfl
theorem mL_X4_zone : Cond.laysFinal RX4 RX4 "zone" "[I" ∈ TB := tb_1 (List.mem_of_getElem? (i := 65) rfl) rfl
theorem mL_X4_bays : Cond.laysFinal RX4 RX4 "bays" "[I" ∈ TB := tb_1 (List.mem_of_getElem? (i := 67) rfl) rfl
theorem mL_X4_closed : Cond.laysFinal RX4 RX4 "closed" "[[I" ∈ TB := tb_1 (List.mem_of_getElem? (i := 69) rfl) rfl
theorem mL_X4_walk : Cond.laysFinal RX4 RX4 "walk" "[[I" ∈ TB := tb_1 (List.mem_of_getElem? (i := 71) rfl) rfl
theorem mL_X4_gain : Cond.laysFinal RX4 RX4 "gain" "[I" ∈ TB := tb_1 (List.mem_of_getElem? (i := 73) rfl) rfl
theorem mK_X8_23 : Cond.classLink RX8 23 RX0 ∈ TB := tb_1 (List.mem_of_getElem? (i := 76) rfl) rfl
theorem mN_X0 : Cond.instantiable RX0 7 ∈ TB := tb_1 (List.mem_of_getElem? (i := 77) rfl) rfl
theorem mM_X8_25 : Cond.methodLink RX8 25 yX0_init ∈ TB := tb_1 (List.mem_of_getElem? (i := 78) rfl) rfl
theorem mO_yX0_init : Cond.instanceMethod yX0_init ∈ TB := tb_1 (List.mem_of_getElem? (i := 79) rfl) rfl
theorem mC_yX0_init : Cond.code yX0_init cX0_init 2 (Option.none : Option FieldType) ∈ TB := tb_1 (List.mem_of_getElem? (i := 80) rfl) rfl
theorem mM_X0_3 : Cond.methodLink RX0 3 objectInit ∈ TB := tb_1 (List.mem_of_getElem? (i := 81) rfl) rfl
theorem mK_X0_25 : Cond.classLink RX0 25 "[[I" ∈ TB := tb_1 (List.mem_of_getElem? (i := 82) rfl) rfl
theorem mF_X0_33 : Cond.fieldLink RX0 33 "ParkDesk$Cars" "zones" "LParkDesk$Zones;" ∈ TB := tb_1 (List.mem_of_getElem? (i := 83) rfl) rfl
theorem mF_X0_9 : Cond.fieldLink RX0 9 "ParkDesk$Cars" "count" "I" ∈ TB := tb_1 (List.mem_of_getElem? (i := 84) rfl) rfl
theorem mF_X2_63 : Cond.fieldLink RX2 63 "ParkDesk$Cars" "count" "I" ∈ TB := tb_1 (List.mem_of_getElem? (i := 85) rfl) rfl
theorem mF_X8_186 : Cond.fieldLink RX8 186 "ParkDesk$Cars" "count" "I" ∈ TB := tb_1 (List.mem_of_getElem? (i := 86) rfl) rfl
theorem mF_X0_15 : Cond.fieldLink RX0 15 "ParkDesk$Cars" "home" "[I" ∈ TB := tb_1 (List.mem_of_getElem? (i := 87) rfl) rfl
theorem mF_X2_97 : Cond.fieldLink RX2 97 "ParkDesk$Cars" "home" "[I" ∈ TB := tb_1 (List.mem_of_getElem? (i := 88) rfl) rfl
theorem mF_X0_19 : Cond.fieldLink RX0 19 "ParkDesk$Cars" "limit" "[I" ∈ TB := tb_1 (List.mem_of_getElem? (i := 89) rfl) rfl
theorem mF_X2_91 : Cond.fieldLink RX2 91 "ParkDesk$Cars" "limit" "[I" ∈ TB := tb_1 (List.mem_of_getElem? (i := 90) rfl) rfl
theorem mF_X8_117 : Cond.fieldLink RX8 117 "ParkDesk$Cars" "limit" "[I" ∈ TB := tb_1 (List.mem_of_getElem? (i := 91) rfl) rfl
theorem mF_X0_22 : Cond.fieldLink RX0 22 "ParkDesk$Cars" "permits" "[I" ∈ TB := tb_1 (List.mem_of_getElem? (i := 92) rfl) rfl
theorem mF_X0_27 : Cond.fieldLink RX0 27 "ParkDesk$Cars" "cards" "[[I" ∈ TB := tb_1 (List.mem_of_getElem? (i := 93) rfl) rfl
theorem mF_X8_114 : Cond.fieldLink RX8 114 "ParkDesk$Cars" "cards" "[[I" ∈ TB := tb_1 (List.mem_of_getElem? (i := 94) rfl) rfl
theorem mF_X2_122 : Cond.fieldLink RX2 122 "ParkDesk$Cars" "cards" "[[I" ∈ TB := tb_1 (List.mem_of_getElem? (i := 95) rfl) rfl
theorem mF_X0_30 : Cond.fieldLink RX0 30 "ParkDesk$Cars" "order" "[I" ∈ TB := tb_1 (List.mem_of_getElem? (i := 96) rfl) rfl
theorem mF_X2_72 : Cond.fieldLink RX2 72 "ParkDesk$Cars" "order" "[I" ∈ TB := tb_1 (List.mem_of_getElem? (i := 97) rfl) rfl
theorem mL_X0_zones : Cond.laysFinal RX0 RX0 "zones" "LParkDesk$Zones;" ∈ TB := tb_1 (List.mem_of_getElem? (i := 98) rfl) rfl
theorem mL_X0_count : Cond.lays RX0 RX0 "count" "I" ∈ TB := tb_1 (List.mem_of_getElem? (i := 100) rfl) rfl
theorem mL_X0_home : Cond.laysFinal RX0 RX0 "home" "[I" ∈ TB := tb_1 (List.mem_of_getElem? (i := 102) rfl) rfl
theorem mL_X0_limit : Cond.laysFinal RX0 RX0 "limit" "[I" ∈ TB := tb_1 (List.mem_of_getElem? (i := 104) rfl) rfl
theorem mL_X0_permits : Cond.laysFinal RX0 RX0 "permits" "[I" ∈ TB := tb_1 (List.mem_of_getElem? (i := 106) rfl) rfl
theorem mL_X0_cards : Cond.laysFinal RX0 RX0 "cards" "[[I" ∈ TB := tb_1 (List.mem_of_getElem? (i := 108) rfl) rfl
theorem mL_X0_order : Cond.laysFinal RX0 RX0 "order" "[I" ∈ TB := tb_1 (List.mem_of_getElem? (i := 110) rfl) rfl
theorem mK_X8_32 : Cond.classLink RX8 32 RX2 ∈ TB := tb_1 (List.mem_of_getElem? (i := 113) rfl) rfl
theorem mN_X2 : Cond.instantiable RX2 6 ∈ TB := tb_1 (List.mem_of_getElem? (i := 114) rfl) rfl
theorem mM_X8_34 : Cond.methodLink RX8 34 yX2_init ∈ TB := tb_1 (List.mem_of_getElem? (i := 115) rfl) rfl
theorem mO_yX2_init : Cond.instanceMethod yX2_init ∈ TB := tb_1 (List.mem_of_getElem? (i := 116) rfl) rfl
theorem mC_yX2_init : Cond.code yX2_init cX2_init 3 (Option.none : Option FieldType) ∈ TB := tb_1 (List.mem_of_getElem? (i := 117) rfl) rfl
theorem mM_X2_3 : Cond.methodLink RX2 3 objectInit ∈ TB := tb_1 (List.mem_of_getElem? (i := 118) rfl) rfl
theorem mK_X2_15 : Cond.classLink RX2 15 "[[I" ∈ TB := tb_1 (List.mem_of_getElem? (i := 119) rfl) rfl
theorem mK_X2_23 : Cond.classLink RX2 23 RX1 ∈ TB := tb_1 (List.mem_of_getElem? (i := 120) rfl) rfl
theorem mN_X1 : Cond.instantiable RX1 3 ∈ TB := tb_1 (List.mem_of_getElem? (i := 121) rfl) rfl
theorem mO_yX1_init : Cond.instanceMethod yX1_init ∈ TB := tb_1 (List.mem_of_getElem? (i := 123) rfl) rfl
theorem mC_yX1_init : Cond.code yX1_init cX1_init 1 (Option.none : Option FieldType) ∈ TB := tb_1 (List.mem_of_getElem? (i := 124) rfl) rfl
theorem mM_X1_5 : Cond.methodLink RX1 5 objectInit ∈ TB := tb_1 (List.mem_of_getElem? (i := 125) rfl) rfl
theorem mK_X1_11 : Cond.classLink RX1 11 "[[J" ∈ TB := tb_1 (List.mem_of_getElem? (i := 126) rfl) rfl
theorem mF_X1_13 : Cond.fieldLink RX1 13 "ParkDesk$Cheapest" "price" "[[J" ∈ TB := tb_1 (List.mem_of_getElem? (i := 128) rfl) rfl
theorem mF_X1_16 : Cond.fieldLink RX1 16 "ParkDesk$Cheapest" "reach" "[J" ∈ TB := tb_1 (List.mem_of_getElem? (i := 129) rfl) rfl
theorem mF_X1_20 : Cond.fieldLink RX1 20 "ParkDesk$Cheapest" "comer" "[I" ∈ TB := tb_1 (List.mem_of_getElem? (i := 130) rfl) rfl
theorem mL_X1_price : Cond.laysFinal RX1 RX1 "price" "[[J" ∈ TB := tb_1 (List.mem_of_getElem? (i := 131) rfl) rfl
theorem mL_X1_reach : Cond.laysFinal RX1 RX1 "reach" "[J" ∈ TB := tb_1 (List.mem_of_getElem? (i := 133) rfl) rfl
theorem mL_X1_comer : Cond.laysFinal RX1 RX1 "comer" "[I" ∈ TB := tb_1 (List.mem_of_getElem? (i := 135) rfl) rfl
theorem mA_long : Cond.arrayClass FieldType.long ∈ TB := tb_1 (List.mem_of_getElem? (i := 138) rfl) rfl
theorem mF_X2_30 : Cond.fieldLink RX2 30 "ParkDesk$Laying" "streets" "LParkDesk$Streets;" ∈ TB := tb_1 (List.mem_of_getElem? (i := 139) rfl) rfl
theorem mF_X2_34 : Cond.fieldLink RX2 34 "ParkDesk$Laying" "cars" "LParkDesk$Cars;" ∈ TB := tb_1 (List.mem_of_getElem? (i := 140) rfl) rfl
theorem mF_X2_9 : Cond.fieldLink RX2 9 "ParkDesk$Laying" "place" "[I" ∈ TB := tb_1 (List.mem_of_getElem? (i := 141) rfl) rfl
theorem mF_X8_134 : Cond.fieldLink RX8 134 "ParkDesk$Laying" "place" "[I" ∈ TB := tb_1 (List.mem_of_getElem? (i := 142) rfl) rfl
theorem mF_X2_17 : Cond.fieldLink RX2 17 "ParkDesk$Laying" "right" "[[I" ∈ TB := tb_1 (List.mem_of_getElem? (i := 143) rfl) rfl
theorem mF_X2_20 : Cond.fieldLink RX2 20 "ParkDesk$Laying" "left" "[I" ∈ TB := tb_1 (List.mem_of_getElem? (i := 144) rfl) rfl
theorem mF_X2_26 : Cond.fieldLink RX2 26 "ParkDesk$Laying" "cheapest" "LParkDesk$Cheapest;" ∈ TB := tb_1 (List.mem_of_getElem? (i := 145) rfl) rfl
theorem mL_X2_streets : Cond.laysFinal RX2 RX2 "streets" "LParkDesk$Streets;" ∈ TB := tb_1 (List.mem_of_getElem? (i := 146) rfl) rfl
theorem mL_X2_cars : Cond.laysFinal RX2 RX2 "cars" "LParkDesk$Cars;" ∈ TB := tb_1 (List.mem_of_getElem? (i := 148) rfl) rfl
theorem mL_X2_place : Cond.laysFinal RX2 RX2 "place" "[I" ∈ TB := tb_1 (List.mem_of_getElem? (i := 150) rfl) rfl
theorem mL_X2_right : Cond.laysFinal RX2 RX2 "right" "[[I" ∈ TB := tb_1 (List.mem_of_getElem? (i := 152) rfl) rfl
theorem mL_X2_left : Cond.laysFinal RX2 RX2 "left" "[I" ∈ TB := tb_1 (List.mem_of_getElem? (i := 154) rfl) rfl
theorem mL_X2_cheapest : Cond.laysFinal RX2 RX2 "cheapest" "LParkDesk$Cheapest;" ∈ TB := tb_1 (List.mem_of_getElem? (i := 156) rfl) rfl
theorem mK_X8_41 : Cond.classLink RX8 41 RX6 ∈ TB := tb_1 (List.mem_of_getElem? (i := 159) rfl) rfl
theorem mN_X6 : Cond.instantiable RX6 2 ∈ TB := tb_1 (List.mem_of_getElem? (i := 160) rfl) rfl
theorem mM_X8_43 : Cond.methodLink RX8 43 yX6_init ∈ TB := tb_1 (List.mem_of_getElem? (i := 161) rfl) rfl
theorem mO_yX6_init : Cond.instanceMethod yX6_init ∈ TB := tb_1 (List.mem_of_getElem? (i := 162) rfl) rfl
theorem mC_yX6_init : Cond.code yX6_init cX6_init 2 (Option.none : Option FieldType) ∈ TB := tb_1 (List.mem_of_getElem? (i := 163) rfl) rfl
theorem mM_X6_3 : Cond.methodLink RX6 3 objectInit ∈ TB := tb_1 (List.mem_of_getElem? (i := 164) rfl) rfl
theorem mF_X6_15 : Cond.fieldLink RX6 15 "ParkDesk$Wardens" "streets" "LParkDesk$Streets;" ∈ TB := tb_1 (List.mem_of_getElem? (i := 165) rfl) rfl
theorem mF_X6_9 : Cond.fieldLink RX6 9 "ParkDesk$Wardens" "fine" "I" ∈ TB := tb_1 (List.mem_of_getElem? (i := 166) rfl) rfl
theorem mF_X8_147 : Cond.fieldLink RX8 147 "ParkDesk$Wardens" "fine" "I" ∈ TB := tb_1 (List.mem_of_getElem? (i := 167) rfl) rfl
theorem mL_X6_streets : Cond.laysFinal RX6 RX6 "streets" "LParkDesk$Streets;" ∈ TB := tb_1 (List.mem_of_getElem? (i := 168) rfl) rfl
theorem mL_X6_fine : Cond.lays RX6 RX6 "fine" "I" ∈ TB := tb_1 (List.mem_of_getElem? (i := 170) rfl) rfl
theorem mK_X8_50 : Cond.classLink RX8 50 RX5 ∈ TB := tb_1 (List.mem_of_getElem? (i := 173) rfl) rfl
theorem mN_X5 : Cond.instantiable RX5 2 ∈ TB := tb_1 (List.mem_of_getElem? (i := 174) rfl) rfl
theorem mO_yX5_init : Cond.instanceMethod yX5_init ∈ TB := tb_1 (List.mem_of_getElem? (i := 176) rfl) rfl
theorem mC_yX5_init : Cond.code yX5_init cX5_init 1 (Option.none : Option FieldType) ∈ TB := tb_1 (List.mem_of_getElem? (i := 177) rfl) rfl
theorem mM_X5_3 : Cond.methodLink RX5 3 objectInit ∈ TB := tb_1 (List.mem_of_getElem? (i := 178) rfl) rfl
theorem mK_X5_15 : Cond.classLink RX5 15 "[[I" ∈ TB := tb_1 (List.mem_of_getElem? (i := 179) rfl) rfl
theorem mF_X5_9 : Cond.fieldLink RX5 9 "ParkDesk$Tickets" "count" "I" ∈ TB := tb_1 (List.mem_of_getElem? (i := 180) rfl) rfl
theorem mF_X8_173 : Cond.fieldLink RX8 173 "ParkDesk$Tickets" "count" "I" ∈ TB := tb_1 (List.mem_of_getElem? (i := 181) rfl) rfl
theorem mF_X5_17 : Cond.fieldLink RX5 17 "ParkDesk$Tickets" "row" "[[I" ∈ TB := tb_1 (List.mem_of_getElem? (i := 182) rfl) rfl
theorem mF_X8_176 : Cond.fieldLink RX8 176 "ParkDesk$Tickets" "row" "[[I" ∈ TB := tb_1 (List.mem_of_getElem? (i := 183) rfl) rfl
theorem mL_X5_count : Cond.lays RX5 RX5 "count" "I" ∈ TB := tb_1 (List.mem_of_getElem? (i := 184) rfl) rfl
theorem mL_X5_row : Cond.laysFinal RX5 RX5 "row" "[[I" ∈ TB := tb_1 (List.mem_of_getElem? (i := 186) rfl) rfl
theorem mF_X8_12 : Cond.fieldLink RX8 12 "ParkDesk" "zones" "LParkDesk$Zones;" ∈ TB := tb_1 (List.mem_of_getElem? (i := 189) rfl) rfl
theorem mF_X8_19 : Cond.fieldLink RX8 19 "ParkDesk" "streets" "LParkDesk$Streets;" ∈ TB := tb_1 (List.mem_of_getElem? (i := 190) rfl) rfl
theorem mF_X8_28 : Cond.fieldLink RX8 28 "ParkDesk" "cars" "LParkDesk$Cars;" ∈ TB := tb_1 (List.mem_of_getElem? (i := 191) rfl) rfl
theorem mF_X8_37 : Cond.fieldLink RX8 37 "ParkDesk" "laying" "LParkDesk$Laying;" ∈ TB := tb_1 (List.mem_of_getElem? (i := 192) rfl) rfl
theorem mF_X8_46 : Cond.fieldLink RX8 46 "ParkDesk" "wardens" "LParkDesk$Wardens;" ∈ TB := tb_1 (List.mem_of_getElem? (i := 193) rfl) rfl
theorem mF_X8_53 : Cond.fieldLink RX8 53 "ParkDesk" "tickets" "LParkDesk$Tickets;" ∈ TB := tb_1 (List.mem_of_getElem? (i := 194) rfl) rfl
theorem mL_X8_zones : Cond.laysFinal RX8 RX8 "zones" "LParkDesk$Zones;" ∈ TB := tb_1 (List.mem_of_getElem? (i := 195) rfl) rfl
theorem mL_X8_streets : Cond.laysFinal RX8 RX8 "streets" "LParkDesk$Streets;" ∈ TB := tb_1 (List.mem_of_getElem? (i := 197) rfl) rfl
theorem mL_X8_cars : Cond.laysFinal RX8 RX8 "cars" "LParkDesk$Cars;" ∈ TB := tb_1 (List.mem_of_getElem? (i := 199) rfl) rfl
theorem mL_X8_laying : Cond.laysFinal RX8 RX8 "laying" "LParkDesk$Laying;" ∈ TB := tb_1 (List.mem_of_getElem? (i := 201) rfl) rfl
theorem mL_X8_wardens : Cond.laysFinal RX8 RX8 "wardens" "LParkDesk$Wardens;" ∈ TB := tb_1 (List.mem_of_getElem? (i := 203) rfl) rfl
theorem mL_X8_tickets : Cond.laysFinal RX8 RX8 "tickets" "LParkDesk$Tickets;" ∈ TB := tb_1 (List.mem_of_getElem? (i := 205) rfl) rfl
theorem mM_L_13 : Cond.methodLink RL 13 yX8_street ∈ TB := tb_1 (List.mem_of_getElem? (i := 208) rfl) rfl
theorem mO_yX8_street : Cond.instanceMethod yX8_street ∈ TB := tb_1 (List.mem_of_getElem? (i := 209) rfl) rfl
theorem mV_yX8_street : Cond.selects RX8 yX8_street yX8_street ∈ TB := tb_1 (List.mem_of_getElem? (i := 210) rfl) rfl
theorem mC_yX8_street : Cond.code yX8_street cX8_street 3 (Option.some FieldType.int) ∈ TB := tb_1 (List.mem_of_getElem? (i := 211) rfl) rfl
theorem mM_X8_57 : Cond.methodLink RX8 57 yX8_isZone ∈ TB := tb_1 (List.mem_of_getElem? (i := 212) rfl) rfl
theorem mS_yX8_isZone : Cond.static yX8_isZone ∈ TB := tb_1 (List.mem_of_getElem? (i := 213) rfl) rfl
theorem mC_yX8_isZone : Cond.code yX8_isZone cX8_isZone 1 (Option.some FieldType.boolean) ∈ TB := tb_1 (List.mem_of_getElem? (i := 214) rfl) rfl
theorem mM_X8_164 : Cond.methodLink RX8 164 yX8_isNumbered ∈ TB := tb_1 (List.mem_of_getElem? (i := 215) rfl) rfl
theorem mS_yX8_isNumbered : Cond.static yX8_isNumbered ∈ TB := tb_1 (List.mem_of_getElem? (i := 216) rfl) rfl
theorem mC_yX8_isNumbered : Cond.code yX8_isNumbered cX8_isNumbered 2 (Option.some FieldType.boolean) ∈ TB := tb_1 (List.mem_of_getElem? (i := 217) rfl) rfl
theorem mM_X8_61 : Cond.methodLink RX8 61 yX8_isUpTo ∈ TB := tb_1 (List.mem_of_getElem? (i := 218) rfl) rfl
theorem mS_yX8_isUpTo : Cond.static yX8_isUpTo ∈ TB := tb_1 (List.mem_of_getElem? (i := 219) rfl) rfl
theorem mC_yX8_isUpTo : Cond.code yX8_isUpTo cX8_isUpTo 2 (Option.some FieldType.boolean) ∈ TB := tb_1 (List.mem_of_getElem? (i := 220) rfl) rfl
theorem mM_X8_65 : Cond.methodLink RX8 65 yX4_add ∈ TB := tb_1 (List.mem_of_getElem? (i := 221) rfl) rfl
theorem mO_yX4_add : Cond.instanceMethod yX4_add ∈ TB := tb_1 (List.mem_of_getElem? (i := 222) rfl) rfl
theorem mV_yX4_add : Cond.selects RX4 yX4_add yX4_add ∈ TB := tb_1 (List.mem_of_getElem? (i := 223) rfl) rfl
theorem mC_yX4_add : Cond.code yX4_add cX4_add 3 (Option.some FieldType.int) ∈ TB := tb_1 (List.mem_of_getElem? (i := 224) rfl) rfl
theorem mM_L_18 : Cond.methodLink RL 18 yX8_move ∈ TB := tb_1 (List.mem_of_getElem? (i := 225) rfl) rfl
theorem mO_yX8_move : Cond.instanceMethod yX8_move ∈ TB := tb_1 (List.mem_of_getElem? (i := 226) rfl) rfl
theorem mV_yX8_move : Cond.selects RX8 yX8_move yX8_move ∈ TB := tb_1 (List.mem_of_getElem? (i := 227) rfl) rfl
theorem mC_yX8_move : Cond.code yX8_move cX8_move 4 (Option.some FieldType.int) ∈ TB := tb_1 (List.mem_of_getElem? (i := 228) rfl) rfl
theorem mM_X8_69 : Cond.methodLink RX8 69 yX8_isStreet ∈ TB := tb_1 (List.mem_of_getElem? (i := 229) rfl) rfl
theorem mO_yX8_isStreet : Cond.instanceMethod yX8_isStreet ∈ TB := tb_1 (List.mem_of_getElem? (i := 231) rfl) rfl
theorem mC_yX8_isStreet : Cond.code yX8_isStreet cX8_isStreet 2 (Option.some FieldType.boolean) ∈ TB := tb_1 (List.mem_of_getElem? (i := 232) rfl) rfl
theorem mM_L_22 : Cond.methodLink RL 22 yX8_walk ∈ TB := tb_1 (List.mem_of_getElem? (i := 233) rfl) rfl
theorem mO_yX8_walk : Cond.instanceMethod yX8_walk ∈ TB := tb_1 (List.mem_of_getElem? (i := 234) rfl) rfl
theorem mV_yX8_walk : Cond.selects RX8 yX8_walk yX8_walk ∈ TB := tb_1 (List.mem_of_getElem? (i := 235) rfl) rfl
theorem mC_yX8_walk : Cond.code yX8_walk cX8_walk 5 (Option.some FieldType.int) ∈ TB := tb_1 (List.mem_of_getElem? (i := 236) rfl) rfl
theorem mM_L_27 : Cond.methodLink RL 27 yX8_close ∈ TB := tb_1 (List.mem_of_getElem? (i := 237) rfl) rfl
theorem mO_yX8_close : Cond.instanceMethod yX8_close ∈ TB := tb_1 (List.mem_of_getElem? (i := 238) rfl) rfl
theorem mV_yX8_close : Cond.selects RX8 yX8_close yX8_close ∈ TB := tb_1 (List.mem_of_getElem? (i := 239) rfl) rfl
theorem mC_yX8_close : Cond.code yX8_close cX8_close 5 (Option.some FieldType.int) ∈ TB := tb_2 (List.mem_of_getElem? (i := 0) rfl) rfl
theorem mM_X8_80 : Cond.methodLink RX8 80 yX8_isNight ∈ TB := tb_2 (List.mem_of_getElem? (i := 1) rfl) rfl
theorem mS_yX8_isNight : Cond.static yX8_isNight ∈ TB := tb_2 (List.mem_of_getElem? (i := 2) rfl) rfl
theorem mC_yX8_isNight : Cond.code yX8_isNight cX8_isNight 1 (Option.some FieldType.boolean) ∈ TB := tb_2 (List.mem_of_getElem? (i := 3) rfl) rfl
theorem mM_L_31 : Cond.methodLink RL 31 yX8_rule ∈ TB := tb_2 (List.mem_of_getElem? (i := 4) rfl) rfl
theorem mO_yX8_rule : Cond.instanceMethod yX8_rule ∈ TB := tb_2 (List.mem_of_getElem? (i := 5) rfl) rfl
theorem mV_yX8_rule : Cond.selects RX8 yX8_rule yX8_rule ∈ TB := tb_2 (List.mem_of_getElem? (i := 6) rfl) rfl
theorem mC_yX8_rule : Cond.code yX8_rule cX8_rule 4 (Option.some FieldType.int) ∈ TB := tb_2 (List.mem_of_getElem? (i := 7) rfl) rfl
theorem mM_X8_89 : Cond.methodLink RX8 89 yX8_isSpan ∈ TB := tb_2 (List.mem_of_getElem? (i := 8) rfl) rfl
theorem mS_yX8_isSpan : Cond.static yX8_isSpan ∈ TB := tb_2 (List.mem_of_getElem? (i := 9) rfl) rfl
theorem mC_yX8_isSpan : Cond.code yX8_isSpan cX8_isSpan 2 (Option.some FieldType.boolean) ∈ TB := tb_2 (List.mem_of_getElem? (i := 10) rfl) rfl
theorem mM_X8_123 : Cond.methodLink RX8 123 yX8_isHour ∈ TB := tb_2 (List.mem_of_getElem? (i := 11) rfl) rfl
theorem mS_yX8_isHour : Cond.static yX8_isHour ∈ TB := tb_2 (List.mem_of_getElem? (i := 12) rfl) rfl
theorem mC_yX8_isHour : Cond.code yX8_isHour cX8_isHour 1 (Option.some FieldType.boolean) ∈ TB := tb_2 (List.mem_of_getElem? (i := 13) rfl) rfl
theorem mM_X8_95 : Cond.methodLink RX8 95 yX8_span ∈ TB := tb_2 (List.mem_of_getElem? (i := 14) rfl) rfl
theorem mS_yX8_span : Cond.static yX8_span ∈ TB := tb_2 (List.mem_of_getElem? (i := 15) rfl) rfl
theorem mC_yX8_span : Cond.code yX8_span cX8_span 5 (Option.some FieldType.int) ∈ TB := tb_2 (List.mem_of_getElem? (i := 16) rfl) rfl
theorem mM_L_35 : Cond.methodLink RL 35 yX8_hours ∈ TB := tb_2 (List.mem_of_getElem? (i := 17) rfl) rfl
theorem mO_yX8_hours : Cond.instanceMethod yX8_hours ∈ TB := tb_2 (List.mem_of_getElem? (i := 18) rfl) rfl
theorem mV_yX8_hours : Cond.selects RX8 yX8_hours yX8_hours ∈ TB := tb_2 (List.mem_of_getElem? (i := 19) rfl) rfl
theorem mC_yX8_hours : Cond.code yX8_hours cX8_hours 5 (Option.some FieldType.int) ∈ TB := tb_2 (List.mem_of_getElem? (i := 20) rfl) rfl
theorem mM_X8_98 : Cond.methodLink RX8 98 yX8_isSort ∈ TB := tb_2 (List.mem_of_getElem? (i := 21) rfl) rfl
theorem mS_yX8_isSort : Cond.static yX8_isSort ∈ TB := tb_2 (List.mem_of_getElem? (i := 22) rfl) rfl
theorem mC_yX8_isSort : Cond.code yX8_isSort cX8_isSort 1 (Option.some FieldType.boolean) ∈ TB := tb_2 (List.mem_of_getElem? (i := 23) rfl) rfl
theorem mM_L_40 : Cond.methodLink RL 40 yX8_car ∈ TB := tb_2 (List.mem_of_getElem? (i := 24) rfl) rfl
theorem mO_yX8_car : Cond.instanceMethod yX8_car ∈ TB := tb_2 (List.mem_of_getElem? (i := 25) rfl) rfl
theorem mV_yX8_car : Cond.selects RX8 yX8_car yX8_car ∈ TB := tb_2 (List.mem_of_getElem? (i := 26) rfl) rfl
theorem mC_yX8_car : Cond.code yX8_car cX8_car 2 (Option.some FieldType.int) ∈ TB := tb_2 (List.mem_of_getElem? (i := 27) rfl) rfl
theorem mM_X8_104 : Cond.methodLink RX8 104 yX0_add ∈ TB := tb_2 (List.mem_of_getElem? (i := 28) rfl) rfl
theorem mO_yX0_add : Cond.instanceMethod yX0_add ∈ TB := tb_2 (List.mem_of_getElem? (i := 29) rfl) rfl
theorem mV_yX0_add : Cond.selects RX0 yX0_add yX0_add ∈ TB := tb_2 (List.mem_of_getElem? (i := 30) rfl) rfl
theorem mC_yX0_add : Cond.code yX0_add cX0_add 2 (Option.some FieldType.int) ∈ TB := tb_2 (List.mem_of_getElem? (i := 31) rfl) rfl
theorem mM_L_45 : Cond.methodLink RL 45 yX8_permit ∈ TB := tb_2 (List.mem_of_getElem? (i := 32) rfl) rfl
theorem mO_yX8_permit : Cond.instanceMethod yX8_permit ∈ TB := tb_2 (List.mem_of_getElem? (i := 33) rfl) rfl
theorem mV_yX8_permit : Cond.selects RX8 yX8_permit yX8_permit ∈ TB := tb_2 (List.mem_of_getElem? (i := 34) rfl) rfl
theorem mC_yX8_permit : Cond.code yX8_permit cX8_permit 5 (Option.some FieldType.int) ∈ TB := tb_2 (List.mem_of_getElem? (i := 35) rfl) rfl
theorem mM_X8_107 : Cond.methodLink RX8 107 yX8_isCar ∈ TB := tb_2 (List.mem_of_getElem? (i := 36) rfl) rfl
theorem mO_yX8_isCar : Cond.instanceMethod yX8_isCar ∈ TB := tb_2 (List.mem_of_getElem? (i := 38) rfl) rfl
theorem mC_yX8_isCar : Cond.code yX8_isCar cX8_isCar 2 (Option.some FieldType.boolean) ∈ TB := tb_2 (List.mem_of_getElem? (i := 39) rfl) rfl
theorem mM_X8_110 : Cond.methodLink RX8 110 yX0_setPermit ∈ TB := tb_2 (List.mem_of_getElem? (i := 40) rfl) rfl
theorem mO_yX0_setPermit : Cond.instanceMethod yX0_setPermit ∈ TB := tb_2 (List.mem_of_getElem? (i := 41) rfl) rfl
theorem mV_yX0_setPermit : Cond.selects RX0 yX0_setPermit yX0_setPermit ∈ TB := tb_2 (List.mem_of_getElem? (i := 42) rfl) rfl
theorem mC_yX0_setPermit : Cond.code yX0_setPermit cX0_setPermit 5 (Option.some FieldType.boolean) ∈ TB := tb_2 (List.mem_of_getElem? (i := 43) rfl) rfl
theorem mM_X0_41 : Cond.methodLink RX0 41 yX0_hasPermit ∈ TB := tb_2 (List.mem_of_getElem? (i := 44) rfl) rfl
theorem mO_yX0_hasPermit : Cond.instanceMethod yX0_hasPermit ∈ TB := tb_2 (List.mem_of_getElem? (i := 45) rfl) rfl
theorem mV_yX0_hasPermit : Cond.selects RX0 yX0_hasPermit yX0_hasPermit ∈ TB := tb_2 (List.mem_of_getElem? (i := 46) rfl) rfl
theorem mC_yX0_hasPermit : Cond.code yX0_hasPermit cX0_hasPermit 4 (Option.some FieldType.boolean) ∈ TB := tb_2 (List.mem_of_getElem? (i := 47) rfl) rfl
theorem mM_X0_37 : Cond.methodLink RX0 37 yX0_permitBit ∈ TB := tb_2 (List.mem_of_getElem? (i := 48) rfl) rfl
theorem mS_yX0_permitBit : Cond.static yX0_permitBit ∈ TB := tb_2 (List.mem_of_getElem? (i := 49) rfl) rfl
theorem mC_yX0_permitBit : Cond.code yX0_permitBit cX0_permitBit 2 (Option.some FieldType.int) ∈ TB := tb_2 (List.mem_of_getElem? (i := 50) rfl) rfl
theorem mM_L_50 : Cond.methodLink RL 50 yX8_cards ∈ TB := tb_2 (List.mem_of_getElem? (i := 51) rfl) rfl
theorem mO_yX8_cards : Cond.instanceMethod yX8_cards ∈ TB := tb_2 (List.mem_of_getElem? (i := 52) rfl) rfl
theorem mV_yX8_cards : Cond.selects RX8 yX8_cards yX8_cards ∈ TB := tb_2 (List.mem_of_getElem? (i := 53) rfl) rfl
theorem mC_yX8_cards : Cond.code yX8_cards cX8_cards 5 (Option.some FieldType.int) ∈ TB := tb_2 (List.mem_of_getElem? (i := 54) rfl) rfl
theorem mM_L_54 : Cond.methodLink RL 54 yX8_limit ∈ TB := tb_2 (List.mem_of_getElem? (i := 55) rfl) rfl
theorem mO_yX8_limit : Cond.instanceMethod yX8_limit ∈ TB := tb_2 (List.mem_of_getElem? (i := 56) rfl) rfl
theorem mV_yX8_limit : Cond.selects RX8 yX8_limit yX8_limit ∈ TB := tb_2 (List.mem_of_getElem? (i := 57) rfl) rfl
theorem mC_yX8_limit : Cond.code yX8_limit cX8_limit 4 (Option.some FieldType.int) ∈ TB := tb_2 (List.mem_of_getElem? (i := 58) rfl) rfl
theorem mM_L_58 : Cond.methodLink RL 58 yX8_late ∈ TB := tb_2 (List.mem_of_getElem? (i := 59) rfl) rfl
theorem mO_yX8_late : Cond.instanceMethod yX8_late ∈ TB := tb_2 (List.mem_of_getElem? (i := 60) rfl) rfl
theorem mV_yX8_late : Cond.selects RX8 yX8_late yX8_late ∈ TB := tb_2 (List.mem_of_getElem? (i := 61) rfl) rfl
theorem mC_yX8_late : Cond.code yX8_late cX8_late 2 (Option.some FieldType.int) ∈ TB := tb_2 (List.mem_of_getElem? (i := 62) rfl) rfl
theorem mM_X8_120 : Cond.methodLink RX8 120 yX0_putLast ∈ TB := tb_2 (List.mem_of_getElem? (i := 63) rfl) rfl
theorem mO_yX0_putLast : Cond.instanceMethod yX0_putLast ∈ TB := tb_2 (List.mem_of_getElem? (i := 64) rfl) rfl
theorem mV_yX0_putLast : Cond.selects RX0 yX0_putLast yX0_putLast ∈ TB := tb_2 (List.mem_of_getElem? (i := 65) rfl) rfl
theorem mC_yX0_putLast : Cond.code yX0_putLast cX0_putLast 5 (Option.some FieldType.int) ∈ TB := tb_2 (List.mem_of_getElem? (i := 66) rfl) rfl
theorem mM_L_62 : Cond.methodLink RL 62 yX8_may ∈ TB := tb_2 (List.mem_of_getElem? (i := 67) rfl) rfl
theorem mO_yX8_may : Cond.instanceMethod yX8_may ∈ TB := tb_2 (List.mem_of_getElem? (i := 68) rfl) rfl
theorem mV_yX8_may : Cond.selects RX8 yX8_may yX8_may ∈ TB := tb_2 (List.mem_of_getElem? (i := 69) rfl) rfl
theorem mC_yX8_may : Cond.code yX8_may cX8_may 4 (Option.some FieldType.int) ∈ TB := tb_2 (List.mem_of_getElem? (i := 70) rfl) rfl
theorem mM_X8_126 : Cond.methodLink RX8 126 yX0_right ∈ TB := tb_2 (List.mem_of_getElem? (i := 71) rfl) rfl
theorem mO_yX0_right : Cond.instanceMethod yX0_right ∈ TB := tb_2 (List.mem_of_getElem? (i := 72) rfl) rfl
theorem mV_yX0_right : Cond.selects RX0 yX0_right yX0_right ∈ TB := tb_2 (List.mem_of_getElem? (i := 73) rfl) rfl
theorem mC_yX0_right : Cond.code yX0_right cX0_right 5 (Option.some FieldType.int) ∈ TB := tb_2 (List.mem_of_getElem? (i := 74) rfl) rfl
theorem mM_X0_45 : Cond.methodLink RX0 45 yX7_isRuled ∈ TB := tb_2 (List.mem_of_getElem? (i := 75) rfl) rfl
theorem mO_yX7_isRuled : Cond.instanceMethod yX7_isRuled ∈ TB := tb_2 (List.mem_of_getElem? (i := 76) rfl) rfl
theorem mV_yX7_isRuled : Cond.selects RX7 yX7_isRuled yX7_isRuled ∈ TB := tb_2 (List.mem_of_getElem? (i := 77) rfl) rfl
theorem mC_yX7_isRuled : Cond.code yX7_isRuled cX7_isRuled 3 (Option.some FieldType.boolean) ∈ TB := tb_2 (List.mem_of_getElem? (i := 78) rfl) rfl
theorem mM_X0_51 : Cond.methodLink RX0 51 yX7_isGood ∈ TB := tb_2 (List.mem_of_getElem? (i := 79) rfl) rfl
theorem mO_yX7_isGood : Cond.instanceMethod yX7_isGood ∈ TB := tb_2 (List.mem_of_getElem? (i := 80) rfl) rfl
theorem mV_yX7_isGood : Cond.selects RX7 yX7_isGood yX7_isGood ∈ TB := tb_2 (List.mem_of_getElem? (i := 81) rfl) rfl
theorem mC_yX7_isGood : Cond.code yX7_isGood cX7_isGood 4 (Option.some FieldType.boolean) ∈ TB := tb_2 (List.mem_of_getElem? (i := 82) rfl) rfl
theorem mM_L_66 : Cond.methodLink RL 66 yX8_stands ∈ TB := tb_2 (List.mem_of_getElem? (i := 83) rfl) rfl
theorem mO_yX8_stands : Cond.instanceMethod yX8_stands ∈ TB := tb_2 (List.mem_of_getElem? (i := 84) rfl) rfl
theorem mV_yX8_stands : Cond.selects RX8 yX8_stands yX8_stands ∈ TB := tb_2 (List.mem_of_getElem? (i := 85) rfl) rfl
theorem mC_yX8_stands : Cond.code yX8_stands cX8_stands 6 (Option.some FieldType.int) ∈ TB := tb_2 (List.mem_of_getElem? (i := 86) rfl) rfl
theorem mM_X8_130 : Cond.methodLink RX8 130 yX2_lay ∈ TB := tb_2 (List.mem_of_getElem? (i := 87) rfl) rfl
theorem mO_yX2_lay : Cond.instanceMethod yX2_lay ∈ TB := tb_2 (List.mem_of_getElem? (i := 88) rfl) rfl
theorem mV_yX2_lay : Cond.selects RX2 yX2_lay yX2_lay ∈ TB := tb_2 (List.mem_of_getElem? (i := 89) rfl) rfl
theorem mC_yX2_lay : Cond.code yX2_lay cX2_lay 4 (Option.none : Option FieldType) ∈ TB := tb_2 (List.mem_of_getElem? (i := 90) rfl) rfl
theorem mM_X2_38 : Cond.methodLink RX2 38 yX2_openBays ∈ TB := tb_2 (List.mem_of_getElem? (i := 91) rfl) rfl
theorem mO_yX2_openBays : Cond.instanceMethod yX2_openBays ∈ TB := tb_2 (List.mem_of_getElem? (i := 93) rfl) rfl
theorem mC_yX2_openBays : Cond.code yX2_openBays cX2_openBays 3 (Option.none : Option FieldType) ∈ TB := tb_2 (List.mem_of_getElem? (i := 94) rfl) rfl
theorem mM_X2_42 : Cond.methodLink RX2 42 yX2_readRights ∈ TB := tb_2 (List.mem_of_getElem? (i := 95) rfl) rfl
theorem mO_yX2_readRights : Cond.instanceMethod yX2_readRights ∈ TB := tb_2 (List.mem_of_getElem? (i := 97) rfl) rfl
theorem mC_yX2_readRights : Cond.code yX2_readRights cX2_readRights 4 (Option.none : Option FieldType) ∈ TB := tb_2 (List.mem_of_getElem? (i := 98) rfl) rfl
theorem mM_X2_69 : Cond.methodLink RX2 69 yX0_right ∈ TB := tb_2 (List.mem_of_getElem? (i := 99) rfl) rfl
theorem mM_X2_45 : Cond.methodLink RX2 45 yX2_layLeast ∈ TB := tb_2 (List.mem_of_getElem? (i := 100) rfl) rfl
theorem mO_yX2_layLeast : Cond.instanceMethod yX2_layLeast ∈ TB := tb_2 (List.mem_of_getElem? (i := 102) rfl) rfl
theorem mC_yX2_layLeast : Cond.code yX2_layLeast cX2_layLeast 3 (Option.none : Option FieldType) ∈ TB := tb_2 (List.mem_of_getElem? (i := 103) rfl) rfl
theorem mM_X2_79 : Cond.methodLink RX2 79 yX2_isWithin ∈ TB := tb_2 (List.mem_of_getElem? (i := 104) rfl) rfl
theorem mO_yX2_isWithin : Cond.instanceMethod yX2_isWithin ∈ TB := tb_2 (List.mem_of_getElem? (i := 106) rfl) rfl
theorem mC_yX2_isWithin : Cond.code yX2_isWithin cX2_isWithin 3 (Option.some FieldType.boolean) ∈ TB := tb_2 (List.mem_of_getElem? (i := 107) rfl) rfl
theorem mM_X2_87 : Cond.methodLink RX2 87 yX2_walkTo ∈ TB := tb_2 (List.mem_of_getElem? (i := 108) rfl) rfl
theorem mO_yX2_walkTo : Cond.instanceMethod yX2_walkTo ∈ TB := tb_2 (List.mem_of_getElem? (i := 110) rfl) rfl
theorem mC_yX2_walkTo : Cond.code yX2_walkTo cX2_walkTo 3 (Option.some FieldType.int) ∈ TB := tb_2 (List.mem_of_getElem? (i := 111) rfl) rfl
theorem mM_X2_100 : Cond.methodLink RX2 100 yX1_setPrice ∈ TB := tb_2 (List.mem_of_getElem? (i := 112) rfl) rfl
theorem mO_yX1_setPrice : Cond.instanceMethod yX1_setPrice ∈ TB := tb_2 (List.mem_of_getElem? (i := 113) rfl) rfl
theorem mV_yX1_setPrice : Cond.selects RX1 yX1_setPrice yX1_setPrice ∈ TB := tb_2 (List.mem_of_getElem? (i := 114) rfl) rfl
theorem mC_yX1_setPrice : Cond.code yX1_setPrice cX1_setPrice 4 (Option.none : Option FieldType) ∈ TB := tb_2 (List.mem_of_getElem? (i := 115) rfl) rfl
theorem mJ_X1_24 : Cond.constantLong RX1 24 (279936 : Int64) ∈ TB := tb_2 (List.mem_of_getElem? (i := 116) rfl) rfl
theorem mF_X1_26 : Cond.fieldLink RX1 26 "ParkDesk$Cheapest" "PLACE_PRICE" "[I" ∈ TB := tb_2 (List.mem_of_getElem? (i := 117) rfl) rfl
theorem mM_X2_104 : Cond.methodLink RX2 104 yX1_forbid ∈ TB := tb_2 (List.mem_of_getElem? (i := 119) rfl) rfl
theorem mO_yX1_forbid : Cond.instanceMethod yX1_forbid ∈ TB := tb_2 (List.mem_of_getElem? (i := 120) rfl) rfl
theorem mV_yX1_forbid : Cond.selects RX1 yX1_forbid yX1_forbid ∈ TB := tb_2 (List.mem_of_getElem? (i := 121) rfl) rfl
theorem mC_yX1_forbid : Cond.code yX1_forbid cX1_forbid 3 (Option.none : Option FieldType) ∈ TB := tb_2 (List.mem_of_getElem? (i := 122) rfl) rfl
theorem mJ_X1_33 : Cond.constantLong RX1 33 (-1 : Int64) ∈ TB := tb_2 (List.mem_of_getElem? (i := 123) rfl) rfl
theorem mM_X2_108 : Cond.methodLink RX2 108 yX1_setPriceOut ∈ TB := tb_2 (List.mem_of_getElem? (i := 124) rfl) rfl
theorem mO_yX1_setPriceOut : Cond.instanceMethod yX1_setPriceOut ∈ TB := tb_2 (List.mem_of_getElem? (i := 125) rfl) rfl
theorem mV_yX1_setPriceOut : Cond.selects RX1 yX1_setPriceOut yX1_setPriceOut ∈ TB := tb_2 (List.mem_of_getElem? (i := 126) rfl) rfl
theorem mC_yX1_setPriceOut : Cond.code yX1_setPriceOut cX1_setPriceOut 2 (Option.none : Option FieldType) ∈ TB := tb_2 (List.mem_of_getElem? (i := 127) rfl) rfl
theorem mJ_X1_29 : Cond.constantLong RX1 29 (279936000 : Int64) ∈ TB := tb_2 (List.mem_of_getElem? (i := 128) rfl) rfl
theorem mJ_X1_31 : Cond.constantLong RX1 31 (5 : Int64) ∈ TB := tb_2 (List.mem_of_getElem? (i := 129) rfl) rfl
theorem mM_X2_111 : Cond.methodLink RX2 111 yX1_add ∈ TB := tb_2 (List.mem_of_getElem? (i := 130) rfl) rfl
theorem mO_yX1_add : Cond.instanceMethod yX1_add ∈ TB := tb_2 (List.mem_of_getElem? (i := 131) rfl) rfl
theorem mV_yX1_add : Cond.selects RX1 yX1_add yX1_add ∈ TB := tb_2 (List.mem_of_getElem? (i := 132) rfl) rfl
theorem mC_yX1_add : Cond.code yX1_add cX1_add 7 (Option.none : Option FieldType) ∈ TB := tb_2 (List.mem_of_getElem? (i := 133) rfl) rfl
theorem mM_X1_35 : Cond.methodLink RX1 35 yX1_startAt ∈ TB := tb_2 (List.mem_of_getElem? (i := 134) rfl) rfl
theorem mO_yX1_startAt : Cond.instanceMethod yX1_startAt ∈ TB := tb_2 (List.mem_of_getElem? (i := 136) rfl) rfl
theorem mC_yX1_startAt : Cond.code yX1_startAt cX1_startAt 3 (Option.none : Option FieldType) ∈ TB := tb_2 (List.mem_of_getElem? (i := 137) rfl) rfl
theorem mJ_X1_51 : Cond.constantLong RX1 51 (1000000000000000 : Int64) ∈ TB := tb_2 (List.mem_of_getElem? (i := 138) rfl) rfl
theorem mM_X1_39 : Cond.methodLink RX1 39 yX1_passOn ∈ TB := tb_2 (List.mem_of_getElem? (i := 139) rfl) rfl
theorem mO_yX1_passOn : Cond.instanceMethod yX1_passOn ∈ TB := tb_2 (List.mem_of_getElem? (i := 141) rfl) rfl
theorem mC_yX1_passOn : Cond.code yX1_passOn cX1_passOn 7 (Option.some FieldType.boolean) ∈ TB := tb_2 (List.mem_of_getElem? (i := 142) rfl) rfl
theorem mM_X1_43 : Cond.methodLink RX1 43 yX1_cheapestEnd ∈ TB := tb_2 (List.mem_of_getElem? (i := 143) rfl) rfl
theorem mO_yX1_cheapestEnd : Cond.instanceMethod yX1_cheapestEnd ∈ TB := tb_2 (List.mem_of_getElem? (i := 145) rfl) rfl
theorem mC_yX1_cheapestEnd : Cond.code yX1_cheapestEnd cX1_cheapestEnd 4 (Option.some FieldType.int) ∈ TB := tb_2 (List.mem_of_getElem? (i := 146) rfl) rfl
theorem mM_X1_47 : Cond.methodLink RX1 47 yX1_shift ∈ TB := tb_2 (List.mem_of_getElem? (i := 147) rfl) rfl
theorem mO_yX1_shift : Cond.instanceMethod yX1_shift ∈ TB := tb_2 (List.mem_of_getElem? (i := 149) rfl) rfl
theorem mC_yX1_shift : Cond.code yX1_shift cX1_shift 7 (Option.none : Option FieldType) ∈ TB := tb_2 (List.mem_of_getElem? (i := 150) rfl) rfl
theorem mM_X2_48 : Cond.methodLink RX2 48 yX2_comeHome ∈ TB := tb_2 (List.mem_of_getElem? (i := 151) rfl) rfl
theorem mO_yX2_comeHome : Cond.instanceMethod yX2_comeHome ∈ TB := tb_2 (List.mem_of_getElem? (i := 153) rfl) rfl
theorem mC_yX2_comeHome : Cond.code yX2_comeHome cX2_comeHome 3 (Option.none : Option FieldType) ∈ TB := tb_2 (List.mem_of_getElem? (i := 154) rfl) rfl
theorem mM_X2_75 : Cond.methodLink RX2 75 yX2_choose ∈ TB := tb_2 (List.mem_of_getElem? (i := 155) rfl) rfl
theorem mO_yX2_choose : Cond.instanceMethod yX2_choose ∈ TB := tb_2 (List.mem_of_getElem? (i := 157) rfl) rfl
theorem mC_yX2_choose : Cond.code yX2_choose cX2_choose 4 (Option.some FieldType.int) ∈ TB := tb_2 (List.mem_of_getElem? (i := 158) rfl) rfl
theorem mM_X2_83 : Cond.methodLink RX2 83 yX2_isBetter ∈ TB := tb_2 (List.mem_of_getElem? (i := 159) rfl) rfl
theorem mO_yX2_isBetter : Cond.instanceMethod yX2_isBetter ∈ TB := tb_2 (List.mem_of_getElem? (i := 161) rfl) rfl
theorem mC_yX2_isBetter : Cond.code yX2_isBetter cX2_isBetter 6 (Option.some FieldType.boolean) ∈ TB := tb_2 (List.mem_of_getElem? (i := 162) rfl) rfl
theorem mM_L_70 : Cond.methodLink RL 70 yX8_told ∈ TB := tb_2 (List.mem_of_getElem? (i := 163) rfl) rfl
theorem mO_yX8_told : Cond.instanceMethod yX8_told ∈ TB := tb_2 (List.mem_of_getElem? (i := 164) rfl) rfl
theorem mV_yX8_told : Cond.selects RX8 yX8_told yX8_told ∈ TB := tb_2 (List.mem_of_getElem? (i := 165) rfl) rfl
theorem mC_yX8_told : Cond.code yX8_told cX8_told 5 (Option.some FieldType.int) ∈ TB := tb_2 (List.mem_of_getElem? (i := 166) rfl) rfl
theorem mM_X8_137 : Cond.methodLink RX8 137 yX2_tell ∈ TB := tb_2 (List.mem_of_getElem? (i := 167) rfl) rfl
theorem mO_yX2_tell : Cond.instanceMethod yX2_tell ∈ TB := tb_2 (List.mem_of_getElem? (i := 168) rfl) rfl
theorem mV_yX2_tell : Cond.selects RX2 yX2_tell yX2_tell ∈ TB := tb_2 (List.mem_of_getElem? (i := 169) rfl) rfl
theorem mC_yX2_tell : Cond.code yX2_tell cX2_tell 4 (Option.some FieldType.int) ∈ TB := tb_2 (List.mem_of_getElem? (i := 170) rfl) rfl
theorem mM_X2_115 : Cond.methodLink RX2 115 yX2_tellOne ∈ TB := tb_2 (List.mem_of_getElem? (i := 171) rfl) rfl
theorem mO_yX2_tellOne : Cond.instanceMethod yX2_tellOne ∈ TB := tb_2 (List.mem_of_getElem? (i := 173) rfl) rfl
theorem mC_yX2_tellOne : Cond.code yX2_tellOne cX2_tellOne 3 (Option.some FieldType.int) ∈ TB := tb_2 (List.mem_of_getElem? (i := 174) rfl) rfl
theorem mM_X2_118 : Cond.methodLink RX2 118 yX2_standsByCard ∈ TB := tb_2 (List.mem_of_getElem? (i := 175) rfl) rfl
theorem mO_yX2_standsByCard : Cond.instanceMethod yX2_standsByCard ∈ TB := tb_2 (List.mem_of_getElem? (i := 177) rfl) rfl
theorem mC_yX2_standsByCard : Cond.code yX2_standsByCard cX2_standsByCard 2 (Option.some FieldType.boolean) ∈ TB := tb_2 (List.mem_of_getElem? (i := 178) rfl) rfl
theorem mM_L_74 : Cond.methodLink RL 74 yX8_keep ∈ TB := tb_2 (List.mem_of_getElem? (i := 179) rfl) rfl
theorem mO_yX8_keep : Cond.instanceMethod yX8_keep ∈ TB := tb_2 (List.mem_of_getElem? (i := 180) rfl) rfl
theorem mV_yX8_keep : Cond.selects RX8 yX8_keep yX8_keep ∈ TB := tb_2 (List.mem_of_getElem? (i := 181) rfl) rfl
theorem mC_yX8_keep : Cond.code yX8_keep cX8_keep 3 (Option.some FieldType.int) ∈ TB := tb_2 (List.mem_of_getElem? (i := 182) rfl) rfl
theorem mM_X8_140 : Cond.methodLink RX8 140 yX2_useCards ∈ TB := tb_2 (List.mem_of_getElem? (i := 183) rfl) rfl
theorem mO_yX2_useCards : Cond.instanceMethod yX2_useCards ∈ TB := tb_2 (List.mem_of_getElem? (i := 184) rfl) rfl
theorem mV_yX2_useCards : Cond.selects RX2 yX2_useCards yX2_useCards ∈ TB := tb_2 (List.mem_of_getElem? (i := 185) rfl) rfl
theorem mC_yX2_useCards : Cond.code yX2_useCards cX2_useCards 3 (Option.some FieldType.int) ∈ TB := tb_2 (List.mem_of_getElem? (i := 186) rfl) rfl
theorem mM_L_78 : Cond.methodLink RL 78 yX8_moved ∈ TB := tb_2 (List.mem_of_getElem? (i := 187) rfl) rfl
theorem mO_yX8_moved : Cond.instanceMethod yX8_moved ∈ TB := tb_2 (List.mem_of_getElem? (i := 188) rfl) rfl
theorem mV_yX8_moved : Cond.selects RX8 yX8_moved yX8_moved ∈ TB := tb_2 (List.mem_of_getElem? (i := 189) rfl) rfl
theorem mC_yX8_moved : Cond.code yX8_moved cX8_moved 8 (Option.some FieldType.int) ∈ TB := tb_2 (List.mem_of_getElem? (i := 190) rfl) rfl
theorem mM_L_83 : Cond.methodLink RL 83 yX8_gain ∈ TB := tb_2 (List.mem_of_getElem? (i := 191) rfl) rfl
theorem mO_yX8_gain : Cond.instanceMethod yX8_gain ∈ TB := tb_2 (List.mem_of_getElem? (i := 192) rfl) rfl
theorem mV_yX8_gain : Cond.selects RX8 yX8_gain yX8_gain ∈ TB := tb_2 (List.mem_of_getElem? (i := 193) rfl) rfl
theorem mC_yX8_gain : Cond.code yX8_gain cX8_gain 4 (Option.some FieldType.int) ∈ TB := tb_2 (List.mem_of_getElem? (i := 194) rfl) rfl
theorem mM_L_87 : Cond.methodLink RL 87 yX8_fine ∈ TB := tb_2 (List.mem_of_getElem? (i := 195) rfl) rfl
theorem mO_yX8_fine : Cond.instanceMethod yX8_fine ∈ TB := tb_2 (List.mem_of_getElem? (i := 196) rfl) rfl
theorem mV_yX8_fine : Cond.selects RX8 yX8_fine yX8_fine ∈ TB := tb_2 (List.mem_of_getElem? (i := 197) rfl) rfl
theorem mC_yX8_fine : Cond.code yX8_fine cX8_fine 3 (Option.some FieldType.int) ∈ TB := tb_2 (List.mem_of_getElem? (i := 198) rfl) rfl
theorem mM_L_91 : Cond.methodLink RL 91 yX8_turn ∈ TB := tb_2 (List.mem_of_getElem? (i := 199) rfl) rfl
theorem mO_yX8_turn : Cond.instanceMethod yX8_turn ∈ TB := tb_2 (List.mem_of_getElem? (i := 200) rfl) rfl
theorem mV_yX8_turn : Cond.selects RX8 yX8_turn yX8_turn ∈ TB := tb_2 (List.mem_of_getElem? (i := 201) rfl) rfl
theorem mC_yX8_turn : Cond.code yX8_turn cX8_turn 3 (Option.some FieldType.int) ∈ TB := tb_2 (List.mem_of_getElem? (i := 202) rfl) rfl
theorem mM_X8_151 : Cond.methodLink RX8 151 yX6_chance ∈ TB := tb_2 (List.mem_of_getElem? (i := 203) rfl) rfl
theorem mO_yX6_chance : Cond.instanceMethod yX6_chance ∈ TB := tb_2 (List.mem_of_getElem? (i := 204) rfl) rfl
theorem mV_yX6_chance : Cond.selects RX6 yX6_chance yX6_chance ∈ TB := tb_2 (List.mem_of_getElem? (i := 205) rfl) rfl
theorem mC_yX6_chance : Cond.code yX6_chance cX6_chance 3 (Option.some (FieldType.object "ParkDesk$Ratio")) ∈ TB := tb_2 (List.mem_of_getElem? (i := 206) rfl) rfl
theorem mM_X6_37 : Cond.methodLink RX6 37 yX6_greatest ∈ TB := tb_2 (List.mem_of_getElem? (i := 207) rfl) rfl
theorem mO_yX6_greatest : Cond.instanceMethod yX6_greatest ∈ TB := tb_2 (List.mem_of_getElem? (i := 208) rfl) rfl
theorem mV_yX6_greatest : Cond.selects RX6 yX6_greatest yX6_greatest ∈ TB := tb_2 (List.mem_of_getElem? (i := 209) rfl) rfl
theorem mC_yX6_greatest : Cond.code yX6_greatest cX6_greatest 6 (Option.some (FieldType.object "ParkDesk$Ratio")) ∈ TB := tb_2 (List.mem_of_getElem? (i := 210) rfl) rfl
theorem mK_X6_19 : Cond.classLink RX6 19 RX3 ∈ TB := tb_2 (List.mem_of_getElem? (i := 211) rfl) rfl
theorem mN_X3 : Cond.instantiable RX3 2 ∈ TB := tb_2 (List.mem_of_getElem? (i := 212) rfl) rfl
theorem mM_X6_21 : Cond.methodLink RX6 21 yX3_init ∈ TB := tb_2 (List.mem_of_getElem? (i := 213) rfl) rfl
theorem mO_yX3_init : Cond.instanceMethod yX3_init ∈ TB := tb_2 (List.mem_of_getElem? (i := 214) rfl) rfl
theorem mC_yX3_init : Cond.code yX3_init cX3_init 4 (Option.none : Option FieldType) ∈ TB := tb_2 (List.mem_of_getElem? (i := 215) rfl) rfl
theorem mM_X3_1 : Cond.methodLink RX3 1 objectInit ∈ TB := tb_2 (List.mem_of_getElem? (i := 216) rfl) rfl
theorem mM_X3_7 : Cond.methodLink RX3 7 yX3_commonDivisor ∈ TB := tb_2 (List.mem_of_getElem? (i := 217) rfl) rfl
theorem mS_yX3_commonDivisor : Cond.static yX3_commonDivisor ∈ TB := tb_2 (List.mem_of_getElem? (i := 218) rfl) rfl
theorem mC_yX3_commonDivisor : Cond.code yX3_commonDivisor cX3_commonDivisor 6 (Option.some FieldType.int) ∈ TB := tb_2 (List.mem_of_getElem? (i := 219) rfl) rfl
theorem mF_X3_13 : Cond.fieldLink RX3 13 "ParkDesk$Ratio" "above" "I" ∈ TB := tb_2 (List.mem_of_getElem? (i := 220) rfl) rfl
theorem mF_X6_44 : Cond.fieldLink RX6 44 "ParkDesk$Ratio" "above" "I" ∈ TB := tb_2 (List.mem_of_getElem? (i := 221) rfl) rfl
theorem mF_X3_17 : Cond.fieldLink RX3 17 "ParkDesk$Ratio" "below" "I" ∈ TB := tb_2 (List.mem_of_getElem? (i := 222) rfl) rfl
theorem mF_X6_41 : Cond.fieldLink RX6 41 "ParkDesk$Ratio" "below" "I" ∈ TB := tb_2 (List.mem_of_getElem? (i := 223) rfl) rfl
theorem mL_X3_above : Cond.laysFinal RX3 RX3 "above" "I" ∈ TB := tb_2 (List.mem_of_getElem? (i := 224) rfl) rfl
theorem mL_X3_below : Cond.laysFinal RX3 RX3 "below" "I" ∈ TB := tb_2 (List.mem_of_getElem? (i := 226) rfl) rfl
theorem mM_X6_33 : Cond.methodLink RX6 33 yX3_isBelow ∈ TB := tb_2 (List.mem_of_getElem? (i := 229) rfl) rfl
theorem mO_yX3_isBelow : Cond.instanceMethod yX3_isBelow ∈ TB := tb_2 (List.mem_of_getElem? (i := 230) rfl) rfl
theorem mV_yX3_isBelow : Cond.selects RX3 yX3_isBelow yX3_isBelow ∈ TB := tb_2 (List.mem_of_getElem? (i := 231) rfl) rfl
theorem mC_yX3_isBelow : Cond.code yX3_isBelow cX3_isBelow 3 (Option.some FieldType.boolean) ∈ TB := tb_2 (List.mem_of_getElem? (i := 232) rfl) rfl
theorem mM_X8_155 : Cond.methodLink RX8 155 yX3_part ∈ TB := tb_2 (List.mem_of_getElem? (i := 233) rfl) rfl
theorem mO_yX3_part : Cond.instanceMethod yX3_part ∈ TB := tb_2 (List.mem_of_getElem? (i := 234) rfl) rfl
theorem mV_yX3_part : Cond.selects RX3 yX3_part yX3_part ∈ TB := tb_2 (List.mem_of_getElem? (i := 235) rfl) rfl
theorem mC_yX3_part : Cond.code yX3_part cX3_part 2 (Option.some FieldType.int) ∈ TB := tb_2 (List.mem_of_getElem? (i := 236) rfl) rfl
theorem mM_L_95 : Cond.methodLink RL 95 yX8_stake ∈ TB := tb_2 (List.mem_of_getElem? (i := 237) rfl) rfl
theorem mO_yX8_stake : Cond.instanceMethod yX8_stake ∈ TB := tb_2 (List.mem_of_getElem? (i := 238) rfl) rfl
theorem mV_yX8_stake : Cond.selects RX8 yX8_stake yX8_stake ∈ TB := tb_2 (List.mem_of_getElem? (i := 239) rfl) rfl
theorem mC_yX8_stake : Cond.code yX8_stake cX8_stake 2 (Option.some FieldType.int) ∈ TB := tb_3 (List.mem_of_getElem? (i := 0) rfl) rfl
theorem mM_X8_160 : Cond.methodLink RX8 160 yX6_greatest ∈ TB := tb_3 (List.mem_of_getElem? (i := 1) rfl) rfl
theorem mM_L_99 : Cond.methodLink RL 99 yX8_ticket ∈ TB := tb_3 (List.mem_of_getElem? (i := 2) rfl) rfl
theorem mO_yX8_ticket : Cond.instanceMethod yX8_ticket ∈ TB := tb_3 (List.mem_of_getElem? (i := 3) rfl) rfl
theorem mV_yX8_ticket : Cond.selects RX8 yX8_ticket yX8_ticket ∈ TB := tb_3 (List.mem_of_getElem? (i := 4) rfl) rfl
theorem mC_yX8_ticket : Cond.code yX8_ticket cX8_ticket 7 (Option.some FieldType.int) ∈ TB := tb_3 (List.mem_of_getElem? (i := 5) rfl) rfl
theorem mM_X8_167 : Cond.methodLink RX8 167 yX5_judge ∈ TB := tb_3 (List.mem_of_getElem? (i := 6) rfl) rfl
theorem mS_yX5_judge : Cond.static yX5_judge ∈ TB := tb_3 (List.mem_of_getElem? (i := 7) rfl) rfl
theorem mC_yX5_judge : Cond.code yX5_judge cX5_judge 2 (Option.some FieldType.int) ∈ TB := tb_3 (List.mem_of_getElem? (i := 8) rfl) rfl
theorem mM_X8_170 : Cond.methodLink RX8 170 yX5_add ∈ TB := tb_3 (List.mem_of_getElem? (i := 9) rfl) rfl
theorem mO_yX5_add : Cond.instanceMethod yX5_add ∈ TB := tb_3 (List.mem_of_getElem? (i := 10) rfl) rfl
theorem mV_yX5_add : Cond.selects RX5 yX5_add yX5_add ∈ TB := tb_3 (List.mem_of_getElem? (i := 11) rfl) rfl
theorem mC_yX5_add : Cond.code yX5_add cX5_add 7 (Option.some FieldType.int) ∈ TB := tb_3 (List.mem_of_getElem? (i := 12) rfl) rfl
theorem mM_L_103 : Cond.methodLink RL 103 yX8_of ∈ TB := tb_3 (List.mem_of_getElem? (i := 13) rfl) rfl
theorem mO_yX8_of : Cond.instanceMethod yX8_of ∈ TB := tb_3 (List.mem_of_getElem? (i := 14) rfl) rfl
theorem mV_yX8_of : Cond.selects RX8 yX8_of yX8_of ∈ TB := tb_3 (List.mem_of_getElem? (i := 15) rfl) rfl
theorem mC_yX8_of : Cond.code yX8_of cX8_of 3 (Option.some FieldType.int) ∈ TB := tb_3 (List.mem_of_getElem? (i := 16) rfl) rfl
theorem mM_X8_179 : Cond.methodLink RX8 179 yX5_stateByLikes ∈ TB := tb_3 (List.mem_of_getElem? (i := 17) rfl) rfl
theorem mO_yX5_stateByLikes : Cond.instanceMethod yX5_stateByLikes ∈ TB := tb_3 (List.mem_of_getElem? (i := 18) rfl) rfl
theorem mV_yX5_stateByLikes : Cond.selects RX5 yX5_stateByLikes yX5_stateByLikes ∈ TB := tb_3 (List.mem_of_getElem? (i := 19) rfl) rfl
theorem mC_yX5_stateByLikes : Cond.code yX5_stateByLikes cX5_stateByLikes 4 (Option.some FieldType.int) ∈ TB := tb_3 (List.mem_of_getElem? (i := 20) rfl) rfl
theorem mM_X5_24 : Cond.methodLink RX5 24 yX5_countLikes ∈ TB := tb_3 (List.mem_of_getElem? (i := 21) rfl) rfl
theorem mO_yX5_countLikes : Cond.instanceMethod yX5_countLikes ∈ TB := tb_3 (List.mem_of_getElem? (i := 22) rfl) rfl
theorem mV_yX5_countLikes : Cond.selects RX5 yX5_countLikes yX5_countLikes ∈ TB := tb_3 (List.mem_of_getElem? (i := 23) rfl) rfl
theorem mC_yX5_countLikes : Cond.code yX5_countLikes cX5_countLikes 5 (Option.some FieldType.int) ∈ TB := tb_3 (List.mem_of_getElem? (i := 24) rfl) rfl
theorem mM_X5_20 : Cond.methodLink RX5 20 yX5_isSameZoneAndHour ∈ TB := tb_3 (List.mem_of_getElem? (i := 25) rfl) rfl
theorem mO_yX5_isSameZoneAndHour : Cond.instanceMethod yX5_isSameZoneAndHour ∈ TB := tb_3 (List.mem_of_getElem? (i := 27) rfl) rfl
theorem mC_yX5_isSameZoneAndHour : Cond.code yX5_isSameZoneAndHour cX5_isSameZoneAndHour 3 (Option.some FieldType.boolean) ∈ TB := tb_3 (List.mem_of_getElem? (i := 28) rfl) rfl
theorem mM_X8_182 : Cond.methodLink RX8 182 yX5_countLikes ∈ TB := tb_3 (List.mem_of_getElem? (i := 29) rfl) rfl
theorem mM_L_107 : Cond.methodLink RL 107 yX8_many ∈ TB := tb_3 (List.mem_of_getElem? (i := 30) rfl) rfl
theorem mO_yX8_many : Cond.instanceMethod yX8_many ∈ TB := tb_3 (List.mem_of_getElem? (i := 31) rfl) rfl
theorem mV_yX8_many : Cond.selects RX8 yX8_many yX8_many ∈ TB := tb_3 (List.mem_of_getElem? (i := 32) rfl) rfl
theorem mC_yX8_many : Cond.code yX8_many cX8_many 2 (Option.some FieldType.int) ∈ TB := tb_3 (List.mem_of_getElem? (i := 33) rfl) rfl
theorem mM_X8_187 : Cond.methodLink RX8 187 yX5_countState ∈ TB := tb_3 (List.mem_of_getElem? (i := 34) rfl) rfl
theorem mO_yX5_countState : Cond.instanceMethod yX5_countState ∈ TB := tb_3 (List.mem_of_getElem? (i := 35) rfl) rfl
theorem mV_yX5_countState : Cond.selects RX5 yX5_countState yX5_countState ∈ TB := tb_3 (List.mem_of_getElem? (i := 36) rfl) rfl
theorem mC_yX5_countState : Cond.code yX5_countState cX5_countState 4 (Option.some FieldType.int) ∈ TB := tb_3 (List.mem_of_getElem? (i := 37) rfl) rfl
theorem mM_X8_190 : Cond.methodLink RX8 190 yX4_countBays ∈ TB := tb_3 (List.mem_of_getElem? (i := 38) rfl) rfl
theorem mO_yX4_countBays : Cond.instanceMethod yX4_countBays ∈ TB := tb_3 (List.mem_of_getElem? (i := 39) rfl) rfl
theorem mV_yX4_countBays : Cond.selects RX4 yX4_countBays yX4_countBays ∈ TB := tb_3 (List.mem_of_getElem? (i := 40) rfl) rfl
theorem mC_yX4_countBays : Cond.code yX4_countBays cX4_countBays 3 (Option.some FieldType.int) ∈ TB := tb_3 (List.mem_of_getElem? (i := 41) rfl) rfl
theorem mM_X8_193 : Cond.methodLink RX8 193 yX0_countCards ∈ TB := tb_3 (List.mem_of_getElem? (i := 42) rfl) rfl
theorem mO_yX0_countCards : Cond.instanceMethod yX0_countCards ∈ TB := tb_3 (List.mem_of_getElem? (i := 43) rfl) rfl
theorem mV_yX0_countCards : Cond.selects RX0 yX0_countCards yX0_countCards ∈ TB := tb_3 (List.mem_of_getElem? (i := 44) rfl) rfl
theorem mC_yX0_countCards : Cond.code yX0_countCards cX0_countCards 4 (Option.some FieldType.int) ∈ TB := tb_3 (List.mem_of_getElem? (i := 45) rfl) rfl
theorem mK_L_10 : Cond.classLink RL 10 RX9 ∈ TB := tb_3 (List.mem_of_getElem? (i := 46) rfl) rfl
theorem mN_X9 : Cond.instantiable RX9 30 ∈ TB := tb_3 (List.mem_of_getElem? (i := 47) rfl) rfl
theorem mM_L_12 : Cond.methodLink RL 12 yX9_init ∈ TB := tb_3 (List.mem_of_getElem? (i := 48) rfl) rfl
theorem mO_yX9_init : Cond.instanceMethod yX9_init ∈ TB := tb_3 (List.mem_of_getElem? (i := 49) rfl) rfl
theorem mC_yX9_init : Cond.code yX9_init cX9_init 3 (Option.none : Option FieldType) ∈ TB := tb_3 (List.mem_of_getElem? (i := 50) rfl) rfl
theorem mM_X9_1 : Cond.methodLink RX9 1 objectInit ∈ TB := tb_3 (List.mem_of_getElem? (i := 51) rfl) rfl
theorem mF_X9_87 : Cond.fieldLink RX9 87 "ParkDeskModel" "streets" "I" ∈ TB := tb_3 (List.mem_of_getElem? (i := 52) rfl) rfl
theorem mF_X9_7 : Cond.fieldLink RX9 7 "ParkDeskModel" "zoneOf" "[I" ∈ TB := tb_3 (List.mem_of_getElem? (i := 53) rfl) rfl
theorem mF_X9_13 : Cond.fieldLink RX9 13 "ParkDeskModel" "bays" "[I" ∈ TB := tb_3 (List.mem_of_getElem? (i := 54) rfl) rfl
theorem mF_X9_16 : Cond.fieldLink RX9 16 "ParkDeskModel" "closed" "[I" ∈ TB := tb_3 (List.mem_of_getElem? (i := 55) rfl) rfl
theorem mF_X9_19 : Cond.fieldLink RX9 19 "ParkDeskModel" "walks" "[I" ∈ TB := tb_3 (List.mem_of_getElem? (i := 56) rfl) rfl
theorem mF_X9_22 : Cond.fieldLink RX9 22 "ParkDeskModel" "gains" "[I" ∈ TB := tb_3 (List.mem_of_getElem? (i := 57) rfl) rfl
theorem mF_X9_94 : Cond.fieldLink RX9 94 "ParkDeskModel" "cars" "I" ∈ TB := tb_3 (List.mem_of_getElem? (i := 58) rfl) rfl
theorem mF_X9_25 : Cond.fieldLink RX9 25 "ParkDeskModel" "homes" "[I" ∈ TB := tb_3 (List.mem_of_getElem? (i := 59) rfl) rfl
theorem mF_X9_28 : Cond.fieldLink RX9 28 "ParkDeskModel" "permits" "[Z" ∈ TB := tb_3 (List.mem_of_getElem? (i := 60) rfl) rfl
theorem mF_X9_32 : Cond.fieldLink RX9 32 "ParkDeskModel" "cards" "[I" ∈ TB := tb_3 (List.mem_of_getElem? (i := 61) rfl) rfl
theorem mF_X9_35 : Cond.fieldLink RX9 35 "ParkDeskModel" "limits" "[I" ∈ TB := tb_3 (List.mem_of_getElem? (i := 62) rfl) rfl
theorem mF_X9_38 : Cond.fieldLink RX9 38 "ParkDeskModel" "order" "[I" ∈ TB := tb_3 (List.mem_of_getElem? (i := 63) rfl) rfl
theorem mF_X9_41 : Cond.fieldLink RX9 41 "ParkDeskModel" "ruledFrom" "[I" ∈ TB := tb_3 (List.mem_of_getElem? (i := 64) rfl) rfl
theorem mF_X9_44 : Cond.fieldLink RX9 44 "ParkDeskModel" "ruledTo" "[I" ∈ TB := tb_3 (List.mem_of_getElem? (i := 65) rfl) rfl
theorem mF_X9_47 : Cond.fieldLink RX9 47 "ParkDeskModel" "goodFrom" "[I" ∈ TB := tb_3 (List.mem_of_getElem? (i := 66) rfl) rfl
theorem mF_X9_50 : Cond.fieldLink RX9 50 "ParkDeskModel" "goodTo" "[I" ∈ TB := tb_3 (List.mem_of_getElem? (i := 67) rfl) rfl
theorem mF_X9_53 : Cond.fieldLink RX9 53 "ParkDeskModel" "fine" "I" ∈ TB := tb_3 (List.mem_of_getElem? (i := 68) rfl) rfl
theorem mF_X9_172 : Cond.fieldLink RX9 172 "ParkDeskModel" "tickets" "I" ∈ TB := tb_3 (List.mem_of_getElem? (i := 69) rfl) rfl
theorem mF_X9_57 : Cond.fieldLink RX9 57 "ParkDeskModel" "ticketCar" "[I" ∈ TB := tb_3 (List.mem_of_getElem? (i := 70) rfl) rfl
theorem mF_X9_60 : Cond.fieldLink RX9 60 "ParkDeskModel" "ticketStreet" "[I" ∈ TB := tb_3 (List.mem_of_getElem? (i := 71) rfl) rfl
theorem mF_X9_63 : Cond.fieldLink RX9 63 "ParkDeskModel" "ticketHour" "[I" ∈ TB := tb_3 (List.mem_of_getElem? (i := 72) rfl) rfl
theorem mF_X9_66 : Cond.fieldLink RX9 66 "ParkDeskModel" "ticketSign" "[I" ∈ TB := tb_3 (List.mem_of_getElem? (i := 73) rfl) rfl
theorem mF_X9_69 : Cond.fieldLink RX9 69 "ParkDeskModel" "ticketZone" "[I" ∈ TB := tb_3 (List.mem_of_getElem? (i := 74) rfl) rfl
theorem mF_X9_72 : Cond.fieldLink RX9 72 "ParkDeskModel" "ticketMay" "[I" ∈ TB := tb_3 (List.mem_of_getElem? (i := 75) rfl) rfl
theorem mF_X9_75 : Cond.fieldLink RX9 75 "ParkDeskModel" "stand" "[I" ∈ TB := tb_3 (List.mem_of_getElem? (i := 76) rfl) rfl
theorem mF_X9_78 : Cond.fieldLink RX9 78 "ParkDeskModel" "best" "[I" ∈ TB := tb_3 (List.mem_of_getElem? (i := 77) rfl) rfl
theorem mF_X9_81 : Cond.fieldLink RX9 81 "ParkDeskModel" "free" "[I" ∈ TB := tb_3 (List.mem_of_getElem? (i := 78) rfl) rfl
theorem mF_X9_84 : Cond.fieldLink RX9 84 "ParkDeskModel" "mayAt" "[I" ∈ TB := tb_3 (List.mem_of_getElem? (i := 79) rfl) rfl
theorem mF_X9_157 : Cond.fieldLink RX9 157 "ParkDeskModel" "above" "I" ∈ TB := tb_3 (List.mem_of_getElem? (i := 80) rfl) rfl
theorem mF_X9_160 : Cond.fieldLink RX9 160 "ParkDeskModel" "below" "I" ∈ TB := tb_3 (List.mem_of_getElem? (i := 81) rfl) rfl
theorem mL_X9_streets : Cond.lays RX9 RX9 "streets" "I" ∈ TB := tb_3 (List.mem_of_getElem? (i := 82) rfl) rfl
theorem mL_X9_zoneOf : Cond.laysFinal RX9 RX9 "zoneOf" "[I" ∈ TB := tb_3 (List.mem_of_getElem? (i := 84) rfl) rfl
theorem mL_X9_bays : Cond.laysFinal RX9 RX9 "bays" "[I" ∈ TB := tb_3 (List.mem_of_getElem? (i := 86) rfl) rfl
theorem mL_X9_closed : Cond.laysFinal RX9 RX9 "closed" "[I" ∈ TB := tb_3 (List.mem_of_getElem? (i := 88) rfl) rfl
theorem mL_X9_walks : Cond.laysFinal RX9 RX9 "walks" "[I" ∈ TB := tb_3 (List.mem_of_getElem? (i := 90) rfl) rfl
theorem mL_X9_gains : Cond.laysFinal RX9 RX9 "gains" "[I" ∈ TB := tb_3 (List.mem_of_getElem? (i := 92) rfl) rfl
theorem mL_X9_cars : Cond.lays RX9 RX9 "cars" "I" ∈ TB := tb_3 (List.mem_of_getElem? (i := 94) rfl) rfl
theorem mL_X9_homes : Cond.laysFinal RX9 RX9 "homes" "[I" ∈ TB := tb_3 (List.mem_of_getElem? (i := 96) rfl) rfl
theorem mL_X9_permits : Cond.laysFinal RX9 RX9 "permits" "[Z" ∈ TB := tb_3 (List.mem_of_getElem? (i := 98) rfl) rfl
theorem mL_X9_cards : Cond.laysFinal RX9 RX9 "cards" "[I" ∈ TB := tb_3 (List.mem_of_getElem? (i := 100) rfl) rfl
theorem mL_X9_limits : Cond.laysFinal RX9 RX9 "limits" "[I" ∈ TB := tb_3 (List.mem_of_getElem? (i := 102) rfl) rfl
theorem mL_X9_order : Cond.laysFinal RX9 RX9 "order" "[I" ∈ TB := tb_3 (List.mem_of_getElem? (i := 104) rfl) rfl
theorem mL_X9_ruledFrom : Cond.laysFinal RX9 RX9 "ruledFrom" "[I" ∈ TB := tb_3 (List.mem_of_getElem? (i := 106) rfl) rfl
theorem mL_X9_ruledTo : Cond.laysFinal RX9 RX9 "ruledTo" "[I" ∈ TB := tb_3 (List.mem_of_getElem? (i := 108) rfl) rfl
theorem mL_X9_goodFrom : Cond.laysFinal RX9 RX9 "goodFrom" "[I" ∈ TB := tb_3 (List.mem_of_getElem? (i := 110) rfl) rfl
theorem mL_X9_goodTo : Cond.laysFinal RX9 RX9 "goodTo" "[I" ∈ TB := tb_3 (List.mem_of_getElem? (i := 112) rfl) rfl
theorem mL_X9_fine : Cond.lays RX9 RX9 "fine" "I" ∈ TB := tb_3 (List.mem_of_getElem? (i := 114) rfl) rfl
theorem mL_X9_tickets : Cond.lays RX9 RX9 "tickets" "I" ∈ TB := tb_3 (List.mem_of_getElem? (i := 116) rfl) rfl
theorem mL_X9_ticketCar : Cond.laysFinal RX9 RX9 "ticketCar" "[I" ∈ TB := tb_3 (List.mem_of_getElem? (i := 118) rfl) rfl
theorem mL_X9_ticketStreet : Cond.laysFinal RX9 RX9 "ticketStreet" "[I" ∈ TB := tb_3 (List.mem_of_getElem? (i := 120) rfl) rfl
theorem mL_X9_ticketHour : Cond.laysFinal RX9 RX9 "ticketHour" "[I" ∈ TB := tb_3 (List.mem_of_getElem? (i := 122) rfl) rfl
theorem mL_X9_ticketSign : Cond.laysFinal RX9 RX9 "ticketSign" "[I" ∈ TB := tb_3 (List.mem_of_getElem? (i := 124) rfl) rfl
theorem mL_X9_ticketZone : Cond.laysFinal RX9 RX9 "ticketZone" "[I" ∈ TB := tb_3 (List.mem_of_getElem? (i := 126) rfl) rfl
theorem mL_X9_ticketMay : Cond.laysFinal RX9 RX9 "ticketMay" "[I" ∈ TB := tb_3 (List.mem_of_getElem? (i := 128) rfl) rfl
theorem mL_X9_stand : Cond.laysFinal RX9 RX9 "stand" "[I" ∈ TB := tb_3 (List.mem_of_getElem? (i := 130) rfl) rfl
theorem mL_X9_best : Cond.laysFinal RX9 RX9 "best" "[I" ∈ TB := tb_3 (List.mem_of_getElem? (i := 132) rfl) rfl
theorem mL_X9_free : Cond.laysFinal RX9 RX9 "free" "[I" ∈ TB := tb_3 (List.mem_of_getElem? (i := 134) rfl) rfl
theorem mL_X9_mayAt : Cond.laysFinal RX9 RX9 "mayAt" "[I" ∈ TB := tb_3 (List.mem_of_getElem? (i := 136) rfl) rfl
theorem mL_X9_above : Cond.lays RX9 RX9 "above" "I" ∈ TB := tb_3 (List.mem_of_getElem? (i := 138) rfl) rfl
theorem mL_X9_below : Cond.lays RX9 RX9 "below" "I" ∈ TB := tb_3 (List.mem_of_getElem? (i := 140) rfl) rfl
theorem mA_boolean : Cond.arrayClass FieldType.boolean ∈ TB := tb_3 (List.mem_of_getElem? (i := 143) rfl) rfl
theorem mM_L_17 : Cond.methodLink RL 17 yX9_street ∈ TB := tb_3 (List.mem_of_getElem? (i := 144) rfl) rfl
theorem mO_yX9_street : Cond.instanceMethod yX9_street ∈ TB := tb_3 (List.mem_of_getElem? (i := 145) rfl) rfl
theorem mV_yX9_street : Cond.selects RX9 yX9_street yX9_street ∈ TB := tb_3 (List.mem_of_getElem? (i := 146) rfl) rfl
theorem mC_yX9_street : Cond.code yX9_street cX9_street 5 (Option.some FieldType.int) ∈ TB := tb_3 (List.mem_of_getElem? (i := 147) rfl) rfl
theorem mM_X9_97 : Cond.methodLink RX9 97 yX9_isZone ∈ TB := tb_3 (List.mem_of_getElem? (i := 148) rfl) rfl
theorem mS_yX9_isZone : Cond.static yX9_isZone ∈ TB := tb_3 (List.mem_of_getElem? (i := 149) rfl) rfl
theorem mC_yX9_isZone : Cond.code yX9_isZone cX9_isZone 1 (Option.some FieldType.boolean) ∈ TB := tb_3 (List.mem_of_getElem? (i := 150) rfl) rfl
theorem mM_X9_90 : Cond.methodLink RX9 90 yX9_in ∈ TB := tb_3 (List.mem_of_getElem? (i := 151) rfl) rfl
theorem mS_yX9_in : Cond.static yX9_in ∈ TB := tb_3 (List.mem_of_getElem? (i := 152) rfl) rfl
theorem mC_yX9_in : Cond.code yX9_in cX9_in 3 (Option.some FieldType.boolean) ∈ TB := tb_3 (List.mem_of_getElem? (i := 153) rfl) rfl
theorem mM_L_21 : Cond.methodLink RL 21 yX9_move ∈ TB := tb_3 (List.mem_of_getElem? (i := 154) rfl) rfl
theorem mO_yX9_move : Cond.instanceMethod yX9_move ∈ TB := tb_3 (List.mem_of_getElem? (i := 155) rfl) rfl
theorem mV_yX9_move : Cond.selects RX9 yX9_move yX9_move ∈ TB := tb_3 (List.mem_of_getElem? (i := 156) rfl) rfl
theorem mC_yX9_move : Cond.code yX9_move cX9_move 4 (Option.some FieldType.int) ∈ TB := tb_3 (List.mem_of_getElem? (i := 157) rfl) rfl
theorem mM_X9_101 : Cond.methodLink RX9 101 yX9_isStreet ∈ TB := tb_3 (List.mem_of_getElem? (i := 158) rfl) rfl
theorem mO_yX9_isStreet : Cond.instanceMethod yX9_isStreet ∈ TB := tb_3 (List.mem_of_getElem? (i := 160) rfl) rfl
theorem mC_yX9_isStreet : Cond.code yX9_isStreet cX9_isStreet 2 (Option.some FieldType.boolean) ∈ TB := tb_3 (List.mem_of_getElem? (i := 161) rfl) rfl
theorem mM_L_26 : Cond.methodLink RL 26 yX9_walk ∈ TB := tb_3 (List.mem_of_getElem? (i := 162) rfl) rfl
theorem mO_yX9_walk : Cond.instanceMethod yX9_walk ∈ TB := tb_3 (List.mem_of_getElem? (i := 163) rfl) rfl
theorem mV_yX9_walk : Cond.selects RX9 yX9_walk yX9_walk ∈ TB := tb_3 (List.mem_of_getElem? (i := 164) rfl) rfl
theorem mC_yX9_walk : Cond.code yX9_walk cX9_walk 5 (Option.some FieldType.int) ∈ TB := tb_3 (List.mem_of_getElem? (i := 165) rfl) rfl
theorem mM_L_30 : Cond.methodLink RL 30 yX9_close ∈ TB := tb_3 (List.mem_of_getElem? (i := 166) rfl) rfl
theorem mO_yX9_close : Cond.instanceMethod yX9_close ∈ TB := tb_3 (List.mem_of_getElem? (i := 167) rfl) rfl
theorem mV_yX9_close : Cond.selects RX9 yX9_close yX9_close ∈ TB := tb_3 (List.mem_of_getElem? (i := 168) rfl) rfl
theorem mC_yX9_close : Cond.code yX9_close cX9_close 5 (Option.some FieldType.int) ∈ TB := tb_3 (List.mem_of_getElem? (i := 169) rfl) rfl
theorem mM_X9_104 : Cond.methodLink RX9 104 yX9_isNight ∈ TB := tb_3 (List.mem_of_getElem? (i := 170) rfl) rfl
theorem mS_yX9_isNight : Cond.static yX9_isNight ∈ TB := tb_3 (List.mem_of_getElem? (i := 171) rfl) rfl
theorem mC_yX9_isNight : Cond.code yX9_isNight cX9_isNight 1 (Option.some FieldType.boolean) ∈ TB := tb_3 (List.mem_of_getElem? (i := 172) rfl) rfl
theorem mM_L_34 : Cond.methodLink RL 34 yX9_rule ∈ TB := tb_3 (List.mem_of_getElem? (i := 173) rfl) rfl
theorem mO_yX9_rule : Cond.instanceMethod yX9_rule ∈ TB := tb_3 (List.mem_of_getElem? (i := 174) rfl) rfl
theorem mV_yX9_rule : Cond.selects RX9 yX9_rule yX9_rule ∈ TB := tb_3 (List.mem_of_getElem? (i := 175) rfl) rfl
theorem mC_yX9_rule : Cond.code yX9_rule cX9_rule 4 (Option.some FieldType.int) ∈ TB := tb_3 (List.mem_of_getElem? (i := 176) rfl) rfl
theorem mM_X9_110 : Cond.methodLink RX9 110 yX9_areHours ∈ TB := tb_3 (List.mem_of_getElem? (i := 177) rfl) rfl
theorem mS_yX9_areHours : Cond.static yX9_areHours ∈ TB := tb_3 (List.mem_of_getElem? (i := 178) rfl) rfl
theorem mC_yX9_areHours : Cond.code yX9_areHours cX9_areHours 2 (Option.some FieldType.boolean) ∈ TB := tb_3 (List.mem_of_getElem? (i := 179) rfl) rfl
theorem mM_X9_107 : Cond.methodLink RX9 107 yX9_isHour ∈ TB := tb_3 (List.mem_of_getElem? (i := 180) rfl) rfl
theorem mS_yX9_isHour : Cond.static yX9_isHour ∈ TB := tb_3 (List.mem_of_getElem? (i := 181) rfl) rfl
theorem mC_yX9_isHour : Cond.code yX9_isHour cX9_isHour 1 (Option.some FieldType.boolean) ∈ TB := tb_3 (List.mem_of_getElem? (i := 182) rfl) rfl
theorem mM_L_39 : Cond.methodLink RL 39 yX9_hours ∈ TB := tb_3 (List.mem_of_getElem? (i := 183) rfl) rfl
theorem mO_yX9_hours : Cond.instanceMethod yX9_hours ∈ TB := tb_3 (List.mem_of_getElem? (i := 184) rfl) rfl
theorem mV_yX9_hours : Cond.selects RX9 yX9_hours yX9_hours ∈ TB := tb_3 (List.mem_of_getElem? (i := 185) rfl) rfl
theorem mC_yX9_hours : Cond.code yX9_hours cX9_hours 5 (Option.some FieldType.int) ∈ TB := tb_3 (List.mem_of_getElem? (i := 186) rfl) rfl
theorem mM_X9_114 : Cond.methodLink RX9 114 yX9_isSort ∈ TB := tb_3 (List.mem_of_getElem? (i := 187) rfl) rfl
theorem mS_yX9_isSort : Cond.static yX9_isSort ∈ TB := tb_3 (List.mem_of_getElem? (i := 188) rfl) rfl
theorem mC_yX9_isSort : Cond.code yX9_isSort cX9_isSort 1 (Option.some FieldType.boolean) ∈ TB := tb_3 (List.mem_of_getElem? (i := 189) rfl) rfl
theorem mM_L_44 : Cond.methodLink RL 44 yX9_car ∈ TB := tb_3 (List.mem_of_getElem? (i := 190) rfl) rfl
theorem mO_yX9_car : Cond.instanceMethod yX9_car ∈ TB := tb_3 (List.mem_of_getElem? (i := 191) rfl) rfl
theorem mV_yX9_car : Cond.selects RX9 yX9_car yX9_car ∈ TB := tb_3 (List.mem_of_getElem? (i := 192) rfl) rfl
theorem mC_yX9_car : Cond.code yX9_car cX9_car 5 (Option.some FieldType.int) ∈ TB := tb_3 (List.mem_of_getElem? (i := 193) rfl) rfl
theorem mM_L_49 : Cond.methodLink RL 49 yX9_permit ∈ TB := tb_3 (List.mem_of_getElem? (i := 194) rfl) rfl
theorem mO_yX9_permit : Cond.instanceMethod yX9_permit ∈ TB := tb_3 (List.mem_of_getElem? (i := 195) rfl) rfl
theorem mV_yX9_permit : Cond.selects RX9 yX9_permit yX9_permit ∈ TB := tb_3 (List.mem_of_getElem? (i := 196) rfl) rfl
theorem mC_yX9_permit : Cond.code yX9_permit cX9_permit 7 (Option.some FieldType.int) ∈ TB := tb_3 (List.mem_of_getElem? (i := 197) rfl) rfl
theorem mM_X9_117 : Cond.methodLink RX9 117 yX9_isCar ∈ TB := tb_3 (List.mem_of_getElem? (i := 198) rfl) rfl
theorem mO_yX9_isCar : Cond.instanceMethod yX9_isCar ∈ TB := tb_3 (List.mem_of_getElem? (i := 200) rfl) rfl
theorem mC_yX9_isCar : Cond.code yX9_isCar cX9_isCar 2 (Option.some FieldType.boolean) ∈ TB := tb_3 (List.mem_of_getElem? (i := 201) rfl) rfl
theorem mM_L_53 : Cond.methodLink RL 53 yX9_cards ∈ TB := tb_3 (List.mem_of_getElem? (i := 202) rfl) rfl
theorem mO_yX9_cards : Cond.instanceMethod yX9_cards ∈ TB := tb_3 (List.mem_of_getElem? (i := 203) rfl) rfl
theorem mV_yX9_cards : Cond.selects RX9 yX9_cards yX9_cards ∈ TB := tb_3 (List.mem_of_getElem? (i := 204) rfl) rfl
theorem mC_yX9_cards : Cond.code yX9_cards cX9_cards 5 (Option.some FieldType.int) ∈ TB := tb_3 (List.mem_of_getElem? (i := 205) rfl) rfl
theorem mM_L_57 : Cond.methodLink RL 57 yX9_limit ∈ TB := tb_3 (List.mem_of_getElem? (i := 206) rfl) rfl
theorem mO_yX9_limit : Cond.instanceMethod yX9_limit ∈ TB := tb_3 (List.mem_of_getElem? (i := 207) rfl) rfl
theorem mV_yX9_limit : Cond.selects RX9 yX9_limit yX9_limit ∈ TB := tb_3 (List.mem_of_getElem? (i := 208) rfl) rfl
theorem mC_yX9_limit : Cond.code yX9_limit cX9_limit 4 (Option.some FieldType.int) ∈ TB := tb_3 (List.mem_of_getElem? (i := 209) rfl) rfl
theorem mM_L_61 : Cond.methodLink RL 61 yX9_late ∈ TB := tb_3 (List.mem_of_getElem? (i := 210) rfl) rfl
theorem mO_yX9_late : Cond.instanceMethod yX9_late ∈ TB := tb_3 (List.mem_of_getElem? (i := 211) rfl) rfl
theorem mV_yX9_late : Cond.selects RX9 yX9_late yX9_late ∈ TB := tb_3 (List.mem_of_getElem? (i := 212) rfl) rfl
theorem mC_yX9_late : Cond.code yX9_late cX9_late 4 (Option.some FieldType.int) ∈ TB := tb_3 (List.mem_of_getElem? (i := 213) rfl) rfl
theorem mM_L_65 : Cond.methodLink RL 65 yX9_may ∈ TB := tb_3 (List.mem_of_getElem? (i := 214) rfl) rfl
theorem mO_yX9_may : Cond.instanceMethod yX9_may ∈ TB := tb_3 (List.mem_of_getElem? (i := 215) rfl) rfl
theorem mV_yX9_may : Cond.selects RX9 yX9_may yX9_may ∈ TB := tb_3 (List.mem_of_getElem? (i := 216) rfl) rfl
theorem mC_yX9_may : Cond.code yX9_may cX9_may 4 (Option.some FieldType.int) ∈ TB := tb_3 (List.mem_of_getElem? (i := 217) rfl) rfl
theorem mM_X9_123 : Cond.methodLink RX9 123 yX9_mayIn ∈ TB := tb_3 (List.mem_of_getElem? (i := 218) rfl) rfl
theorem mO_yX9_mayIn : Cond.instanceMethod yX9_mayIn ∈ TB := tb_3 (List.mem_of_getElem? (i := 220) rfl) rfl
theorem mC_yX9_mayIn : Cond.code yX9_mayIn cX9_mayIn 7 (Option.some FieldType.int) ∈ TB := tb_3 (List.mem_of_getElem? (i := 221) rfl) rfl
theorem mM_X9_120 : Cond.methodLink RX9 120 yX9_isWithin ∈ TB := tb_3 (List.mem_of_getElem? (i := 222) rfl) rfl
theorem mS_yX9_isWithin : Cond.static yX9_isWithin ∈ TB := tb_3 (List.mem_of_getElem? (i := 223) rfl) rfl
theorem mC_yX9_isWithin : Cond.code yX9_isWithin cX9_isWithin 3 (Option.some FieldType.boolean) ∈ TB := tb_3 (List.mem_of_getElem? (i := 224) rfl) rfl
theorem mM_L_69 : Cond.methodLink RL 69 yX9_stands ∈ TB := tb_3 (List.mem_of_getElem? (i := 225) rfl) rfl
theorem mO_yX9_stands : Cond.instanceMethod yX9_stands ∈ TB := tb_3 (List.mem_of_getElem? (i := 226) rfl) rfl
theorem mV_yX9_stands : Cond.selects RX9 yX9_stands yX9_stands ∈ TB := tb_3 (List.mem_of_getElem? (i := 227) rfl) rfl
theorem mC_yX9_stands : Cond.code yX9_stands cX9_stands 5 (Option.some FieldType.int) ∈ TB := tb_3 (List.mem_of_getElem? (i := 228) rfl) rfl
theorem mM_X9_149 : Cond.methodLink RX9 149 yX9_park ∈ TB := tb_3 (List.mem_of_getElem? (i := 229) rfl) rfl
theorem mO_yX9_park : Cond.instanceMethod yX9_park ∈ TB := tb_3 (List.mem_of_getElem? (i := 231) rfl) rfl
theorem mC_yX9_park : Cond.code yX9_park cX9_park 4 (Option.none : Option FieldType) ∈ TB := tb_3 (List.mem_of_getElem? (i := 232) rfl) rfl
theorem mM_X9_143 : Cond.methodLink RX9 143 yX9_parkLeast ∈ TB := tb_3 (List.mem_of_getElem? (i := 233) rfl) rfl
theorem mO_yX9_parkLeast : Cond.instanceMethod yX9_parkLeast ∈ TB := tb_3 (List.mem_of_getElem? (i := 235) rfl) rfl
theorem mC_yX9_parkLeast : Cond.code yX9_parkLeast cX9_parkLeast 7 (Option.none : Option FieldType) ∈ TB := tb_3 (List.mem_of_getElem? (i := 236) rfl) rfl
theorem mM_X9_128 : Cond.methodLink RX9 128 yX9_begin ∈ TB := tb_3 (List.mem_of_getElem? (i := 237) rfl) rfl
theorem mO_yX9_begin : Cond.instanceMethod yX9_begin ∈ TB := tb_3 (List.mem_of_getElem? (i := 239) rfl) rfl
theorem mC_yX9_begin : Cond.code yX9_begin cX9_begin 6 (Option.none : Option FieldType) ∈ TB := tb_4 (List.mem_of_getElem? (i := 0) rfl) rfl
theorem mJ_X9_127 : Cond.constant RX9 127 (1000000 : Int32) ∈ TB := tb_4 (List.mem_of_getElem? (i := 1) rfl) rfl
theorem mM_X9_136 : Cond.methodLink RX9 136 yX9_costOf ∈ TB := tb_4 (List.mem_of_getElem? (i := 2) rfl) rfl
theorem mO_yX9_costOf : Cond.instanceMethod yX9_costOf ∈ TB := tb_4 (List.mem_of_getElem? (i := 4) rfl) rfl
theorem mC_yX9_costOf : Cond.code yX9_costOf cX9_costOf 3 (Option.some FieldType.int) ∈ TB := tb_4 (List.mem_of_getElem? (i := 5) rfl) rfl
theorem mM_X9_140 : Cond.methodLink RX9 140 yX9_mayTake ∈ TB := tb_4 (List.mem_of_getElem? (i := 6) rfl) rfl
theorem mO_yX9_mayTake : Cond.instanceMethod yX9_mayTake ∈ TB := tb_4 (List.mem_of_getElem? (i := 8) rfl) rfl
theorem mC_yX9_mayTake : Cond.code yX9_mayTake cX9_mayTake 3 (Option.some FieldType.boolean) ∈ TB := tb_4 (List.mem_of_getElem? (i := 9) rfl) rfl
theorem mM_X9_146 : Cond.methodLink RX9 146 yX9_parkNight ∈ TB := tb_4 (List.mem_of_getElem? (i := 10) rfl) rfl
theorem mO_yX9_parkNight : Cond.instanceMethod yX9_parkNight ∈ TB := tb_4 (List.mem_of_getElem? (i := 12) rfl) rfl
theorem mC_yX9_parkNight : Cond.code yX9_parkNight cX9_parkNight 4 (Option.none : Option FieldType) ∈ TB := tb_4 (List.mem_of_getElem? (i := 13) rfl) rfl
theorem mM_X9_132 : Cond.methodLink RX9 132 yX9_parkOne ∈ TB := tb_4 (List.mem_of_getElem? (i := 14) rfl) rfl
theorem mO_yX9_parkOne : Cond.instanceMethod yX9_parkOne ∈ TB := tb_4 (List.mem_of_getElem? (i := 16) rfl) rfl
theorem mC_yX9_parkOne : Cond.code yX9_parkOne cX9_parkOne 7 (Option.none : Option FieldType) ∈ TB := tb_4 (List.mem_of_getElem? (i := 17) rfl) rfl
theorem mM_L_73 : Cond.methodLink RL 73 yX9_told ∈ TB := tb_4 (List.mem_of_getElem? (i := 18) rfl) rfl
theorem mO_yX9_told : Cond.instanceMethod yX9_told ∈ TB := tb_4 (List.mem_of_getElem? (i := 19) rfl) rfl
theorem mV_yX9_told : Cond.selects RX9 yX9_told yX9_told ∈ TB := tb_4 (List.mem_of_getElem? (i := 20) rfl) rfl
theorem mC_yX9_told : Cond.code yX9_told cX9_told 5 (Option.some FieldType.int) ∈ TB := tb_4 (List.mem_of_getElem? (i := 21) rfl) rfl
theorem mM_X9_153 : Cond.methodLink RX9 153 yX9_sumOf ∈ TB := tb_4 (List.mem_of_getElem? (i := 22) rfl) rfl
theorem mO_yX9_sumOf : Cond.instanceMethod yX9_sumOf ∈ TB := tb_4 (List.mem_of_getElem? (i := 24) rfl) rfl
theorem mC_yX9_sumOf : Cond.code yX9_sumOf cX9_sumOf 5 (Option.some FieldType.int) ∈ TB := tb_4 (List.mem_of_getElem? (i := 25) rfl) rfl
theorem mM_L_77 : Cond.methodLink RL 77 yX9_keep ∈ TB := tb_4 (List.mem_of_getElem? (i := 26) rfl) rfl
theorem mO_yX9_keep : Cond.instanceMethod yX9_keep ∈ TB := tb_4 (List.mem_of_getElem? (i := 27) rfl) rfl
theorem mV_yX9_keep : Cond.selects RX9 yX9_keep yX9_keep ∈ TB := tb_4 (List.mem_of_getElem? (i := 28) rfl) rfl
theorem mC_yX9_keep : Cond.code yX9_keep cX9_keep 5 (Option.some FieldType.int) ∈ TB := tb_4 (List.mem_of_getElem? (i := 29) rfl) rfl
theorem mM_L_82 : Cond.methodLink RL 82 yX9_moved ∈ TB := tb_4 (List.mem_of_getElem? (i := 30) rfl) rfl
theorem mO_yX9_moved : Cond.instanceMethod yX9_moved ∈ TB := tb_4 (List.mem_of_getElem? (i := 31) rfl) rfl
theorem mV_yX9_moved : Cond.selects RX9 yX9_moved yX9_moved ∈ TB := tb_4 (List.mem_of_getElem? (i := 32) rfl) rfl
theorem mC_yX9_moved : Cond.code yX9_moved cX9_moved 8 (Option.some FieldType.int) ∈ TB := tb_4 (List.mem_of_getElem? (i := 33) rfl) rfl
theorem mM_L_86 : Cond.methodLink RL 86 yX9_gain ∈ TB := tb_4 (List.mem_of_getElem? (i := 34) rfl) rfl
theorem mO_yX9_gain : Cond.instanceMethod yX9_gain ∈ TB := tb_4 (List.mem_of_getElem? (i := 35) rfl) rfl
theorem mV_yX9_gain : Cond.selects RX9 yX9_gain yX9_gain ∈ TB := tb_4 (List.mem_of_getElem? (i := 36) rfl) rfl
theorem mC_yX9_gain : Cond.code yX9_gain cX9_gain 4 (Option.some FieldType.int) ∈ TB := tb_4 (List.mem_of_getElem? (i := 37) rfl) rfl
theorem mM_L_90 : Cond.methodLink RL 90 yX9_fine ∈ TB := tb_4 (List.mem_of_getElem? (i := 38) rfl) rfl
theorem mO_yX9_fine : Cond.instanceMethod yX9_fine ∈ TB := tb_4 (List.mem_of_getElem? (i := 39) rfl) rfl
theorem mV_yX9_fine : Cond.selects RX9 yX9_fine yX9_fine ∈ TB := tb_4 (List.mem_of_getElem? (i := 40) rfl) rfl
theorem mC_yX9_fine : Cond.code yX9_fine cX9_fine 3 (Option.some FieldType.int) ∈ TB := tb_4 (List.mem_of_getElem? (i := 41) rfl) rfl
theorem mM_L_94 : Cond.methodLink RL 94 yX9_turn ∈ TB := tb_4 (List.mem_of_getElem? (i := 42) rfl) rfl
theorem mO_yX9_turn : Cond.instanceMethod yX9_turn ∈ TB := tb_4 (List.mem_of_getElem? (i := 43) rfl) rfl
theorem mV_yX9_turn : Cond.selects RX9 yX9_turn yX9_turn ∈ TB := tb_4 (List.mem_of_getElem? (i := 44) rfl) rfl
theorem mC_yX9_turn : Cond.code yX9_turn cX9_turn 3 (Option.some FieldType.int) ∈ TB := tb_4 (List.mem_of_getElem? (i := 45) rfl) rfl
theorem mM_X9_166 : Cond.methodLink RX9 166 yX9_findStake ∈ TB := tb_4 (List.mem_of_getElem? (i := 46) rfl) rfl
theorem mO_yX9_findStake : Cond.instanceMethod yX9_findStake ∈ TB := tb_4 (List.mem_of_getElem? (i := 48) rfl) rfl
theorem mC_yX9_findStake : Cond.code yX9_findStake cX9_findStake 5 (Option.none : Option FieldType) ∈ TB := tb_4 (List.mem_of_getElem? (i := 49) rfl) rfl
theorem mM_X9_169 : Cond.methodLink RX9 169 yX9_part ∈ TB := tb_4 (List.mem_of_getElem? (i := 50) rfl) rfl
theorem mS_yX9_part : Cond.static yX9_part ∈ TB := tb_4 (List.mem_of_getElem? (i := 51) rfl) rfl
theorem mC_yX9_part : Cond.code yX9_part cX9_part 3 (Option.some FieldType.int) ∈ TB := tb_4 (List.mem_of_getElem? (i := 52) rfl) rfl
theorem mM_X9_163 : Cond.methodLink RX9 163 yX9_common ∈ TB := tb_4 (List.mem_of_getElem? (i := 53) rfl) rfl
theorem mS_yX9_common : Cond.static yX9_common ∈ TB := tb_4 (List.mem_of_getElem? (i := 54) rfl) rfl
theorem mC_yX9_common : Cond.code yX9_common cX9_common 5 (Option.some FieldType.int) ∈ TB := tb_4 (List.mem_of_getElem? (i := 55) rfl) rfl
theorem mM_L_98 : Cond.methodLink RL 98 yX9_stake ∈ TB := tb_4 (List.mem_of_getElem? (i := 56) rfl) rfl
theorem mO_yX9_stake : Cond.instanceMethod yX9_stake ∈ TB := tb_4 (List.mem_of_getElem? (i := 57) rfl) rfl
theorem mV_yX9_stake : Cond.selects RX9 yX9_stake yX9_stake ∈ TB := tb_4 (List.mem_of_getElem? (i := 58) rfl) rfl
theorem mC_yX9_stake : Cond.code yX9_stake cX9_stake 2 (Option.some FieldType.int) ∈ TB := tb_4 (List.mem_of_getElem? (i := 59) rfl) rfl
theorem mM_L_102 : Cond.methodLink RL 102 yX9_ticket ∈ TB := tb_4 (List.mem_of_getElem? (i := 60) rfl) rfl
theorem mO_yX9_ticket : Cond.instanceMethod yX9_ticket ∈ TB := tb_4 (List.mem_of_getElem? (i := 61) rfl) rfl
theorem mV_yX9_ticket : Cond.selects RX9 yX9_ticket yX9_ticket ∈ TB := tb_4 (List.mem_of_getElem? (i := 62) rfl) rfl
theorem mC_yX9_ticket : Cond.code yX9_ticket cX9_ticket 5 (Option.some FieldType.int) ∈ TB := tb_4 (List.mem_of_getElem? (i := 63) rfl) rfl
theorem mM_L_106 : Cond.methodLink RL 106 yX9_of ∈ TB := tb_4 (List.mem_of_getElem? (i := 64) rfl) rfl
theorem mO_yX9_of : Cond.instanceMethod yX9_of ∈ TB := tb_4 (List.mem_of_getElem? (i := 65) rfl) rfl
theorem mV_yX9_of : Cond.selects RX9 yX9_of yX9_of ∈ TB := tb_4 (List.mem_of_getElem? (i := 66) rfl) rfl
theorem mC_yX9_of : Cond.code yX9_of cX9_of 3 (Option.some FieldType.int) ∈ TB := tb_4 (List.mem_of_getElem? (i := 67) rfl) rfl
theorem mM_X9_175 : Cond.methodLink RX9 175 yX9_judged ∈ TB := tb_4 (List.mem_of_getElem? (i := 68) rfl) rfl
theorem mO_yX9_judged : Cond.instanceMethod yX9_judged ∈ TB := tb_4 (List.mem_of_getElem? (i := 70) rfl) rfl
theorem mC_yX9_judged : Cond.code yX9_judged cX9_judged 2 (Option.some FieldType.int) ∈ TB := tb_4 (List.mem_of_getElem? (i := 71) rfl) rfl
theorem mM_X9_181 : Cond.methodLink RX9 181 yX9_byLikes ∈ TB := tb_4 (List.mem_of_getElem? (i := 72) rfl) rfl
theorem mO_yX9_byLikes : Cond.instanceMethod yX9_byLikes ∈ TB := tb_4 (List.mem_of_getElem? (i := 74) rfl) rfl
theorem mC_yX9_byLikes : Cond.code yX9_byLikes cX9_byLikes 4 (Option.some FieldType.int) ∈ TB := tb_4 (List.mem_of_getElem? (i := 75) rfl) rfl
theorem mM_X9_178 : Cond.methodLink RX9 178 yX9_likes ∈ TB := tb_4 (List.mem_of_getElem? (i := 76) rfl) rfl
theorem mO_yX9_likes : Cond.instanceMethod yX9_likes ∈ TB := tb_4 (List.mem_of_getElem? (i := 78) rfl) rfl
theorem mC_yX9_likes : Cond.code yX9_likes cX9_likes 5 (Option.some FieldType.int) ∈ TB := tb_4 (List.mem_of_getElem? (i := 79) rfl) rfl
theorem mM_L_110 : Cond.methodLink RL 110 yX9_many ∈ TB := tb_4 (List.mem_of_getElem? (i := 80) rfl) rfl
theorem mO_yX9_many : Cond.instanceMethod yX9_many ∈ TB := tb_4 (List.mem_of_getElem? (i := 81) rfl) rfl
theorem mV_yX9_many : Cond.selects RX9 yX9_many yX9_many ∈ TB := tb_4 (List.mem_of_getElem? (i := 82) rfl) rfl
theorem mC_yX9_many : Cond.code yX9_many cX9_many 2 (Option.some FieldType.int) ∈ TB := tb_4 (List.mem_of_getElem? (i := 83) rfl) rfl
theorem mM_X9_184 : Cond.methodLink RX9 184 yX9_ticketsThat ∈ TB := tb_4 (List.mem_of_getElem? (i := 84) rfl) rfl
theorem mO_yX9_ticketsThat : Cond.instanceMethod yX9_ticketsThat ∈ TB := tb_4 (List.mem_of_getElem? (i := 86) rfl) rfl
theorem mC_yX9_ticketsThat : Cond.code yX9_ticketsThat cX9_ticketsThat 4 (Option.some FieldType.int) ∈ TB := tb_4 (List.mem_of_getElem? (i := 87) rfl) rfl
theorem mM_X9_187 : Cond.methodLink RX9 187 yX9_allBays ∈ TB := tb_4 (List.mem_of_getElem? (i := 88) rfl) rfl
theorem mO_yX9_allBays : Cond.instanceMethod yX9_allBays ∈ TB := tb_4 (List.mem_of_getElem? (i := 90) rfl) rfl
theorem mC_yX9_allBays : Cond.code yX9_allBays cX9_allBays 3 (Option.some FieldType.int) ∈ TB := tb_4 (List.mem_of_getElem? (i := 91) rfl) rfl
theorem mM_X9_191 : Cond.methodLink RX9 191 yX9_allCards ∈ TB := tb_4 (List.mem_of_getElem? (i := 92) rfl) rfl
theorem mO_yX9_allCards : Cond.instanceMethod yX9_allCards ∈ TB := tb_4 (List.mem_of_getElem? (i := 94) rfl) rfl
theorem mC_yX9_allCards : Cond.code yX9_allCards cX9_allCards 3 (Option.some FieldType.int) ∈ TB := tb_4 (List.mem_of_getElem? (i := 95) rfl) rfl
theorem mV_yX8_isStreet : Cond.selects RX8 yX8_isStreet yX8_isStreet ∈ TB := tb_in (List.mem_append_left _ (show _ ∈ k2_sels lw_privs from List.mem_of_getElem? (i := 0) rfl)) rfl
theorem mV_yX8_isCar : Cond.selects RX8 yX8_isCar yX8_isCar ∈ TB := tb_in (List.mem_append_left _ (show _ ∈ k2_sels lw_privs from List.mem_of_getElem? (i := 1) rfl)) rfl
theorem mV_yX2_openBays : Cond.selects RX2 yX2_openBays yX2_openBays ∈ TB := tb_in (List.mem_append_left _ (show _ ∈ k2_sels lw_privs from List.mem_of_getElem? (i := 2) rfl)) rfl
theorem mV_yX2_readRights : Cond.selects RX2 yX2_readRights yX2_readRights ∈ TB := tb_in (List.mem_append_left _ (show _ ∈ k2_sels lw_privs from List.mem_of_getElem? (i := 3) rfl)) rfl
theorem mV_yX2_layLeast : Cond.selects RX2 yX2_layLeast yX2_layLeast ∈ TB := tb_in (List.mem_append_left _ (show _ ∈ k2_sels lw_privs from List.mem_of_getElem? (i := 4) rfl)) rfl
theorem mV_yX2_isWithin : Cond.selects RX2 yX2_isWithin yX2_isWithin ∈ TB := tb_in (List.mem_append_left _ (show _ ∈ k2_sels lw_privs from List.mem_of_getElem? (i := 5) rfl)) rfl
theorem mV_yX2_walkTo : Cond.selects RX2 yX2_walkTo yX2_walkTo ∈ TB := tb_in (List.mem_append_left _ (show _ ∈ k2_sels lw_privs from List.mem_of_getElem? (i := 6) rfl)) rfl
theorem mV_yX1_startAt : Cond.selects RX1 yX1_startAt yX1_startAt ∈ TB := tb_in (List.mem_append_left _ (show _ ∈ k2_sels lw_privs from List.mem_of_getElem? (i := 7) rfl)) rfl
theorem mV_yX1_passOn : Cond.selects RX1 yX1_passOn yX1_passOn ∈ TB := tb_in (List.mem_append_left _ (show _ ∈ k2_sels lw_privs from List.mem_of_getElem? (i := 8) rfl)) rfl
theorem mV_yX1_cheapestEnd : Cond.selects RX1 yX1_cheapestEnd yX1_cheapestEnd ∈ TB := tb_in (List.mem_append_left _ (show _ ∈ k2_sels lw_privs from List.mem_of_getElem? (i := 9) rfl)) rfl
theorem mV_yX1_shift : Cond.selects RX1 yX1_shift yX1_shift ∈ TB := tb_in (List.mem_append_left _ (show _ ∈ k2_sels lw_privs from List.mem_of_getElem? (i := 10) rfl)) rfl
theorem mV_yX2_comeHome : Cond.selects RX2 yX2_comeHome yX2_comeHome ∈ TB := tb_in (List.mem_append_left _ (show _ ∈ k2_sels lw_privs from List.mem_of_getElem? (i := 11) rfl)) rfl
theorem mV_yX2_choose : Cond.selects RX2 yX2_choose yX2_choose ∈ TB := tb_in (List.mem_append_left _ (show _ ∈ k2_sels lw_privs from List.mem_of_getElem? (i := 12) rfl)) rfl
theorem mV_yX2_isBetter : Cond.selects RX2 yX2_isBetter yX2_isBetter ∈ TB := tb_in (List.mem_append_left _ (show _ ∈ k2_sels lw_privs from List.mem_of_getElem? (i := 13) rfl)) rfl
theorem mV_yX2_tellOne : Cond.selects RX2 yX2_tellOne yX2_tellOne ∈ TB := tb_in (List.mem_append_left _ (show _ ∈ k2_sels lw_privs from List.mem_of_getElem? (i := 14) rfl)) rfl
theorem mV_yX2_standsByCard : Cond.selects RX2 yX2_standsByCard yX2_standsByCard ∈ TB := tb_in (List.mem_append_left _ (show _ ∈ k2_sels lw_privs from List.mem_of_getElem? (i := 15) rfl)) rfl
theorem mV_yX5_isSameZoneAndHour : Cond.selects RX5 yX5_isSameZoneAndHour yX5_isSameZoneAndHour ∈ TB := tb_in (List.mem_append_left _ (show _ ∈ k2_sels lw_privs from List.mem_of_getElem? (i := 16) rfl)) rfl
theorem mV_yX9_isStreet : Cond.selects RX9 yX9_isStreet yX9_isStreet ∈ TB := tb_in (List.mem_append_left _ (show _ ∈ k2_sels lw_privs from List.mem_of_getElem? (i := 17) rfl)) rfl
theorem mV_yX9_isCar : Cond.selects RX9 yX9_isCar yX9_isCar ∈ TB := tb_in (List.mem_append_left _ (show _ ∈ k2_sels lw_privs from List.mem_of_getElem? (i := 18) rfl)) rfl
theorem mV_yX9_mayIn : Cond.selects RX9 yX9_mayIn yX9_mayIn ∈ TB := tb_in (List.mem_append_left _ (show _ ∈ k2_sels lw_privs from List.mem_of_getElem? (i := 19) rfl)) rfl
theorem mV_yX9_park : Cond.selects RX9 yX9_park yX9_park ∈ TB := tb_in (List.mem_append_left _ (show _ ∈ k2_sels lw_privs from List.mem_of_getElem? (i := 20) rfl)) rfl
theorem mV_yX9_parkLeast : Cond.selects RX9 yX9_parkLeast yX9_parkLeast ∈ TB := tb_in (List.mem_append_left _ (show _ ∈ k2_sels lw_privs from List.mem_of_getElem? (i := 21) rfl)) rfl
theorem mV_yX9_begin : Cond.selects RX9 yX9_begin yX9_begin ∈ TB := tb_in (List.mem_append_left _ (show _ ∈ k2_sels lw_privs from List.mem_of_getElem? (i := 22) rfl)) rfl
theorem mV_yX9_costOf : Cond.selects RX9 yX9_costOf yX9_costOf ∈ TB := tb_in (List.mem_append_left _ (show _ ∈ k2_sels lw_privs from List.mem_of_getElem? (i := 23) rfl)) rfl
theorem mV_yX9_mayTake : Cond.selects RX9 yX9_mayTake yX9_mayTake ∈ TB := tb_in (List.mem_append_left _ (show _ ∈ k2_sels lw_privs from List.mem_of_getElem? (i := 24) rfl)) rfl
theorem mV_yX9_parkNight : Cond.selects RX9 yX9_parkNight yX9_parkNight ∈ TB := tb_in (List.mem_append_left _ (show _ ∈ k2_sels lw_privs from List.mem_of_getElem? (i := 25) rfl)) rfl
theorem mV_yX9_parkOne : Cond.selects RX9 yX9_parkOne yX9_parkOne ∈ TB := tb_in (List.mem_append_left _ (show _ ∈ k2_sels lw_privs from List.mem_of_getElem? (i := 26) rfl)) rfl
theorem mV_yX9_sumOf : Cond.selects RX9 yX9_sumOf yX9_sumOf ∈ TB := tb_in (List.mem_append_left _ (show _ ∈ k2_sels lw_privs from List.mem_of_getElem? (i := 27) rfl)) rfl
theorem mV_yX9_findStake : Cond.selects RX9 yX9_findStake yX9_findStake ∈ TB := tb_in (List.mem_append_left _ (show _ ∈ k2_sels lw_privs from List.mem_of_getElem? (i := 28) rfl)) rfl
theorem mV_yX9_judged : Cond.selects RX9 yX9_judged yX9_judged ∈ TB := tb_in (List.mem_append_left _ (show _ ∈ k2_sels lw_privs from List.mem_of_getElem? (i := 29) rfl)) rfl
theorem mV_yX9_byLikes : Cond.selects RX9 yX9_byLikes yX9_byLikes ∈ TB := tb_in (List.mem_append_left _ (show _ ∈ k2_sels lw_privs from List.mem_of_getElem? (i := 30) rfl)) rfl
theorem mV_yX9_likes : Cond.selects RX9 yX9_likes yX9_likes ∈ TB := tb_in (List.mem_append_left _ (show _ ∈ k2_sels lw_privs from List.mem_of_getElem? (i := 31) rfl)) rfl
theorem mV_yX9_ticketsThat : Cond.selects RX9 yX9_ticketsThat yX9_ticketsThat ∈ TB := tb_in (List.mem_append_left _ (show _ ∈ k2_sels lw_privs from List.mem_of_getElem? (i := 32) rfl)) rfl
theorem mV_yX9_allBays : Cond.selects RX9 yX9_allBays yX9_allBays ∈ TB := tb_in (List.mem_append_left _ (show _ ∈ k2_sels lw_privs from List.mem_of_getElem? (i := 33) rfl)) rfl
theorem mV_yX9_allCards : Cond.selects RX9 yX9_allCards yX9_allCards ∈ TB := tb_in (List.mem_append_left _ (show _ ∈ k2_sels lw_privs from List.mem_of_getElem? (i := 34) rfl)) rfl
theorem inX0 : ∀ w ∈ wsX00, w ∈ TB := fun w h => by
  obtain ⟨k, hk, rfl⟩ := List.mem_map.mp h
  have hk := List.mem_range.mp hk
  rcases (show k = 0 ∨ k = 1 ∨ k = 2 ∨ k = 3 ∨ k = 4 ∨ k = 5 ∨ k = 6 by omega) with rfl | rfl | rfl | rfl | rfl | rfl | rfl
  · exact mL_X0_zones
  · exact mL_X0_count
  · exact mL_X0_home
  · exact mL_X0_limit
  · exact mL_X0_permits
  · exact mL_X0_cards
  · exact mL_X0_order
theorem inX1 : ∀ w ∈ wsX10, w ∈ TB := fun w h => by
  obtain ⟨k, hk, rfl⟩ := List.mem_map.mp h
  have hk := List.mem_range.mp hk
  rcases (show k = 0 ∨ k = 1 ∨ k = 2 by omega) with rfl | rfl | rfl
  · exact mL_X1_price
  · exact mL_X1_reach
  · exact mL_X1_comer
theorem inX2 : ∀ w ∈ wsX20, w ∈ TB := fun w h => by
  obtain ⟨k, hk, rfl⟩ := List.mem_map.mp h
  have hk := List.mem_range.mp hk
  rcases (show k = 0 ∨ k = 1 ∨ k = 2 ∨ k = 3 ∨ k = 4 ∨ k = 5 by omega) with rfl | rfl | rfl | rfl | rfl | rfl
  · exact mL_X2_streets
  · exact mL_X2_cars
  · exact mL_X2_place
  · exact mL_X2_right
  · exact mL_X2_left
  · exact mL_X2_cheapest
theorem inX3 : ∀ w ∈ wsX30, w ∈ TB := fun w h => by
  obtain ⟨k, hk, rfl⟩ := List.mem_map.mp h
  have hk := List.mem_range.mp hk
  rcases (show k = 0 ∨ k = 1 by omega) with rfl | rfl
  · exact mL_X3_above
  · exact mL_X3_below
theorem inX4 : ∀ w ∈ wsX40, w ∈ TB := fun w h => by
  obtain ⟨k, hk, rfl⟩ := List.mem_map.mp h
  have hk := List.mem_range.mp hk
  rcases (show k = 0 ∨ k = 1 ∨ k = 2 ∨ k = 3 ∨ k = 4 ∨ k = 5 by omega) with rfl | rfl | rfl | rfl | rfl | rfl
  · exact mL_X4_count
  · exact mL_X4_zone
  · exact mL_X4_bays
  · exact mL_X4_closed
  · exact mL_X4_walk
  · exact mL_X4_gain
theorem inX5 : ∀ w ∈ wsX50, w ∈ TB := fun w h => by
  obtain ⟨k, hk, rfl⟩ := List.mem_map.mp h
  have hk := List.mem_range.mp hk
  rcases (show k = 0 ∨ k = 1 by omega) with rfl | rfl
  · exact mL_X5_count
  · exact mL_X5_row
theorem inX6 : ∀ w ∈ wsX60, w ∈ TB := fun w h => by
  obtain ⟨k, hk, rfl⟩ := List.mem_map.mp h
  have hk := List.mem_range.mp hk
  rcases (show k = 0 ∨ k = 1 by omega) with rfl | rfl
  · exact mL_X6_streets
  · exact mL_X6_fine
theorem inX7 : ∀ w ∈ wsX70, w ∈ TB := fun w h => by
  obtain ⟨k, hk, rfl⟩ := List.mem_map.mp h
  have hk := List.mem_range.mp hk
  rcases (show k = 0 ∨ k = 1 by omega) with rfl | rfl
  · exact mL_X7_ruled
  · exact mL_X7_good
theorem inX8 : ∀ w ∈ wsX80, w ∈ TB := fun w h => by
  obtain ⟨k, hk, rfl⟩ := List.mem_map.mp h
  have hk := List.mem_range.mp hk
  rcases (show k = 0 ∨ k = 1 ∨ k = 2 ∨ k = 3 ∨ k = 4 ∨ k = 5 by omega) with rfl | rfl | rfl | rfl | rfl | rfl
  · exact mL_X8_zones
  · exact mL_X8_streets
  · exact mL_X8_cars
  · exact mL_X8_laying
  · exact mL_X8_wardens
  · exact mL_X8_tickets
theorem inX9 : ∀ w ∈ wsX90, w ∈ TB := fun w h => by
  obtain ⟨k, hk, rfl⟩ := List.mem_map.mp h
  have hk := List.mem_range.mp hk
  rcases (show k = 0 ∨ k = 1 ∨ k = 2 ∨ k = 3 ∨ k = 4 ∨ k = 5 ∨ k = 6 ∨ k = 7 ∨ k = 8 ∨ k = 9 ∨ k = 10 ∨ k = 11 ∨ k = 12 ∨ k = 13 ∨ k = 14 ∨ k = 15 ∨ k = 16 ∨ k = 17 ∨ k = 18 ∨ k = 19 ∨ k = 20 ∨ k = 21 ∨ k = 22 ∨ k = 23 ∨ k = 24 ∨ k = 25 ∨ k = 26 ∨ k = 27 ∨ k = 28 ∨ k = 29 by omega) with rfl | rfl | rfl | rfl | rfl | rfl | rfl | rfl | rfl | rfl | rfl | rfl | rfl | rfl | rfl | rfl | rfl | rfl | rfl | rfl | rfl | rfl | rfl | rfl | rfl | rfl | rfl | rfl | rfl | rfl
  · exact mL_X9_streets
  · exact mL_X9_zoneOf
  · exact mL_X9_bays
  · exact mL_X9_closed
  · exact mL_X9_walks
  · exact mL_X9_gains
  · exact mL_X9_cars
  · exact mL_X9_homes
  · exact mL_X9_permits
  · exact mL_X9_cards
  · exact mL_X9_limits
  · exact mL_X9_order
  · exact mL_X9_ruledFrom
  · exact mL_X9_ruledTo
  · exact mL_X9_goodFrom
  · exact mL_X9_goodTo
  · exact mL_X9_fine
  · exact mL_X9_tickets
  · exact mL_X9_ticketCar
  · exact mL_X9_ticketStreet
  · exact mL_X9_ticketHour
  · exact mL_X9_ticketSign
  · exact mL_X9_ticketZone
  · exact mL_X9_ticketMay
  · exact mL_X9_stand
  · exact mL_X9_best
  · exact mL_X9_free
  · exact mL_X9_mayAt
  · exact mL_X9_above
  · exact mL_X9_below
