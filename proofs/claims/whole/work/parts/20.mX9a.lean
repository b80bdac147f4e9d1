abbrev rX9_in : Room := { frames := 0, cells := 0, slots := 0, locals := 0 }
def wX9_in (Q : Int32 → pd_M → Prop) (a0 : Int32) (a1 : Int32) (a2 : Int32) (M : pd_M) : Prop := ((a0 < a1 → Q 0 M) ∧ (¬ a0 < a1 → ((a2 < a0 → Q 0 M) ∧ (¬ a2 < a0 → Q 1 M))))

set_option maxRecDepth 100000 in
set_option maxHeartbeats 4000000 in
theorem mX9_in {l : Launch} {D : va_G} {g : pd_G} {t : Nat} {X : va_W} {Q : Int32 → pd_M → Prop} {a0 : Int32} {a1 : Int32} {a2 : Int32} {M : pd_M} {sz : Nat} (h : wX9_in Q a0 a1 a2 M) : Met l yX9_in (Cond.code yX9_in cX9_in 3 (Option.some FieldType.boolean) :: TB) rX9_in (pd_Pre D g t M X sz [.int a0, .int a1, .int a2]) (pd_Qi D g M X sz Q) 0 0 (va_A (pd_WL g M ++ X) sz) := by
  refine pd_met (by decide) (Nat.le_of_ble_eq_true rfl) ?_
  intro p e s m below meth c A ls C hA hW hl
  have C : pd_C p m c cX9_in 3 s _ RX9 meth (Option.some FieldType.boolean) := C
  have hx := C.1.1
  have hb := C.1.2.1
  have hown := C.1.2.2.2.1
  have hts := C.1.2.2.2.2
  have hl : lv_has ls 3 [(0, .int a0), (1, .int a1), (2, .int a2)] := hl
  refine lv_iload_n hx hb dX9_in_0 rfl (lv_at hl 0 rfl) ?_
  refine lv_iload_n hx hb dX9_in_1 rfl (lv_at hl 1 rfl) ?_
  refine lv_icmp_lt (tgt := 14) hx hb dX9_in_2 (by decide) (fun c_1 => ?_) (fun c_1 => ?_)
  · have h := h.1 c_1
    refine lv_iconst (v := 0) hx hb dX9_in_14 (by decide) ?_
    exact pd_zret C hA hW rfl h dX9_in_15
  · have h := h.2 c_1
    refine lv_iload_n hx hb dX9_in_5 rfl (lv_at hl 0 rfl) ?_
    refine lv_iload_n hx hb dX9_in_6 rfl (lv_at hl 2 rfl) ?_
    refine lv_icmp_gt (tgt := 14) hx hb dX9_in_7 (by decide) (fun c_2 => ?_) (fun c_2 => ?_)
    · have h := h.1 c_2
      refine lv_iconst (v := 0) hx hb dX9_in_14 (by decide) ?_
      exact pd_zret C hA hW rfl h dX9_in_15
    · have h := h.2 c_2
      refine lv_iconst (v := 1) hx hb dX9_in_10 (by decide) ?_
      refine lv_goto (tgt := 15) hx hb dX9_in_11 (by decide) ?_
      exact pd_zret C hA hW rfl h dX9_in_15

theorem dd_X9_in : yX9_in.cls ≠ "java/lang/invoke/MethodHandle" ∧ yX9_in.cls ≠ "java/lang/invoke/VarHandle" ∧ (parseMethodDescriptor yX9_in.desc).map (fun d => d.parameters.length) = some 3 := by decide +kernel
theorem cl_X9_90 {p : Program} {l : Launch} {e : Env} {R : Room} {s : State} {m : MethodId} {args : Array Value} {below : List Frame} {meth : Method} {c : Code} {H : Heap} {locs : List Loc} {cells slots : Nat} {QQ : State → Prop} {cc : ByteArray} {pc : Nat} {ls : Array Slot} {rest : List Value} {D : va_G} {g : pd_G} {t : Nat} {M : pd_M} {X : va_W} {A : Nat → Prop} {nL : Nat} {ret : Option FieldType} {Qc : Int32 → pd_M → Prop} {a0 : Int32} {a1 : Int32} {a2 : Int32} (C : pd_C p m c cc nL s args RX9 meth ret) (hW : pd_W D g t M X A s H locs) (h : wX9_in Qc a0 a1 a2 M) (hR : rX9_in.frames + 1 ≤ R.frames ∧ 8 + (3 + 11) + rX9_in.locals ≤ R.locals) (hcs : cells ≤ R.cells ∧ slots ≤ R.slots) (hls : ls.size = nL) (hw8 : (rest.map fun v => v.category).sum ≤ 8) (hdg : decode cc pc = .ok (.invokestatic 90, 3))
    (kk : ∀ (r : Int32) (M1 : pd_M) (H1 : Heap) (locs1 : List Loc), Qc r M1 → pd_W D g t M1 X A s H1 locs1 → W p l e R s m args below meth c H1 locs1 cells slots QQ (F0 m (pc + 3) ls (.int r :: rest))) : W p l e R s m args below meth c H locs cells slots QQ (F0 m pc ls (.int a2 :: .int a1 :: .int a0 :: rest)) :=
  pd_callSi (As := [.int a0, .int a1, .int a2]) C hW (mX9_in h) mM_X9_90 mS_yX9_in mI_X9 mC_yX9_in dd_X9_in ⟨rfl, rfl⟩ hR hcs hls rfl hw8 hdg kk
abbrev rX9_isStreet : Room := { frames := 1, cells := 0, slots := 0, locals := 22 }
def wX9_isStreet (Q : Int32 → pd_M → Prop) (a1 : Int32) (M : pd_M) : Prop := wX9_in (fun r_2 M_1 => (narrow FieldType.boolean (Value.int r_2) = Value.int r_2 ∧ Q r_2 M_1)) a1 0 ((M.1 82 0) - 1) M

set_option maxRecDepth 100000 in
set_option maxHeartbeats 4000000 in
theorem mX9_isStreet {l : Launch} {D : va_G} {g : pd_G} {t : Nat} {X : va_W} {Q : Int32 → pd_M → Prop} {a1 : Int32} {M : pd_M} {sz : Nat} (h : wX9_isStreet Q a1 M) : Met l yX9_isStreet (Cond.code yX9_isStreet cX9_isStreet 2 (Option.some FieldType.boolean) :: TB) rX9_isStreet (pd_Pre D g t M X sz [.ref (g.1 82), .int a1]) (pd_Qi D g M X sz Q) 0 0 (va_A (pd_WL g M ++ X) sz) := by
  refine pd_met (by decide) (Nat.le_of_ble_eq_true rfl) ?_
  intro p e s m below meth c A ls C hA hW hl
  have C : pd_C p m c cX9_isStreet 2 s _ RX9 meth (Option.some FieldType.boolean) := C
  have hx := C.1.1
  have hb := C.1.2.1
  have hown := C.1.2.2.2.1
  have hts := C.1.2.2.2.2
  have hl : lv_has ls 2 [(0, .ref (g.1 82)), (1, .int a1)] := hl
  refine lv_iload_n hx hb dX9_isStreet_0 rfl (lv_at hl 1 rfl) ?_
  refine lv_iconst (v := 0) hx hb dX9_isStreet_1 (by decide) ?_
  refine lv_aload_n hx hb dX9_isStreet_2 rfl (lv_at hl 0 rfl) ?_
  refine gf_X9_87 C hW dX9_isStreet_3 ?_
  refine lv_iconst (v := 1) hx hb dX9_isStreet_6 (by decide) ?_
  refine lv_isub hx hb dX9_isStreet_7 ?_
  refine cl_X9_90 C hW h ⟨by decide, by decide⟩ ⟨Nat.zero_le _, Nat.zero_le _⟩ hl.1 (Nat.le_of_ble_eq_true rfl) dX9_isStreet_8 (fun r_2 M_1 H locs h hW => ?_)
  exact pd_zret C hA hW h.1 h.2 dX9_isStreet_11

theorem dd_X9_isStreet : yX9_isStreet.cls ≠ "java/lang/invoke/MethodHandle" ∧ yX9_isStreet.cls ≠ "java/lang/invoke/VarHandle" ∧ (parseMethodDescriptor yX9_isStreet.desc).map (fun d => d.parameters.length) = some 1 := by decide +kernel
theorem cl_X9_101 {p : Program} {l : Launch} {e : Env} {R : Room} {s : State} {m : MethodId} {args : Array Value} {below : List Frame} {meth : Method} {c : Code} {H : Heap} {locs : List Loc} {cells slots : Nat} {QQ : State → Prop} {cc : ByteArray} {pc : Nat} {ls : Array Slot} {rest : List Value} {D : va_G} {g : pd_G} {t : Nat} {M : pd_M} {X : va_W} {A : Nat → Prop} {nL : Nat} {ret : Option FieldType} {Qc : Int32 → pd_M → Prop} {a1 : Int32} (C : pd_C p m c cc nL s args RX9 meth ret) (hW : pd_W D g t M X A s H locs) (h : wX9_isStreet Qc a1 M) (hR : rX9_isStreet.frames + 1 ≤ R.frames ∧ 8 + (2 + 11) + rX9_isStreet.locals ≤ R.locals) (hcs : cells ≤ R.cells ∧ slots ≤ R.slots) (hls : ls.size = nL) (hw8 : (rest.map fun v => v.category).sum ≤ 8) (hdg : decode cc pc = .ok (.invokevirtual 101, 3))
    (kk : ∀ (r : Int32) (M1 : pd_M) (H1 : Heap) (locs1 : List Loc), Qc r M1 → pd_W D g t M1 X A s H1 locs1 → W p l e R s m args below meth c H1 locs1 cells slots QQ (F0 m (pc + 3) ls (.int r :: rest))) : W p l e R s m args below meth c H locs cells slots QQ (F0 m pc ls (.int a1 :: .ref (g.1 82) :: rest)) :=
  pd_callVi (As := [.int a1]) C hW (mX9_isStreet h) kd_82 rfl mM_X9_101 mO_yX9_isStreet mV_yX9_isStreet mI_X9 mC_yX9_isStreet dd_X9_isStreet ⟨rfl, rfl⟩ hR hcs hls rfl hw8 hdg kk
abbrev rX9_isCar : Room := { frames := 1, cells := 0, slots := 0, locals := 22 }
def wX9_isCar (Q : Int32 → pd_M → Prop) (a1 : Int32) (M : pd_M) : Prop := wX9_in (fun r_2 M_1 => (narrow FieldType.boolean (Value.int r_2) = Value.int r_2 ∧ Q r_2 M_1)) a1 0 ((M.1 82 6) - 1) M

set_option maxRecDepth 100000 in
set_option maxHeartbeats 4000000 in
theorem mX9_isCar {l : Launch} {D : va_G} {g : pd_G} {t : Nat} {X : va_W} {Q : Int32 → pd_M → Prop} {a1 : Int32} {M : pd_M} {sz : Nat} (h : wX9_isCar Q a1 M) : Met l yX9_isCar (Cond.code yX9_isCar cX9_isCar 2 (Option.some FieldType.boolean) :: TB) rX9_isCar (pd_Pre D g t M X sz [.ref (g.1 82), .int a1]) (pd_Qi D g M X sz Q) 0 0 (va_A (pd_WL g M ++ X) sz) := by
  refine pd_met (by decide) (Nat.le_of_ble_eq_true rfl) ?_
  intro p e s m below meth c A ls C hA hW hl
  have C : pd_C p m c cX9_isCar 2 s _ RX9 meth (Option.some FieldType.boolean) := C
  have hx := C.1.1
  have hb := C.1.2.1
  have hown := C.1.2.2.2.1
  have hts := C.1.2.2.2.2
  have hl : lv_has ls 2 [(0, .ref (g.1 82)), (1, .int a1)] := hl
  refine lv_iload_n hx hb dX9_isCar_0 rfl (lv_at hl 1 rfl) ?_
  refine lv_iconst (v := 0) hx hb dX9_isCar_1 (by decide) ?_
  refine lv_aload_n hx hb dX9_isCar_2 rfl (lv_at hl 0 rfl) ?_
  refine gf_X9_94 C hW dX9_isCar_3 ?_
  refine lv_iconst (v := 1) hx hb dX9_isCar_6 (by decide) ?_
  refine lv_isub hx hb dX9_isCar_7 ?_
  refine cl_X9_90 C hW h ⟨by decide, by decide⟩ ⟨Nat.zero_le _, Nat.zero_le _⟩ hl.1 (Nat.le_of_ble_eq_true rfl) dX9_isCar_8 (fun r_2 M_1 H locs h hW => ?_)
  exact pd_zret C hA hW h.1 h.2 dX9_isCar_11

theorem dd_X9_isCar : yX9_isCar.cls ≠ "java/lang/invoke/MethodHandle" ∧ yX9_isCar.cls ≠ "java/lang/invoke/VarHandle" ∧ (parseMethodDescriptor yX9_isCar.desc).map (fun d => d.parameters.length) = some 1 := by decide +kernel
theorem cl_X9_117 {p : Program} {l : Launch} {e : Env} {R : Room} {s : State} {m : MethodId} {args : Array Value} {below : List Frame} {meth : Method} {c : Code} {H : Heap} {locs : List Loc} {cells slots : Nat} {QQ : State → Prop} {cc : ByteArray} {pc : Nat} {ls : Array Slot} {rest : List Value} {D : va_G} {g : pd_G} {t : Nat} {M : pd_M} {X : va_W} {A : Nat → Prop} {nL : Nat} {ret : Option FieldType} {Qc : Int32 → pd_M → Prop} {a1 : Int32} (C : pd_C p m c cc nL s args RX9 meth ret) (hW : pd_W D g t M X A s H locs) (h : wX9_isCar Qc a1 M) (hR : rX9_isCar.frames + 1 ≤ R.frames ∧ 8 + (2 + 11) + rX9_isCar.locals ≤ R.locals) (hcs : cells ≤ R.cells ∧ slots ≤ R.slots) (hls : ls.size = nL) (hw8 : (rest.map fun v => v.category).sum ≤ 8) (hdg : decode cc pc = .ok (.invokevirtual 117, 3))
    (kk : ∀ (r : Int32) (M1 : pd_M) (H1 : Heap) (locs1 : List Loc), Qc r M1 → pd_W D g t M1 X A s H1 locs1 → W p l e R s m args below meth c H1 locs1 cells slots QQ (F0 m (pc + 3) ls (.int r :: rest))) : W p l e R s m args below meth c H locs cells slots QQ (F0 m pc ls (.int a1 :: .ref (g.1 82) :: rest)) :=
  pd_callVi (As := [.int a1]) C hW (mX9_isCar h) kd_82 rfl mM_X9_117 mO_yX9_isCar mV_yX9_isCar mI_X9 mC_yX9_isCar dd_X9_isCar ⟨rfl, rfl⟩ hR hcs hls rfl hw8 hdg kk
abbrev rX9_isZone : Room := { frames := 1, cells := 0, slots := 0, locals := 22 }
def wX9_isZone (Q : Int32 → pd_M → Prop) (a0 : Int32) (M : pd_M) : Prop := wX9_in (fun r_2 M_1 => (narrow FieldType.boolean (Value.int r_2) = Value.int r_2 ∧ Q r_2 M_1)) a0 0 3 M

set_option maxRecDepth 100000 in
set_option maxHeartbeats 4000000 in
theorem mX9_isZone {l : Launch} {D : va_G} {g : pd_G} {t : Nat} {X : va_W} {Q : Int32 → pd_M → Prop} {a0 : Int32} {M : pd_M} {sz : Nat} (h : wX9_isZone Q a0 M) : Met l yX9_isZone (Cond.code yX9_isZone cX9_isZone 1 (Option.some FieldType.boolean) :: TB) rX9_isZone (pd_Pre D g t M X sz [.int a0]) (pd_Qi D g M X sz Q) 0 0 (va_A (pd_WL g M ++ X) sz) := by
  refine pd_met (by decide) (Nat.le_of_ble_eq_true rfl) ?_
  intro p e s m below meth c A ls C hA hW hl
  have C : pd_C p m c cX9_isZone 1 s _ RX9 meth (Option.some FieldType.boolean) := C
  have hx := C.1.1
  have hb := C.1.2.1
  have hown := C.1.2.2.2.1
  have hts := C.1.2.2.2.2
  have hl : lv_has ls 1 [(0, .int a0)] := hl
  refine lv_iload_n hx hb dX9_isZone_0 rfl (lv_at hl 0 rfl) ?_
  refine lv_iconst (v := 0) hx hb dX9_isZone_1 (by decide) ?_
  refine lv_iconst (v := 3) hx hb dX9_isZone_2 (by decide) ?_
  refine cl_X9_90 C hW h ⟨by decide, by decide⟩ ⟨Nat.zero_le _, Nat.zero_le _⟩ hl.1 (Nat.le_of_ble_eq_true rfl) dX9_isZone_3 (fun r_2 M_1 H locs h hW => ?_)
  exact pd_zret C hA hW h.1 h.2 dX9_isZone_6

theorem dd_X9_isZone : yX9_isZone.cls ≠ "java/lang/invoke/MethodHandle" ∧ yX9_isZone.cls ≠ "java/lang/invoke/VarHandle" ∧ (parseMethodDescriptor yX9_isZone.desc).map (fun d => d.parameters.length) = some 1 := by decide +kernel
theorem cl_X9_97 {p : Program} {l : Launch} {e : Env} {R : Room} {s : State} {m : MethodId} {args : Array Value} {below : List Frame} {meth : Method} {c : Code} {H : Heap} {locs : List Loc} {cells slots : Nat} {QQ : State → Prop} {cc : ByteArray} {pc : Nat} {ls : Array Slot} {rest : List Value} {D : va_G} {g : pd_G} {t : Nat} {M : pd_M} {X : va_W} {A : Nat → Prop} {nL : Nat} {ret : Option FieldType} {Qc : Int32 → pd_M → Prop} {a0 : Int32} (C : pd_C p m c cc nL s args RX9 meth ret) (hW : pd_W D g t M X A s H locs) (h : wX9_isZone Qc a0 M) (hR : rX9_isZone.frames + 1 ≤ R.frames ∧ 8 + (1 + 11) + rX9_isZone.locals ≤ R.locals) (hcs : cells ≤ R.cells ∧ slots ≤ R.slots) (hls : ls.size = nL) (hw8 : (rest.map fun v => v.category).sum ≤ 8) (hdg : decode cc pc = .ok (.invokestatic 97, 3))
    (kk : ∀ (r : Int32) (M1 : pd_M) (H1 : Heap) (locs1 : List Loc), Qc r M1 → pd_W D g t M1 X A s H1 locs1 → W p l e R s m args below meth c H1 locs1 cells slots QQ (F0 m (pc + 3) ls (.int r :: rest))) : W p l e R s m args below meth c H locs cells slots QQ (F0 m pc ls (.int a0 :: rest)) :=
  pd_callSi (As := [.int a0]) C hW (mX9_isZone h) mM_X9_97 mS_yX9_isZone mI_X9 mC_yX9_isZone dd_X9_isZone ⟨rfl, rfl⟩ hR hcs hls rfl hw8 hdg kk
abbrev rX9_isSort : Room := { frames := 1, cells := 0, slots := 0, locals := 22 }
def wX9_isSort (Q : Int32 → pd_M → Prop) (a0 : Int32) (M : pd_M) : Prop := wX9_in (fun r_2 M_1 => (narrow FieldType.boolean (Value.int r_2) = Value.int r_2 ∧ Q r_2 M_1)) a0 0 2 M

set_option maxRecDepth 100000 in
set_option maxHeartbeats 4000000 in
theorem mX9_isSort {l : Launch} {D : va_G} {g : pd_G} {t : Nat} {X : va_W} {Q : Int32 → pd_M → Prop} {a0 : Int32} {M : pd_M} {sz : Nat} (h : wX9_isSort Q a0 M) : Met l yX9_isSort (Cond.code yX9_isSort cX9_isSort 1 (Option.some FieldType.boolean) :: TB) rX9_isSort (pd_Pre D g t M X sz [.int a0]) (pd_Qi D g M X sz Q) 0 0 (va_A (pd_WL g M ++ X) sz) := by
  refine pd_met (by decide) (Nat.le_of_ble_eq_true rfl) ?_
  intro p e s m below meth c A ls C hA hW hl
  have C : pd_C p m c cX9_isSort 1 s _ RX9 meth (Option.some FieldType.boolean) := C
  have hx := C.1.1
  have hb := C.1.2.1
  have hown := C.1.2.2.2.1
  have hts := C.1.2.2.2.2
  have hl : lv_has ls 1 [(0, .int a0)] := hl
  refine lv_iload_n hx hb dX9_isSort_0 rfl (lv_at hl 0 rfl) ?_
  refine lv_iconst (v := 0) hx hb dX9_isSort_1 (by decide) ?_
  refine lv_iconst (v := 2) hx hb dX9_isSort_2 (by decide) ?_
  refine cl_X9_90 C hW h ⟨by decide, by decide⟩ ⟨Nat.zero_le _, Nat.zero_le _⟩ hl.1 (Nat.le_of_ble_eq_true rfl) dX9_isSort_3 (fun r_2 M_1 H locs h hW => ?_)
  exact pd_zret C hA hW h.1 h.2 dX9_isSort_6

theorem dd_X9_isSort : yX9_isSort.cls ≠ "java/lang/invoke/MethodHandle" ∧ yX9_isSort.cls ≠ "java/lang/invoke/VarHandle" ∧ (parseMethodDescriptor yX9_isSort.desc).map (fun d => d.parameters.length) = some 1 := by decide +kernel
theorem cl_X9_114 {p : Program} {l : Launch} {e : Env} {R : Room} {s : State} {m : MethodId} {args : Array Value} {below : List Frame} {meth : Method} {c : Code} {H : Heap} {locs : List Loc} {cells slots : Nat} {QQ : State → Prop} {cc : ByteArray} {pc : Nat} {ls : Array Slot} {rest : List Value} {D : va_G} {g : pd_G} {t : Nat} {M : pd_M} {X : va_W} {A : Nat → Prop} {nL : Nat} {ret : Option FieldType} {Qc : Int32 → pd_M → Prop} {a0 : Int32} (C : pd_C p m c cc nL s args RX9 meth ret) (hW : pd_W D g t M X A s H locs) (h : wX9_isSort Qc a0 M) (hR : rX9_isSort.frames + 1 ≤ R.frames ∧ 8 + (1 + 11) + rX9_isSort.locals ≤ R.locals) (hcs : cells ≤ R.cells ∧ slots ≤ R.slots) (hls : ls.size = nL) (hw8 : (rest.map fun v => v.category).sum ≤ 8) (hdg : decode cc pc = .ok (.invokestatic 114, 3))
    (kk : ∀ (r : Int32) (M1 : pd_M) (H1 : Heap) (locs1 : List Loc), Qc r M1 → pd_W D g t M1 X A s H1 locs1 → W p l e R s m args below meth c H1 locs1 cells slots QQ (F0 m (pc + 3) ls (.int r :: rest))) : W p l e R s m args below meth c H locs cells slots QQ (F0 m pc ls (.int a0 :: rest)) :=
  pd_callSi (As := [.int a0]) C hW (mX9_isSort h) mM_X9_114 mS_yX9_isSort mI_X9 mC_yX9_isSort dd_X9_isSort ⟨rfl, rfl⟩ hR hcs hls rfl hw8 hdg kk
abbrev rX9_isNight : Room := { frames := 1, cells := 0, slots := 0, locals := 22 }
def wX9_isNight (Q : Int32 → pd_M → Prop) (a0 : Int32) (M : pd_M) : Prop := wX9_in (fun r_2 M_1 => (narrow FieldType.boolean (Value.int r_2) = Value.int r_2 ∧ Q r_2 M_1)) a0 0 6 M

set_option maxRecDepth 100000 in
set_option maxHeartbeats 4000000 in
theorem mX9_isNight {l : Launch} {D : va_G} {g : pd_G} {t : Nat} {X : va_W} {Q : Int32 → pd_M → Prop} {a0 : Int32} {M : pd_M} {sz : Nat} (h : wX9_isNight Q a0 M) : Met l yX9_isNight (Cond.code yX9_isNight cX9_isNight 1 (Option.some FieldType.boolean) :: TB) rX9_isNight (pd_Pre D g t M X sz [.int a0]) (pd_Qi D g M X sz Q) 0 0 (va_A (pd_WL g M ++ X) sz) := by
  refine pd_met (by decide) (Nat.le_of_ble_eq_true rfl) ?_
  intro p e s m below meth c A ls C hA hW hl
  have C : pd_C p m c cX9_isNight 1 s _ RX9 meth (Option.some FieldType.boolean) := C
  have hx := C.1.1
  have hb := C.1.2.1
  have hown := C.1.2.2.2.1
  have hts := C.1.2.2.2.2
  have hl : lv_has ls 1 [(0, .int a0)] := hl
  refine lv_iload_n hx hb dX9_isNight_0 rfl (lv_at hl 0 rfl) ?_
  refine lv_iconst (v := 0) hx hb dX9_isNight_1 (by decide) ?_
  refine lv_bipush (v := 6) hx hb dX9_isNight_2 (by decide) ?_
  refine cl_X9_90 C hW h ⟨by decide, by decide⟩ ⟨Nat.zero_le _, Nat.zero_le _⟩ hl.1 (Nat.le_of_ble_eq_true rfl) dX9_isNight_4 (fun r_2 M_1 H locs h hW => ?_)
  exact pd_zret C hA hW h.1 h.2 dX9_isNight_7

theorem dd_X9_isNight : yX9_isNight.cls ≠ "java/lang/invoke/MethodHandle" ∧ yX9_isNight.cls ≠ "java/lang/invoke/VarHandle" ∧ (parseMethodDescriptor yX9_isNight.desc).map (fun d => d.parameters.length) = some 1 := by decide +kernel
theorem cl_X9_104 {p : Program} {l : Launch} {e : Env} {R : Room} {s : State} {m : MethodId} {args : Array Value} {below : List Frame} {meth : Method} {c : Code} {H : Heap} {locs : List Loc} {cells slots : Nat} {QQ : State → Prop} {cc : ByteArray} {pc : Nat} {ls : Array Slot} {rest : List Value} {D : va_G} {g : pd_G} {t : Nat} {M : pd_M} {X : va_W} {A : Nat → Prop} {nL : Nat} {ret : Option FieldType} {Qc : Int32 → pd_M → Prop} {a0 : Int32} (C : pd_C p m c cc nL s args RX9 meth ret) (hW : pd_W D g t M X A s H locs) (h : wX9_isNight Qc a0 M) (hR : rX9_isNight.frames + 1 ≤ R.frames ∧ 8 + (1 + 11) + rX9_isNight.locals ≤ R.locals) (hcs : cells ≤ R.cells ∧ slots ≤ R.slots) (hls : ls.size = nL) (hw8 : (rest.map fun v => v.category).sum ≤ 8) (hdg : decode cc pc = .ok (.invokestatic 104, 3))
    (kk : ∀ (r : Int32) (M1 : pd_M) (H1 : Heap) (locs1 : List Loc), Qc r M1 → pd_W D g t M1 X A s H1 locs1 → W p l e R s m args below meth c H1 locs1 cells slots QQ (F0 m (pc + 3) ls (.int r :: rest))) : W p l e R s m args below meth c H locs cells slots QQ (F0 m pc ls (.int a0 :: rest)) :=
  pd_callSi (As := [.int a0]) C hW (mX9_isNight h) mM_X9_104 mS_yX9_isNight mI_X9 mC_yX9_isNight dd_X9_isNight ⟨rfl, rfl⟩ hR hcs hls rfl hw8 hdg kk
abbrev rX9_isHour : Room := { frames := 1, cells := 0, slots := 0, locals := 22 }
def wX9_isHour (Q : Int32 → pd_M → Prop) (a0 : Int32) (M : pd_M) : Prop := wX9_in (fun r_2 M_1 => (narrow FieldType.boolean (Value.int r_2) = Value.int r_2 ∧ Q r_2 M_1)) a0 0 23 M

set_option maxRecDepth 100000 in
set_option maxHeartbeats 4000000 in
theorem mX9_isHour {l : Launch} {D : va_G} {g : pd_G} {t : Nat} {X : va_W} {Q : Int32 → pd_M → Prop} {a0 : Int32} {M : pd_M} {sz : Nat} (h : wX9_isHour Q a0 M) : Met l yX9_isHour (Cond.code yX9_isHour cX9_isHour 1 (Option.some FieldType.boolean) :: TB) rX9_isHour (pd_Pre D g t M X sz [.int a0]) (pd_Qi D g M X sz Q) 0 0 (va_A (pd_WL g M ++ X) sz) := by
  refine pd_met (by decide) (Nat.le_of_ble_eq_true rfl) ?_
  intro p e s m below meth c A ls C hA hW hl
  have C : pd_C p m c cX9_isHour 1 s _ RX9 meth (Option.some FieldType.boolean) := C
  have hx := C.1.1
  have hb := C.1.2.1
  have hown := C.1.2.2.2.1
  have hts := C.1.2.2.2.2
  have hl : lv_has ls 1 [(0, .int a0)] := hl
  refine lv_iload_n hx hb dX9_isHour_0 rfl (lv_at hl 0 rfl) ?_
  refine lv_iconst (v := 0) hx hb dX9_isHour_1 (by decide) ?_
  refine lv_bipush (v := 23) hx hb dX9_isHour_2 (by decide) ?_
  refine cl_X9_90 C hW h ⟨by decide, by decide⟩ ⟨Nat.zero_le _, Nat.zero_le _⟩ hl.1 (Nat.le_of_ble_eq_true rfl) dX9_isHour_4 (fun r_2 M_1 H locs h hW => ?_)
  exact pd_zret C hA hW h.1 h.2 dX9_isHour_7

theorem dd_X9_isHour : yX9_isHour.cls ≠ "java/lang/invoke/MethodHandle" ∧ yX9_isHour.cls ≠ "java/lang/invoke/VarHandle" ∧ (parseMethodDescriptor yX9_isHour.desc).map (fun d => d.parameters.length) = some 1 := by decide +kernel
theorem cl_X9_107 {p : Program} {l : Launch} {e : Env} {R : Room} {s : State} {m : MethodId} {args : Array Value} {below : List Frame} {meth : Method} {c : Code} {H : Heap} {locs : List Loc} {cells slots : Nat} {QQ : State → Prop} {cc : ByteArray} {pc : Nat} {ls : Array Slot} {rest : List Value} {D : va_G} {g : pd_G} {t : Nat} {M : pd_M} {X : va_W} {A : Nat → Prop} {nL : Nat} {ret : Option FieldType} {Qc : Int32 → pd_M → Prop} {a0 : Int32} (C : pd_C p m c cc nL s args RX9 meth ret) (hW : pd_W D g t M X A s H locs) (h : wX9_isHour Qc a0 M) (hR : rX9_isHour.frames + 1 ≤ R.frames ∧ 8 + (1 + 11) + rX9_isHour.locals ≤ R.locals) (hcs : cells ≤ R.cells ∧ slots ≤ R.slots) (hls : ls.size = nL) (hw8 : (rest.map fun v => v.category).sum ≤ 8) (hdg : decode cc pc = .ok (.invokestatic 107, 3))
    (kk : ∀ (r : Int32) (M1 : pd_M) (H1 : Heap) (locs1 : List Loc), Qc r M1 → pd_W D g t M1 X A s H1 locs1 → W p l e R s m args below meth c H1 locs1 cells slots QQ (F0 m (pc + 3) ls (.int r :: rest))) : W p l e R s m args below meth c H locs cells slots QQ (F0 m pc ls (.int a0 :: rest)) :=
  pd_callSi (As := [.int a0]) C hW (mX9_isHour h) mM_X9_107 mS_yX9_isHour mI_X9 mC_yX9_isHour dd_X9_isHour ⟨rfl, rfl⟩ hR hcs hls rfl hw8 hdg kk
abbrev rX9_street : Room := { frames := 2, cells := 0, slots := 0, locals := 42 }
def lpX9_street_58 (K : pd_M → Prop) (f3 : Int32) : Nat → Int32 → pd_M → Prop
  | 0, _, _ => False
  | n + 1, v4, M => ((7 ≤ v4 → K M) ∧ (¬ 7 ≤ v4 → (vp_in ((7 * f3) + v4) 35 ∧ ∀ M_17 : pd_M, M_17 = sI M 85 ((7 * f3) + v4).toNatClampNeg 0 → ∀ x4_18 : Int32, x4_18 = v4 + 1 → lpX9_street_58 K f3 n x4_18 M_17)))

set_option maxRecDepth 100000 in
set_option maxHeartbeats 4000000 in
theorem stX9_street_58 {p : Program} {l : Launch} {e : Env} {s : State} {m : MethodId} {args : Array Value} {below : List Frame} {meth : Method} {c : Code} {D : va_G} {g : pd_G} {t : Nat} {M0 : pd_M} {X : va_W} {A : Nat → Prop} {sz : Nat} {Q : Int32 → pd_M → Prop} (C : pd_C p m c cX9_street 5 s args RX9 meth (Option.some FieldType.int)) (hA : A = va_A (pd_WL g M0 ++ X) sz) {K : pd_M → Prop} {f3 : Int32}  (hK : ∀  (M : pd_M) (H : Heap) (locs : List Loc) (ls : Array Slot), pd_W D g t M X A s H locs → lv_has ls 5 [(0, .ref (g.1 82)), (3, .int f3)] → K  M → W p l e rX9_street s m args below meth c H locs 0 0 (MQ below (pd_Qi D g M0 X sz Q) args s 0 0 (va_A (pd_WL g M0 ++ X) sz)) (F0 m 84 ls [])) :
    ∀ (n : Nat) (v4 : Int32) (M : pd_M) (H : Heap) (locs : List Loc) (ls : Array Slot), pd_W D g t M X A s H locs → lv_has ls 5 [(0, .ref (g.1 82)), (3, .int f3), (4, .int v4)] → lpX9_street_58 K f3 n v4 M → W p l e rX9_street s m args below meth c H locs 0 0 (MQ below (pd_Qi D g M0 X sz Q) args s 0 0 (va_A (pd_WL g M0 ++ X) sz)) (F0 m 58 ls []) := by
  have hx := C.1.1
  have hb := C.1.2.1
  have hown := C.1.2.2.2.1
  have hts := C.1.2.2.2.2
  intro n
  induction n with
  | zero => intro v4 M H locs ls hW hl h; exact h.elim
  | succ n ih =>
    intro v4 M H locs ls hW hl h
    refine lv_iload hx hb dX9_street_58 (lv_at hl 2 rfl) ?_
    refine lv_bipush (v := 7) hx hb dX9_street_60 (by decide) ?_
    refine lv_icmp_ge (tgt := 84) hx hb dX9_street_62 (by decide) (fun c_15 => ?_) (fun c_15 => ?_)
    · have h := h.1 c_15
      exact hK M _ _ _ hW (lv_sub hl [0, 1] rfl) h
    · have h := h.2 c_15
      refine lv_aload_n hx hb dX9_street_65 rfl (lv_at hl 0 rfl) ?_
      refine gf_X9_16 C hW dX9_street_66 ?_
      refine lv_bipush (v := 7) hx hb dX9_street_69 (by decide) ?_
      refine lv_iload_n hx hb dX9_street_71 rfl (lv_at hl 1 rfl) ?_
      refine lv_imul hx hb dX9_street_72 ?_
      refine lv_iload hx hb dX9_street_73 (lv_at hl 2 rfl) ?_
      refine lv_iadd hx hb dX9_street_75 ?_
      refine lv_iconst (v := 0) hx hb dX9_street_76 (by decide) ?_
      have hi_16 := h.1
      have h := h.2
      refine pd_iast C hW kd_85 hi_16 dX9_street_77 (fun M_17 H locs eM_17 hW => ?_)
      have h := h M_17 eM_17
      obtain ⟨x4_18, ex4_18⟩ : ∃ y : Int32, y = v4 + 1 := ⟨_, rfl⟩
      have h := h x4_18 ex4_18
      refine lv_iinc (v := x4_18) (lv' := [(4, .int x4_18), (0, .ref (g.1 82)), (3, .int f3)]) hx hb dX9_street_78 hl (k := 2) rfl (by rw [ex4_18]; rfl) (by decide) rfl (fun ls hl => ?_)
      refine lv_goto (tgt := 58) hx hb dX9_street_81 (by decide) ?_
      exact ih x4_18 M_17 _ _ _ hW (lv_sub hl [1, 2, 0] rfl) h

def lpX9_street_87 (K : pd_M → Prop) (f3 : Int32) : Nat → Int32 → pd_M → Prop
  | 0, _, _ => False
  | n + 1, v4, M => ((f3 ≤ v4 → K M) ∧ (¬ f3 ≤ v4 → (vp_in ((5 * f3) + v4) 25 ∧ ∀ M_22 : pd_M, M_22 = sI M 86 ((5 * f3) + v4).toNatClampNeg 10 → (vp_in ((5 * v4) + f3) 25 ∧ ∀ M_24 : pd_M, M_24 = sI M_22 86 ((5 * v4) + f3).toNatClampNeg 10 → ∀ x4_25 : Int32, x4_25 = v4 + 1 → lpX9_street_87 K f3 n x4_25 M_24))))

set_option maxRecDepth 100000 in
set_option maxHeartbeats 4000000 in
theorem stX9_street_87 {p : Program} {l : Launch} {e : Env} {s : State} {m : MethodId} {args : Array Value} {below : List Frame} {meth : Method} {c : Code} {D : va_G} {g : pd_G} {t : Nat} {M0 : pd_M} {X : va_W} {A : Nat → Prop} {sz : Nat} {Q : Int32 → pd_M → Prop} (C : pd_C p m c cX9_street 5 s args RX9 meth (Option.some FieldType.int)) (hA : A = va_A (pd_WL g M0 ++ X) sz) {K : pd_M → Prop} {f3 : Int32}  (hK : ∀  (M : pd_M) (H : Heap) (locs : List Loc) (ls : Array Slot), pd_W D g t M X A s H locs → lv_has ls 5 [(0, .ref (g.1 82)), (3, .int f3)] → K  M → W p l e rX9_street s m args below meth c H locs 0 0 (MQ below (pd_Qi D g M0 X sz Q) args s 0 0 (va_A (pd_WL g M0 ++ X) sz)) (F0 m 125 ls [])) :
    ∀ (n : Nat) (v4 : Int32) (M : pd_M) (H : Heap) (locs : List Loc) (ls : Array Slot), pd_W D g t M X A s H locs → lv_has ls 5 [(0, .ref (g.1 82)), (3, .int f3), (4, .int v4)] → lpX9_street_87 K f3 n v4 M → W p l e rX9_street s m args below meth c H locs 0 0 (MQ below (pd_Qi D g M0 X sz Q) args s 0 0 (va_A (pd_WL g M0 ++ X) sz)) (F0 m 87 ls []) := by
  have hx := C.1.1
  have hb := C.1.2.1
  have hown := C.1.2.2.2.1
  have hts := C.1.2.2.2.2
  intro n
  induction n with
  | zero => intro v4 M H locs ls hW hl h; exact h.elim
  | succ n ih =>
    intro v4 M H locs ls hW hl h
    refine lv_iload hx hb dX9_street_87 (lv_at hl 2 rfl) ?_
    refine lv_iload_n hx hb dX9_street_89 rfl (lv_at hl 1 rfl) ?_
    refine lv_icmp_ge (tgt := 125) hx hb dX9_street_90 (by decide) (fun c_20 => ?_) (fun c_20 => ?_)
    · have h := h.1 c_20
      exact hK M _ _ _ hW (lv_sub hl [0, 1] rfl) h
    · have h := h.2 c_20
      refine lv_aload_n hx hb dX9_street_93 rfl (lv_at hl 0 rfl) ?_
      refine gf_X9_19 C hW dX9_street_94 ?_
      refine lv_iconst (v := 5) hx hb dX9_street_97 (by decide) ?_
      refine lv_iload_n hx hb dX9_street_98 rfl (lv_at hl 1 rfl) ?_
      refine lv_imul hx hb dX9_street_99 ?_
      refine lv_iload hx hb dX9_street_100 (lv_at hl 2 rfl) ?_
      refine lv_iadd hx hb dX9_street_102 ?_
      refine lv_bipush (v := 10) hx hb dX9_street_103 (by decide) ?_
      have hi_21 := h.1
      have h := h.2
      refine pd_iast C hW kd_86 hi_21 dX9_street_105 (fun M_22 H locs eM_22 hW => ?_)
      have h := h M_22 eM_22
      refine lv_aload_n hx hb dX9_street_106 rfl (lv_at hl 0 rfl) ?_
      refine gf_X9_19 C hW dX9_street_107 ?_
      refine lv_iconst (v := 5) hx hb dX9_street_110 (by decide) ?_
      refine lv_iload hx hb dX9_street_111 (lv_at hl 2 rfl) ?_
      refine lv_imul hx hb dX9_street_113 ?_
      refine lv_iload_n hx hb dX9_street_114 rfl (lv_at hl 1 rfl) ?_
      refine lv_iadd hx hb dX9_street_115 ?_
      refine lv_bipush (v := 10) hx hb dX9_street_116 (by decide) ?_
      have hi_23 := h.1
      have h := h.2
      refine pd_iast C hW kd_86 hi_23 dX9_street_118 (fun M_24 H locs eM_24 hW => ?_)
      have h := h M_24 eM_24
      obtain ⟨x4_25, ex4_25⟩ : ∃ y : Int32, y = v4 + 1 := ⟨_, rfl⟩
      have h := h x4_25 ex4_25
      refine lv_iinc (v := x4_25) (lv' := [(4, .int x4_25), (0, .ref (g.1 82)), (3, .int f3)]) hx hb dX9_street_119 hl (k := 2) rfl (by rw [ex4_25]; rfl) (by decide) rfl (fun ls hl => ?_)
      refine lv_goto (tgt := 87) hx hb dX9_street_122 (by decide) ?_
      exact ih x4_25 M_24 _ _ _ hW (lv_sub hl [1, 2, 0] rfl) h

def wX9_street (Q : Int32 → pd_M → Prop) (a1 : Int32) (a2 : Int32) (M : pd_M) : Prop := wX9_isZone (fun r_2 M_1 => ((r_2 = 0 → Q (-1) M_1) ∧ (¬ r_2 = 0 → wX9_in (fun r_5 M_4 => ((¬ r_5 = 0 → ((¬ (M_4.1 82 0) = 5 → ∀ x3_8 : Int32, x3_8 = (M_4.1 82 0) → (vp_in x3_8 5 ∧ ∀ M_10 : pd_M, M_10 = sI M_4 83 x3_8.toNatClampNeg a1 → (vp_in x3_8 5 ∧ ∀ M_12 : pd_M, M_12 = sI M_10 84 x3_8.toNatClampNeg a2 → (vp_in x3_8 5 ∧ ∀ M_14 : pd_M, M_14 = sI M_12 87 x3_8.toNatClampNeg 0 → (∃ k_58 : Nat, lpX9_street_58 (fun M_19 => (∃ k_87 : Nat, lpX9_street_87 (fun M_26 => (vp_in ((5 * x3_8) + x3_8) 25 ∧ ∀ M_28 : pd_M, M_28 = sI M_26 86 ((5 * x3_8) + x3_8).toNatClampNeg 0 → ∀ M_29 : pd_M, M_29 = sI M_28 82 0 ((M_28.1 82 0) + 1) → Q x3_8 M_29)) x3_8 k_87 0 M_19)) x3_8 k_58 0 M_14))))) ∧ ((M_4.1 82 0) = 5 → Q (-2) M_4))) ∧ (r_5 = 0 → Q (-1) M_4))) a2 0 5 M_1))) a1 M

set_option maxRecDepth 100000 in
set_option maxHeartbeats 4000000 in
theorem mX9_street {l : Launch} {D : va_G} {g : pd_G} {t : Nat} {X : va_W} {Q : Int32 → pd_M → Prop} {a1 : Int32} {a2 : Int32} {M : pd_M} {sz : Nat} (h : wX9_street Q a1 a2 M) : Met l yX9_street (Cond.code yX9_street cX9_street 5 (Option.some FieldType.int) :: TB) rX9_street (pd_Pre D g t M X sz [.ref (g.1 82), .int a1, .int a2]) (pd_Qi D g M X sz Q) 0 0 (va_A (pd_WL g M ++ X) sz) := by
  refine pd_met (by decide) (Nat.le_of_ble_eq_true rfl) ?_
  intro p e s m below meth c A ls C hA hW hl
  have C : pd_C p m c cX9_street 5 s _ RX9 meth (Option.some FieldType.int) := C
  have hx := C.1.1
  have hb := C.1.2.1
  have hown := C.1.2.2.2.1
  have hts := C.1.2.2.2.2
  have hl : lv_has ls 5 [(0, .ref (g.1 82)), (1, .int a1), (2, .int a2)] := hl
  refine lv_iload_n hx hb dX9_street_0 rfl (lv_at hl 1 rfl) ?_
  refine cl_X9_97 C hW h ⟨by decide, by decide⟩ ⟨Nat.zero_le _, Nat.zero_le _⟩ hl.1 (Nat.le_of_ble_eq_true rfl) dX9_street_1 (fun r_2 M_1 H locs h hW => ?_)
  refine lv_if_eq (tgt := 16) hx hb dX9_street_4 (by decide) (fun c_3 => ?_) (fun c_3 => ?_)
  · have h := h.1 c_3
    refine lv_iconst (v := (-1)) hx hb dX9_street_16 (by decide) ?_
    exact pd_iret C hA hW h dX9_street_17
  · have h := h.2 c_3
    refine lv_iload_n hx hb dX9_street_7 rfl (lv_at hl 2 rfl) ?_
    refine lv_iconst (v := 0) hx hb dX9_street_8 (by decide) ?_
    refine lv_iconst (v := 5) hx hb dX9_street_9 (by decide) ?_
    refine cl_X9_90 C hW h ⟨by decide, by decide⟩ ⟨Nat.zero_le _, Nat.zero_le _⟩ hl.1 (Nat.le_of_ble_eq_true rfl) dX9_street_10 (fun r_5 M_4 H locs h hW => ?_)
    refine lv_if_ne (tgt := 18) hx hb dX9_street_13 (by decide) (fun c_6 => ?_) (fun c_6 => ?_)
    · have h := h.1 c_6
      refine lv_aload_n hx hb dX9_street_18 rfl (lv_at hl 0 rfl) ?_
      refine gf_X9_87 C hW dX9_street_19 ?_
      refine lv_iconst (v := 5) hx hb dX9_street_22 (by decide) ?_
      refine lv_icmp_ne (tgt := 29) hx hb dX9_street_23 (by decide) (fun c_7 => ?_) (fun c_7 => ?_)
      · have h := h.1 c_7
        refine lv_aload_n hx hb dX9_street_29 rfl (lv_at hl 0 rfl) ?_
        refine gf_X9_87 C hW dX9_street_30 ?_
        refine lv_topi (fun x3_8 ex3_8 => ?_)
        have h := h x3_8 ex3_8
        refine lv_istore_n (lv' := [(3, .int x3_8), (0, .ref (g.1 82)), (1, .int a1), (2, .int a2)]) hx hb dX9_street_33 rfl hl (by decide) rfl (fun ls hl => ?_)
        refine lv_aload_n hx hb dX9_street_34 rfl (lv_at hl 1 rfl) ?_
        refine gf_X9_7 C hW dX9_street_35 ?_
        refine lv_iload_n hx hb dX9_street_38 rfl (lv_at hl 0 rfl) ?_
        refine lv_iload_n hx hb dX9_street_39 rfl (lv_at hl 2 rfl) ?_
        have hi_9 := h.1
        have h := h.2
        refine pd_iast C hW kd_83 hi_9 dX9_street_40 (fun M_10 H locs eM_10 hW => ?_)
        have h := h M_10 eM_10
        refine lv_aload_n hx hb dX9_street_41 rfl (lv_at hl 1 rfl) ?_
        refine gf_X9_13 C hW dX9_street_42 ?_
        refine lv_iload_n hx hb dX9_street_45 rfl (lv_at hl 0 rfl) ?_
        refine lv_iload_n hx hb dX9_street_46 rfl (lv_at hl 3 rfl) ?_
        have hi_11 := h.1
        have h := h.2
        refine pd_iast C hW kd_84 hi_11 dX9_street_47 (fun M_12 H locs eM_12 hW => ?_)
        have h := h M_12 eM_12
        refine lv_aload_n hx hb dX9_street_48 rfl (lv_at hl 1 rfl) ?_
        refine gf_X9_22 C hW dX9_street_49 ?_
        refine lv_iload_n hx hb dX9_street_52 rfl (lv_at hl 0 rfl) ?_
        refine lv_iconst (v := 0) hx hb dX9_street_53 (by decide) ?_
        have hi_13 := h.1
        have h := h.2
        refine pd_iast C hW kd_87 hi_13 dX9_street_54 (fun M_14 H locs eM_14 hW => ?_)
        have h := h M_14 eM_14
        refine lv_iconst (v := 0) hx hb dX9_street_55 (by decide) ?_
        refine lv_istore (lv' := [(4, .int 0), (3, .int x3_8), (0, .ref (g.1 82)), (1, .int a1), (2, .int a2)]) hx hb dX9_street_56 hl (by decide) rfl (fun ls hl => ?_)
        obtain ⟨k_58, h⟩ := h
        refine stX9_street_58 C hA (fun M_19 H locs ls hW hl h => ?_) k_58 0 M_14 _ _ _ hW (lv_sub hl [2, 1, 0] rfl) h
        refine lv_iconst (v := 0) hx hb dX9_street_84 (by decide) ?_
        refine lv_istore (lv' := [(4, .int 0), (0, .ref (g.1 82)), (3, .int x3_8)]) hx hb dX9_street_85 hl (by decide) rfl (fun ls hl => ?_)
        obtain ⟨k_87, h⟩ := h
        refine stX9_street_87 C hA (fun M_26 H locs ls hW hl h => ?_) k_87 0 M_19 _ _ _ hW (lv_sub hl [1, 2, 0] rfl) h
        refine lv_aload_n hx hb dX9_street_125 rfl (lv_at hl 0 rfl) ?_
        refine gf_X9_19 C hW dX9_street_126 ?_
        refine lv_iconst (v := 5) hx hb dX9_street_129 (by decide) ?_
        refine lv_iload_n hx hb dX9_street_130 rfl (lv_at hl 1 rfl) ?_
        refine lv_imul hx hb dX9_street_131 ?_
        refine lv_iload_n hx hb dX9_street_132 rfl (lv_at hl 1 rfl) ?_
        refine lv_iadd hx hb dX9_street_133 ?_
        refine lv_iconst (v := 0) hx hb dX9_street_134 (by decide) ?_
        have hi_27 := h.1
        have h := h.2
        refine pd_iast C hW kd_86 hi_27 dX9_street_135 (fun M_28 H locs eM_28 hW => ?_)
        have h := h M_28 eM_28
        refine lv_aload_n hx hb dX9_street_136 rfl (lv_at hl 0 rfl) ?_
        refine lv_dup hx hb dX9_street_137 rfl ?_
        refine gf_X9_87 C hW dX9_street_138 ?_
        refine lv_iconst (v := 1) hx hb dX9_street_141 (by decide) ?_
        refine lv_iadd hx hb dX9_street_142 ?_
        refine pf_X9_87 C hW dX9_street_143 (fun M_29 H locs eM_29 hW => ?_)
        have h := h M_29 eM_29
        refine lv_iload_n hx hb dX9_street_146 rfl (lv_at hl 1 rfl) ?_
        exact pd_iret C hA hW h dX9_street_147
      · have h := h.2 c_7
        refine lv_bipush (v := (-2)) hx hb dX9_street_26 (by decide) ?_
        exact pd_iret C hA hW h dX9_street_28
    · have h := h.2 c_6
      refine lv_iconst (v := (-1)) hx hb dX9_street_16 (by decide) ?_
      exact pd_iret C hA hW h dX9_street_17

theorem dd_X9_street : yX9_street.cls ≠ "java/lang/invoke/MethodHandle" ∧ yX9_street.cls ≠ "java/lang/invoke/VarHandle" ∧ (parseMethodDescriptor yX9_street.desc).map (fun d => d.parameters.length) = some 2 := by decide +kernel
theorem cl_L_17 {p : Program} {l : Launch} {e : Env} {R : Room} {s : State} {m : MethodId} {args : Array Value} {below : List Frame} {meth : Method} {c : Code} {H : Heap} {locs : List Loc} {cells slots : Nat} {QQ : State → Prop} {cc : ByteArray} {pc : Nat} {ls : Array Slot} {rest : List Value} {D : va_G} {g : pd_G} {t : Nat} {M : pd_M} {X : va_W} {A : Nat → Prop} {nL : Nat} {ret : Option FieldType} {Qc : Int32 → pd_M → Prop} {a1 : Int32} {a2 : Int32} (C : pd_C p m c cc nL s args RL meth ret) (hW : pd_W D g t M X A s H locs) (h : wX9_street Qc a1 a2 M) (hR : rX9_street.frames + 1 ≤ R.frames ∧ 8 + (5 + 11) + rX9_street.locals ≤ R.locals) (hcs : cells ≤ R.cells ∧ slots ≤ R.slots) (hls : ls.size = nL) (hw8 : (rest.map fun v => v.category).sum ≤ 8) (hdg : decode cc pc = .ok (.invokevirtual 17, 3))
    (kk : ∀ (r : Int32) (M1 : pd_M) (H1 : Heap) (locs1 : List Loc), Qc r M1 → pd_W D g t M1 X A s H1 locs1 → W p l e R s m args below meth c H1 locs1 cells slots QQ (F0 m (pc + 3) ls (.int r :: rest))) : W p l e R s m args below meth c H locs cells slots QQ (F0 m pc ls (.int a2 :: .int a1 :: .ref (g.1 82) :: rest)) :=
  pd_callVi (As := [.int a1, .int a2]) C hW (mX9_street h) kd_82 rfl mM_L_17 mO_yX9_street mV_yX9_street mI_X9 mC_yX9_street dd_X9_street ⟨rfl, rfl⟩ hR hcs hls rfl hw8 hdg kk
abbrev rX9_move : Room := { frames := 2, cells := 0, slots := 0, locals := 43 }
def wX9_move (Q : Int32 → pd_M → Prop) (a1 : Int32) (a2 : Int32) (M : pd_M) : Prop := wX9_isStreet (fun r_2 M_1 => ((r_2 = 0 → Q (-1) M_1) ∧ (¬ r_2 = 0 → wX9_isZone (fun r_5 M_4 => ((¬ r_5 = 0 → (vp_in a1 5 ∧ ∀ x3_8 : Int32, x3_8 = (M_4.1 83 a1.toNatClampNeg) → (vp_in a1 5 ∧ ∀ M_10 : pd_M, M_10 = sI M_4 83 a1.toNatClampNeg a2 → Q x3_8 M_10))) ∧ (r_5 = 0 → Q (-1) M_4))) a2 M_1))) a1 M

set_option maxRecDepth 100000 in
set_option maxHeartbeats 4000000 in
theorem mX9_move {l : Launch} {D : va_G} {g : pd_G} {t : Nat} {X : va_W} {Q : Int32 → pd_M → Prop} {a1 : Int32} {a2 : Int32} {M : pd_M} {sz : Nat} (h : wX9_move Q a1 a2 M) : Met l yX9_move (Cond.code yX9_move cX9_move 4 (Option.some FieldType.int) :: TB) rX9_move (pd_Pre D g t M X sz [.ref (g.1 82), .int a1, .int a2]) (pd_Qi D g M X sz Q) 0 0 (va_A (pd_WL g M ++ X) sz) := by
  refine pd_met (by decide) (Nat.le_of_ble_eq_true rfl) ?_
  intro p e s m below meth c A ls C hA hW hl
  have C : pd_C p m c cX9_move 4 s _ RX9 meth (Option.some FieldType.int) := C
  have hx := C.1.1
  have hb := C.1.2.1
  have hown := C.1.2.2.2.1
  have hts := C.1.2.2.2.2
  have hl : lv_has ls 4 [(0, .ref (g.1 82)), (1, .int a1), (2, .int a2)] := hl
  refine lv_aload_n hx hb dX9_move_0 rfl (lv_at hl 0 rfl) ?_
  refine lv_iload_n hx hb dX9_move_1 rfl (lv_at hl 1 rfl) ?_
  refine cl_X9_101 C hW h ⟨by decide, by decide⟩ ⟨Nat.zero_le _, Nat.zero_le _⟩ hl.1 (Nat.le_of_ble_eq_true rfl) dX9_move_2 (fun r_2 M_1 H locs h hW => ?_)
  refine lv_if_eq (tgt := 15) hx hb dX9_move_5 (by decide) (fun c_3 => ?_) (fun c_3 => ?_)
  · have h := h.1 c_3
    refine lv_iconst (v := (-1)) hx hb dX9_move_15 (by decide) ?_
    exact pd_iret C hA hW h dX9_move_16
  · have h := h.2 c_3
    refine lv_iload_n hx hb dX9_move_8 rfl (lv_at hl 2 rfl) ?_
    refine cl_X9_97 C hW h ⟨by decide, by decide⟩ ⟨Nat.zero_le _, Nat.zero_le _⟩ hl.1 (Nat.le_of_ble_eq_true rfl) dX9_move_9 (fun r_5 M_4 H locs h hW => ?_)
    refine lv_if_ne (tgt := 17) hx hb dX9_move_12 (by decide) (fun c_6 => ?_) (fun c_6 => ?_)
    · have h := h.1 c_6
      refine lv_aload_n hx hb dX9_move_17 rfl (lv_at hl 0 rfl) ?_
      refine gf_X9_7 C hW dX9_move_18 ?_
      refine lv_iload_n hx hb dX9_move_21 rfl (lv_at hl 1 rfl) ?_
      have hi_7 := h.1
      have h := h.2
      refine pd_iald C hW kd_83 hi_7 dX9_move_22 ?_
      refine lv_topi (fun x3_8 ex3_8 => ?_)
      have h := h x3_8 ex3_8
      refine lv_istore_n (lv' := [(3, .int x3_8), (0, .ref (g.1 82)), (1, .int a1), (2, .int a2)]) hx hb dX9_move_23 rfl hl (by decide) rfl (fun ls hl => ?_)
      refine lv_aload_n hx hb dX9_move_24 rfl (lv_at hl 1 rfl) ?_
      refine gf_X9_7 C hW dX9_move_25 ?_
      refine lv_iload_n hx hb dX9_move_28 rfl (lv_at hl 2 rfl) ?_
      refine lv_iload_n hx hb dX9_move_29 rfl (lv_at hl 3 rfl) ?_
      have hi_9 := h.1
      have h := h.2
      refine pd_iast C hW kd_83 hi_9 dX9_move_30 (fun M_10 H locs eM_10 hW => ?_)
      have h := h M_10 eM_10
      refine lv_iload_n hx hb dX9_move_31 rfl (lv_at hl 0 rfl) ?_
      exact pd_iret C hA hW h dX9_move_32
    · have h := h.2 c_6
      refine lv_iconst (v := (-1)) hx hb dX9_move_15 (by decide) ?_
      exact pd_iret C hA hW h dX9_move_16

theorem dd_X9_move : yX9_move.cls ≠ "java/lang/invoke/MethodHandle" ∧ yX9_move.cls ≠ "java/lang/invoke/VarHandle" ∧ (parseMethodDescriptor yX9_move.desc).map (fun d => d.parameters.length) = some 2 := by decide +kernel
theorem cl_L_21 {p : Program} {l : Launch} {e : Env} {R : Room} {s : State} {m : MethodId} {args : Array Value} {below : List Frame} {meth : Method} {c : Code} {H : Heap} {locs : List Loc} {cells slots : Nat} {QQ : State → Prop} {cc : ByteArray} {pc : Nat} {ls : Array Slot} {rest : List Value} {D : va_G} {g : pd_G} {t : Nat} {M : pd_M} {X : va_W} {A : Nat → Prop} {nL : Nat} {ret : Option FieldType} {Qc : Int32 → pd_M → Prop} {a1 : Int32} {a2 : Int32} (C : pd_C p m c cc nL s args RL meth ret) (hW : pd_W D g t M X A s H locs) (h : wX9_move Qc a1 a2 M) (hR : rX9_move.frames + 1 ≤ R.frames ∧ 8 + (4 + 11) + rX9_move.locals ≤ R.locals) (hcs : cells ≤ R.cells ∧ slots ≤ R.slots) (hls : ls.size = nL) (hw8 : (rest.map fun v => v.category).sum ≤ 8) (hdg : decode cc pc = .ok (.invokevirtual 21, 3))
    (kk : ∀ (r : Int32) (M1 : pd_M) (H1 : Heap) (locs1 : List Loc), Qc r M1 → pd_W D g t M1 X A s H1 locs1 → W p l e R s m args below meth c H1 locs1 cells slots QQ (F0 m (pc + 3) ls (.int r :: rest))) : W p l e R s m args below meth c H locs cells slots QQ (F0 m pc ls (.int a2 :: .int a1 :: .ref (g.1 82) :: rest)) :=
  pd_callVi (As := [.int a1, .int a2]) C hW (mX9_move h) kd_82 rfl mM_L_21 mO_yX9_move mV_yX9_move mI_X9 mC_yX9_move dd_X9_move ⟨rfl, rfl⟩ hR hcs hls rfl hw8 hdg kk
abbrev rX9_walk : Room := { frames := 2, cells := 0, slots := 0, locals := 43 }
def wX9_walk (Q : Int32 → pd_M → Prop) (a1 : Int32) (a2 : Int32) (a3 : Int32) (M : pd_M) : Prop := wX9_isStreet (fun r_2 M_1 => ((r_2 = 0 → Q (-1) M_1) ∧ (¬ r_2 = 0 → wX9_isStreet (fun r_5 M_4 => ((r_5 = 0 → Q (-1) M_4) ∧ (¬ r_5 = 0 → ((a1 = a2 → Q (-1) M_4) ∧ (¬ a1 = a2 → wX9_in (fun r_9 M_8 => ((¬ r_9 = 0 → (vp_in ((5 * a1) + a2) 25 ∧ ∀ x4_12 : Int32, x4_12 = (M_8.1 86 ((5 * a1) + a2).toNatClampNeg) → (vp_in ((5 * a1) + a2) 25 ∧ ∀ M_14 : pd_M, M_14 = sI M_8 86 ((5 * a1) + a2).toNatClampNeg a3 → (vp_in ((5 * a2) + a1) 25 ∧ ∀ M_16 : pd_M, M_16 = sI M_14 86 ((5 * a2) + a1).toNatClampNeg a3 → Q x4_12 M_16)))) ∧ (r_9 = 0 → Q (-1) M_8))) a3 0 50 M_4))))) a2 M_1))) a1 M

set_option maxRecDepth 100000 in
set_option maxHeartbeats 4000000 in
theorem mX9_walk {l : Launch} {D : va_G} {g : pd_G} {t : Nat} {X : va_W} {Q : Int32 → pd_M → Prop} {a1 : Int32} {a2 : Int32} {a3 : Int32} {M : pd_M} {sz : Nat} (h : wX9_walk Q a1 a2 a3 M) : Met l yX9_walk (Cond.code yX9_walk cX9_walk 5 (Option.some FieldType.int) :: TB) rX9_walk (pd_Pre D g t M X sz [.ref (g.1 82), .int a1, .int a2, .int a3]) (pd_Qi D g M X sz Q) 0 0 (va_A (pd_WL g M ++ X) sz) := by
  refine pd_met (by decide) (Nat.le_of_ble_eq_true rfl) ?_
  intro p e s m below meth c A ls C hA hW hl
  have C : pd_C p m c cX9_walk 5 s _ RX9 meth (Option.some FieldType.int) := C
  have hx := C.1.1
  have hb := C.1.2.1
  have hown := C.1.2.2.2.1
  have hts := C.1.2.2.2.2
  have hl : lv_has ls 5 [(0, .ref (g.1 82)), (1, .int a1), (2, .int a2), (3, .int a3)] := hl
  refine lv_aload_n hx hb dX9_walk_0 rfl (lv_at hl 0 rfl) ?_
  refine lv_iload_n hx hb dX9_walk_1 rfl (lv_at hl 1 rfl) ?_
  refine cl_X9_101 C hW h ⟨by decide, by decide⟩ ⟨Nat.zero_le _, Nat.zero_le _⟩ hl.1 (Nat.le_of_ble_eq_true rfl) dX9_walk_2 (fun r_2 M_1 H locs h hW => ?_)
  refine lv_if_eq (tgt := 31) hx hb dX9_walk_5 (by decide) (fun c_3 => ?_) (fun c_3 => ?_)
  · have h := h.1 c_3
    refine lv_iconst (v := (-1)) hx hb dX9_walk_31 (by decide) ?_
    exact pd_iret C hA hW h dX9_walk_32
  · have h := h.2 c_3
    refine lv_aload_n hx hb dX9_walk_8 rfl (lv_at hl 0 rfl) ?_
    refine lv_iload_n hx hb dX9_walk_9 rfl (lv_at hl 2 rfl) ?_
    refine cl_X9_101 C hW h ⟨by decide, by decide⟩ ⟨Nat.zero_le _, Nat.zero_le _⟩ hl.1 (Nat.le_of_ble_eq_true rfl) dX9_walk_10 (fun r_5 M_4 H locs h hW => ?_)
    refine lv_if_eq (tgt := 31) hx hb dX9_walk_13 (by decide) (fun c_6 => ?_) (fun c_6 => ?_)
    · have h := h.1 c_6
      refine lv_iconst (v := (-1)) hx hb dX9_walk_31 (by decide) ?_
      exact pd_iret C hA hW h dX9_walk_32
    · have h := h.2 c_6
      refine lv_iload_n hx hb dX9_walk_16 rfl (lv_at hl 1 rfl) ?_
      refine lv_iload_n hx hb dX9_walk_17 rfl (lv_at hl 2 rfl) ?_
      refine lv_icmp_eq (tgt := 31) hx hb dX9_walk_18 (by decide) (fun c_7 => ?_) (fun c_7 => ?_)
      · have h := h.1 c_7
        refine lv_iconst (v := (-1)) hx hb dX9_walk_31 (by decide) ?_
        exact pd_iret C hA hW h dX9_walk_32
      · have h := h.2 c_7
        refine lv_iload_n hx hb dX9_walk_21 rfl (lv_at hl 3 rfl) ?_
        refine lv_iconst (v := 0) hx hb dX9_walk_22 (by decide) ?_
        refine lv_bipush (v := 50) hx hb dX9_walk_23 (by decide) ?_
        refine cl_X9_90 C hW h ⟨by decide, by decide⟩ ⟨Nat.zero_le _, Nat.zero_le _⟩ hl.1 (Nat.le_of_ble_eq_true rfl) dX9_walk_25 (fun r_9 M_8 H locs h hW => ?_)
        refine lv_if_ne (tgt := 33) hx hb dX9_walk_28 (by decide) (fun c_10 => ?_) (fun c_10 => ?_)
        · have h := h.1 c_10
          refine lv_aload_n hx hb dX9_walk_33 rfl (lv_at hl 0 rfl) ?_
          refine gf_X9_19 C hW dX9_walk_34 ?_
          refine lv_iconst (v := 5) hx hb dX9_walk_37 (by decide) ?_
          refine lv_iload_n hx hb dX9_walk_38 rfl (lv_at hl 1 rfl) ?_
          refine lv_imul hx hb dX9_walk_39 ?_
          refine lv_iload_n hx hb dX9_walk_40 rfl (lv_at hl 2 rfl) ?_
          refine lv_iadd hx hb dX9_walk_41 ?_
          have hi_11 := h.1
          have h := h.2
          refine pd_iald C hW kd_86 hi_11 dX9_walk_42 ?_
          refine lv_topi (fun x4_12 ex4_12 => ?_)
          have h := h x4_12 ex4_12
          refine lv_istore (lv' := [(4, .int x4_12), (0, .ref (g.1 82)), (1, .int a1), (2, .int a2), (3, .int a3)]) hx hb dX9_walk_43 hl (by decide) rfl (fun ls hl => ?_)
          refine lv_aload_n hx hb dX9_walk_45 rfl (lv_at hl 1 rfl) ?_
          refine gf_X9_19 C hW dX9_walk_46 ?_
          refine lv_iconst (v := 5) hx hb dX9_walk_49 (by decide) ?_
          refine lv_iload_n hx hb dX9_walk_50 rfl (lv_at hl 2 rfl) ?_
          refine lv_imul hx hb dX9_walk_51 ?_
          refine lv_iload_n hx hb dX9_walk_52 rfl (lv_at hl 3 rfl) ?_
          refine lv_iadd hx hb dX9_walk_53 ?_
          refine lv_iload_n hx hb dX9_walk_54 rfl (lv_at hl 4 rfl) ?_
          have hi_13 := h.1
          have h := h.2
          refine pd_iast C hW kd_86 hi_13 dX9_walk_55 (fun M_14 H locs eM_14 hW => ?_)
          have h := h M_14 eM_14
          refine lv_aload_n hx hb dX9_walk_56 rfl (lv_at hl 1 rfl) ?_
          refine gf_X9_19 C hW dX9_walk_57 ?_
          refine lv_iconst (v := 5) hx hb dX9_walk_60 (by decide) ?_
          refine lv_iload_n hx hb dX9_walk_61 rfl (lv_at hl 3 rfl) ?_
          refine lv_imul hx hb dX9_walk_62 ?_
          refine lv_iload_n hx hb dX9_walk_63 rfl (lv_at hl 2 rfl) ?_
          refine lv_iadd hx hb dX9_walk_64 ?_
          refine lv_iload_n hx hb dX9_walk_65 rfl (lv_at hl 4 rfl) ?_
          have hi_15 := h.1
          have h := h.2
          refine pd_iast C hW kd_86 hi_15 dX9_walk_66 (fun M_16 H locs eM_16 hW => ?_)
          have h := h M_16 eM_16
          refine lv_iload hx hb dX9_walk_67 (lv_at hl 0 rfl) ?_
          exact pd_iret C hA hW h dX9_walk_69
        · have h := h.2 c_10
          refine lv_iconst (v := (-1)) hx hb dX9_walk_31 (by decide) ?_
          exact pd_iret C hA hW h dX9_walk_32

theorem dd_X9_walk : yX9_walk.cls ≠ "java/lang/invoke/MethodHandle" ∧ yX9_walk.cls ≠ "java/lang/invoke/VarHandle" ∧ (parseMethodDescriptor yX9_walk.desc).map (fun d => d.parameters.length) = some 3 := by decide +kernel
theorem cl_L_26 {p : Program} {l : Launch} {e : Env} {R : Room} {s : State} {m : MethodId} {args : Array Value} {below : List Frame} {meth : Method} {c : Code} {H : Heap} {locs : List Loc} {cells slots : Nat} {QQ : State → Prop} {cc : ByteArray} {pc : Nat} {ls : Array Slot} {rest : List Value} {D : va_G} {g : pd_G} {t : Nat} {M : pd_M} {X : va_W} {A : Nat → Prop} {nL : Nat} {ret : Option FieldType} {Qc : Int32 → pd_M → Prop} {a1 : Int32} {a2 : Int32} {a3 : Int32} (C : pd_C p m c cc nL s args RL meth ret) (hW : pd_W D g t M X A s H locs) (h : wX9_walk Qc a1 a2 a3 M) (hR : rX9_walk.frames + 1 ≤ R.frames ∧ 8 + (5 + 11) + rX9_walk.locals ≤ R.locals) (hcs : cells ≤ R.cells ∧ slots ≤ R.slots) (hls : ls.size = nL) (hw8 : (rest.map fun v => v.category).sum ≤ 8) (hdg : decode cc pc = .ok (.invokevirtual 26, 3))
    (kk : ∀ (r : Int32) (M1 : pd_M) (H1 : Heap) (locs1 : List Loc), Qc r M1 → pd_W D g t M1 X A s H1 locs1 → W p l e R s m args below meth c H1 locs1 cells slots QQ (F0 m (pc + 3) ls (.int r :: rest))) : W p l e R s m args below meth c H locs cells slots QQ (F0 m pc ls (.int a3 :: .int a2 :: .int a1 :: .ref (g.1 82) :: rest)) :=
  pd_callVi (As := [.int a1, .int a2, .int a3]) C hW (mX9_walk h) kd_82 rfl mM_L_26 mO_yX9_walk mV_yX9_walk mI_X9 mC_yX9_walk dd_X9_walk ⟨rfl, rfl⟩ hR hcs hls rfl hw8 hdg kk
abbrev rX9_close : Room := { frames := 2, cells := 0, slots := 0, locals := 43 }
def wX9_close (Q : Int32 → pd_M → Prop) (a1 : Int32) (a2 : Int32) (a3 : Int32) (M : pd_M) : Prop := wX9_isStreet (fun r_2 M_1 => ((r_2 = 0 → Q (-1) M_1) ∧ (¬ r_2 = 0 → wX9_isNight (fun r_5 M_4 => ((r_5 = 0 → Q (-1) M_4) ∧ (¬ r_5 = 0 → (vp_in a1 5 ∧ wX9_in (fun r_9 M_8 => ((¬ r_9 = 0 → (vp_in ((7 * a1) + a2) 35 ∧ ∀ x4_12 : Int32, x4_12 = (M_8.1 85 ((7 * a1) + a2).toNatClampNeg) → (vp_in ((7 * a1) + a2) 35 ∧ ∀ M_14 : pd_M, M_14 = sI M_8 85 ((7 * a1) + a2).toNatClampNeg a3 → Q x4_12 M_14))) ∧ (r_9 = 0 → Q (-1) M_8))) a3 0 (M_4.1 84 a1.toNatClampNeg) M_4)))) a2 M_1))) a1 M

set_option maxRecDepth 100000 in
set_option maxHeartbeats 4000000 in
theorem mX9_close {l : Launch} {D : va_G} {g : pd_G} {t : Nat} {X : va_W} {Q : Int32 → pd_M → Prop} {a1 : Int32} {a2 : Int32} {a3 : Int32} {M : pd_M} {sz : Nat} (h : wX9_close Q a1 a2 a3 M) : Met l yX9_close (Cond.code yX9_close cX9_close 5 (Option.some FieldType.int) :: TB) rX9_close (pd_Pre D g t M X sz [.ref (g.1 82), .int a1, .int a2, .int a3]) (pd_Qi D g M X sz Q) 0 0 (va_A (pd_WL g M ++ X) sz) := by
  refine pd_met (by decide) (Nat.le_of_ble_eq_true rfl) ?_
  intro p e s m below meth c A ls C hA hW hl
  have C : pd_C p m c cX9_close 5 s _ RX9 meth (Option.some FieldType.int) := C
  have hx := C.1.1
  have hb := C.1.2.1
  have hown := C.1.2.2.2.1
  have hts := C.1.2.2.2.2
  have hl : lv_has ls 5 [(0, .ref (g.1 82)), (1, .int a1), (2, .int a2), (3, .int a3)] := hl
  refine lv_aload_n hx hb dX9_close_0 rfl (lv_at hl 0 rfl) ?_
  refine lv_iload_n hx hb dX9_close_1 rfl (lv_at hl 1 rfl) ?_
  refine cl_X9_101 C hW h ⟨by decide, by decide⟩ ⟨Nat.zero_le _, Nat.zero_le _⟩ hl.1 (Nat.le_of_ble_eq_true rfl) dX9_close_2 (fun r_2 M_1 H locs h hW => ?_)
  refine lv_if_eq (tgt := 29) hx hb dX9_close_5 (by decide) (fun c_3 => ?_) (fun c_3 => ?_)
  · have h := h.1 c_3
    refine lv_iconst (v := (-1)) hx hb dX9_close_29 (by decide) ?_
    exact pd_iret C hA hW h dX9_close_30
  · have h := h.2 c_3
    refine lv_iload_n hx hb dX9_close_8 rfl (lv_at hl 2 rfl) ?_
    refine cl_X9_104 C hW h ⟨by decide, by decide⟩ ⟨Nat.zero_le _, Nat.zero_le _⟩ hl.1 (Nat.le_of_ble_eq_true rfl) dX9_close_9 (fun r_5 M_4 H locs h hW => ?_)
    refine lv_if_eq (tgt := 29) hx hb dX9_close_12 (by decide) (fun c_6 => ?_) (fun c_6 => ?_)
    · have h := h.1 c_6
      refine lv_iconst (v := (-1)) hx hb dX9_close_29 (by decide) ?_
      exact pd_iret C hA hW h dX9_close_30
    · have h := h.2 c_6
      refine lv_iload_n hx hb dX9_close_15 rfl (lv_at hl 3 rfl) ?_
      refine lv_iconst (v := 0) hx hb dX9_close_16 (by decide) ?_
      refine lv_aload_n hx hb dX9_close_17 rfl (lv_at hl 0 rfl) ?_
      refine gf_X9_13 C hW dX9_close_18 ?_
      refine lv_iload_n hx hb dX9_close_21 rfl (lv_at hl 1 rfl) ?_
      have hi_7 := h.1
      have h := h.2
      refine pd_iald C hW kd_84 hi_7 dX9_close_22 ?_
      refine cl_X9_90 C hW h ⟨by decide, by decide⟩ ⟨Nat.zero_le _, Nat.zero_le _⟩ hl.1 (Nat.le_of_ble_eq_true rfl) dX9_close_23 (fun r_9 M_8 H locs h hW => ?_)
      refine lv_if_ne (tgt := 31) hx hb dX9_close_26 (by decide) (fun c_10 => ?_) (fun c_10 => ?_)
      · have h := h.1 c_10
        refine lv_aload_n hx hb dX9_close_31 rfl (lv_at hl 0 rfl) ?_
        refine gf_X9_16 C hW dX9_close_32 ?_
        refine lv_bipush (v := 7) hx hb dX9_close_35 (by decide) ?_
        refine lv_iload_n hx hb dX9_close_37 rfl (lv_at hl 1 rfl) ?_
        refine lv_imul hx hb dX9_close_38 ?_
        refine lv_iload_n hx hb dX9_close_39 rfl (lv_at hl 2 rfl) ?_
        refine lv_iadd hx hb dX9_close_40 ?_
        have hi_11 := h.1
        have h := h.2
        refine pd_iald C hW kd_85 hi_11 dX9_close_41 ?_
        refine lv_topi (fun x4_12 ex4_12 => ?_)
        have h := h x4_12 ex4_12
        refine lv_istore (lv' := [(4, .int x4_12), (0, .ref (g.1 82)), (1, .int a1), (2, .int a2), (3, .int a3)]) hx hb dX9_close_42 hl (by decide) rfl (fun ls hl => ?_)
        refine lv_aload_n hx hb dX9_close_44 rfl (lv_at hl 1 rfl) ?_
        refine gf_X9_16 C hW dX9_close_45 ?_
        refine lv_bipush (v := 7) hx hb dX9_close_48 (by decide) ?_
        refine lv_iload_n hx hb dX9_close_50 rfl (lv_at hl 2 rfl) ?_
        refine lv_imul hx hb dX9_close_51 ?_
        refine lv_iload_n hx hb dX9_close_52 rfl (lv_at hl 3 rfl) ?_
        refine lv_iadd hx hb dX9_close_53 ?_
        refine lv_iload_n hx hb dX9_close_54 rfl (lv_at hl 4 rfl) ?_
        have hi_13 := h.1
        have h := h.2
        refine pd_iast C hW kd_85 hi_13 dX9_close_55 (fun M_14 H locs eM_14 hW => ?_)
        have h := h M_14 eM_14
        refine lv_iload hx hb dX9_close_56 (lv_at hl 0 rfl) ?_
        exact pd_iret C hA hW h dX9_close_58
      · have h := h.2 c_10
        refine lv_iconst (v := (-1)) hx hb dX9_close_29 (by decide) ?_
        exact pd_iret C hA hW h dX9_close_30

theorem dd_X9_close : yX9_close.cls ≠ "java/lang/invoke/MethodHandle" ∧ yX9_close.cls ≠ "java/lang/invoke/VarHandle" ∧ (parseMethodDescriptor yX9_close.desc).map (fun d => d.parameters.length) = some 3 := by decide +kernel
theorem cl_L_30 {p : Program} {l : Launch} {e : Env} {R : Room} {s : State} {m : MethodId} {args : Array Value} {below : List Frame} {meth : Method} {c : Code} {H : Heap} {locs : List Loc} {cells slots : Nat} {QQ : State → Prop} {cc : ByteArray} {pc : Nat} {ls : Array Slot} {rest : List Value} {D : va_G} {g : pd_G} {t : Nat} {M : pd_M} {X : va_W} {A : Nat → Prop} {nL : Nat} {ret : Option FieldType} {Qc : Int32 → pd_M → Prop} {a1 : Int32} {a2 : Int32} {a3 : Int32} (C : pd_C p m c cc nL s args RL meth ret) (hW : pd_W D g t M X A s H locs) (h : wX9_close Qc a1 a2 a3 M) (hR : rX9_close.frames + 1 ≤ R.frames ∧ 8 + (5 + 11) + rX9_close.locals ≤ R.locals) (hcs : cells ≤ R.cells ∧ slots ≤ R.slots) (hls : ls.size = nL) (hw8 : (rest.map fun v => v.category).sum ≤ 8) (hdg : decode cc pc = .ok (.invokevirtual 30, 3))
    (kk : ∀ (r : Int32) (M1 : pd_M) (H1 : Heap) (locs1 : List Loc), Qc r M1 → pd_W D g t M1 X A s H1 locs1 → W p l e R s m args below meth c H1 locs1 cells slots QQ (F0 m (pc + 3) ls (.int r :: rest))) : W p l e R s m args below meth c H locs cells slots QQ (F0 m pc ls (.int a3 :: .int a2 :: .int a1 :: .ref (g.1 82) :: rest)) :=
  pd_callVi (As := [.int a1, .int a2, .int a3]) C hW (mX9_close h) kd_82 rfl mM_L_30 mO_yX9_close mV_yX9_close mI_X9 mC_yX9_close dd_X9_close ⟨rfl, rfl⟩ hR hcs hls rfl hw8 hdg kk
abbrev rX9_areHours : Room := { frames := 2, cells := 0, slots := 0, locals := 42 }
def wX9_areHours (Q : Int32 → pd_M → Prop) (a0 : Int32) (a1 : Int32) (M : pd_M) : Prop := ((a0 = (-1) → Q 1 M) ∧ (¬ a0 = (-1) → wX9_isHour (fun r_3 M_2 => ((r_3 = 0 → Q 0 M_2) ∧ (¬ r_3 = 0 → wX9_isHour (fun r_6 M_5 => ((r_6 = 0 → Q 0 M_5) ∧ (¬ r_6 = 0 → Q 1 M_5))) a1 M_2))) a0 M))

set_option maxRecDepth 100000 in
set_option maxHeartbeats 4000000 in
theorem mX9_areHours {l : Launch} {D : va_G} {g : pd_G} {t : Nat} {X : va_W} {Q : Int32 → pd_M → Prop} {a0 : Int32} {a1 : Int32} {M : pd_M} {sz : Nat} (h : wX9_areHours Q a0 a1 M) : Met l yX9_areHours (Cond.code yX9_areHours cX9_areHours 2 (Option.some FieldType.boolean) :: TB) rX9_areHours (pd_Pre D g t M X sz [.int a0, .int a1]) (pd_Qi D g M X sz Q) 0 0 (va_A (pd_WL g M ++ X) sz) := by
  refine pd_met (by decide) (Nat.le_of_ble_eq_true rfl) ?_
  intro p e s m below meth c A ls C hA hW hl
  have C : pd_C p m c cX9_areHours 2 s _ RX9 meth (Option.some FieldType.boolean) := C
  have hx := C.1.1
  have hb := C.1.2.1
  have hown := C.1.2.2.2.1
  have hts := C.1.2.2.2.2
  have hl : lv_has ls 2 [(0, .int a0), (1, .int a1)] := hl
  refine lv_iload_n hx hb dX9_areHours_0 rfl (lv_at hl 0 rfl) ?_
  refine lv_iconst (v := (-1)) hx hb dX9_areHours_1 (by decide) ?_
  refine lv_icmp_eq (tgt := 19) hx hb dX9_areHours_2 (by decide) (fun c_1 => ?_) (fun c_1 => ?_)
  · have h := h.1 c_1
    refine lv_iconst (v := 1) hx hb dX9_areHours_19 (by decide) ?_
    refine lv_goto (tgt := 24) hx hb dX9_areHours_20 (by decide) ?_
    exact pd_zret C hA hW rfl h dX9_areHours_24
  · have h := h.2 c_1
    refine lv_iload_n hx hb dX9_areHours_5 rfl (lv_at hl 0 rfl) ?_
    refine cl_X9_107 C hW h ⟨by decide, by decide⟩ ⟨Nat.zero_le _, Nat.zero_le _⟩ hl.1 (Nat.le_of_ble_eq_true rfl) dX9_areHours_6 (fun r_3 M_2 H locs h hW => ?_)
    refine lv_if_eq (tgt := 23) hx hb dX9_areHours_9 (by decide) (fun c_4 => ?_) (fun c_4 => ?_)
    · have h := h.1 c_4
      refine lv_iconst (v := 0) hx hb dX9_areHours_23 (by decide) ?_
      exact pd_zret C hA hW rfl h dX9_areHours_24
    · have h := h.2 c_4
      refine lv_iload_n hx hb dX9_areHours_12 rfl (lv_at hl 1 rfl) ?_
      refine cl_X9_107 C hW h ⟨by decide, by decide⟩ ⟨Nat.zero_le _, Nat.zero_le _⟩ hl.1 (Nat.le_of_ble_eq_true rfl) dX9_areHours_13 (fun r_6 M_5 H locs h hW => ?_)
      refine lv_if_eq (tgt := 23) hx hb dX9_areHours_16 (by decide) (fun c_7 => ?_) (fun c_7 => ?_)
      · have h := h.1 c_7
        refine lv_iconst (v := 0) hx hb dX9_areHours_23 (by decide) ?_
        exact pd_zret C hA hW rfl h dX9_areHours_24
      · have h := h.2 c_7
        refine lv_iconst (v := 1) hx hb dX9_areHours_19 (by decide) ?_
        refine lv_goto (tgt := 24) hx hb dX9_areHours_20 (by decide) ?_
        exact pd_zret C hA hW rfl h dX9_areHours_24

theorem dd_X9_areHours : yX9_areHours.cls ≠ "java/lang/invoke/MethodHandle" ∧ yX9_areHours.cls ≠ "java/lang/invoke/VarHandle" ∧ (parseMethodDescriptor yX9_areHours.desc).map (fun d => d.parameters.length) = some 2 := by decide +kernel
theorem cl_X9_110 {p : Program} {l : Launch} {e : Env} {R : Room} {s : State} {m : MethodId} {args : Array Value} {below : List Frame} {meth : Method} {c : Code} {H : Heap} {locs : List Loc} {cells slots : Nat} {QQ : State → Prop} {cc : ByteArray} {pc : Nat} {ls : Array Slot} {rest : List Value} {D : va_G} {g : pd_G} {t : Nat} {M : pd_M} {X : va_W} {A : Nat → Prop} {nL : Nat} {ret : Option FieldType} {Qc : Int32 → pd_M → Prop} {a0 : Int32} {a1 : Int32} (C : pd_C p m c cc nL s args RX9 meth ret) (hW : pd_W D g t M X A s H locs) (h : wX9_areHours Qc a0 a1 M) (hR : rX9_areHours.frames + 1 ≤ R.frames ∧ 8 + (2 + 11) + rX9_areHours.locals ≤ R.locals) (hcs : cells ≤ R.cells ∧ slots ≤ R.slots) (hls : ls.size = nL) (hw8 : (rest.map fun v => v.category).sum ≤ 8) (hdg : decode cc pc = .ok (.invokestatic 110, 3))
    (kk : ∀ (r : Int32) (M1 : pd_M) (H1 : Heap) (locs1 : List Loc), Qc r M1 → pd_W D g t M1 X A s H1 locs1 → W p l e R s m args below meth c H1 locs1 cells slots QQ (F0 m (pc + 3) ls (.int r :: rest))) : W p l e R s m args below meth c H locs cells slots QQ (F0 m pc ls (.int a1 :: .int a0 :: rest)) :=
  pd_callSi (As := [.int a0, .int a1]) C hW (mX9_areHours h) mM_X9_110 mS_yX9_areHours mI_X9 mC_yX9_areHours dd_X9_areHours ⟨rfl, rfl⟩ hR hcs hls rfl hw8 hdg kk
abbrev rX9_rule : Room := { frames := 3, cells := 0, slots := 0, locals := 63 }
def wX9_rule (Q : Int32 → pd_M → Prop) (a1 : Int32) (a2 : Int32) (a3 : Int32) (M : pd_M) : Prop := wX9_isZone (fun r_2 M_1 => ((r_2 = 0 → Q (-1) M_1) ∧ (¬ r_2 = 0 → wX9_areHours (fun r_5 M_4 => ((¬ r_5 = 0 → (vp_in a1 4 ∧ ∀ M_8 : pd_M, M_8 = sI M_4 93 a1.toNatClampNeg a2 → (vp_in a1 4 ∧ ∀ M_10 : pd_M, M_10 = sI M_8 94 a1.toNatClampNeg a3 → Q 1 M_10))) ∧ (r_5 = 0 → Q (-1) M_4))) a2 a3 M_1))) a1 M

set_option maxRecDepth 100000 in
set_option maxHeartbeats 4000000 in
theorem mX9_rule {l : Launch} {D : va_G} {g : pd_G} {t : Nat} {X : va_W} {Q : Int32 → pd_M → Prop} {a1 : Int32} {a2 : Int32} {a3 : Int32} {M : pd_M} {sz : Nat} (h : wX9_rule Q a1 a2 a3 M) : Met l yX9_rule (Cond.code yX9_rule cX9_rule 4 (Option.some FieldType.int) :: TB) rX9_rule (pd_Pre D g t M X sz [.ref (g.1 82), .int a1, .int a2, .int a3]) (pd_Qi D g M X sz Q) 0 0 (va_A (pd_WL g M ++ X) sz) := by
  refine pd_met (by decide) (Nat.le_of_ble_eq_true rfl) ?_
  intro p e s m below meth c A ls C hA hW hl
  have C : pd_C p m c cX9_rule 4 s _ RX9 meth (Option.some FieldType.int) := C
  have hx := C.1.1
  have hb := C.1.2.1
  have hown := C.1.2.2.2.1
  have hts := C.1.2.2.2.2
  have hl : lv_has ls 4 [(0, .ref (g.1 82)), (1, .int a1), (2, .int a2), (3, .int a3)] := hl
  refine lv_iload_n hx hb dX9_rule_0 rfl (lv_at hl 1 rfl) ?_
  refine cl_X9_97 C hW h ⟨by decide, by decide⟩ ⟨Nat.zero_le _, Nat.zero_le _⟩ hl.1 (Nat.le_of_ble_eq_true rfl) dX9_rule_1 (fun r_2 M_1 H locs h hW => ?_)
  refine lv_if_eq (tgt := 15) hx hb dX9_rule_4 (by decide) (fun c_3 => ?_) (fun c_3 => ?_)
  · have h := h.1 c_3
    refine lv_iconst (v := (-1)) hx hb dX9_rule_15 (by decide) ?_
    exact pd_iret C hA hW h dX9_rule_16
  · have h := h.2 c_3
    refine lv_iload_n hx hb dX9_rule_7 rfl (lv_at hl 2 rfl) ?_
    refine lv_iload_n hx hb dX9_rule_8 rfl (lv_at hl 3 rfl) ?_
    refine cl_X9_110 C hW h ⟨by decide, by decide⟩ ⟨Nat.zero_le _, Nat.zero_le _⟩ hl.1 (Nat.le_of_ble_eq_true rfl) dX9_rule_9 (fun r_5 M_4 H locs h hW => ?_)
    refine lv_if_ne (tgt := 17) hx hb dX9_rule_12 (by decide) (fun c_6 => ?_) (fun c_6 => ?_)
    · have h := h.1 c_6
      refine lv_aload_n hx hb dX9_rule_17 rfl (lv_at hl 0 rfl) ?_
      refine gf_X9_41 C hW dX9_rule_18 ?_
      refine lv_iload_n hx hb dX9_rule_21 rfl (lv_at hl 1 rfl) ?_
      refine lv_iload_n hx hb dX9_rule_22 rfl (lv_at hl 2 rfl) ?_
      have hi_7 := h.1
      have h := h.2
      refine pd_iast C hW kd_93 hi_7 dX9_rule_23 (fun M_8 H locs eM_8 hW => ?_)
      have h := h M_8 eM_8
      refine lv_aload_n hx hb dX9_rule_24 rfl (lv_at hl 0 rfl) ?_
      refine gf_X9_44 C hW dX9_rule_25 ?_
      refine lv_iload_n hx hb dX9_rule_28 rfl (lv_at hl 1 rfl) ?_
      refine lv_iload_n hx hb dX9_rule_29 rfl (lv_at hl 3 rfl) ?_
      have hi_9 := h.1
      have h := h.2
      refine pd_iast C hW kd_94 hi_9 dX9_rule_30 (fun M_10 H locs eM_10 hW => ?_)
      have h := h M_10 eM_10
      refine lv_iconst (v := 1) hx hb dX9_rule_31 (by decide) ?_
      exact pd_iret C hA hW h dX9_rule_32
    · have h := h.2 c_6
      refine lv_iconst (v := (-1)) hx hb dX9_rule_15 (by decide) ?_
      exact pd_iret C hA hW h dX9_rule_16

theorem dd_X9_rule : yX9_rule.cls ≠ "java/lang/invoke/MethodHandle" ∧ yX9_rule.cls ≠ "java/lang/invoke/VarHandle" ∧ (parseMethodDescriptor yX9_rule.desc).map (fun d => d.parameters.length) = some 3 := by decide +kernel
theorem cl_L_34 {p : Program} {l : Launch} {e : Env} {R : Room} {s : State} {m : MethodId} {args : Array Value} {below : List Frame} {meth : Method} {c : Code} {H : Heap} {locs : List Loc} {cells slots : Nat} {QQ : State → Prop} {cc : ByteArray} {pc : Nat} {ls : Array Slot} {rest : List Value} {D : va_G} {g : pd_G} {t : Nat} {M : pd_M} {X : va_W} {A : Nat → Prop} {nL : Nat} {ret : Option FieldType} {Qc : Int32 → pd_M → Prop} {a1 : Int32} {a2 : Int32} {a3 : Int32} (C : pd_C p m c cc nL s args RL meth ret) (hW : pd_W D g t M X A s H locs) (h : wX9_rule Qc a1 a2 a3 M) (hR : rX9_rule.frames + 1 ≤ R.frames ∧ 8 + (4 + 11) + rX9_rule.locals ≤ R.locals) (hcs : cells ≤ R.cells ∧ slots ≤ R.slots) (hls : ls.size = nL) (hw8 : (rest.map fun v => v.category).sum ≤ 8) (hdg : decode cc pc = .ok (.invokevirtual 34, 3))
    (kk : ∀ (r : Int32) (M1 : pd_M) (H1 : Heap) (locs1 : List Loc), Qc r M1 → pd_W D g t M1 X A s H1 locs1 → W p l e R s m args below meth c H1 locs1 cells slots QQ (F0 m (pc + 3) ls (.int r :: rest))) : W p l e R s m args below meth c H locs cells slots QQ (F0 m pc ls (.int a3 :: .int a2 :: .int a1 :: .ref (g.1 82) :: rest)) :=
  pd_callVi (As := [.int a1, .int a2, .int a3]) C hW (mX9_rule h) kd_82 rfl mM_L_34 mO_yX9_rule mV_yX9_rule mI_X9 mC_yX9_rule dd_X9_rule ⟨rfl, rfl⟩ hR hcs hls rfl hw8 hdg kk
abbrev rX9_hours : Room := { frames := 3, cells := 0, slots := 0, locals := 63 }
def wX9_hours (Q : Int32 → pd_M → Prop) (a1 : Int32) (a2 : Int32) (a3 : Int32) (a4 : Int32) (M : pd_M) : Prop := wX9_isZone (fun r_2 M_1 => ((r_2 = 0 → Q (-1) M_1) ∧ (¬ r_2 = 0 → wX9_isSort (fun r_5 M_4 => ((r_5 = 0 → Q (-1) M_4) ∧ (¬ r_5 = 0 → wX9_areHours (fun r_8 M_7 => ((¬ r_8 = 0 → (vp_in ((3 * a1) + a2) 12 ∧ ∀ M_11 : pd_M, M_11 = sI M_7 95 ((3 * a1) + a2).toNatClampNeg a3 → (vp_in ((3 * a1) + a2) 12 ∧ ∀ M_13 : pd_M, M_13 = sI M_11 96 ((3 * a1) + a2).toNatClampNeg a4 → Q 1 M_13))) ∧ (r_8 = 0 → Q (-1) M_7))) a3 a4 M_4))) a2 M_1))) a1 M

set_option maxRecDepth 100000 in
set_option maxHeartbeats 4000000 in
theorem mX9_hours {l : Launch} {D : va_G} {g : pd_G} {t : Nat} {X : va_W} {Q : Int32 → pd_M → Prop} {a1 : Int32} {a2 : Int32} {a3 : Int32} {a4 : Int32} {M : pd_M} {sz : Nat} (h : wX9_hours Q a1 a2 a3 a4 M) : Met l yX9_hours (Cond.code yX9_hours cX9_hours 5 (Option.some FieldType.int) :: TB) rX9_hours (pd_Pre D g t M X sz [.ref (g.1 82), .int a1, .int a2, .int a3, .int a4]) (pd_Qi D g M X sz Q) 0 0 (va_A (pd_WL g M ++ X) sz) := by
  refine pd_met (by decide) (Nat.le_of_ble_eq_true rfl) ?_
  intro p e s m below meth c A ls C hA hW hl
  have C : pd_C p m c cX9_hours 5 s _ RX9 meth (Option.some FieldType.int) := C
  have hx := C.1.1
  have hb := C.1.2.1
  have hown := C.1.2.2.2.1
  have hts := C.1.2.2.2.2
  have hl : lv_has ls 5 [(0, .ref (g.1 82)), (1, .int a1), (2, .int a2), (3, .int a3), (4, .int a4)] := hl
  refine lv_iload_n hx hb dX9_hours_0 rfl (lv_at hl 1 rfl) ?_
  refine cl_X9_97 C hW h ⟨by decide, by decide⟩ ⟨Nat.zero_le _, Nat.zero_le _⟩ hl.1 (Nat.le_of_ble_eq_true rfl) dX9_hours_1 (fun r_2 M_1 H locs h hW => ?_)
  refine lv_if_eq (tgt := 23) hx hb dX9_hours_4 (by decide) (fun c_3 => ?_) (fun c_3 => ?_)
  · have h := h.1 c_3
    refine lv_iconst (v := (-1)) hx hb dX9_hours_23 (by decide) ?_
    exact pd_iret C hA hW h dX9_hours_24
  · have h := h.2 c_3
    refine lv_iload_n hx hb dX9_hours_7 rfl (lv_at hl 2 rfl) ?_
    refine cl_X9_114 C hW h ⟨by decide, by decide⟩ ⟨Nat.zero_le _, Nat.zero_le _⟩ hl.1 (Nat.le_of_ble_eq_true rfl) dX9_hours_8 (fun r_5 M_4 H locs h hW => ?_)
    refine lv_if_eq (tgt := 23) hx hb dX9_hours_11 (by decide) (fun c_6 => ?_) (fun c_6 => ?_)
    · have h := h.1 c_6
      refine lv_iconst (v := (-1)) hx hb dX9_hours_23 (by decide) ?_
      exact pd_iret C hA hW h dX9_hours_24
    · have h := h.2 c_6
      refine lv_iload_n hx hb dX9_hours_14 rfl (lv_at hl 3 rfl) ?_
      refine lv_iload hx hb dX9_hours_15 (lv_at hl 4 rfl) ?_
      refine cl_X9_110 C hW h ⟨by decide, by decide⟩ ⟨Nat.zero_le _, Nat.zero_le _⟩ hl.1 (Nat.le_of_ble_eq_true rfl) dX9_hours_17 (fun r_8 M_7 H locs h hW => ?_)
      refine lv_if_ne (tgt := 25) hx hb dX9_hours_20 (by decide) (fun c_9 => ?_) (fun c_9 => ?_)
      · have h := h.1 c_9
        refine lv_aload_n hx hb dX9_hours_25 rfl (lv_at hl 0 rfl) ?_
        refine gf_X9_47 C hW dX9_hours_26 ?_
        refine lv_iconst (v := 3) hx hb dX9_hours_29 (by decide) ?_
        refine lv_iload_n hx hb dX9_hours_30 rfl (lv_at hl 1 rfl) ?_
        refine lv_imul hx hb dX9_hours_31 ?_
        refine lv_iload_n hx hb dX9_hours_32 rfl (lv_at hl 2 rfl) ?_
        refine lv_iadd hx hb dX9_hours_33 ?_
        refine lv_iload_n hx hb dX9_hours_34 rfl (lv_at hl 3 rfl) ?_
        have hi_10 := h.1
        have h := h.2
        refine pd_iast C hW kd_95 hi_10 dX9_hours_35 (fun M_11 H locs eM_11 hW => ?_)
        have h := h M_11 eM_11
        refine lv_aload_n hx hb dX9_hours_36 rfl (lv_at hl 0 rfl) ?_
        refine gf_X9_50 C hW dX9_hours_37 ?_
        refine lv_iconst (v := 3) hx hb dX9_hours_40 (by decide) ?_
        refine lv_iload_n hx hb dX9_hours_41 rfl (lv_at hl 1 rfl) ?_
        refine lv_imul hx hb dX9_hours_42 ?_
        refine lv_iload_n hx hb dX9_hours_43 rfl (lv_at hl 2 rfl) ?_
        refine lv_iadd hx hb dX9_hours_44 ?_
        refine lv_iload hx hb dX9_hours_45 (lv_at hl 4 rfl) ?_
        have hi_12 := h.1
        have h := h.2
        refine pd_iast C hW kd_96 hi_12 dX9_hours_47 (fun M_13 H locs eM_13 hW => ?_)
        have h := h M_13 eM_13
        refine lv_iconst (v := 1) hx hb dX9_hours_48 (by decide) ?_
        exact pd_iret C hA hW h dX9_hours_49
      · have h := h.2 c_9
        refine lv_iconst (v := (-1)) hx hb dX9_hours_23 (by decide) ?_
        exact pd_iret C hA hW h dX9_hours_24

theorem dd_X9_hours : yX9_hours.cls ≠ "java/lang/invoke/MethodHandle" ∧ yX9_hours.cls ≠ "java/lang/invoke/VarHandle" ∧ (parseMethodDescriptor yX9_hours.desc).map (fun d => d.parameters.length) = some 4 := by decide +kernel
theorem cl_L_39 {p : Program} {l : Launch} {e : Env} {R : Room} {s : State} {m : MethodId} {args : Array Value} {below : List Frame} {meth : Method} {c : Code} {H : Heap} {locs : List Loc} {cells slots : Nat} {QQ : State → Prop} {cc : ByteArray} {pc : Nat} {ls : Array Slot} {rest : List Value} {D : va_G} {g : pd_G} {t : Nat} {M : pd_M} {X : va_W} {A : Nat → Prop} {nL : Nat} {ret : Option FieldType} {Qc : Int32 → pd_M → Prop} {a1 : Int32} {a2 : Int32} {a3 : Int32} {a4 : Int32} (C : pd_C p m c cc nL s args RL meth ret) (hW : pd_W D g t M X A s H locs) (h : wX9_hours Qc a1 a2 a3 a4 M) (hR : rX9_hours.frames + 1 ≤ R.frames ∧ 8 + (5 + 11) + rX9_hours.locals ≤ R.locals) (hcs : cells ≤ R.cells ∧ slots ≤ R.slots) (hls : ls.size = nL) (hw8 : (rest.map fun v => v.category).sum ≤ 8) (hdg : decode cc pc = .ok (.invokevirtual 39, 3))
    (kk : ∀ (r : Int32) (M1 : pd_M) (H1 : Heap) (locs1 : List Loc), Qc r M1 → pd_W D g t M1 X A s H1 locs1 → W p l e R s m args below meth c H1 locs1 cells slots QQ (F0 m (pc + 3) ls (.int r :: rest))) : W p l e R s m args below meth c H locs cells slots QQ (F0 m pc ls (.int a4 :: .int a3 :: .int a2 :: .int a1 :: .ref (g.1 82) :: rest)) :=
  pd_callVi (As := [.int a1, .int a2, .int a3, .int a4]) C hW (mX9_hours h) kd_82 rfl mM_L_39 mO_yX9_hours mV_yX9_hours mI_X9 mC_yX9_hours dd_X9_hours ⟨rfl, rfl⟩ hR hcs hls rfl hw8 hdg kk
abbrev rX9_isWithin : Room := { frames := 0, cells := 0, slots := 0, locals := 0 }
def wX9_isWithin (Q : Int32 → pd_M → Prop) (a0 : Int32) (a1 : Int32) (a2 : Int32) (M : pd_M) : Prop := ((0 ≤ a1 → ((a2 < a1 → ((a1 ≤ a0 → Q 1 M) ∧ (¬ a1 ≤ a0 → ((a2 < a0 → Q 0 M) ∧ (¬ a2 < a0 → Q 1 M))))) ∧ (¬ a2 < a1 → ((a0 < a1 → Q 0 M) ∧ (¬ a0 < a1 → ((a2 < a0 → Q 0 M) ∧ (¬ a2 < a0 → Q 1 M))))))) ∧ (¬ 0 ≤ a1 → Q 0 M))

set_option maxRecDepth 100000 in
set_option maxHeartbeats 4000000 in
theorem mX9_isWithin {l : Launch} {D : va_G} {g : pd_G} {t : Nat} {X : va_W} {Q : Int32 → pd_M → Prop} {a0 : Int32} {a1 : Int32} {a2 : Int32} {M : pd_M} {sz : Nat} (h : wX9_isWithin Q a0 a1 a2 M) : Met l yX9_isWithin (Cond.code yX9_isWithin cX9_isWithin 3 (Option.some FieldType.boolean) :: TB) rX9_isWithin (pd_Pre D g t M X sz [.int a0, .int a1, .int a2]) (pd_Qi D g M X sz Q) 0 0 (va_A (pd_WL g M ++ X) sz) := by
  refine pd_met (by decide) (Nat.le_of_ble_eq_true rfl) ?_
  intro p e s m below meth c A ls C hA hW hl
  have C : pd_C p m c cX9_isWithin 3 s _ RX9 meth (Option.some FieldType.boolean) := C
  have hx := C.1.1
  have hb := C.1.2.1
  have hown := C.1.2.2.2.1
  have hts := C.1.2.2.2.2
  have hl : lv_has ls 3 [(0, .int a0), (1, .int a1), (2, .int a2)] := hl
  refine lv_iload_n hx hb dX9_isWithin_0 rfl (lv_at hl 1 rfl) ?_
  refine lv_if_ge (tgt := 6) hx hb dX9_isWithin_1 (by decide) (fun c_1 => ?_) (fun c_1 => ?_)
  · have h := h.1 c_1
    refine lv_iload_n hx hb dX9_isWithin_6 rfl (lv_at hl 1 rfl) ?_
    refine lv_iload_n hx hb dX9_isWithin_7 rfl (lv_at hl 2 rfl) ?_
    refine lv_icmp_gt (tgt := 29) hx hb dX9_isWithin_8 (by decide) (fun c_2 => ?_) (fun c_2 => ?_)
    · have h := h.1 c_2
      refine lv_iload_n hx hb dX9_isWithin_29 rfl (lv_at hl 0 rfl) ?_
      refine lv_iload_n hx hb dX9_isWithin_30 rfl (lv_at hl 1 rfl) ?_
      refine lv_icmp_ge (tgt := 39) hx hb dX9_isWithin_31 (by decide) (fun c_3 => ?_) (fun c_3 => ?_)
      · have h := h.1 c_3
        refine lv_iconst (v := 1) hx hb dX9_isWithin_39 (by decide) ?_
        refine lv_goto (tgt := 44) hx hb dX9_isWithin_40 (by decide) ?_
        exact pd_zret C hA hW rfl h dX9_isWithin_44
      · have h := h.2 c_3
        refine lv_iload_n hx hb dX9_isWithin_34 rfl (lv_at hl 0 rfl) ?_
        refine lv_iload_n hx hb dX9_isWithin_35 rfl (lv_at hl 2 rfl) ?_
        refine lv_icmp_gt (tgt := 43) hx hb dX9_isWithin_36 (by decide) (fun c_4 => ?_) (fun c_4 => ?_)
        · have h := h.1 c_4
          refine lv_iconst (v := 0) hx hb dX9_isWithin_43 (by decide) ?_
          exact pd_zret C hA hW rfl h dX9_isWithin_44
        · have h := h.2 c_4
          refine lv_iconst (v := 1) hx hb dX9_isWithin_39 (by decide) ?_
          refine lv_goto (tgt := 44) hx hb dX9_isWithin_40 (by decide) ?_
          exact pd_zret C hA hW rfl h dX9_isWithin_44
    · have h := h.2 c_2
      refine lv_iload_n hx hb dX9_isWithin_11 rfl (lv_at hl 0 rfl) ?_
      refine lv_iload_n hx hb dX9_isWithin_12 rfl (lv_at hl 1 rfl) ?_
      refine lv_icmp_lt (tgt := 25) hx hb dX9_isWithin_13 (by decide) (fun c_5 => ?_) (fun c_5 => ?_)
      · have h := h.1 c_5
        refine lv_iconst (v := 0) hx hb dX9_isWithin_25 (by decide) ?_
        refine lv_goto (tgt := 44) hx hb dX9_isWithin_26 (by decide) ?_
        exact pd_zret C hA hW rfl h dX9_isWithin_44
      · have h := h.2 c_5
        refine lv_iload_n hx hb dX9_isWithin_16 rfl (lv_at hl 0 rfl) ?_
        refine lv_iload_n hx hb dX9_isWithin_17 rfl (lv_at hl 2 rfl) ?_
        refine lv_icmp_gt (tgt := 25) hx hb dX9_isWithin_18 (by decide) (fun c_6 => ?_) (fun c_6 => ?_)
        · have h := h.1 c_6
          refine lv_iconst (v := 0) hx hb dX9_isWithin_25 (by decide) ?_
          refine lv_goto (tgt := 44) hx hb dX9_isWithin_26 (by decide) ?_
          exact pd_zret C hA hW rfl h dX9_isWithin_44
        · have h := h.2 c_6
          refine lv_iconst (v := 1) hx hb dX9_isWithin_21 (by decide) ?_
          refine lv_goto (tgt := 44) hx hb dX9_isWithin_22 (by decide) ?_
          exact pd_zret C hA hW rfl h dX9_isWithin_44
  · have h := h.2 c_1
    refine lv_iconst (v := 0) hx hb dX9_isWithin_4 (by decide) ?_
    exact pd_zret C hA hW rfl h dX9_isWithin_5

theorem dd_X9_isWithin : yX9_isWithin.cls ≠ "java/lang/invoke/MethodHandle" ∧ yX9_isWithin.cls ≠ "java/lang/invoke/VarHandle" ∧ (parseMethodDescriptor yX9_isWithin.desc).map (fun d => d.parameters.length) = some 3 := by decide +kernel
theorem cl_X9_120 {p : Program} {l : Launch} {e : Env} {R : Room} {s : State} {m : MethodId} {args : Array Value} {below : List Frame} {meth : Method} {c : Code} {H : Heap} {locs : List Loc} {cells slots : Nat} {QQ : State → Prop} {cc : ByteArray} {pc : Nat} {ls : Array Slot} {rest : List Value} {D : va_G} {g : pd_G} {t : Nat} {M : pd_M} {X : va_W} {A : Nat → Prop} {nL : Nat} {ret : Option FieldType} {Qc : Int32 → pd_M → Prop} {a0 : Int32} {a1 : Int32} {a2 : Int32} (C : pd_C p m c cc nL s args RX9 meth ret) (hW : pd_W D g t M X A s H locs) (h : wX9_isWithin Qc a0 a1 a2 M) (hR : rX9_isWithin.frames + 1 ≤ R.frames ∧ 8 + (3 + 11) + rX9_isWithin.locals ≤ R.locals) (hcs : cells ≤ R.cells ∧ slots ≤ R.slots) (hls : ls.size = nL) (hw8 : (rest.map fun v => v.category).sum ≤ 8) (hdg : decode cc pc = .ok (.invokestatic 120, 3))
    (kk : ∀ (r : Int32) (M1 : pd_M) (H1 : Heap) (locs1 : List Loc), Qc r M1 → pd_W D g t M1 X A s H1 locs1 → W p l e R s m args below meth c H1 locs1 cells slots QQ (F0 m (pc + 3) ls (.int r :: rest))) : W p l e R s m args below meth c H locs cells slots QQ (F0 m pc ls (.int a2 :: .int a1 :: .int a0 :: rest)) :=
  pd_callSi (As := [.int a0, .int a1, .int a2]) C hW (mX9_isWithin h) mM_X9_120 mS_yX9_isWithin mI_X9 mC_yX9_isWithin dd_X9_isWithin ⟨rfl, rfl⟩ hR hcs hls rfl hw8 hdg kk
abbrev rX9_car : Room := { frames := 2, cells := 0, slots := 0, locals := 43 }
def lpX9_car_70 (K : pd_M → Prop) (f2 : Int32) (f3 : Int32) : Nat → Int32 → pd_M → Prop
  | 0, _, _ => False
  | n + 1, v4, M => ((3 ≤ v4 → K M) ∧ (¬ 3 ≤ v4 → (vp_in ((((4 * f2) + f3) * 3) + v4) 84 ∧ ∀ M_17 : pd_M, M_17 = sI M 89 ((((4 * f2) + f3) * 3) + v4).toNatClampNeg (vp_nar .boolean 0) → ∀ x4_18 : Int32, x4_18 = v4 + 1 → lpX9_car_70 K f2 f3 n x4_18 M_17)))

set_option maxRecDepth 100000 in
set_option maxHeartbeats 4000000 in
theorem stX9_car_70 {p : Program} {l : Launch} {e : Env} {s : State} {m : MethodId} {args : Array Value} {below : List Frame} {meth : Method} {c : Code} {D : va_G} {g : pd_G} {t : Nat} {M0 : pd_M} {X : va_W} {A : Nat → Prop} {sz : Nat} {Q : Int32 → pd_M → Prop} (C : pd_C p m c cX9_car 5 s args RX9 meth (Option.some FieldType.int)) (hA : A = va_A (pd_WL g M0 ++ X) sz) {K : pd_M → Prop} {f2 : Int32} {f3 : Int32}  (hK : ∀  (M : pd_M) (H : Heap) (locs : List Loc) (ls : Array Slot), pd_W D g t M X A s H locs → lv_has ls 5 [(0, .ref (g.1 82)), (2, .int f2), (3, .int f3)] → K  M → W p l e rX9_car s m args below meth c H locs 0 0 (MQ below (pd_Qi D g M0 X sz Q) args s 0 0 (va_A (pd_WL g M0 ++ X) sz)) (F0 m 98 ls [])) :
    ∀ (n : Nat) (v4 : Int32) (M : pd_M) (H : Heap) (locs : List Loc) (ls : Array Slot), pd_W D g t M X A s H locs → lv_has ls 5 [(0, .ref (g.1 82)), (2, .int f2), (3, .int f3), (4, .int v4)] → lpX9_car_70 K f2 f3 n v4 M → W p l e rX9_car s m args below meth c H locs 0 0 (MQ below (pd_Qi D g M0 X sz Q) args s 0 0 (va_A (pd_WL g M0 ++ X) sz)) (F0 m 70 ls []) := by
  have hx := C.1.1
  have hb := C.1.2.1
  have hown := C.1.2.2.2.1
  have hts := C.1.2.2.2.2
  intro n
  induction n with
  | zero => intro v4 M H locs ls hW hl h; exact h.elim
  | succ n ih =>
    intro v4 M H locs ls hW hl h
    refine lv_iload hx hb dX9_car_70 (lv_at hl 3 rfl) ?_
    refine lv_iconst (v := 3) hx hb dX9_car_72 (by decide) ?_
    refine lv_icmp_ge (tgt := 98) hx hb dX9_car_73 (by decide) (fun c_15 => ?_) (fun c_15 => ?_)
    · have h := h.1 c_15
      exact hK M _ _ _ hW (lv_sub hl [0, 1, 2] rfl) h
    · have h := h.2 c_15
      refine lv_aload_n hx hb dX9_car_76 rfl (lv_at hl 0 rfl) ?_
      refine gf_X9_28 C hW dX9_car_77 ?_
      refine lv_iconst (v := 4) hx hb dX9_car_80 (by decide) ?_
      refine lv_iload_n hx hb dX9_car_81 rfl (lv_at hl 1 rfl) ?_
      refine lv_imul hx hb dX9_car_82 ?_
      refine lv_iload_n hx hb dX9_car_83 rfl (lv_at hl 2 rfl) ?_
      refine lv_iadd hx hb dX9_car_84 ?_
      refine lv_iconst (v := 3) hx hb dX9_car_85 (by decide) ?_
      refine lv_imul hx hb dX9_car_86 ?_
      refine lv_iload hx hb dX9_car_87 (lv_at hl 3 rfl) ?_
      refine lv_iadd hx hb dX9_car_89 ?_
      refine lv_iconst (v := 0) hx hb dX9_car_90 (by decide) ?_
      have hi_16 := h.1
      have h := h.2
      refine pd_zast C hW kd_89 hi_16 dX9_car_91 (fun M_17 H locs eM_17 hW => ?_)
      have h := h M_17 eM_17
      obtain ⟨x4_18, ex4_18⟩ : ∃ y : Int32, y = v4 + 1 := ⟨_, rfl⟩
      have h := h x4_18 ex4_18
      refine lv_iinc (v := x4_18) (lv' := [(4, .int x4_18), (0, .ref (g.1 82)), (2, .int f2), (3, .int f3)]) hx hb dX9_car_92 hl (k := 3) rfl (by rw [ex4_18]; rfl) (by decide) rfl (fun ls hl => ?_)
      refine lv_goto (tgt := 70) hx hb dX9_car_95 (by decide) ?_
      exact ih x4_18 M_17 _ _ _ hW (lv_sub hl [1, 2, 3, 0] rfl) h

def lpX9_car_51 (K : pd_M → Prop) (f2 : Int32) : Nat → Int32 → pd_M → Prop
  | 0, _, _ => False
  | n + 1, v3, M => ((4 ≤ v3 → K M) ∧ (¬ 4 ≤ v3 → (vp_in ((4 * f2) + v3) 28 ∧ ∀ M_14 : pd_M, M_14 = sI M 90 ((4 * f2) + v3).toNatClampNeg 0 → (∃ k_70 : Nat, lpX9_car_70 (fun M_19 => ∀ x3_20 : Int32, x3_20 = v3 + 1 → lpX9_car_51 K f2 n x3_20 M_19) f2 v3 k_70 0 M_14))))

set_option maxRecDepth 100000 in
set_option maxHeartbeats 4000000 in
theorem stX9_car_51 {p : Program} {l : Launch} {e : Env} {s : State} {m : MethodId} {args : Array Value} {below : List Frame} {meth : Method} {c : Code} {D : va_G} {g : pd_G} {t : Nat} {M0 : pd_M} {X : va_W} {A : Nat → Prop} {sz : Nat} {Q : Int32 → pd_M → Prop} (C : pd_C p m c cX9_car 5 s args RX9 meth (Option.some FieldType.int)) (hA : A = va_A (pd_WL g M0 ++ X) sz) {K : pd_M → Prop} {f2 : Int32}  (hK : ∀  (M : pd_M) (H : Heap) (locs : List Loc) (ls : Array Slot), pd_W D g t M X A s H locs → lv_has ls 5 [(0, .ref (g.1 82)), (2, .int f2)] → K  M → W p l e rX9_car s m args below meth c H locs 0 0 (MQ below (pd_Qi D g M0 X sz Q) args s 0 0 (va_A (pd_WL g M0 ++ X) sz)) (F0 m 104 ls [])) :
    ∀ (n : Nat) (v3 : Int32) (M : pd_M) (H : Heap) (locs : List Loc) (ls : Array Slot), pd_W D g t M X A s H locs → lv_has ls 5 [(0, .ref (g.1 82)), (2, .int f2), (3, .int v3)] → lpX9_car_51 K f2 n v3 M → W p l e rX9_car s m args below meth c H locs 0 0 (MQ below (pd_Qi D g M0 X sz Q) args s 0 0 (va_A (pd_WL g M0 ++ X) sz)) (F0 m 51 ls []) := by
  have hx := C.1.1
  have hb := C.1.2.1
  have hown := C.1.2.2.2.1
  have hts := C.1.2.2.2.2
  intro n
  induction n with
  | zero => intro v3 M H locs ls hW hl h; exact h.elim
  | succ n ih =>
    intro v3 M H locs ls hW hl h
    refine lv_iload_n hx hb dX9_car_51 rfl (lv_at hl 2 rfl) ?_
    refine lv_iconst (v := 4) hx hb dX9_car_52 (by decide) ?_
    refine lv_icmp_ge (tgt := 104) hx hb dX9_car_53 (by decide) (fun c_12 => ?_) (fun c_12 => ?_)
    · have h := h.1 c_12
      exact hK M _ _ _ hW (lv_sub hl [0, 1] rfl) h
    · have h := h.2 c_12
      refine lv_aload_n hx hb dX9_car_56 rfl (lv_at hl 0 rfl) ?_
      refine gf_X9_32 C hW dX9_car_57 ?_
      refine lv_iconst (v := 4) hx hb dX9_car_60 (by decide) ?_
      refine lv_iload_n hx hb dX9_car_61 rfl (lv_at hl 1 rfl) ?_
      refine lv_imul hx hb dX9_car_62 ?_
      refine lv_iload_n hx hb dX9_car_63 rfl (lv_at hl 2 rfl) ?_
      refine lv_iadd hx hb dX9_car_64 ?_
      refine lv_iconst (v := 0) hx hb dX9_car_65 (by decide) ?_
      have hi_13 := h.1
      have h := h.2
      refine pd_iast C hW kd_90 hi_13 dX9_car_66 (fun M_14 H locs eM_14 hW => ?_)
      have h := h M_14 eM_14
      refine lv_iconst (v := 0) hx hb dX9_car_67 (by decide) ?_
      refine lv_istore (lv' := [(4, .int 0), (0, .ref (g.1 82)), (2, .int f2), (3, .int v3)]) hx hb dX9_car_68 hl (by decide) rfl (fun ls hl => ?_)
      obtain ⟨k_70, h⟩ := h
      refine stX9_car_70 C hA (fun M_19 H locs ls hW hl h => ?_) k_70 0 M_14 _ _ _ hW (lv_sub hl [1, 2, 3, 0] rfl) h
      obtain ⟨x3_20, ex3_20⟩ : ∃ y : Int32, y = v3 + 1 := ⟨_, rfl⟩
      have h := h x3_20 ex3_20
      refine lv_iinc (v := x3_20) (lv' := [(3, .int x3_20), (0, .ref (g.1 82)), (2, .int f2)]) hx hb dX9_car_98 hl (k := 2) rfl (by rw [ex3_20]; rfl) (by decide) rfl (fun ls hl => ?_)
      refine lv_goto (tgt := 51) hx hb dX9_car_101 (by decide) ?_
      exact ih x3_20 M_19 _ _ _ hW (lv_sub hl [1, 2, 0] rfl) h

def wX9_car (Q : Int32 → pd_M → Prop) (a1 : Int32) (M : pd_M) : Prop := wX9_isStreet (fun r_2 M_1 => ((¬ r_2 = 0 → ((¬ (M_1.1 82 6) = 7 → ∀ x2_5 : Int32, x2_5 = (M_1.1 82 6) → (vp_in x2_5 7 ∧ ∀ M_7 : pd_M, M_7 = sI M_1 88 x2_5.toNatClampNeg a1 → (vp_in x2_5 7 ∧ ∀ M_9 : pd_M, M_9 = sI M_7 91 x2_5.toNatClampNeg 99 → (vp_in x2_5 7 ∧ ∀ M_11 : pd_M, M_11 = sI M_9 92 x2_5.toNatClampNeg x2_5 → (∃ k_51 : Nat, lpX9_car_51 (fun M_21 => ∀ M_22 : pd_M, M_22 = sI M_21 82 6 ((M_21.1 82 6) + 1) → Q x2_5 M_22) x2_5 k_51 0 M_11))))) ∧ ((M_1.1 82 6) = 7 → Q (-2) M_1))) ∧ (r_2 = 0 → Q (-1) M_1))) a1 M

set_option maxRecDepth 100000 in
set_option maxHeartbeats 4000000 in
theorem mX9_car {l : Launch} {D : va_G} {g : pd_G} {t : Nat} {X : va_W} {Q : Int32 → pd_M → Prop} {a1 : Int32} {M : pd_M} {sz : Nat} (h : wX9_car Q a1 M) : Met l yX9_car (Cond.code yX9_car cX9_car 5 (Option.some FieldType.int) :: TB) rX9_car (pd_Pre D g t M X sz [.ref (g.1 82), .int a1]) (pd_Qi D g M X sz Q) 0 0 (va_A (pd_WL g M ++ X) sz) := by
  refine pd_met (by decide) (Nat.le_of_ble_eq_true rfl) ?_
  intro p e s m below meth c A ls C hA hW hl
  have C : pd_C p m c cX9_car 5 s _ RX9 meth (Option.some FieldType.int) := C
  have hx := C.1.1
  have hb := C.1.2.1
  have hown := C.1.2.2.2.1
  have hts := C.1.2.2.2.2
  have hl : lv_has ls 5 [(0, .ref (g.1 82)), (1, .int a1)] := hl
  refine lv_aload_n hx hb dX9_car_0 rfl (lv_at hl 0 rfl) ?_
  refine lv_iload_n hx hb dX9_car_1 rfl (lv_at hl 1 rfl) ?_
  refine cl_X9_101 C hW h ⟨by decide, by decide⟩ ⟨Nat.zero_le _, Nat.zero_le _⟩ hl.1 (Nat.le_of_ble_eq_true rfl) dX9_car_2 (fun r_2 M_1 H locs h hW => ?_)
  refine lv_if_ne (tgt := 10) hx hb dX9_car_5 (by decide) (fun c_3 => ?_) (fun c_3 => ?_)
  · have h := h.1 c_3
    refine lv_aload_n hx hb dX9_car_10 rfl (lv_at hl 0 rfl) ?_
    refine gf_X9_94 C hW dX9_car_11 ?_
    refine lv_bipush (v := 7) hx hb dX9_car_14 (by decide) ?_
    refine lv_icmp_ne (tgt := 22) hx hb dX9_car_16 (by decide) (fun c_4 => ?_) (fun c_4 => ?_)
    · have h := h.1 c_4
      refine lv_aload_n hx hb dX9_car_22 rfl (lv_at hl 0 rfl) ?_
      refine gf_X9_94 C hW dX9_car_23 ?_
      refine lv_topi (fun x2_5 ex2_5 => ?_)
      have h := h x2_5 ex2_5
      refine lv_istore_n (lv' := [(2, .int x2_5), (0, .ref (g.1 82)), (1, .int a1)]) hx hb dX9_car_26 rfl hl (by decide) rfl (fun ls hl => ?_)
      refine lv_aload_n hx hb dX9_car_27 rfl (lv_at hl 1 rfl) ?_
      refine gf_X9_25 C hW dX9_car_28 ?_
      refine lv_iload_n hx hb dX9_car_31 rfl (lv_at hl 0 rfl) ?_
      refine lv_iload_n hx hb dX9_car_32 rfl (lv_at hl 2 rfl) ?_
      have hi_6 := h.1
      have h := h.2
      refine pd_iast C hW kd_88 hi_6 dX9_car_33 (fun M_7 H locs eM_7 hW => ?_)
      have h := h M_7 eM_7
      refine lv_aload_n hx hb dX9_car_34 rfl (lv_at hl 1 rfl) ?_
      refine gf_X9_35 C hW dX9_car_35 ?_
      refine lv_iload_n hx hb dX9_car_38 rfl (lv_at hl 0 rfl) ?_
      refine lv_bipush (v := 99) hx hb dX9_car_39 (by decide) ?_
      have hi_8 := h.1
      have h := h.2
      refine pd_iast C hW kd_91 hi_8 dX9_car_41 (fun M_9 H locs eM_9 hW => ?_)
      have h := h M_9 eM_9
      refine lv_aload_n hx hb dX9_car_42 rfl (lv_at hl 1 rfl) ?_
      refine gf_X9_38 C hW dX9_car_43 ?_
      refine lv_iload_n hx hb dX9_car_46 rfl (lv_at hl 0 rfl) ?_
      refine lv_iload_n hx hb dX9_car_47 rfl (lv_at hl 0 rfl) ?_
      have hi_10 := h.1
      have h := h.2
      refine pd_iast C hW kd_92 hi_10 dX9_car_48 (fun M_11 H locs eM_11 hW => ?_)
      have h := h M_11 eM_11
      refine lv_iconst (v := 0) hx hb dX9_car_49 (by decide) ?_
      refine lv_istore_n (lv' := [(3, .int 0), (2, .int x2_5), (0, .ref (g.1 82)), (1, .int a1)]) hx hb dX9_car_50 rfl hl (by decide) rfl (fun ls hl => ?_)
      obtain ⟨k_51, h⟩ := h
      refine stX9_car_51 C hA (fun M_21 H locs ls hW hl h => ?_) k_51 0 M_11 _ _ _ hW (lv_sub hl [2, 1, 0] rfl) h
      refine lv_aload_n hx hb dX9_car_104 rfl (lv_at hl 0 rfl) ?_
      refine lv_dup hx hb dX9_car_105 rfl ?_
      refine gf_X9_94 C hW dX9_car_106 ?_
      refine lv_iconst (v := 1) hx hb dX9_car_109 (by decide) ?_
      refine lv_iadd hx hb dX9_car_110 ?_
      refine pf_X9_94 C hW dX9_car_111 (fun M_22 H locs eM_22 hW => ?_)
      have h := h M_22 eM_22
      refine lv_iload_n hx hb dX9_car_114 rfl (lv_at hl 1 rfl) ?_
      exact pd_iret C hA hW h dX9_car_115
    · have h := h.2 c_4
      refine lv_bipush (v := (-2)) hx hb dX9_car_19 (by decide) ?_
      exact pd_iret C hA hW h dX9_car_21
  · have h := h.2 c_3
    refine lv_iconst (v := (-1)) hx hb dX9_car_8 (by decide) ?_
    exact pd_iret C hA hW h dX9_car_9

theorem dd_X9_car : yX9_car.cls ≠ "java/lang/invoke/MethodHandle" ∧ yX9_car.cls ≠ "java/lang/invoke/VarHandle" ∧ (parseMethodDescriptor yX9_car.desc).map (fun d => d.parameters.length) = some 1 := by decide +kernel
theorem cl_L_44 {p : Program} {l : Launch} {e : Env} {R : Room} {s : State} {m : MethodId} {args : Array Value} {below : List Frame} {meth : Method} {c : Code} {H : Heap} {locs : List Loc} {cells slots : Nat} {QQ : State → Prop} {cc : ByteArray} {pc : Nat} {ls : Array Slot} {rest : List Value} {D : va_G} {g : pd_G} {t : Nat} {M : pd_M} {X : va_W} {A : Nat → Prop} {nL : Nat} {ret : Option FieldType} {Qc : Int32 → pd_M → Prop} {a1 : Int32} (C : pd_C p m c cc nL s args RL meth ret) (hW : pd_W D g t M X A s H locs) (h : wX9_car Qc a1 M) (hR : rX9_car.frames + 1 ≤ R.frames ∧ 8 + (5 + 11) + rX9_car.locals ≤ R.locals) (hcs : cells ≤ R.cells ∧ slots ≤ R.slots) (hls : ls.size = nL) (hw8 : (rest.map fun v => v.category).sum ≤ 8) (hdg : decode cc pc = .ok (.invokevirtual 44, 3))
    (kk : ∀ (r : Int32) (M1 : pd_M) (H1 : Heap) (locs1 : List Loc), Qc r M1 → pd_W D g t M1 X A s H1 locs1 → W p l e R s m args below meth c H1 locs1 cells slots QQ (F0 m (pc + 3) ls (.int r :: rest))) : W p l e R s m args below meth c H locs cells slots QQ (F0 m pc ls (.int a1 :: .ref (g.1 82) :: rest)) :=
  pd_callVi (As := [.int a1]) C hW (mX9_car h) kd_82 rfl mM_L_44 mO_yX9_car mV_yX9_car mI_X9 mC_yX9_car dd_X9_car ⟨rfl, rfl⟩ hR hcs hls rfl hw8 hdg kk
abbrev rX9_permit : Room := { frames := 2, cells := 0, slots := 0, locals := 43 }
def wX9_permit (Q : Int32 → pd_M → Prop) (a1 : Int32) (a2 : Int32) (a3 : Int32) (a4 : Int32) (M : pd_M) : Prop := wX9_isCar (fun r_2 M_1 => ((r_2 = 0 → Q (-1) M_1) ∧ (¬ r_2 = 0 → wX9_isSort (fun r_5 M_4 => ((r_5 = 0 → Q (-1) M_4) ∧ (¬ r_5 = 0 → wX9_isZone (fun r_8 M_7 => ((¬ r_8 = 0 → ∀ x5_10 : Int32, x5_10 = ((((4 * a1) + a3) * 3) + a2) → (vp_in x5_10 84 ∧ ∀ x6_12 : Int32, x6_12 = (M_7.1 89 x5_10.toNatClampNeg) → (vp_in x5_10 84 ∧ ∀ M_14 : pd_M, M_14 = sI M_7 89 x5_10.toNatClampNeg (vp_nar .boolean a4) → ((¬ x6_12 = a4 → Q 1 M_14) ∧ (x6_12 = a4 → Q 0 M_14))))) ∧ (r_8 = 0 → Q (-1) M_7))) a3 M_4))) a2 M_1))) a1 M

set_option maxRecDepth 100000 in
set_option maxHeartbeats 4000000 in
theorem mX9_permit {l : Launch} {D : va_G} {g : pd_G} {t : Nat} {X : va_W} {Q : Int32 → pd_M → Prop} {a1 : Int32} {a2 : Int32} {a3 : Int32} {a4 : Int32} {M : pd_M} {sz : Nat} (h : wX9_permit Q a1 a2 a3 a4 M) : Met l yX9_permit (Cond.code yX9_permit cX9_permit 7 (Option.some FieldType.int) :: TB) rX9_permit (pd_Pre D g t M X sz [.ref (g.1 82), .int a1, .int a2, .int a3, .int a4]) (pd_Qi D g M X sz Q) 0 0 (va_A (pd_WL g M ++ X) sz) := by
  refine pd_met (by decide) (Nat.le_of_ble_eq_true rfl) ?_
  intro p e s m below meth c A ls C hA hW hl
  have C : pd_C p m c cX9_permit 7 s _ RX9 meth (Option.some FieldType.int) := C
  have hx := C.1.1
  have hb := C.1.2.1
  have hown := C.1.2.2.2.1
  have hts := C.1.2.2.2.2
  have hl : lv_has ls 7 [(0, .ref (g.1 82)), (1, .int a1), (2, .int a2), (3, .int a3), (4, .int a4)] := hl
  refine lv_aload_n hx hb dX9_permit_0 rfl (lv_at hl 0 rfl) ?_
  refine lv_iload_n hx hb dX9_permit_1 rfl (lv_at hl 1 rfl) ?_
  refine cl_X9_117 C hW h ⟨by decide, by decide⟩ ⟨Nat.zero_le _, Nat.zero_le _⟩ hl.1 (Nat.le_of_ble_eq_true rfl) dX9_permit_2 (fun r_2 M_1 H locs h hW => ?_)
  refine lv_if_eq (tgt := 22) hx hb dX9_permit_5 (by decide) (fun c_3 => ?_) (fun c_3 => ?_)
  · have h := h.1 c_3
    refine lv_iconst (v := (-1)) hx hb dX9_permit_22 (by decide) ?_
    exact pd_iret C hA hW h dX9_permit_23
  · have h := h.2 c_3
    refine lv_iload_n hx hb dX9_permit_8 rfl (lv_at hl 2 rfl) ?_
    refine cl_X9_114 C hW h ⟨by decide, by decide⟩ ⟨Nat.zero_le _, Nat.zero_le _⟩ hl.1 (Nat.le_of_ble_eq_true rfl) dX9_permit_9 (fun r_5 M_4 H locs h hW => ?_)
    refine lv_if_eq (tgt := 22) hx hb dX9_permit_12 (by decide) (fun c_6 => ?_) (fun c_6 => ?_)
    · have h := h.1 c_6
      refine lv_iconst (v := (-1)) hx hb dX9_permit_22 (by decide) ?_
      exact pd_iret C hA hW h dX9_permit_23
    · have h := h.2 c_6
      refine lv_iload_n hx hb dX9_permit_15 rfl (lv_at hl 3 rfl) ?_
      refine cl_X9_97 C hW h ⟨by decide, by decide⟩ ⟨Nat.zero_le _, Nat.zero_le _⟩ hl.1 (Nat.le_of_ble_eq_true rfl) dX9_permit_16 (fun r_8 M_7 H locs h hW => ?_)
      refine lv_if_ne (tgt := 24) hx hb dX9_permit_19 (by decide) (fun c_9 => ?_) (fun c_9 => ?_)
      · have h := h.1 c_9
        refine lv_iconst (v := 4) hx hb dX9_permit_24 (by decide) ?_
        refine lv_iload_n hx hb dX9_permit_25 rfl (lv_at hl 1 rfl) ?_
        refine lv_imul hx hb dX9_permit_26 ?_
        refine lv_iload_n hx hb dX9_permit_27 rfl (lv_at hl 3 rfl) ?_
        refine lv_iadd hx hb dX9_permit_28 ?_
        refine lv_iconst (v := 3) hx hb dX9_permit_29 (by decide) ?_
        refine lv_imul hx hb dX9_permit_30 ?_
        refine lv_iload_n hx hb dX9_permit_31 rfl (lv_at hl 2 rfl) ?_
        refine lv_iadd hx hb dX9_permit_32 ?_
        refine lv_topi (fun x5_10 ex5_10 => ?_)
        have h := h x5_10 ex5_10
        refine lv_istore (lv' := [(5, .int x5_10), (0, .ref (g.1 82)), (1, .int a1), (2, .int a2), (3, .int a3), (4, .int a4)]) hx hb dX9_permit_33 hl (by decide) rfl (fun ls hl => ?_)
        refine lv_aload_n hx hb dX9_permit_35 rfl (lv_at hl 1 rfl) ?_
        refine gf_X9_28 C hW dX9_permit_36 ?_
        refine lv_iload hx hb dX9_permit_39 (lv_at hl 0 rfl) ?_
        have hi_11 := h.1
        have h := h.2
        refine pd_zald C hW kd_89 hi_11 dX9_permit_41 ?_
        refine lv_topi (fun x6_12 ex6_12 => ?_)
        have h := h x6_12 ex6_12
        refine lv_istore (lv' := [(6, .int x6_12), (5, .int x5_10), (0, .ref (g.1 82)), (1, .int a1), (2, .int a2), (3, .int a3), (4, .int a4)]) hx hb dX9_permit_42 hl (by decide) rfl (fun ls hl => ?_)
        refine lv_aload_n hx hb dX9_permit_44 rfl (lv_at hl 2 rfl) ?_
        refine gf_X9_28 C hW dX9_permit_45 ?_
        refine lv_iload hx hb dX9_permit_48 (lv_at hl 1 rfl) ?_
        refine lv_iload hx hb dX9_permit_50 (lv_at hl 6 rfl) ?_
        have hi_13 := h.1
        have h := h.2
        refine pd_zast C hW kd_89 hi_13 dX9_permit_52 (fun M_14 H locs eM_14 hW => ?_)
        have h := h M_14 eM_14
        refine lv_iload hx hb dX9_permit_53 (lv_at hl 0 rfl) ?_
        refine lv_iload hx hb dX9_permit_55 (lv_at hl 6 rfl) ?_
        refine lv_icmp_ne (tgt := 64) hx hb dX9_permit_57 (by decide) (fun c_15 => ?_) (fun c_15 => ?_)
        · have h := h.1 c_15
          refine lv_iconst (v := 1) hx hb dX9_permit_64 (by decide) ?_
          exact pd_iret C hA hW h dX9_permit_65
        · have h := h.2 c_15
          refine lv_iconst (v := 0) hx hb dX9_permit_60 (by decide) ?_
          refine lv_goto (tgt := 65) hx hb dX9_permit_61 (by decide) ?_
          exact pd_iret C hA hW h dX9_permit_65
      · have h := h.2 c_9
        refine lv_iconst (v := (-1)) hx hb dX9_permit_22 (by decide) ?_
        exact pd_iret C hA hW h dX9_permit_23

theorem dd_X9_permit : yX9_permit.cls ≠ "java/lang/invoke/MethodHandle" ∧ yX9_permit.cls ≠ "java/lang/invoke/VarHandle" ∧ (parseMethodDescriptor yX9_permit.desc).map (fun d => d.parameters.length) = some 4 := by decide +kernel
theorem cl_L_49 {p : Program} {l : Launch} {e : Env} {R : Room} {s : State} {m : MethodId} {args : Array Value} {below : List Frame} {meth : Method} {c : Code} {H : Heap} {locs : List Loc} {cells slots : Nat} {QQ : State → Prop} {cc : ByteArray} {pc : Nat} {ls : Array Slot} {rest : List Value} {D : va_G} {g : pd_G} {t : Nat} {M : pd_M} {X : va_W} {A : Nat → Prop} {nL : Nat} {ret : Option FieldType} {Qc : Int32 → pd_M → Prop} {a1 : Int32} {a2 : Int32} {a3 : Int32} {a4 : Int32} (C : pd_C p m c cc nL s args RL meth ret) (hW : pd_W D g t M X A s H locs) (h : wX9_permit Qc a1 a2 a3 a4 M) (hR : rX9_permit.frames + 1 ≤ R.frames ∧ 8 + (7 + 11) + rX9_permit.locals ≤ R.locals) (hcs : cells ≤ R.cells ∧ slots ≤ R.slots) (hls : ls.size = nL) (hw8 : (rest.map fun v => v.category).sum ≤ 8) (hdg : decode cc pc = .ok (.invokevirtual 49, 3))
    (kk : ∀ (r : Int32) (M1 : pd_M) (H1 : Heap) (locs1 : List Loc), Qc r M1 → pd_W D g t M1 X A s H1 locs1 → W p l e R s m args below meth c H1 locs1 cells slots QQ (F0 m (pc + 3) ls (.int r :: rest))) : W p l e R s m args below meth c H locs cells slots QQ (F0 m pc ls (.int a4 :: .int a3 :: .int a2 :: .int a1 :: .ref (g.1 82) :: rest)) :=
  pd_callVi (As := [.int a1, .int a2, .int a3, .int a4]) C hW (mX9_permit h) kd_82 rfl mM_L_49 mO_yX9_permit mV_yX9_permit mI_X9 mC_yX9_permit dd_X9_permit ⟨rfl, rfl⟩ hR hcs hls rfl hw8 hdg kk
abbrev rX9_cards : Room := { frames := 2, cells := 0, slots := 0, locals := 43 }
def wX9_cards (Q : Int32 → pd_M → Prop) (a1 : Int32) (a2 : Int32) (a3 : Int32) (M : pd_M) : Prop := wX9_isCar (fun r_2 M_1 => ((r_2 = 0 → Q (-1) M_1) ∧ (¬ r_2 = 0 → wX9_isZone (fun r_5 M_4 => ((r_5 = 0 → Q (-1) M_4) ∧ (¬ r_5 = 0 → wX9_in (fun r_8 M_7 => ((¬ r_8 = 0 → (vp_in ((4 * a1) + a2) 28 ∧ ∀ x4_11 : Int32, x4_11 = (M_7.1 90 ((4 * a1) + a2).toNatClampNeg) → (vp_in ((4 * a1) + a2) 28 ∧ ∀ M_13 : pd_M, M_13 = sI M_7 90 ((4 * a1) + a2).toNatClampNeg a3 → Q x4_11 M_13))) ∧ (r_8 = 0 → Q (-1) M_7))) a3 0 9 M_4))) a2 M_1))) a1 M

set_option maxRecDepth 100000 in
set_option maxHeartbeats 4000000 in
theorem mX9_cards {l : Launch} {D : va_G} {g : pd_G} {t : Nat} {X : va_W} {Q : Int32 → pd_M → Prop} {a1 : Int32} {a2 : Int32} {a3 : Int32} {M : pd_M} {sz : Nat} (h : wX9_cards Q a1 a2 a3 M) : Met l yX9_cards (Cond.code yX9_cards cX9_cards 5 (Option.some FieldType.int) :: TB) rX9_cards (pd_Pre D g t M X sz [.ref (g.1 82), .int a1, .int a2, .int a3]) (pd_Qi D g M X sz Q) 0 0 (va_A (pd_WL g M ++ X) sz) := by
  refine pd_met (by decide) (Nat.le_of_ble_eq_true rfl) ?_
  intro p e s m below meth c A ls C hA hW hl
  have C : pd_C p m c cX9_cards 5 s _ RX9 meth (Option.some FieldType.int) := C
  have hx := C.1.1
  have hb := C.1.2.1
  have hown := C.1.2.2.2.1
  have hts := C.1.2.2.2.2
  have hl : lv_has ls 5 [(0, .ref (g.1 82)), (1, .int a1), (2, .int a2), (3, .int a3)] := hl
  refine lv_aload_n hx hb dX9_cards_0 rfl (lv_at hl 0 rfl) ?_
  refine lv_iload_n hx hb dX9_cards_1 rfl (lv_at hl 1 rfl) ?_
  refine cl_X9_117 C hW h ⟨by decide, by decide⟩ ⟨Nat.zero_le _, Nat.zero_le _⟩ hl.1 (Nat.le_of_ble_eq_true rfl) dX9_cards_2 (fun r_2 M_1 H locs h hW => ?_)
  refine lv_if_eq (tgt := 25) hx hb dX9_cards_5 (by decide) (fun c_3 => ?_) (fun c_3 => ?_)
  · have h := h.1 c_3
    refine lv_iconst (v := (-1)) hx hb dX9_cards_25 (by decide) ?_
    exact pd_iret C hA hW h dX9_cards_26
  · have h := h.2 c_3
    refine lv_iload_n hx hb dX9_cards_8 rfl (lv_at hl 2 rfl) ?_
    refine cl_X9_97 C hW h ⟨by decide, by decide⟩ ⟨Nat.zero_le _, Nat.zero_le _⟩ hl.1 (Nat.le_of_ble_eq_true rfl) dX9_cards_9 (fun r_5 M_4 H locs h hW => ?_)
    refine lv_if_eq (tgt := 25) hx hb dX9_cards_12 (by decide) (fun c_6 => ?_) (fun c_6 => ?_)
    · have h := h.1 c_6
      refine lv_iconst (v := (-1)) hx hb dX9_cards_25 (by decide) ?_
      exact pd_iret C hA hW h dX9_cards_26
    · have h := h.2 c_6
      refine lv_iload_n hx hb dX9_cards_15 rfl (lv_at hl 3 rfl) ?_
      refine lv_iconst (v := 0) hx hb dX9_cards_16 (by decide) ?_
      refine lv_bipush (v := 9) hx hb dX9_cards_17 (by decide) ?_
      refine cl_X9_90 C hW h ⟨by decide, by decide⟩ ⟨Nat.zero_le _, Nat.zero_le _⟩ hl.1 (Nat.le_of_ble_eq_true rfl) dX9_cards_19 (fun r_8 M_7 H locs h hW => ?_)
      refine lv_if_ne (tgt := 27) hx hb dX9_cards_22 (by decide) (fun c_9 => ?_) (fun c_9 => ?_)
      · have h := h.1 c_9
        refine lv_aload_n hx hb dX9_cards_27 rfl (lv_at hl 0 rfl) ?_
        refine gf_X9_32 C hW dX9_cards_28 ?_
        refine lv_iconst (v := 4) hx hb dX9_cards_31 (by decide) ?_
        refine lv_iload_n hx hb dX9_cards_32 rfl (lv_at hl 1 rfl) ?_
        refine lv_imul hx hb dX9_cards_33 ?_
        refine lv_iload_n hx hb dX9_cards_34 rfl (lv_at hl 2 rfl) ?_
        refine lv_iadd hx hb dX9_cards_35 ?_
        have hi_10 := h.1
        have h := h.2
        refine pd_iald C hW kd_90 hi_10 dX9_cards_36 ?_
        refine lv_topi (fun x4_11 ex4_11 => ?_)
        have h := h x4_11 ex4_11
        refine lv_istore (lv' := [(4, .int x4_11), (0, .ref (g.1 82)), (1, .int a1), (2, .int a2), (3, .int a3)]) hx hb dX9_cards_37 hl (by decide) rfl (fun ls hl => ?_)
        refine lv_aload_n hx hb dX9_cards_39 rfl (lv_at hl 1 rfl) ?_
        refine gf_X9_32 C hW dX9_cards_40 ?_
        refine lv_iconst (v := 4) hx hb dX9_cards_43 (by decide) ?_
        refine lv_iload_n hx hb dX9_cards_44 rfl (lv_at hl 2 rfl) ?_
        refine lv_imul hx hb dX9_cards_45 ?_
        refine lv_iload_n hx hb dX9_cards_46 rfl (lv_at hl 3 rfl) ?_
        refine lv_iadd hx hb dX9_cards_47 ?_
        refine lv_iload_n hx hb dX9_cards_48 rfl (lv_at hl 4 rfl) ?_
        have hi_12 := h.1
        have h := h.2
        refine pd_iast C hW kd_90 hi_12 dX9_cards_49 (fun M_13 H locs eM_13 hW => ?_)
        have h := h M_13 eM_13
        refine lv_iload hx hb dX9_cards_50 (lv_at hl 0 rfl) ?_
        exact pd_iret C hA hW h dX9_cards_52
      · have h := h.2 c_9
        refine lv_iconst (v := (-1)) hx hb dX9_cards_25 (by decide) ?_
        exact pd_iret C hA hW h dX9_cards_26

theorem dd_X9_cards : yX9_cards.cls ≠ "java/lang/invoke/MethodHandle" ∧ yX9_cards.cls ≠ "java/lang/invoke/VarHandle" ∧ (parseMethodDescriptor yX9_cards.desc).map (fun d => d.parameters.length) = some 3 := by decide +kernel
theorem cl_L_53 {p : Program} {l : Launch} {e : Env} {R : Room} {s : State} {m : MethodId} {args : Array Value} {below : List Frame} {meth : Method} {c : Code} {H : Heap} {locs : List Loc} {cells slots : Nat} {QQ : State → Prop} {cc : ByteArray} {pc : Nat} {ls : Array Slot} {rest : List Value} {D : va_G} {g : pd_G} {t : Nat} {M : pd_M} {X : va_W} {A : Nat → Prop} {nL : Nat} {ret : Option FieldType} {Qc : Int32 → pd_M → Prop} {a1 : Int32} {a2 : Int32} {a3 : Int32} (C : pd_C p m c cc nL s args RL meth ret) (hW : pd_W D g t M X A s H locs) (h : wX9_cards Qc a1 a2 a3 M) (hR : rX9_cards.frames + 1 ≤ R.frames ∧ 8 + (5 + 11) + rX9_cards.locals ≤ R.locals) (hcs : cells ≤ R.cells ∧ slots ≤ R.slots) (hls : ls.size = nL) (hw8 : (rest.map fun v => v.category).sum ≤ 8) (hdg : decode cc pc = .ok (.invokevirtual 53, 3))
    (kk : ∀ (r : Int32) (M1 : pd_M) (H1 : Heap) (locs1 : List Loc), Qc r M1 → pd_W D g t M1 X A s H1 locs1 → W p l e R s m args below meth c H1 locs1 cells slots QQ (F0 m (pc + 3) ls (.int r :: rest))) : W p l e R s m args below meth c H locs cells slots QQ (F0 m pc ls (.int a3 :: .int a2 :: .int a1 :: .ref (g.1 82) :: rest)) :=
  pd_callVi (As := [.int a1, .int a2, .int a3]) C hW (mX9_cards h) kd_82 rfl mM_L_53 mO_yX9_cards mV_yX9_cards mI_X9 mC_yX9_cards dd_X9_cards ⟨rfl, rfl⟩ hR hcs hls rfl hw8 hdg kk
abbrev rX9_limit : Room := { frames := 2, cells := 0, slots := 0, locals := 43 }
def wX9_limit (Q : Int32 → pd_M → Prop) (a1 : Int32) (a2 : Int32) (M : pd_M) : Prop := wX9_isCar (fun r_2 M_1 => ((r_2 = 0 → Q (-1) M_1) ∧ (¬ r_2 = 0 → wX9_in (fun r_5 M_4 => ((¬ r_5 = 0 → (vp_in a1 7 ∧ ∀ x3_8 : Int32, x3_8 = (M_4.1 91 a1.toNatClampNeg) → (vp_in a1 7 ∧ ∀ M_10 : pd_M, M_10 = sI M_4 91 a1.toNatClampNeg a2 → Q x3_8 M_10))) ∧ (r_5 = 0 → Q (-1) M_4))) a2 0 99 M_1))) a1 M

set_option maxRecDepth 100000 in
set_option maxHeartbeats 4000000 in
theorem mX9_limit {l : Launch} {D : va_G} {g : pd_G} {t : Nat} {X : va_W} {Q : Int32 → pd_M → Prop} {a1 : Int32} {a2 : Int32} {M : pd_M} {sz : Nat} (h : wX9_limit Q a1 a2 M) : Met l yX9_limit (Cond.code yX9_limit cX9_limit 4 (Option.some FieldType.int) :: TB) rX9_limit (pd_Pre D g t M X sz [.ref (g.1 82), .int a1, .int a2]) (pd_Qi D g M X sz Q) 0 0 (va_A (pd_WL g M ++ X) sz) := by
  refine pd_met (by decide) (Nat.le_of_ble_eq_true rfl) ?_
  intro p e s m below meth c A ls C hA hW hl
  have C : pd_C p m c cX9_limit 4 s _ RX9 meth (Option.some FieldType.int) := C
  have hx := C.1.1
  have hb := C.1.2.1
  have hown := C.1.2.2.2.1
  have hts := C.1.2.2.2.2
  have hl : lv_has ls 4 [(0, .ref (g.1 82)), (1, .int a1), (2, .int a2)] := hl
  refine lv_aload_n hx hb dX9_limit_0 rfl (lv_at hl 0 rfl) ?_
  refine lv_iload_n hx hb dX9_limit_1 rfl (lv_at hl 1 rfl) ?_
  refine cl_X9_117 C hW h ⟨by decide, by decide⟩ ⟨Nat.zero_le _, Nat.zero_le _⟩ hl.1 (Nat.le_of_ble_eq_true rfl) dX9_limit_2 (fun r_2 M_1 H locs h hW => ?_)
  refine lv_if_eq (tgt := 18) hx hb dX9_limit_5 (by decide) (fun c_3 => ?_) (fun c_3 => ?_)
  · have h := h.1 c_3
    refine lv_iconst (v := (-1)) hx hb dX9_limit_18 (by decide) ?_
    exact pd_iret C hA hW h dX9_limit_19
  · have h := h.2 c_3
    refine lv_iload_n hx hb dX9_limit_8 rfl (lv_at hl 2 rfl) ?_
    refine lv_iconst (v := 0) hx hb dX9_limit_9 (by decide) ?_
    refine lv_bipush (v := 99) hx hb dX9_limit_10 (by decide) ?_
    refine cl_X9_90 C hW h ⟨by decide, by decide⟩ ⟨Nat.zero_le _, Nat.zero_le _⟩ hl.1 (Nat.le_of_ble_eq_true rfl) dX9_limit_12 (fun r_5 M_4 H locs h hW => ?_)
    refine lv_if_ne (tgt := 20) hx hb dX9_limit_15 (by decide) (fun c_6 => ?_) (fun c_6 => ?_)
    · have h := h.1 c_6
      refine lv_aload_n hx hb dX9_limit_20 rfl (lv_at hl 0 rfl) ?_
      refine gf_X9_35 C hW dX9_limit_21 ?_
      refine lv_iload_n hx hb dX9_limit_24 rfl (lv_at hl 1 rfl) ?_
      have hi_7 := h.1
      have h := h.2
      refine pd_iald C hW kd_91 hi_7 dX9_limit_25 ?_
      refine lv_topi (fun x3_8 ex3_8 => ?_)
      have h := h x3_8 ex3_8
      refine lv_istore_n (lv' := [(3, .int x3_8), (0, .ref (g.1 82)), (1, .int a1), (2, .int a2)]) hx hb dX9_limit_26 rfl hl (by decide) rfl (fun ls hl => ?_)
      refine lv_aload_n hx hb dX9_limit_27 rfl (lv_at hl 1 rfl) ?_
      refine gf_X9_35 C hW dX9_limit_28 ?_
      refine lv_iload_n hx hb dX9_limit_31 rfl (lv_at hl 2 rfl) ?_
      refine lv_iload_n hx hb dX9_limit_32 rfl (lv_at hl 3 rfl) ?_
      have hi_9 := h.1
      have h := h.2
      refine pd_iast C hW kd_91 hi_9 dX9_limit_33 (fun M_10 H locs eM_10 hW => ?_)
      have h := h M_10 eM_10
      refine lv_iload_n hx hb dX9_limit_34 rfl (lv_at hl 0 rfl) ?_
      exact pd_iret C hA hW h dX9_limit_35
    · have h := h.2 c_6
      refine lv_iconst (v := (-1)) hx hb dX9_limit_18 (by decide) ?_
      exact pd_iret C hA hW h dX9_limit_19

theorem dd_X9_limit : yX9_limit.cls ≠ "java/lang/invoke/MethodHandle" ∧ yX9_limit.cls ≠ "java/lang/invoke/VarHandle" ∧ (parseMethodDescriptor yX9_limit.desc).map (fun d => d.parameters.length) = some 2 := by decide +kernel
theorem cl_L_57 {p : Program} {l : Launch} {e : Env} {R : Room} {s : State} {m : MethodId} {args : Array Value} {below : List Frame} {meth : Method} {c : Code} {H : Heap} {locs : List Loc} {cells slots : Nat} {QQ : State → Prop} {cc : ByteArray} {pc : Nat} {ls : Array Slot} {rest : List Value} {D : va_G} {g : pd_G} {t : Nat} {M : pd_M} {X : va_W} {A : Nat → Prop} {nL : Nat} {ret : Option FieldType} {Qc : Int32 → pd_M → Prop} {a1 : Int32} {a2 : Int32} (C : pd_C p m c cc nL s args RL meth ret) (hW : pd_W D g t M X A s H locs) (h : wX9_limit Qc a1 a2 M) (hR : rX9_limit.frames + 1 ≤ R.frames ∧ 8 + (4 + 11) + rX9_limit.locals ≤ R.locals) (hcs : cells ≤ R.cells ∧ slots ≤ R.slots) (hls : ls.size = nL) (hw8 : (rest.map fun v => v.category).sum ≤ 8) (hdg : decode cc pc = .ok (.invokevirtual 57, 3))
    (kk : ∀ (r : Int32) (M1 : pd_M) (H1 : Heap) (locs1 : List Loc), Qc r M1 → pd_W D g t M1 X A s H1 locs1 → W p l e R s m args below meth c H1 locs1 cells slots QQ (F0 m (pc + 3) ls (.int r :: rest))) : W p l e R s m args below meth c H locs cells slots QQ (F0 m pc ls (.int a2 :: .int a1 :: .ref (g.1 82) :: rest)) :=
  pd_callVi (As := [.int a1, .int a2]) C hW (mX9_limit h) kd_82 rfl mM_L_57 mO_yX9_limit mV_yX9_limit mI_X9 mC_yX9_limit dd_X9_limit ⟨rfl, rfl⟩ hR hcs hls rfl hw8 hdg kk
abbrev rX9_late : Room := { frames := 2, cells := 0, slots := 0, locals := 43 }
def lpX9_late_12 (K : Int32 → pd_M → Prop) (f1 : Int32) : Nat → Int32 → pd_M → Prop
  | 0, _, _ => False
  | n + 1, v2, M => (vp_in v2 7 ∧ (((M.1 92 v2.toNatClampNeg) = f1 → K v2 M) ∧ (¬ (M.1 92 v2.toNatClampNeg) = f1 → ∀ x2_6 : Int32, x2_6 = v2 + 1 → lpX9_late_12 K f1 n x2_6 M)))

set_option maxRecDepth 100000 in
set_option maxHeartbeats 4000000 in
theorem stX9_late_12 {p : Program} {l : Launch} {e : Env} {s : State} {m : MethodId} {args : Array Value} {below : List Frame} {meth : Method} {c : Code} {D : va_G} {g : pd_G} {t : Nat} {M0 : pd_M} {X : va_W} {A : Nat → Prop} {sz : Nat} {Q : Int32 → pd_M → Prop} (C : pd_C p m c cX9_late 4 s args RX9 meth (Option.some FieldType.int)) (hA : A = va_A (pd_WL g M0 ++ X) sz) {K : Int32 → pd_M → Prop} {f1 : Int32}  (hK : ∀ (p2 : Int32) (M : pd_M) (H : Heap) (locs : List Loc) (ls : Array Slot), pd_W D g t M X A s H locs → lv_has ls 4 [(0, .ref (g.1 82)), (1, .int f1), (2, .int p2)] → K p2 M → W p l e rX9_late s m args below meth c H locs 0 0 (MQ below (pd_Qi D g M0 X sz Q) args s 0 0 (va_A (pd_WL g M0 ++ X) sz)) (F0 m 28 ls [])) :
    ∀ (n : Nat) (v2 : Int32) (M : pd_M) (H : Heap) (locs : List Loc) (ls : Array Slot), pd_W D g t M X A s H locs → lv_has ls 4 [(0, .ref (g.1 82)), (1, .int f1), (2, .int v2)] → lpX9_late_12 K f1 n v2 M → W p l e rX9_late s m args below meth c H locs 0 0 (MQ below (pd_Qi D g M0 X sz Q) args s 0 0 (va_A (pd_WL g M0 ++ X) sz)) (F0 m 12 ls []) := by
  have hx := C.1.1
  have hb := C.1.2.1
  have hown := C.1.2.2.2.1
  have hts := C.1.2.2.2.2
  intro n
  induction n with
  | zero => intro v2 M H locs ls hW hl h; exact h.elim
  | succ n ih =>
    intro v2 M H locs ls hW hl h
    refine lv_aload_n hx hb dX9_late_12 rfl (lv_at hl 0 rfl) ?_
    refine gf_X9_38 C hW dX9_late_13 ?_
    refine lv_iload_n hx hb dX9_late_16 rfl (lv_at hl 2 rfl) ?_
    have hi_4 := h.1
    have h := h.2
    refine pd_iald C hW kd_92 hi_4 dX9_late_17 ?_
    refine lv_iload_n hx hb dX9_late_18 rfl (lv_at hl 1 rfl) ?_
    refine lv_icmp_eq (tgt := 28) hx hb dX9_late_19 (by decide) (fun c_5 => ?_) (fun c_5 => ?_)
    · have h := h.1 c_5
      exact hK v2 M _ _ _ hW (lv_sub hl [0, 1, 2] rfl) h
    · have h := h.2 c_5
      obtain ⟨x2_6, ex2_6⟩ : ∃ y : Int32, y = v2 + 1 := ⟨_, rfl⟩
      have h := h x2_6 ex2_6
      refine lv_iinc (v := x2_6) (lv' := [(2, .int x2_6), (0, .ref (g.1 82)), (1, .int f1)]) hx hb dX9_late_22 hl (k := 2) rfl (by rw [ex2_6]; rfl) (by decide) rfl (fun ls hl => ?_)
      refine lv_goto (tgt := 12) hx hb dX9_late_25 (by decide) ?_
      exact ih x2_6 M _ _ _ hW (lv_sub hl [1, 2, 0] rfl) h

def lpX9_late_30 (K : pd_M → Prop) (f1 : Int32) (f2 : Int32) : Nat → Int32 → pd_M → Prop
  | 0, _, _ => False
  | n + 1, v3, M => ((((M.1 82 6) - 1) ≤ v3 → K M) ∧ (¬ ((M.1 82 6) - 1) ≤ v3 → (vp_in (v3 + 1) 7 ∧ (vp_in v3 7 ∧ ∀ M_12 : pd_M, M_12 = sI M 92 v3.toNatClampNeg (M.1 92 (v3 + 1).toNatClampNeg) → ∀ x3_13 : Int32, x3_13 = v3 + 1 → lpX9_late_30 K f1 f2 n x3_13 M_12))))

set_option maxRecDepth 100000 in
set_option maxHeartbeats 4000000 in
theorem stX9_late_30 {p : Program} {l : Launch} {e : Env} {s : State} {m : MethodId} {args : Array Value} {below : List Frame} {meth : Method} {c : Code} {D : va_G} {g : pd_G} {t : Nat} {M0 : pd_M} {X : va_W} {A : Nat → Prop} {sz : Nat} {Q : Int32 → pd_M → Prop} (C : pd_C p m c cX9_late 4 s args RX9 meth (Option.some FieldType.int)) (hA : A = va_A (pd_WL g M0 ++ X) sz) {K : pd_M → Prop} {f1 : Int32} {f2 : Int32}  (hK : ∀  (M : pd_M) (H : Heap) (locs : List Loc) (ls : Array Slot), pd_W D g t M X A s H locs → lv_has ls 4 [(0, .ref (g.1 82)), (1, .int f1), (2, .int f2)] → K  M → W p l e rX9_late s m args below meth c H locs 0 0 (MQ below (pd_Qi D g M0 X sz Q) args s 0 0 (va_A (pd_WL g M0 ++ X) sz)) (F0 m 60 ls [])) :
    ∀ (n : Nat) (v3 : Int32) (M : pd_M) (H : Heap) (locs : List Loc) (ls : Array Slot), pd_W D g t M X A s H locs → lv_has ls 4 [(0, .ref (g.1 82)), (1, .int f1), (2, .int f2), (3, .int v3)] → lpX9_late_30 K f1 f2 n v3 M → W p l e rX9_late s m args below meth c H locs 0 0 (MQ below (pd_Qi D g M0 X sz Q) args s 0 0 (va_A (pd_WL g M0 ++ X) sz)) (F0 m 30 ls []) := by
  have hx := C.1.1
  have hb := C.1.2.1
  have hown := C.1.2.2.2.1
  have hts := C.1.2.2.2.2
  intro n
  induction n with
  | zero => intro v3 M H locs ls hW hl h; exact h.elim
  | succ n ih =>
    intro v3 M H locs ls hW hl h
    refine lv_iload_n hx hb dX9_late_30 rfl (lv_at hl 3 rfl) ?_
    refine lv_aload_n hx hb dX9_late_31 rfl (lv_at hl 0 rfl) ?_
    refine gf_X9_94 C hW dX9_late_32 ?_
    refine lv_iconst (v := 1) hx hb dX9_late_35 (by decide) ?_
    refine lv_isub hx hb dX9_late_36 ?_
    refine lv_icmp_ge (tgt := 60) hx hb dX9_late_37 (by decide) (fun c_9 => ?_) (fun c_9 => ?_)
    · have h := h.1 c_9
      exact hK M _ _ _ hW (lv_sub hl [0, 1, 2] rfl) h
    · have h := h.2 c_9
      refine lv_aload_n hx hb dX9_late_40 rfl (lv_at hl 0 rfl) ?_
      refine gf_X9_38 C hW dX9_late_41 ?_
      refine lv_iload_n hx hb dX9_late_44 rfl (lv_at hl 3 rfl) ?_
      refine lv_aload_n hx hb dX9_late_45 rfl (lv_at hl 0 rfl) ?_
      refine gf_X9_38 C hW dX9_late_46 ?_
      refine lv_iload_n hx hb dX9_late_49 rfl (lv_at hl 3 rfl) ?_
      refine lv_iconst (v := 1) hx hb dX9_late_50 (by decide) ?_
      refine lv_iadd hx hb dX9_late_51 ?_
      have hi_10 := h.1
      have h := h.2
      refine pd_iald C hW kd_92 hi_10 dX9_late_52 ?_
      have hi_11 := h.1
      have h := h.2
      refine pd_iast C hW kd_92 hi_11 dX9_late_53 (fun M_12 H locs eM_12 hW => ?_)
      have h := h M_12 eM_12
      obtain ⟨x3_13, ex3_13⟩ : ∃ y : Int32, y = v3 + 1 := ⟨_, rfl⟩
      have h := h x3_13 ex3_13
      refine lv_iinc (v := x3_13) (lv' := [(3, .int x3_13), (0, .ref (g.1 82)), (1, .int f1), (2, .int f2)]) hx hb dX9_late_54 hl (k := 3) rfl (by rw [ex3_13]; rfl) (by decide) rfl (fun ls hl => ?_)
      refine lv_goto (tgt := 30) hx hb dX9_late_57 (by decide) ?_
      exact ih x3_13 M_12 _ _ _ hW (lv_sub hl [1, 2, 3, 0] rfl) h

def wX9_late (Q : Int32 → pd_M → Prop) (a1 : Int32) (M : pd_M) : Prop := wX9_isCar (fun r_2 M_1 => ((¬ r_2 = 0 → (∃ k_12 : Nat, lpX9_late_12 (fun x2_8 M_7 => (∃ k_30 : Nat, lpX9_late_30 (fun M_14 => (vp_in ((M_14.1 82 6) - 1) 7 ∧ ∀ M_16 : pd_M, M_16 = sI M_14 92 ((M_14.1 82 6) - 1).toNatClampNeg a1 → Q (((M_16.1 82 6) - 1) - x2_8) M_16)) a1 x2_8 k_30 x2_8 M_7)) a1 k_12 0 M_1)) ∧ (r_2 = 0 → Q (-1) M_1))) a1 M

set_option maxRecDepth 100000 in
set_option maxHeartbeats 4000000 in
theorem mX9_late {l : Launch} {D : va_G} {g : pd_G} {t : Nat} {X : va_W} {Q : Int32 → pd_M → Prop} {a1 : Int32} {M : pd_M} {sz : Nat} (h : wX9_late Q a1 M) : Met l yX9_late (Cond.code yX9_late cX9_late 4 (Option.some FieldType.int) :: TB) rX9_late (pd_Pre D g t M X sz [.ref (g.1 82), .int a1]) (pd_Qi D g M X sz Q) 0 0 (va_A (pd_WL g M ++ X) sz) := by
  refine pd_met (by decide) (Nat.le_of_ble_eq_true rfl) ?_
  intro p e s m below meth c A ls C hA hW hl
  have C : pd_C p m c cX9_late 4 s _ RX9 meth (Option.some FieldType.int) := C
  have hx := C.1.1
  have hb := C.1.2.1
  have hown := C.1.2.2.2.1
  have hts := C.1.2.2.2.2
  have hl : lv_has ls 4 [(0, .ref (g.1 82)), (1, .int a1)] := hl
  refine lv_aload_n hx hb dX9_late_0 rfl (lv_at hl 0 rfl) ?_
  refine lv_iload_n hx hb dX9_late_1 rfl (lv_at hl 1 rfl) ?_
  refine cl_X9_117 C hW h ⟨by decide, by decide⟩ ⟨Nat.zero_le _, Nat.zero_le _⟩ hl.1 (Nat.le_of_ble_eq_true rfl) dX9_late_2 (fun r_2 M_1 H locs h hW => ?_)
  refine lv_if_ne (tgt := 10) hx hb dX9_late_5 (by decide) (fun c_3 => ?_) (fun c_3 => ?_)
  · have h := h.1 c_3
    refine lv_iconst (v := 0) hx hb dX9_late_10 (by decide) ?_
    refine lv_istore_n (lv' := [(2, .int 0), (0, .ref (g.1 82)), (1, .int a1)]) hx hb dX9_late_11 rfl hl (by decide) rfl (fun ls hl => ?_)
    obtain ⟨k_12, h⟩ := h
    refine stX9_late_12 C hA (fun x2_8 M_7 H locs ls hW hl h => ?_) k_12 0 M_1 _ _ _ hW (lv_sub hl [1, 2, 0] rfl) h
    refine lv_iload_n hx hb dX9_late_28 rfl (lv_at hl 2 rfl) ?_
    refine lv_istore_n (lv' := [(3, .int x2_8), (0, .ref (g.1 82)), (1, .int a1), (2, .int x2_8)]) hx hb dX9_late_29 rfl hl (by decide) rfl (fun ls hl => ?_)
    obtain ⟨k_30, h⟩ := h
    refine stX9_late_30 C hA (fun M_14 H locs ls hW hl h => ?_) k_30 x2_8 M_7 _ _ _ hW (lv_sub hl [1, 2, 3, 0] rfl) h
    refine lv_aload_n hx hb dX9_late_60 rfl (lv_at hl 0 rfl) ?_
    refine gf_X9_38 C hW dX9_late_61 ?_
    refine lv_aload_n hx hb dX9_late_64 rfl (lv_at hl 0 rfl) ?_
    refine gf_X9_94 C hW dX9_late_65 ?_
    refine lv_iconst (v := 1) hx hb dX9_late_68 (by decide) ?_
    refine lv_isub hx hb dX9_late_69 ?_
    refine lv_iload_n hx hb dX9_late_70 rfl (lv_at hl 1 rfl) ?_
    have hi_15 := h.1
    have h := h.2
    refine pd_iast C hW kd_92 hi_15 dX9_late_71 (fun M_16 H locs eM_16 hW => ?_)
    have h := h M_16 eM_16
    refine lv_aload_n hx hb dX9_late_72 rfl (lv_at hl 0 rfl) ?_
    refine gf_X9_94 C hW dX9_late_73 ?_
    refine lv_iconst (v := 1) hx hb dX9_late_76 (by decide) ?_
    refine lv_isub hx hb dX9_late_77 ?_
    refine lv_iload_n hx hb dX9_late_78 rfl (lv_at hl 2 rfl) ?_
    refine lv_isub hx hb dX9_late_79 ?_
    exact pd_iret C hA hW h dX9_late_80
  · have h := h.2 c_3
    refine lv_iconst (v := (-1)) hx hb dX9_late_8 (by decide) ?_
    exact pd_iret C hA hW h dX9_late_9

theorem dd_X9_late : yX9_late.cls ≠ "java/lang/invoke/MethodHandle" ∧ yX9_late.cls ≠ "java/lang/invoke/VarHandle" ∧ (parseMethodDescriptor yX9_late.desc).map (fun d => d.parameters.length) = some 1 := by decide +kernel
theorem cl_L_61 {p : Program} {l : Launch} {e : Env} {R : Room} {s : State} {m : MethodId} {args : Array Value} {below : List Frame} {meth : Method} {c : Code} {H : Heap} {locs : List Loc} {cells slots : Nat} {QQ : State → Prop} {cc : ByteArray} {pc : Nat} {ls : Array Slot} {rest : List Value} {D : va_G} {g : pd_G} {t : Nat} {M : pd_M} {X : va_W} {A : Nat → Prop} {nL : Nat} {ret : Option FieldType} {Qc : Int32 → pd_M → Prop} {a1 : Int32} (C : pd_C p m c cc nL s args RL meth ret) (hW : pd_W D g t M X A s H locs) (h : wX9_late Qc a1 M) (hR : rX9_late.frames + 1 ≤ R.frames ∧ 8 + (4 + 11) + rX9_late.locals ≤ R.locals) (hcs : cells ≤ R.cells ∧ slots ≤ R.slots) (hls : ls.size = nL) (hw8 : (rest.map fun v => v.category).sum ≤ 8) (hdg : decode cc pc = .ok (.invokevirtual 61, 3))
    (kk : ∀ (r : Int32) (M1 : pd_M) (H1 : Heap) (locs1 : List Loc), Qc r M1 → pd_W D g t M1 X A s H1 locs1 → W p l e R s m args below meth c H1 locs1 cells slots QQ (F0 m (pc + 3) ls (.int r :: rest))) : W p l e R s m args below meth c H locs cells slots QQ (F0 m pc ls (.int a1 :: .ref (g.1 82) :: rest)) :=
  pd_callVi (As := [.int a1]) C hW (mX9_late h) kd_82 rfl mM_L_61 mO_yX9_late mV_yX9_late mI_X9 mC_yX9_late dd_X9_late ⟨rfl, rfl⟩ hR hcs hls rfl hw8 hdg kk
abbrev rX9_mayIn : Room := { frames := 1, cells := 0, slots := 0, locals := 22 }
def lpX9_mayIn_29 (K : Int32 → pd_M → Prop) (f1 : Int32) (f2 : Int32) (f3 : Int32) : Nat → Int32 → Int32 → pd_M → Prop
  | 0, _, _, _ => False
  | n + 1, v4, v5, M => ((3 ≤ v5 → K v4 M) ∧ (¬ 3 ≤ v5 → ∀ x6_7 : Int32, x6_7 = ((3 * f2) + v5) → ((¬ v4 = 0 → ∀ x5_9 : Int32, x5_9 = v5 + 1 → lpX9_mayIn_29 K f1 f2 f3 n 1 x5_9 M) ∧ (v4 = 0 → (vp_in ((((4 * f1) + f2) * 3) + v5) 84 ∧ (((M.1 89 ((((4 * f1) + f2) * 3) + v5).toNatClampNeg) = 0 → ∀ x5_12 : Int32, x5_12 = v5 + 1 → lpX9_mayIn_29 K f1 f2 f3 n 0 x5_12 M) ∧ (¬ (M.1 89 ((((4 * f1) + f2) * 3) + v5).toNatClampNeg) = 0 → (vp_in x6_7 12 ∧ (vp_in x6_7 12 ∧ wX9_isWithin (fun r_16 M_15 => ((r_16 = 0 → ∀ x5_18 : Int32, x5_18 = v5 + 1 → lpX9_mayIn_29 K f1 f2 f3 n 0 x5_18 M_15) ∧ (¬ r_16 = 0 → ∀ x5_19 : Int32, x5_19 = v5 + 1 → lpX9_mayIn_29 K f1 f2 f3 n 1 x5_19 M_15))) f3 (M.1 95 x6_7.toNatClampNeg) (M.1 96 x6_7.toNatClampNeg) M)))))))))

set_option maxRecDepth 100000 in
set_option maxHeartbeats 4000000 in
theorem stX9_mayIn_29 {p : Program} {l : Launch} {e : Env} {s : State} {m : MethodId} {args : Array Value} {below : List Frame} {meth : Method} {c : Code} {D : va_G} {g : pd_G} {t : Nat} {M0 : pd_M} {X : va_W} {A : Nat → Prop} {sz : Nat} {Q : Int32 → pd_M → Prop} (C : pd_C p m c cX9_mayIn 7 s args RX9 meth (Option.some FieldType.int)) (hA : A = va_A (pd_WL g M0 ++ X) sz) {K : Int32 → pd_M → Prop} {f1 : Int32} {f2 : Int32} {f3 : Int32}  (hK : ∀ (p4 : Int32) (M : pd_M) (H : Heap) (locs : List Loc) (ls : Array Slot), pd_W D g t M X A s H locs → lv_has ls 7 [(0, .ref (g.1 82)), (1, .int f1), (2, .int f2), (4, .int p4)] → K p4 M → W p l e rX9_mayIn s m args below meth c H locs 0 0 (MQ below (pd_Qi D g M0 X sz Q) args s 0 0 (va_A (pd_WL g M0 ++ X) sz)) (F0 m 100 ls [])) :
    ∀ (n : Nat) (v4 : Int32) (v5 : Int32) (M : pd_M) (H : Heap) (locs : List Loc) (ls : Array Slot), pd_W D g t M X A s H locs → lv_has ls 7 [(0, .ref (g.1 82)), (1, .int f1), (2, .int f2), (3, .int f3), (4, .int v4), (5, .int v5)] → lpX9_mayIn_29 K f1 f2 f3 n v4 v5 M → W p l e rX9_mayIn s m args below meth c H locs 0 0 (MQ below (pd_Qi D g M0 X sz Q) args s 0 0 (va_A (pd_WL g M0 ++ X) sz)) (F0 m 29 ls []) := by
  have hx := C.1.1
  have hb := C.1.2.1
  have hown := C.1.2.2.2.1
  have hts := C.1.2.2.2.2
  intro n
  induction n with
  | zero => intro v4 v5 M H locs ls hW hl h; exact h.elim
  | succ n ih =>
    intro v4 v5 M H locs ls hW hl h
    refine lv_iload hx hb dX9_mayIn_29 (lv_at hl 5 rfl) ?_
    refine lv_iconst (v := 3) hx hb dX9_mayIn_31 (by decide) ?_
    refine lv_icmp_ge (tgt := 100) hx hb dX9_mayIn_32 (by decide) (fun c_6 => ?_) (fun c_6 => ?_)
    · have h := h.1 c_6
      exact hK v4 M _ _ _ hW (lv_sub hl [0, 1, 2, 4] rfl) h
    · have h := h.2 c_6
      refine lv_iconst (v := 3) hx hb dX9_mayIn_35 (by decide) ?_
      refine lv_iload_n hx hb dX9_mayIn_36 rfl (lv_at hl 2 rfl) ?_
      refine lv_imul hx hb dX9_mayIn_37 ?_
      refine lv_iload hx hb dX9_mayIn_38 (lv_at hl 5 rfl) ?_
      refine lv_iadd hx hb dX9_mayIn_40 ?_
      refine lv_topi (fun x6_7 ex6_7 => ?_)
      have h := h x6_7 ex6_7
      refine lv_istore (lv' := [(6, .int x6_7), (0, .ref (g.1 82)), (1, .int f1), (2, .int f2), (3, .int f3), (4, .int v4), (5, .int v5)]) hx hb dX9_mayIn_41 hl (by decide) rfl (fun ls hl => ?_)
      refine lv_iload hx hb dX9_mayIn_43 (lv_at hl 5 rfl) ?_
      refine lv_if_ne (tgt := 87) hx hb dX9_mayIn_45 (by decide) (fun c_8 => ?_) (fun c_8 => ?_)
      · have h := h.1 c_8
        refine lv_iconst (v := 1) hx hb dX9_mayIn_87 (by decide) ?_
        refine lv_goto (tgt := 92) hx hb dX9_mayIn_88 (by decide) ?_
        refine lv_istore (lv' := [(4, .int 1), (6, .int x6_7), (0, .ref (g.1 82)), (1, .int f1), (2, .int f2), (3, .int f3), (5, .int v5)]) hx hb dX9_mayIn_92 hl (by decide) rfl (fun ls hl => ?_)
        obtain ⟨x5_9, ex5_9⟩ : ∃ y : Int32, y = v5 + 1 := ⟨_, rfl⟩
        have h := h x5_9 ex5_9
        refine lv_iinc (v := x5_9) (lv' := [(5, .int x5_9), (4, .int 1), (6, .int x6_7), (0, .ref (g.1 82)), (1, .int f1), (2, .int f2), (3, .int f3)]) hx hb dX9_mayIn_94 hl (k := 6) rfl (by rw [ex5_9]; rfl) (by decide) rfl (fun ls hl => ?_)
        refine lv_goto (tgt := 29) hx hb dX9_mayIn_97 (by decide) ?_
        exact ih 1 x5_9 M _ _ _ hW (lv_sub hl [3, 4, 5, 6, 1, 0] rfl) h
      · have h := h.2 c_8
        refine lv_aload_n hx hb dX9_mayIn_48 rfl (lv_at hl 1 rfl) ?_
        refine gf_X9_28 C hW dX9_mayIn_49 ?_
        refine lv_iconst (v := 4) hx hb dX9_mayIn_52 (by decide) ?_
        refine lv_iload_n hx hb dX9_mayIn_53 rfl (lv_at hl 2 rfl) ?_
        refine lv_imul hx hb dX9_mayIn_54 ?_
        refine lv_iload_n hx hb dX9_mayIn_55 rfl (lv_at hl 3 rfl) ?_
        refine lv_iadd hx hb dX9_mayIn_56 ?_
        refine lv_iconst (v := 3) hx hb dX9_mayIn_57 (by decide) ?_
        refine lv_imul hx hb dX9_mayIn_58 ?_
        refine lv_iload hx hb dX9_mayIn_59 (lv_at hl 6 rfl) ?_
        refine lv_iadd hx hb dX9_mayIn_61 ?_
        have hi_10 := h.1
        have h := h.2
        refine pd_zald C hW kd_89 hi_10 dX9_mayIn_62 ?_
        refine lv_if_eq (tgt := 91) hx hb dX9_mayIn_63 (by decide) (fun c_11 => ?_) (fun c_11 => ?_)
        · have h := h.1 c_11
          refine lv_iconst (v := 0) hx hb dX9_mayIn_91 (by decide) ?_
          refine lv_istore (lv' := [(4, .int 0), (6, .int x6_7), (0, .ref (g.1 82)), (1, .int f1), (2, .int f2), (3, .int f3), (5, .int v5)]) hx hb dX9_mayIn_92 hl (by decide) rfl (fun ls hl => ?_)
          obtain ⟨x5_12, ex5_12⟩ : ∃ y : Int32, y = v5 + 1 := ⟨_, rfl⟩
          have h := h x5_12 ex5_12
          refine lv_iinc (v := x5_12) (lv' := [(5, .int x5_12), (4, .int 0), (6, .int x6_7), (0, .ref (g.1 82)), (1, .int f1), (2, .int f2), (3, .int f3)]) hx hb dX9_mayIn_94 hl (k := 6) rfl (by rw [ex5_12]; rfl) (by decide) rfl (fun ls hl => ?_)
          refine lv_goto (tgt := 29) hx hb dX9_mayIn_97 (by decide) ?_
          exact ih 0 x5_12 M _ _ _ hW (lv_sub hl [3, 4, 5, 6, 1, 0] rfl) h
        · have h := h.2 c_11
          refine lv_iload_n hx hb dX9_mayIn_66 rfl (lv_at hl 4 rfl) ?_
          refine lv_aload_n hx hb dX9_mayIn_67 rfl (lv_at hl 1 rfl) ?_
          refine gf_X9_47 C hW dX9_mayIn_68 ?_
          refine lv_iload hx hb dX9_mayIn_71 (lv_at hl 0 rfl) ?_
          have hi_13 := h.1
          have h := h.2
          refine pd_iald C hW kd_95 hi_13 dX9_mayIn_73 ?_
          refine lv_aload_n hx hb dX9_mayIn_74 rfl (lv_at hl 1 rfl) ?_
          refine gf_X9_50 C hW dX9_mayIn_75 ?_
          refine lv_iload hx hb dX9_mayIn_78 (lv_at hl 0 rfl) ?_
          have hi_14 := h.1
          have h := h.2
          refine pd_iald C hW kd_96 hi_14 dX9_mayIn_80 ?_
          refine cl_X9_120 C hW h ⟨by decide, by decide⟩ ⟨Nat.zero_le _, Nat.zero_le _⟩ hl.1 (Nat.le_of_ble_eq_true rfl) dX9_mayIn_81 (fun r_16 M_15 H locs h hW => ?_)
          refine lv_if_eq (tgt := 91) hx hb dX9_mayIn_84 (by decide) (fun c_17 => ?_) (fun c_17 => ?_)
          · have h := h.1 c_17
            refine lv_iconst (v := 0) hx hb dX9_mayIn_91 (by decide) ?_
            refine lv_istore (lv' := [(4, .int 0), (6, .int x6_7), (0, .ref (g.1 82)), (1, .int f1), (2, .int f2), (3, .int f3), (5, .int v5)]) hx hb dX9_mayIn_92 hl (by decide) rfl (fun ls hl => ?_)
            obtain ⟨x5_18, ex5_18⟩ : ∃ y : Int32, y = v5 + 1 := ⟨_, rfl⟩
            have h := h x5_18 ex5_18
            refine lv_iinc (v := x5_18) (lv' := [(5, .int x5_18), (4, .int 0), (6, .int x6_7), (0, .ref (g.1 82)), (1, .int f1), (2, .int f2), (3, .int f3)]) hx hb dX9_mayIn_94 hl (k := 6) rfl (by rw [ex5_18]; rfl) (by decide) rfl (fun ls hl => ?_)
            refine lv_goto (tgt := 29) hx hb dX9_mayIn_97 (by decide) ?_
            exact ih 0 x5_18 M_15 _ _ _ hW (lv_sub hl [3, 4, 5, 6, 1, 0] rfl) h
          · have h := h.2 c_17
            refine lv_iconst (v := 1) hx hb dX9_mayIn_87 (by decide) ?_
            refine lv_goto (tgt := 92) hx hb dX9_mayIn_88 (by decide) ?_
            refine lv_istore (lv' := [(4, .int 1), (6, .int x6_7), (0, .ref (g.1 82)), (1, .int f1), (2, .int f2), (3, .int f3), (5, .int v5)]) hx hb dX9_mayIn_92 hl (by decide) rfl (fun ls hl => ?_)
            obtain ⟨x5_19, ex5_19⟩ : ∃ y : Int32, y = v5 + 1 := ⟨_, rfl⟩
            have h := h x5_19 ex5_19
            refine lv_iinc (v := x5_19) (lv' := [(5, .int x5_19), (4, .int 1), (6, .int x6_7), (0, .ref (g.1 82)), (1, .int f1), (2, .int f2), (3, .int f3)]) hx hb dX9_mayIn_94 hl (k := 6) rfl (by rw [ex5_19]; rfl) (by decide) rfl (fun ls hl => ?_)
            refine lv_goto (tgt := 29) hx hb dX9_mayIn_97 (by decide) ?_
            exact ih 1 x5_19 M_15 _ _ _ hW (lv_sub hl [3, 4, 5, 6, 1, 0] rfl) h

def wX9_mayIn (Q : Int32 → pd_M → Prop) (a1 : Int32) (a2 : Int32) (a3 : Int32) (M : pd_M) : Prop := (vp_in a2 4 ∧ (vp_in a2 4 ∧ wX9_isWithin (fun r_4 M_3 => ((¬ r_4 = 0 → (∃ k_29 : Nat, lpX9_mayIn_29 (fun x4_21 M_20 => ((x4_21 = 0 → (vp_in ((4 * a1) + a2) 28 ∧ (((M_20.1 90 ((4 * a1) + a2).toNatClampNeg) ≤ 0 → Q 0 M_20) ∧ (¬ (M_20.1 90 ((4 * a1) + a2).toNatClampNeg) ≤ 0 → Q 1 M_20)))) ∧ (¬ x4_21 = 0 → Q 2 M_20))) a1 a2 a3 k_29 0 0 M_3)) ∧ (r_4 = 0 → (∃ k_29 : Nat, lpX9_mayIn_29 (fun x4_26 M_25 => ((x4_26 = 0 → (vp_in ((4 * a1) + a2) 28 ∧ (((M_25.1 90 ((4 * a1) + a2).toNatClampNeg) ≤ 0 → Q 0 M_25) ∧ (¬ (M_25.1 90 ((4 * a1) + a2).toNatClampNeg) ≤ 0 → Q 1 M_25)))) ∧ (¬ x4_26 = 0 → Q 2 M_25))) a1 a2 a3 k_29 1 0 M_3)))) a3 (M.1 93 a2.toNatClampNeg) (M.1 94 a2.toNatClampNeg) M))

set_option maxRecDepth 100000 in
set_option maxHeartbeats 4000000 in
theorem mX9_mayIn {l : Launch} {D : va_G} {g : pd_G} {t : Nat} {X : va_W} {Q : Int32 → pd_M → Prop} {a1 : Int32} {a2 : Int32} {a3 : Int32} {M : pd_M} {sz : Nat} (h : wX9_mayIn Q a1 a2 a3 M) : Met l yX9_mayIn (Cond.code yX9_mayIn cX9_mayIn 7 (Option.some FieldType.int) :: TB) rX9_mayIn (pd_Pre D g t M X sz [.ref (g.1 82), .int a1, .int a2, .int a3]) (pd_Qi D g M X sz Q) 0 0 (va_A (pd_WL g M ++ X) sz) := by
  refine pd_met (by decide) (Nat.le_of_ble_eq_true rfl) ?_
  intro p e s m below meth c A ls C hA hW hl
  have C : pd_C p m c cX9_mayIn 7 s _ RX9 meth (Option.some FieldType.int) := C
  have hx := C.1.1
  have hb := C.1.2.1
  have hown := C.1.2.2.2.1
  have hts := C.1.2.2.2.2
  have hl : lv_has ls 7 [(0, .ref (g.1 82)), (1, .int a1), (2, .int a2), (3, .int a3)] := hl
  refine lv_iload_n hx hb dX9_mayIn_0 rfl (lv_at hl 3 rfl) ?_
  refine lv_aload_n hx hb dX9_mayIn_1 rfl (lv_at hl 0 rfl) ?_
  refine gf_X9_41 C hW dX9_mayIn_2 ?_
  refine lv_iload_n hx hb dX9_mayIn_5 rfl (lv_at hl 2 rfl) ?_
  have hi_1 := h.1
  have h := h.2
  refine pd_iald C hW kd_93 hi_1 dX9_mayIn_6 ?_
  refine lv_aload_n hx hb dX9_mayIn_7 rfl (lv_at hl 0 rfl) ?_
  refine gf_X9_44 C hW dX9_mayIn_8 ?_
  refine lv_iload_n hx hb dX9_mayIn_11 rfl (lv_at hl 2 rfl) ?_
  have hi_2 := h.1
  have h := h.2
  refine pd_iald C hW kd_94 hi_2 dX9_mayIn_12 ?_
  refine cl_X9_120 C hW h ⟨by decide, by decide⟩ ⟨Nat.zero_le _, Nat.zero_le _⟩ hl.1 (Nat.le_of_ble_eq_true rfl) dX9_mayIn_13 (fun r_4 M_3 H locs h hW => ?_)
  refine lv_if_ne (tgt := 23) hx hb dX9_mayIn_16 (by decide) (fun c_5 => ?_) (fun c_5 => ?_)
  · have h := h.1 c_5
    refine lv_iconst (v := 0) hx hb dX9_mayIn_23 (by decide) ?_
    refine lv_istore (lv' := [(4, .int 0), (0, .ref (g.1 82)), (1, .int a1), (2, .int a2), (3, .int a3)]) hx hb dX9_mayIn_24 hl (by decide) rfl (fun ls hl => ?_)
    refine lv_iconst (v := 0) hx hb dX9_mayIn_26 (by decide) ?_
    refine lv_istore (lv' := [(5, .int 0), (4, .int 0), (0, .ref (g.1 82)), (1, .int a1), (2, .int a2), (3, .int a3)]) hx hb dX9_mayIn_27 hl (by decide) rfl (fun ls hl => ?_)
    obtain ⟨k_29, h⟩ := h
    refine stX9_mayIn_29 C hA (fun x4_21 M_20 H locs ls hW hl h => ?_) k_29 0 0 M_3 _ _ _ hW (lv_sub hl [2, 3, 4, 5, 1, 0] rfl) h
    refine lv_iload hx hb dX9_mayIn_100 (lv_at hl 3 rfl) ?_
    refine lv_if_eq (tgt := 109) hx hb dX9_mayIn_102 (by decide) (fun c_22 => ?_) (fun c_22 => ?_)
    · have h := h.1 c_22
      refine lv_aload_n hx hb dX9_mayIn_109 rfl (lv_at hl 0 rfl) ?_
      refine gf_X9_32 C hW dX9_mayIn_110 ?_
      refine lv_iconst (v := 4) hx hb dX9_mayIn_113 (by decide) ?_
      refine lv_iload_n hx hb dX9_mayIn_114 rfl (lv_at hl 1 rfl) ?_
      refine lv_imul hx hb dX9_mayIn_115 ?_
      refine lv_iload_n hx hb dX9_mayIn_116 rfl (lv_at hl 2 rfl) ?_
      refine lv_iadd hx hb dX9_mayIn_117 ?_
      have hi_23 := h.1
      have h := h.2
      refine pd_iald C hW kd_90 hi_23 dX9_mayIn_118 ?_
      refine lv_if_le (tgt := 126) hx hb dX9_mayIn_119 (by decide) (fun c_24 => ?_) (fun c_24 => ?_)
      · have h := h.1 c_24
        refine lv_iconst (v := 0) hx hb dX9_mayIn_126 (by decide) ?_
        exact pd_iret C hA hW h dX9_mayIn_127
      · have h := h.2 c_24
        refine lv_iconst (v := 1) hx hb dX9_mayIn_122 (by decide) ?_
        refine lv_goto (tgt := 127) hx hb dX9_mayIn_123 (by decide) ?_
        exact pd_iret C hA hW h dX9_mayIn_127
    · have h := h.2 c_22
      refine lv_iconst (v := 2) hx hb dX9_mayIn_105 (by decide) ?_
      refine lv_goto (tgt := 127) hx hb dX9_mayIn_106 (by decide) ?_
      exact pd_iret C hA hW h dX9_mayIn_127
  · have h := h.2 c_5
    refine lv_iconst (v := 1) hx hb dX9_mayIn_19 (by decide) ?_
    refine lv_goto (tgt := 24) hx hb dX9_mayIn_20 (by decide) ?_
    refine lv_istore (lv' := [(4, .int 1), (0, .ref (g.1 82)), (1, .int a1), (2, .int a2), (3, .int a3)]) hx hb dX9_mayIn_24 hl (by decide) rfl (fun ls hl => ?_)
    refine lv_iconst (v := 0) hx hb dX9_mayIn_26 (by decide) ?_
    refine lv_istore (lv' := [(5, .int 0), (4, .int 1), (0, .ref (g.1 82)), (1, .int a1), (2, .int a2), (3, .int a3)]) hx hb dX9_mayIn_27 hl (by decide) rfl (fun ls hl => ?_)
    obtain ⟨k_29, h⟩ := h
    refine stX9_mayIn_29 C hA (fun x4_26 M_25 H locs ls hW hl h => ?_) k_29 1 0 M_3 _ _ _ hW (lv_sub hl [2, 3, 4, 5, 1, 0] rfl) h
    refine lv_iload hx hb dX9_mayIn_100 (lv_at hl 3 rfl) ?_
    refine lv_if_eq (tgt := 109) hx hb dX9_mayIn_102 (by decide) (fun c_27 => ?_) (fun c_27 => ?_)
    · have h := h.1 c_27
      refine lv_aload_n hx hb dX9_mayIn_109 rfl (lv_at hl 0 rfl) ?_
      refine gf_X9_32 C hW dX9_mayIn_110 ?_
      refine lv_iconst (v := 4) hx hb dX9_mayIn_113 (by decide) ?_
      refine lv_iload_n hx hb dX9_mayIn_114 rfl (lv_at hl 1 rfl) ?_
      refine lv_imul hx hb dX9_mayIn_115 ?_
      refine lv_iload_n hx hb dX9_mayIn_116 rfl (lv_at hl 2 rfl) ?_
      refine lv_iadd hx hb dX9_mayIn_117 ?_
      have hi_28 := h.1
      have h := h.2
      refine pd_iald C hW kd_90 hi_28 dX9_mayIn_118 ?_
      refine lv_if_le (tgt := 126) hx hb dX9_mayIn_119 (by decide) (fun c_29 => ?_) (fun c_29 => ?_)
      · have h := h.1 c_29
        refine lv_iconst (v := 0) hx hb dX9_mayIn_126 (by decide) ?_
        exact pd_iret C hA hW h dX9_mayIn_127
      · have h := h.2 c_29
        refine lv_iconst (v := 1) hx hb dX9_mayIn_122 (by decide) ?_
        refine lv_goto (tgt := 127) hx hb dX9_mayIn_123 (by decide) ?_
        exact pd_iret C hA hW h dX9_mayIn_127
    · have h := h.2 c_27
      refine lv_iconst (v := 2) hx hb dX9_mayIn_105 (by decide) ?_
      refine lv_goto (tgt := 127) hx hb dX9_mayIn_106 (by decide) ?_
      exact pd_iret C hA hW h dX9_mayIn_127

theorem dd_X9_mayIn : yX9_mayIn.cls ≠ "java/lang/invoke/MethodHandle" ∧ yX9_mayIn.cls ≠ "java/lang/invoke/VarHandle" ∧ (parseMethodDescriptor yX9_mayIn.desc).map (fun d => d.parameters.length) = some 3 := by decide +kernel
theorem cl_X9_123 {p : Program} {l : Launch} {e : Env} {R : Room} {s : State} {m : MethodId} {args : Array Value} {below : List Frame} {meth : Method} {c : Code} {H : Heap} {locs : List Loc} {cells slots : Nat} {QQ : State → Prop} {cc : ByteArray} {pc : Nat} {ls : Array Slot} {rest : List Value} {D : va_G} {g : pd_G} {t : Nat} {M : pd_M} {X : va_W} {A : Nat → Prop} {nL : Nat} {ret : Option FieldType} {Qc : Int32 → pd_M → Prop} {a1 : Int32} {a2 : Int32} {a3 : Int32} (C : pd_C p m c cc nL s args RX9 meth ret) (hW : pd_W D g t M X A s H locs) (h : wX9_mayIn Qc a1 a2 a3 M) (hR : rX9_mayIn.frames + 1 ≤ R.frames ∧ 8 + (7 + 11) + rX9_mayIn.locals ≤ R.locals) (hcs : cells ≤ R.cells ∧ slots ≤ R.slots) (hls : ls.size = nL) (hw8 : (rest.map fun v => v.category).sum ≤ 8) (hdg : decode cc pc = .ok (.invokevirtual 123, 3))
    (kk : ∀ (r : Int32) (M1 : pd_M) (H1 : Heap) (locs1 : List Loc), Qc r M1 → pd_W D g t M1 X A s H1 locs1 → W p l e R s m args below meth c H1 locs1 cells slots QQ (F0 m (pc + 3) ls (.int r :: rest))) : W p l e R s m args below meth c H locs cells slots QQ (F0 m pc ls (.int a3 :: .int a2 :: .int a1 :: .ref (g.1 82) :: rest)) :=
  pd_callVi (As := [.int a1, .int a2, .int a3]) C hW (mX9_mayIn h) kd_82 rfl mM_X9_123 mO_yX9_mayIn mV_yX9_mayIn mI_X9 mC_yX9_mayIn dd_X9_mayIn ⟨rfl, rfl⟩ hR hcs hls rfl hw8 hdg kk
abbrev rX9_may : Room := { frames := 2, cells := 0, slots := 0, locals := 48 }
def wX9_may (Q : Int32 → pd_M → Prop) (a1 : Int32) (a2 : Int32) (a3 : Int32) (M : pd_M) : Prop := wX9_isCar (fun r_2 M_1 => ((r_2 = 0 → Q (-1) M_1) ∧ (¬ r_2 = 0 → wX9_isStreet (fun r_5 M_4 => ((r_5 = 0 → Q (-1) M_4) ∧ (¬ r_5 = 0 → wX9_isHour (fun r_8 M_7 => ((r_8 = 0 → Q (-1) M_7) ∧ (¬ r_8 = 0 → (vp_in a2 5 ∧ wX9_mayIn (fun r_12 M_11 => Q r_12 M_11) a1 (M_7.1 83 a2.toNatClampNeg) a3 M_7)))) a3 M_4))) a2 M_1))) a1 M

set_option maxRecDepth 100000 in
set_option maxHeartbeats 4000000 in
theorem mX9_may {l : Launch} {D : va_G} {g : pd_G} {t : Nat} {X : va_W} {Q : Int32 → pd_M → Prop} {a1 : Int32} {a2 : Int32} {a3 : Int32} {M : pd_M} {sz : Nat} (h : wX9_may Q a1 a2 a3 M) : Met l yX9_may (Cond.code yX9_may cX9_may 4 (Option.some FieldType.int) :: TB) rX9_may (pd_Pre D g t M X sz [.ref (g.1 82), .int a1, .int a2, .int a3]) (pd_Qi D g M X sz Q) 0 0 (va_A (pd_WL g M ++ X) sz) := by
  refine pd_met (by decide) (Nat.le_of_ble_eq_true rfl) ?_
  intro p e s m below meth c A ls C hA hW hl
  have C : pd_C p m c cX9_may 4 s _ RX9 meth (Option.some FieldType.int) := C
  have hx := C.1.1
  have hb := C.1.2.1
  have hown := C.1.2.2.2.1
  have hts := C.1.2.2.2.2
  have hl : lv_has ls 4 [(0, .ref (g.1 82)), (1, .int a1), (2, .int a2), (3, .int a3)] := hl
  refine lv_aload_n hx hb dX9_may_0 rfl (lv_at hl 0 rfl) ?_
  refine lv_iload_n hx hb dX9_may_1 rfl (lv_at hl 1 rfl) ?_
  refine cl_X9_117 C hW h ⟨by decide, by decide⟩ ⟨Nat.zero_le _, Nat.zero_le _⟩ hl.1 (Nat.le_of_ble_eq_true rfl) dX9_may_2 (fun r_2 M_1 H locs h hW => ?_)
  refine lv_if_eq (tgt := 38) hx hb dX9_may_5 (by decide) (fun c_3 => ?_) (fun c_3 => ?_)
  · have h := h.1 c_3
    refine lv_iconst (v := (-1)) hx hb dX9_may_38 (by decide) ?_
    exact pd_iret C hA hW h dX9_may_39
  · have h := h.2 c_3
    refine lv_aload_n hx hb dX9_may_8 rfl (lv_at hl 0 rfl) ?_
    refine lv_iload_n hx hb dX9_may_9 rfl (lv_at hl 2 rfl) ?_
    refine cl_X9_101 C hW h ⟨by decide, by decide⟩ ⟨Nat.zero_le _, Nat.zero_le _⟩ hl.1 (Nat.le_of_ble_eq_true rfl) dX9_may_10 (fun r_5 M_4 H locs h hW => ?_)
    refine lv_if_eq (tgt := 38) hx hb dX9_may_13 (by decide) (fun c_6 => ?_) (fun c_6 => ?_)
    · have h := h.1 c_6
      refine lv_iconst (v := (-1)) hx hb dX9_may_38 (by decide) ?_
      exact pd_iret C hA hW h dX9_may_39
    · have h := h.2 c_6
      refine lv_iload_n hx hb dX9_may_16 rfl (lv_at hl 3 rfl) ?_
      refine cl_X9_107 C hW h ⟨by decide, by decide⟩ ⟨Nat.zero_le _, Nat.zero_le _⟩ hl.1 (Nat.le_of_ble_eq_true rfl) dX9_may_17 (fun r_8 M_7 H locs h hW => ?_)
      refine lv_if_eq (tgt := 38) hx hb dX9_may_20 (by decide) (fun c_9 => ?_) (fun c_9 => ?_)
      · have h := h.1 c_9
        refine lv_iconst (v := (-1)) hx hb dX9_may_38 (by decide) ?_
        exact pd_iret C hA hW h dX9_may_39
      · have h := h.2 c_9
        refine lv_aload_n hx hb dX9_may_23 rfl (lv_at hl 0 rfl) ?_
        refine lv_iload_n hx hb dX9_may_24 rfl (lv_at hl 1 rfl) ?_
        refine lv_aload_n hx hb dX9_may_25 rfl (lv_at hl 0 rfl) ?_
        refine gf_X9_7 C hW dX9_may_26 ?_
        refine lv_iload_n hx hb dX9_may_29 rfl (lv_at hl 2 rfl) ?_
        have hi_10 := h.1
        have h := h.2
        refine pd_iald C hW kd_83 hi_10 dX9_may_30 ?_
        refine lv_iload_n hx hb dX9_may_31 rfl (lv_at hl 3 rfl) ?_
        refine cl_X9_123 C hW h ⟨by decide, by decide⟩ ⟨Nat.zero_le _, Nat.zero_le _⟩ hl.1 (Nat.le_of_ble_eq_true rfl) dX9_may_32 (fun r_12 M_11 H locs h hW => ?_)
        refine lv_goto (tgt := 39) hx hb dX9_may_35 (by decide) ?_
        exact pd_iret C hA hW h dX9_may_39

theorem dd_X9_may : yX9_may.cls ≠ "java/lang/invoke/MethodHandle" ∧ yX9_may.cls ≠ "java/lang/invoke/VarHandle" ∧ (parseMethodDescriptor yX9_may.desc).map (fun d => d.parameters.length) = some 3 := by decide +kernel
theorem cl_L_65 {p : Program} {l : Launch} {e : Env} {R : Room} {s : State} {m : MethodId} {args : Array Value} {below : List Frame} {meth : Method} {c : Code} {H : Heap} {locs : List Loc} {cells slots : Nat} {QQ : State → Prop} {cc : ByteArray} {pc : Nat} {ls : Array Slot} {rest : List Value} {D : va_G} {g : pd_G} {t : Nat} {M : pd_M} {X : va_W} {A : Nat → Prop} {nL : Nat} {ret : Option FieldType} {Qc : Int32 → pd_M → Prop} {a1 : Int32} {a2 : Int32} {a3 : Int32} (C : pd_C p m c cc nL s args RL meth ret) (hW : pd_W D g t M X A s H locs) (h : wX9_may Qc a1 a2 a3 M) (hR : rX9_may.frames + 1 ≤ R.frames ∧ 8 + (4 + 11) + rX9_may.locals ≤ R.locals) (hcs : cells ≤ R.cells ∧ slots ≤ R.slots) (hls : ls.size = nL) (hw8 : (rest.map fun v => v.category).sum ≤ 8) (hdg : decode cc pc = .ok (.invokevirtual 65, 3))
    (kk : ∀ (r : Int32) (M1 : pd_M) (H1 : Heap) (locs1 : List Loc), Qc r M1 → pd_W D g t M1 X A s H1 locs1 → W p l e R s m args below meth c H1 locs1 cells slots QQ (F0 m (pc + 3) ls (.int r :: rest))) : W p l e R s m args below meth c H locs cells slots QQ (F0 m pc ls (.int a3 :: .int a2 :: .int a1 :: .ref (g.1 82) :: rest)) :=
  pd_callVi (As := [.int a1, .int a2, .int a3]) C hW (mX9_may h) kd_82 rfl mM_L_65 mO_yX9_may mV_yX9_may mI_X9 mC_yX9_may dd_X9_may ⟨rfl, rfl⟩ hR hcs hls rfl hw8 hdg kk
