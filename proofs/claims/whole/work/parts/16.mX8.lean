abbrev rX8_isUpTo : Room := { frames := 0, cells := 0, slots := 0, locals := 0 }
def wX8_isUpTo (Q : Int32 → pd_M → Prop) (a0 : Int32) (a1 : Int32) (M : pd_M) : Prop := ((a0 < 0 → Q 0 M) ∧ (¬ a0 < 0 → ((a1 < a0 → Q 0 M) ∧ (¬ a1 < a0 → Q 1 M))))

set_option maxRecDepth 100000 in
set_option maxHeartbeats 4000000 in
theorem mX8_isUpTo {l : Launch} {D : va_G} {g : pd_G} {t : Nat} {X : va_W} {Q : Int32 → pd_M → Prop} {a0 : Int32} {a1 : Int32} {M : pd_M} {sz : Nat} (h : wX8_isUpTo Q a0 a1 M) : Met l yX8_isUpTo (Cond.code yX8_isUpTo cX8_isUpTo 2 (Option.some FieldType.boolean) :: TB) rX8_isUpTo (pd_Pre D g t M X sz [.int a0, .int a1]) (pd_Qi D g M X sz Q) 0 0 (va_A (pd_WL g M ++ X) sz) := by
  refine pd_met (by decide) (Nat.le_of_ble_eq_true rfl) ?_
  intro p e s m below meth c A ls C hA hW hl
  have C : pd_C p m c cX8_isUpTo 2 s _ RX8 meth (Option.some FieldType.boolean) := C
  have hx := C.1.1
  have hb := C.1.2.1
  have hown := C.1.2.2.2.1
  have hts := C.1.2.2.2.2
  have hl : lv_has ls 2 [(0, .int a0), (1, .int a1)] := hl
  refine lv_iload_n hx hb dX8_isUpTo_0 rfl (lv_at hl 0 rfl) ?_
  refine lv_if_lt (tgt := 13) hx hb dX8_isUpTo_1 (by decide) (fun c_1 => ?_) (fun c_1 => ?_)
  · have h := h.1 c_1
    refine lv_iconst (v := 0) hx hb dX8_isUpTo_13 (by decide) ?_
    exact pd_zret C hA hW rfl h dX8_isUpTo_14
  · have h := h.2 c_1
    refine lv_iload_n hx hb dX8_isUpTo_4 rfl (lv_at hl 0 rfl) ?_
    refine lv_iload_n hx hb dX8_isUpTo_5 rfl (lv_at hl 1 rfl) ?_
    refine lv_icmp_gt (tgt := 13) hx hb dX8_isUpTo_6 (by decide) (fun c_2 => ?_) (fun c_2 => ?_)
    · have h := h.1 c_2
      refine lv_iconst (v := 0) hx hb dX8_isUpTo_13 (by decide) ?_
      exact pd_zret C hA hW rfl h dX8_isUpTo_14
    · have h := h.2 c_2
      refine lv_iconst (v := 1) hx hb dX8_isUpTo_9 (by decide) ?_
      refine lv_goto (tgt := 14) hx hb dX8_isUpTo_10 (by decide) ?_
      exact pd_zret C hA hW rfl h dX8_isUpTo_14

theorem dd_X8_isUpTo : yX8_isUpTo.cls ≠ "java/lang/invoke/MethodHandle" ∧ yX8_isUpTo.cls ≠ "java/lang/invoke/VarHandle" ∧ (parseMethodDescriptor yX8_isUpTo.desc).map (fun d => d.parameters.length) = some 2 := by decide +kernel
theorem cl_X8_61 {p : Program} {l : Launch} {e : Env} {R : Room} {s : State} {m : MethodId} {args : Array Value} {below : List Frame} {meth : Method} {c : Code} {H : Heap} {locs : List Loc} {cells slots : Nat} {QQ : State → Prop} {cc : ByteArray} {pc : Nat} {ls : Array Slot} {rest : List Value} {D : va_G} {g : pd_G} {t : Nat} {M : pd_M} {X : va_W} {A : Nat → Prop} {nL : Nat} {ret : Option FieldType} {Qc : Int32 → pd_M → Prop} {a0 : Int32} {a1 : Int32} (C : pd_C p m c cc nL s args RX8 meth ret) (hW : pd_W D g t M X A s H locs) (h : wX8_isUpTo Qc a0 a1 M) (hR : rX8_isUpTo.frames + 1 ≤ R.frames ∧ 8 + (2 + 11) + rX8_isUpTo.locals ≤ R.locals) (hcs : cells ≤ R.cells ∧ slots ≤ R.slots) (hls : ls.size = nL) (hw8 : (rest.map fun v => v.category).sum ≤ 8) (hdg : decode cc pc = .ok (.invokestatic 61, 3))
    (kk : ∀ (r : Int32) (M1 : pd_M) (H1 : Heap) (locs1 : List Loc), Qc r M1 → pd_W D g t M1 X A s H1 locs1 → W p l e R s m args below meth c H1 locs1 cells slots QQ (F0 m (pc + 3) ls (.int r :: rest))) : W p l e R s m args below meth c H locs cells slots QQ (F0 m pc ls (.int a1 :: .int a0 :: rest)) :=
  pd_callSi (As := [.int a0, .int a1]) C hW (mX8_isUpTo h) mM_X8_61 mS_yX8_isUpTo mI_X8 mC_yX8_isUpTo dd_X8_isUpTo ⟨rfl, rfl⟩ hR hcs hls rfl hw8 hdg kk
abbrev rX8_isNumbered : Room := { frames := 0, cells := 0, slots := 0, locals := 0 }
def wX8_isNumbered (Q : Int32 → pd_M → Prop) (a0 : Int32) (a1 : Int32) (M : pd_M) : Prop := ((a0 < 0 → Q 0 M) ∧ (¬ a0 < 0 → ((a1 ≤ a0 → Q 0 M) ∧ (¬ a1 ≤ a0 → Q 1 M))))

set_option maxRecDepth 100000 in
set_option maxHeartbeats 4000000 in
theorem mX8_isNumbered {l : Launch} {D : va_G} {g : pd_G} {t : Nat} {X : va_W} {Q : Int32 → pd_M → Prop} {a0 : Int32} {a1 : Int32} {M : pd_M} {sz : Nat} (h : wX8_isNumbered Q a0 a1 M) : Met l yX8_isNumbered (Cond.code yX8_isNumbered cX8_isNumbered 2 (Option.some FieldType.boolean) :: TB) rX8_isNumbered (pd_Pre D g t M X sz [.int a0, .int a1]) (pd_Qi D g M X sz Q) 0 0 (va_A (pd_WL g M ++ X) sz) := by
  refine pd_met (by decide) (Nat.le_of_ble_eq_true rfl) ?_
  intro p e s m below meth c A ls C hA hW hl
  have C : pd_C p m c cX8_isNumbered 2 s _ RX8 meth (Option.some FieldType.boolean) := C
  have hx := C.1.1
  have hb := C.1.2.1
  have hown := C.1.2.2.2.1
  have hts := C.1.2.2.2.2
  have hl : lv_has ls 2 [(0, .int a0), (1, .int a1)] := hl
  refine lv_iload_n hx hb dX8_isNumbered_0 rfl (lv_at hl 0 rfl) ?_
  refine lv_if_lt (tgt := 13) hx hb dX8_isNumbered_1 (by decide) (fun c_1 => ?_) (fun c_1 => ?_)
  · have h := h.1 c_1
    refine lv_iconst (v := 0) hx hb dX8_isNumbered_13 (by decide) ?_
    exact pd_zret C hA hW rfl h dX8_isNumbered_14
  · have h := h.2 c_1
    refine lv_iload_n hx hb dX8_isNumbered_4 rfl (lv_at hl 0 rfl) ?_
    refine lv_iload_n hx hb dX8_isNumbered_5 rfl (lv_at hl 1 rfl) ?_
    refine lv_icmp_ge (tgt := 13) hx hb dX8_isNumbered_6 (by decide) (fun c_2 => ?_) (fun c_2 => ?_)
    · have h := h.1 c_2
      refine lv_iconst (v := 0) hx hb dX8_isNumbered_13 (by decide) ?_
      exact pd_zret C hA hW rfl h dX8_isNumbered_14
    · have h := h.2 c_2
      refine lv_iconst (v := 1) hx hb dX8_isNumbered_9 (by decide) ?_
      refine lv_goto (tgt := 14) hx hb dX8_isNumbered_10 (by decide) ?_
      exact pd_zret C hA hW rfl h dX8_isNumbered_14

theorem dd_X8_isNumbered : yX8_isNumbered.cls ≠ "java/lang/invoke/MethodHandle" ∧ yX8_isNumbered.cls ≠ "java/lang/invoke/VarHandle" ∧ (parseMethodDescriptor yX8_isNumbered.desc).map (fun d => d.parameters.length) = some 2 := by decide +kernel
theorem cl_X8_164 {p : Program} {l : Launch} {e : Env} {R : Room} {s : State} {m : MethodId} {args : Array Value} {below : List Frame} {meth : Method} {c : Code} {H : Heap} {locs : List Loc} {cells slots : Nat} {QQ : State → Prop} {cc : ByteArray} {pc : Nat} {ls : Array Slot} {rest : List Value} {D : va_G} {g : pd_G} {t : Nat} {M : pd_M} {X : va_W} {A : Nat → Prop} {nL : Nat} {ret : Option FieldType} {Qc : Int32 → pd_M → Prop} {a0 : Int32} {a1 : Int32} (C : pd_C p m c cc nL s args RX8 meth ret) (hW : pd_W D g t M X A s H locs) (h : wX8_isNumbered Qc a0 a1 M) (hR : rX8_isNumbered.frames + 1 ≤ R.frames ∧ 8 + (2 + 11) + rX8_isNumbered.locals ≤ R.locals) (hcs : cells ≤ R.cells ∧ slots ≤ R.slots) (hls : ls.size = nL) (hw8 : (rest.map fun v => v.category).sum ≤ 8) (hdg : decode cc pc = .ok (.invokestatic 164, 3))
    (kk : ∀ (r : Int32) (M1 : pd_M) (H1 : Heap) (locs1 : List Loc), Qc r M1 → pd_W D g t M1 X A s H1 locs1 → W p l e R s m args below meth c H1 locs1 cells slots QQ (F0 m (pc + 3) ls (.int r :: rest))) : W p l e R s m args below meth c H locs cells slots QQ (F0 m pc ls (.int a1 :: .int a0 :: rest)) :=
  pd_callSi (As := [.int a0, .int a1]) C hW (mX8_isNumbered h) mM_X8_164 mS_yX8_isNumbered mI_X8 mC_yX8_isNumbered dd_X8_isNumbered ⟨rfl, rfl⟩ hR hcs hls rfl hw8 hdg kk
abbrev rX8_isStreet : Room := { frames := 1, cells := 0, slots := 0, locals := 21 }
def wX8_isStreet (Q : Int32 → pd_M → Prop) (a1 : Int32) (M : pd_M) : Prop := wX8_isNumbered (fun r_2 M_1 => (narrow FieldType.boolean (Value.int r_2) = Value.int r_2 ∧ Q r_2 M_1)) a1 (M.1 8 0) M

set_option maxRecDepth 100000 in
set_option maxHeartbeats 4000000 in
theorem mX8_isStreet {l : Launch} {D : va_G} {g : pd_G} {t : Nat} {X : va_W} {Q : Int32 → pd_M → Prop} {a1 : Int32} {M : pd_M} {sz : Nat} (h : wX8_isStreet Q a1 M) : Met l yX8_isStreet (Cond.code yX8_isStreet cX8_isStreet 2 (Option.some FieldType.boolean) :: TB) rX8_isStreet (pd_Pre D g t M X sz [.ref (g.1 0), .int a1]) (pd_Qi D g M X sz Q) 0 0 (va_A (pd_WL g M ++ X) sz) := by
  refine pd_met (by decide) (Nat.le_of_ble_eq_true rfl) ?_
  intro p e s m below meth c A ls C hA hW hl
  have C : pd_C p m c cX8_isStreet 2 s _ RX8 meth (Option.some FieldType.boolean) := C
  have hx := C.1.1
  have hb := C.1.2.1
  have hown := C.1.2.2.2.1
  have hts := C.1.2.2.2.2
  have hl : lv_has ls 2 [(0, .ref (g.1 0)), (1, .int a1)] := hl
  refine lv_iload_n hx hb dX8_isStreet_0 rfl (lv_at hl 1 rfl) ?_
  refine lv_aload_n hx hb dX8_isStreet_1 rfl (lv_at hl 0 rfl) ?_
  refine gf_X8_19 C hW dX8_isStreet_2 ?_
  refine gf_X8_185 C hW dX8_isStreet_5 ?_
  refine cl_X8_164 C hW h ⟨by decide, by decide⟩ ⟨Nat.zero_le _, Nat.zero_le _⟩ hl.1 (Nat.le_of_ble_eq_true rfl) dX8_isStreet_8 (fun r_2 M_1 H locs h hW => ?_)
  exact pd_zret C hA hW h.1 h.2 dX8_isStreet_11

theorem dd_X8_isStreet : yX8_isStreet.cls ≠ "java/lang/invoke/MethodHandle" ∧ yX8_isStreet.cls ≠ "java/lang/invoke/VarHandle" ∧ (parseMethodDescriptor yX8_isStreet.desc).map (fun d => d.parameters.length) = some 1 := by decide +kernel
theorem cl_X8_69 {p : Program} {l : Launch} {e : Env} {R : Room} {s : State} {m : MethodId} {args : Array Value} {below : List Frame} {meth : Method} {c : Code} {H : Heap} {locs : List Loc} {cells slots : Nat} {QQ : State → Prop} {cc : ByteArray} {pc : Nat} {ls : Array Slot} {rest : List Value} {D : va_G} {g : pd_G} {t : Nat} {M : pd_M} {X : va_W} {A : Nat → Prop} {nL : Nat} {ret : Option FieldType} {Qc : Int32 → pd_M → Prop} {a1 : Int32} (C : pd_C p m c cc nL s args RX8 meth ret) (hW : pd_W D g t M X A s H locs) (h : wX8_isStreet Qc a1 M) (hR : rX8_isStreet.frames + 1 ≤ R.frames ∧ 8 + (2 + 11) + rX8_isStreet.locals ≤ R.locals) (hcs : cells ≤ R.cells ∧ slots ≤ R.slots) (hls : ls.size = nL) (hw8 : (rest.map fun v => v.category).sum ≤ 8) (hdg : decode cc pc = .ok (.invokevirtual 69, 3))
    (kk : ∀ (r : Int32) (M1 : pd_M) (H1 : Heap) (locs1 : List Loc), Qc r M1 → pd_W D g t M1 X A s H1 locs1 → W p l e R s m args below meth c H1 locs1 cells slots QQ (F0 m (pc + 3) ls (.int r :: rest))) : W p l e R s m args below meth c H locs cells slots QQ (F0 m pc ls (.int a1 :: .ref (g.1 0) :: rest)) :=
  pd_callVi (As := [.int a1]) C hW (mX8_isStreet h) kd_0 rfl mM_X8_69 mO_yX8_isStreet mV_yX8_isStreet mI_X8 mC_yX8_isStreet dd_X8_isStreet ⟨rfl, rfl⟩ hR hcs hls rfl hw8 hdg kk
abbrev rX8_isCar : Room := { frames := 1, cells := 0, slots := 0, locals := 21 }
def wX8_isCar (Q : Int32 → pd_M → Prop) (a1 : Int32) (M : pd_M) : Prop := wX8_isNumbered (fun r_2 M_1 => (narrow FieldType.boolean (Value.int r_2) = Value.int r_2 ∧ Q r_2 M_1)) a1 (M.1 24 1) M

set_option maxRecDepth 100000 in
set_option maxHeartbeats 4000000 in
theorem mX8_isCar {l : Launch} {D : va_G} {g : pd_G} {t : Nat} {X : va_W} {Q : Int32 → pd_M → Prop} {a1 : Int32} {M : pd_M} {sz : Nat} (h : wX8_isCar Q a1 M) : Met l yX8_isCar (Cond.code yX8_isCar cX8_isCar 2 (Option.some FieldType.boolean) :: TB) rX8_isCar (pd_Pre D g t M X sz [.ref (g.1 0), .int a1]) (pd_Qi D g M X sz Q) 0 0 (va_A (pd_WL g M ++ X) sz) := by
  refine pd_met (by decide) (Nat.le_of_ble_eq_true rfl) ?_
  intro p e s m below meth c A ls C hA hW hl
  have C : pd_C p m c cX8_isCar 2 s _ RX8 meth (Option.some FieldType.boolean) := C
  have hx := C.1.1
  have hb := C.1.2.1
  have hown := C.1.2.2.2.1
  have hts := C.1.2.2.2.2
  have hl : lv_has ls 2 [(0, .ref (g.1 0)), (1, .int a1)] := hl
  refine lv_iload_n hx hb dX8_isCar_0 rfl (lv_at hl 1 rfl) ?_
  refine lv_aload_n hx hb dX8_isCar_1 rfl (lv_at hl 0 rfl) ?_
  refine gf_X8_28 C hW dX8_isCar_2 ?_
  refine gf_X8_186 C hW dX8_isCar_5 ?_
  refine cl_X8_164 C hW h ⟨by decide, by decide⟩ ⟨Nat.zero_le _, Nat.zero_le _⟩ hl.1 (Nat.le_of_ble_eq_true rfl) dX8_isCar_8 (fun r_2 M_1 H locs h hW => ?_)
  exact pd_zret C hA hW h.1 h.2 dX8_isCar_11

theorem dd_X8_isCar : yX8_isCar.cls ≠ "java/lang/invoke/MethodHandle" ∧ yX8_isCar.cls ≠ "java/lang/invoke/VarHandle" ∧ (parseMethodDescriptor yX8_isCar.desc).map (fun d => d.parameters.length) = some 1 := by decide +kernel
theorem cl_X8_107 {p : Program} {l : Launch} {e : Env} {R : Room} {s : State} {m : MethodId} {args : Array Value} {below : List Frame} {meth : Method} {c : Code} {H : Heap} {locs : List Loc} {cells slots : Nat} {QQ : State → Prop} {cc : ByteArray} {pc : Nat} {ls : Array Slot} {rest : List Value} {D : va_G} {g : pd_G} {t : Nat} {M : pd_M} {X : va_W} {A : Nat → Prop} {nL : Nat} {ret : Option FieldType} {Qc : Int32 → pd_M → Prop} {a1 : Int32} (C : pd_C p m c cc nL s args RX8 meth ret) (hW : pd_W D g t M X A s H locs) (h : wX8_isCar Qc a1 M) (hR : rX8_isCar.frames + 1 ≤ R.frames ∧ 8 + (2 + 11) + rX8_isCar.locals ≤ R.locals) (hcs : cells ≤ R.cells ∧ slots ≤ R.slots) (hls : ls.size = nL) (hw8 : (rest.map fun v => v.category).sum ≤ 8) (hdg : decode cc pc = .ok (.invokevirtual 107, 3))
    (kk : ∀ (r : Int32) (M1 : pd_M) (H1 : Heap) (locs1 : List Loc), Qc r M1 → pd_W D g t M1 X A s H1 locs1 → W p l e R s m args below meth c H1 locs1 cells slots QQ (F0 m (pc + 3) ls (.int r :: rest))) : W p l e R s m args below meth c H locs cells slots QQ (F0 m pc ls (.int a1 :: .ref (g.1 0) :: rest)) :=
  pd_callVi (As := [.int a1]) C hW (mX8_isCar h) kd_0 rfl mM_X8_107 mO_yX8_isCar mV_yX8_isCar mI_X8 mC_yX8_isCar dd_X8_isCar ⟨rfl, rfl⟩ hR hcs hls rfl hw8 hdg kk
abbrev rX8_isZone : Room := { frames := 1, cells := 0, slots := 0, locals := 21 }
def wX8_isZone (Q : Int32 → pd_M → Prop) (a0 : Int32) (M : pd_M) : Prop := wX8_isNumbered (fun r_2 M_1 => (narrow FieldType.boolean (Value.int r_2) = Value.int r_2 ∧ Q r_2 M_1)) a0 4 M

set_option maxRecDepth 100000 in
set_option maxHeartbeats 4000000 in
theorem mX8_isZone {l : Launch} {D : va_G} {g : pd_G} {t : Nat} {X : va_W} {Q : Int32 → pd_M → Prop} {a0 : Int32} {M : pd_M} {sz : Nat} (h : wX8_isZone Q a0 M) : Met l yX8_isZone (Cond.code yX8_isZone cX8_isZone 1 (Option.some FieldType.boolean) :: TB) rX8_isZone (pd_Pre D g t M X sz [.int a0]) (pd_Qi D g M X sz Q) 0 0 (va_A (pd_WL g M ++ X) sz) := by
  refine pd_met (by decide) (Nat.le_of_ble_eq_true rfl) ?_
  intro p e s m below meth c A ls C hA hW hl
  have C : pd_C p m c cX8_isZone 1 s _ RX8 meth (Option.some FieldType.boolean) := C
  have hx := C.1.1
  have hb := C.1.2.1
  have hown := C.1.2.2.2.1
  have hts := C.1.2.2.2.2
  have hl : lv_has ls 1 [(0, .int a0)] := hl
  refine lv_iload_n hx hb dX8_isZone_0 rfl (lv_at hl 0 rfl) ?_
  refine lv_iconst (v := 4) hx hb dX8_isZone_1 (by decide) ?_
  refine cl_X8_164 C hW h ⟨by decide, by decide⟩ ⟨Nat.zero_le _, Nat.zero_le _⟩ hl.1 (Nat.le_of_ble_eq_true rfl) dX8_isZone_2 (fun r_2 M_1 H locs h hW => ?_)
  exact pd_zret C hA hW h.1 h.2 dX8_isZone_5

theorem dd_X8_isZone : yX8_isZone.cls ≠ "java/lang/invoke/MethodHandle" ∧ yX8_isZone.cls ≠ "java/lang/invoke/VarHandle" ∧ (parseMethodDescriptor yX8_isZone.desc).map (fun d => d.parameters.length) = some 1 := by decide +kernel
theorem cl_X8_57 {p : Program} {l : Launch} {e : Env} {R : Room} {s : State} {m : MethodId} {args : Array Value} {below : List Frame} {meth : Method} {c : Code} {H : Heap} {locs : List Loc} {cells slots : Nat} {QQ : State → Prop} {cc : ByteArray} {pc : Nat} {ls : Array Slot} {rest : List Value} {D : va_G} {g : pd_G} {t : Nat} {M : pd_M} {X : va_W} {A : Nat → Prop} {nL : Nat} {ret : Option FieldType} {Qc : Int32 → pd_M → Prop} {a0 : Int32} (C : pd_C p m c cc nL s args RX8 meth ret) (hW : pd_W D g t M X A s H locs) (h : wX8_isZone Qc a0 M) (hR : rX8_isZone.frames + 1 ≤ R.frames ∧ 8 + (1 + 11) + rX8_isZone.locals ≤ R.locals) (hcs : cells ≤ R.cells ∧ slots ≤ R.slots) (hls : ls.size = nL) (hw8 : (rest.map fun v => v.category).sum ≤ 8) (hdg : decode cc pc = .ok (.invokestatic 57, 3))
    (kk : ∀ (r : Int32) (M1 : pd_M) (H1 : Heap) (locs1 : List Loc), Qc r M1 → pd_W D g t M1 X A s H1 locs1 → W p l e R s m args below meth c H1 locs1 cells slots QQ (F0 m (pc + 3) ls (.int r :: rest))) : W p l e R s m args below meth c H locs cells slots QQ (F0 m pc ls (.int a0 :: rest)) :=
  pd_callSi (As := [.int a0]) C hW (mX8_isZone h) mM_X8_57 mS_yX8_isZone mI_X8 mC_yX8_isZone dd_X8_isZone ⟨rfl, rfl⟩ hR hcs hls rfl hw8 hdg kk
abbrev rX8_isSort : Room := { frames := 1, cells := 0, slots := 0, locals := 21 }
def wX8_isSort (Q : Int32 → pd_M → Prop) (a0 : Int32) (M : pd_M) : Prop := wX8_isNumbered (fun r_2 M_1 => (narrow FieldType.boolean (Value.int r_2) = Value.int r_2 ∧ Q r_2 M_1)) a0 3 M

set_option maxRecDepth 100000 in
set_option maxHeartbeats 4000000 in
theorem mX8_isSort {l : Launch} {D : va_G} {g : pd_G} {t : Nat} {X : va_W} {Q : Int32 → pd_M → Prop} {a0 : Int32} {M : pd_M} {sz : Nat} (h : wX8_isSort Q a0 M) : Met l yX8_isSort (Cond.code yX8_isSort cX8_isSort 1 (Option.some FieldType.boolean) :: TB) rX8_isSort (pd_Pre D g t M X sz [.int a0]) (pd_Qi D g M X sz Q) 0 0 (va_A (pd_WL g M ++ X) sz) := by
  refine pd_met (by decide) (Nat.le_of_ble_eq_true rfl) ?_
  intro p e s m below meth c A ls C hA hW hl
  have C : pd_C p m c cX8_isSort 1 s _ RX8 meth (Option.some FieldType.boolean) := C
  have hx := C.1.1
  have hb := C.1.2.1
  have hown := C.1.2.2.2.1
  have hts := C.1.2.2.2.2
  have hl : lv_has ls 1 [(0, .int a0)] := hl
  refine lv_iload_n hx hb dX8_isSort_0 rfl (lv_at hl 0 rfl) ?_
  refine lv_iconst (v := 3) hx hb dX8_isSort_1 (by decide) ?_
  refine cl_X8_164 C hW h ⟨by decide, by decide⟩ ⟨Nat.zero_le _, Nat.zero_le _⟩ hl.1 (Nat.le_of_ble_eq_true rfl) dX8_isSort_2 (fun r_2 M_1 H locs h hW => ?_)
  exact pd_zret C hA hW h.1 h.2 dX8_isSort_5

theorem dd_X8_isSort : yX8_isSort.cls ≠ "java/lang/invoke/MethodHandle" ∧ yX8_isSort.cls ≠ "java/lang/invoke/VarHandle" ∧ (parseMethodDescriptor yX8_isSort.desc).map (fun d => d.parameters.length) = some 1 := by decide +kernel
theorem cl_X8_98 {p : Program} {l : Launch} {e : Env} {R : Room} {s : State} {m : MethodId} {args : Array Value} {below : List Frame} {meth : Method} {c : Code} {H : Heap} {locs : List Loc} {cells slots : Nat} {QQ : State → Prop} {cc : ByteArray} {pc : Nat} {ls : Array Slot} {rest : List Value} {D : va_G} {g : pd_G} {t : Nat} {M : pd_M} {X : va_W} {A : Nat → Prop} {nL : Nat} {ret : Option FieldType} {Qc : Int32 → pd_M → Prop} {a0 : Int32} (C : pd_C p m c cc nL s args RX8 meth ret) (hW : pd_W D g t M X A s H locs) (h : wX8_isSort Qc a0 M) (hR : rX8_isSort.frames + 1 ≤ R.frames ∧ 8 + (1 + 11) + rX8_isSort.locals ≤ R.locals) (hcs : cells ≤ R.cells ∧ slots ≤ R.slots) (hls : ls.size = nL) (hw8 : (rest.map fun v => v.category).sum ≤ 8) (hdg : decode cc pc = .ok (.invokestatic 98, 3))
    (kk : ∀ (r : Int32) (M1 : pd_M) (H1 : Heap) (locs1 : List Loc), Qc r M1 → pd_W D g t M1 X A s H1 locs1 → W p l e R s m args below meth c H1 locs1 cells slots QQ (F0 m (pc + 3) ls (.int r :: rest))) : W p l e R s m args below meth c H locs cells slots QQ (F0 m pc ls (.int a0 :: rest)) :=
  pd_callSi (As := [.int a0]) C hW (mX8_isSort h) mM_X8_98 mS_yX8_isSort mI_X8 mC_yX8_isSort dd_X8_isSort ⟨rfl, rfl⟩ hR hcs hls rfl hw8 hdg kk
abbrev rX8_isNight : Room := { frames := 1, cells := 0, slots := 0, locals := 21 }
def wX8_isNight (Q : Int32 → pd_M → Prop) (a0 : Int32) (M : pd_M) : Prop := wX8_isNumbered (fun r_2 M_1 => (narrow FieldType.boolean (Value.int r_2) = Value.int r_2 ∧ Q r_2 M_1)) a0 7 M

set_option maxRecDepth 100000 in
set_option maxHeartbeats 4000000 in
theorem mX8_isNight {l : Launch} {D : va_G} {g : pd_G} {t : Nat} {X : va_W} {Q : Int32 → pd_M → Prop} {a0 : Int32} {M : pd_M} {sz : Nat} (h : wX8_isNight Q a0 M) : Met l yX8_isNight (Cond.code yX8_isNight cX8_isNight 1 (Option.some FieldType.boolean) :: TB) rX8_isNight (pd_Pre D g t M X sz [.int a0]) (pd_Qi D g M X sz Q) 0 0 (va_A (pd_WL g M ++ X) sz) := by
  refine pd_met (by decide) (Nat.le_of_ble_eq_true rfl) ?_
  intro p e s m below meth c A ls C hA hW hl
  have C : pd_C p m c cX8_isNight 1 s _ RX8 meth (Option.some FieldType.boolean) := C
  have hx := C.1.1
  have hb := C.1.2.1
  have hown := C.1.2.2.2.1
  have hts := C.1.2.2.2.2
  have hl : lv_has ls 1 [(0, .int a0)] := hl
  refine lv_iload_n hx hb dX8_isNight_0 rfl (lv_at hl 0 rfl) ?_
  refine lv_bipush (v := 7) hx hb dX8_isNight_1 (by decide) ?_
  refine cl_X8_164 C hW h ⟨by decide, by decide⟩ ⟨Nat.zero_le _, Nat.zero_le _⟩ hl.1 (Nat.le_of_ble_eq_true rfl) dX8_isNight_3 (fun r_2 M_1 H locs h hW => ?_)
  exact pd_zret C hA hW h.1 h.2 dX8_isNight_6

theorem dd_X8_isNight : yX8_isNight.cls ≠ "java/lang/invoke/MethodHandle" ∧ yX8_isNight.cls ≠ "java/lang/invoke/VarHandle" ∧ (parseMethodDescriptor yX8_isNight.desc).map (fun d => d.parameters.length) = some 1 := by decide +kernel
theorem cl_X8_80 {p : Program} {l : Launch} {e : Env} {R : Room} {s : State} {m : MethodId} {args : Array Value} {below : List Frame} {meth : Method} {c : Code} {H : Heap} {locs : List Loc} {cells slots : Nat} {QQ : State → Prop} {cc : ByteArray} {pc : Nat} {ls : Array Slot} {rest : List Value} {D : va_G} {g : pd_G} {t : Nat} {M : pd_M} {X : va_W} {A : Nat → Prop} {nL : Nat} {ret : Option FieldType} {Qc : Int32 → pd_M → Prop} {a0 : Int32} (C : pd_C p m c cc nL s args RX8 meth ret) (hW : pd_W D g t M X A s H locs) (h : wX8_isNight Qc a0 M) (hR : rX8_isNight.frames + 1 ≤ R.frames ∧ 8 + (1 + 11) + rX8_isNight.locals ≤ R.locals) (hcs : cells ≤ R.cells ∧ slots ≤ R.slots) (hls : ls.size = nL) (hw8 : (rest.map fun v => v.category).sum ≤ 8) (hdg : decode cc pc = .ok (.invokestatic 80, 3))
    (kk : ∀ (r : Int32) (M1 : pd_M) (H1 : Heap) (locs1 : List Loc), Qc r M1 → pd_W D g t M1 X A s H1 locs1 → W p l e R s m args below meth c H1 locs1 cells slots QQ (F0 m (pc + 3) ls (.int r :: rest))) : W p l e R s m args below meth c H locs cells slots QQ (F0 m pc ls (.int a0 :: rest)) :=
  pd_callSi (As := [.int a0]) C hW (mX8_isNight h) mM_X8_80 mS_yX8_isNight mI_X8 mC_yX8_isNight dd_X8_isNight ⟨rfl, rfl⟩ hR hcs hls rfl hw8 hdg kk
abbrev rX8_isHour : Room := { frames := 1, cells := 0, slots := 0, locals := 21 }
def wX8_isHour (Q : Int32 → pd_M → Prop) (a0 : Int32) (M : pd_M) : Prop := wX8_isNumbered (fun r_2 M_1 => (narrow FieldType.boolean (Value.int r_2) = Value.int r_2 ∧ Q r_2 M_1)) a0 24 M

set_option maxRecDepth 100000 in
set_option maxHeartbeats 4000000 in
theorem mX8_isHour {l : Launch} {D : va_G} {g : pd_G} {t : Nat} {X : va_W} {Q : Int32 → pd_M → Prop} {a0 : Int32} {M : pd_M} {sz : Nat} (h : wX8_isHour Q a0 M) : Met l yX8_isHour (Cond.code yX8_isHour cX8_isHour 1 (Option.some FieldType.boolean) :: TB) rX8_isHour (pd_Pre D g t M X sz [.int a0]) (pd_Qi D g M X sz Q) 0 0 (va_A (pd_WL g M ++ X) sz) := by
  refine pd_met (by decide) (Nat.le_of_ble_eq_true rfl) ?_
  intro p e s m below meth c A ls C hA hW hl
  have C : pd_C p m c cX8_isHour 1 s _ RX8 meth (Option.some FieldType.boolean) := C
  have hx := C.1.1
  have hb := C.1.2.1
  have hown := C.1.2.2.2.1
  have hts := C.1.2.2.2.2
  have hl : lv_has ls 1 [(0, .int a0)] := hl
  refine lv_iload_n hx hb dX8_isHour_0 rfl (lv_at hl 0 rfl) ?_
  refine lv_bipush (v := 24) hx hb dX8_isHour_1 (by decide) ?_
  refine cl_X8_164 C hW h ⟨by decide, by decide⟩ ⟨Nat.zero_le _, Nat.zero_le _⟩ hl.1 (Nat.le_of_ble_eq_true rfl) dX8_isHour_3 (fun r_2 M_1 H locs h hW => ?_)
  exact pd_zret C hA hW h.1 h.2 dX8_isHour_6

theorem dd_X8_isHour : yX8_isHour.cls ≠ "java/lang/invoke/MethodHandle" ∧ yX8_isHour.cls ≠ "java/lang/invoke/VarHandle" ∧ (parseMethodDescriptor yX8_isHour.desc).map (fun d => d.parameters.length) = some 1 := by decide +kernel
theorem cl_X8_123 {p : Program} {l : Launch} {e : Env} {R : Room} {s : State} {m : MethodId} {args : Array Value} {below : List Frame} {meth : Method} {c : Code} {H : Heap} {locs : List Loc} {cells slots : Nat} {QQ : State → Prop} {cc : ByteArray} {pc : Nat} {ls : Array Slot} {rest : List Value} {D : va_G} {g : pd_G} {t : Nat} {M : pd_M} {X : va_W} {A : Nat → Prop} {nL : Nat} {ret : Option FieldType} {Qc : Int32 → pd_M → Prop} {a0 : Int32} (C : pd_C p m c cc nL s args RX8 meth ret) (hW : pd_W D g t M X A s H locs) (h : wX8_isHour Qc a0 M) (hR : rX8_isHour.frames + 1 ≤ R.frames ∧ 8 + (1 + 11) + rX8_isHour.locals ≤ R.locals) (hcs : cells ≤ R.cells ∧ slots ≤ R.slots) (hls : ls.size = nL) (hw8 : (rest.map fun v => v.category).sum ≤ 8) (hdg : decode cc pc = .ok (.invokestatic 123, 3))
    (kk : ∀ (r : Int32) (M1 : pd_M) (H1 : Heap) (locs1 : List Loc), Qc r M1 → pd_W D g t M1 X A s H1 locs1 → W p l e R s m args below meth c H1 locs1 cells slots QQ (F0 m (pc + 3) ls (.int r :: rest))) : W p l e R s m args below meth c H locs cells slots QQ (F0 m pc ls (.int a0 :: rest)) :=
  pd_callSi (As := [.int a0]) C hW (mX8_isHour h) mM_X8_123 mS_yX8_isHour mI_X8 mC_yX8_isHour dd_X8_isHour ⟨rfl, rfl⟩ hR hcs hls rfl hw8 hdg kk
abbrev rX8_isSpan : Room := { frames := 2, cells := 0, slots := 0, locals := 41 }
def wX8_isSpan (Q : Int32 → pd_M → Prop) (a0 : Int32) (a1 : Int32) (M : pd_M) : Prop := ((a0 = (-1) → Q 1 M) ∧ (¬ a0 = (-1) → wX8_isHour (fun r_3 M_2 => ((r_3 = 0 → Q 0 M_2) ∧ (¬ r_3 = 0 → wX8_isHour (fun r_6 M_5 => ((r_6 = 0 → Q 0 M_5) ∧ (¬ r_6 = 0 → Q 1 M_5))) a1 M_2))) a0 M))

set_option maxRecDepth 100000 in
set_option maxHeartbeats 4000000 in
theorem mX8_isSpan {l : Launch} {D : va_G} {g : pd_G} {t : Nat} {X : va_W} {Q : Int32 → pd_M → Prop} {a0 : Int32} {a1 : Int32} {M : pd_M} {sz : Nat} (h : wX8_isSpan Q a0 a1 M) : Met l yX8_isSpan (Cond.code yX8_isSpan cX8_isSpan 2 (Option.some FieldType.boolean) :: TB) rX8_isSpan (pd_Pre D g t M X sz [.int a0, .int a1]) (pd_Qi D g M X sz Q) 0 0 (va_A (pd_WL g M ++ X) sz) := by
  refine pd_met (by decide) (Nat.le_of_ble_eq_true rfl) ?_
  intro p e s m below meth c A ls C hA hW hl
  have C : pd_C p m c cX8_isSpan 2 s _ RX8 meth (Option.some FieldType.boolean) := C
  have hx := C.1.1
  have hb := C.1.2.1
  have hown := C.1.2.2.2.1
  have hts := C.1.2.2.2.2
  have hl : lv_has ls 2 [(0, .int a0), (1, .int a1)] := hl
  refine lv_iload_n hx hb dX8_isSpan_0 rfl (lv_at hl 0 rfl) ?_
  refine lv_iconst (v := (-1)) hx hb dX8_isSpan_1 (by decide) ?_
  refine lv_icmp_eq (tgt := 19) hx hb dX8_isSpan_2 (by decide) (fun c_1 => ?_) (fun c_1 => ?_)
  · have h := h.1 c_1
    refine lv_iconst (v := 1) hx hb dX8_isSpan_19 (by decide) ?_
    refine lv_goto (tgt := 24) hx hb dX8_isSpan_20 (by decide) ?_
    exact pd_zret C hA hW rfl h dX8_isSpan_24
  · have h := h.2 c_1
    refine lv_iload_n hx hb dX8_isSpan_5 rfl (lv_at hl 0 rfl) ?_
    refine cl_X8_123 C hW h ⟨by decide, by decide⟩ ⟨Nat.zero_le _, Nat.zero_le _⟩ hl.1 (Nat.le_of_ble_eq_true rfl) dX8_isSpan_6 (fun r_3 M_2 H locs h hW => ?_)
    refine lv_if_eq (tgt := 23) hx hb dX8_isSpan_9 (by decide) (fun c_4 => ?_) (fun c_4 => ?_)
    · have h := h.1 c_4
      refine lv_iconst (v := 0) hx hb dX8_isSpan_23 (by decide) ?_
      exact pd_zret C hA hW rfl h dX8_isSpan_24
    · have h := h.2 c_4
      refine lv_iload_n hx hb dX8_isSpan_12 rfl (lv_at hl 1 rfl) ?_
      refine cl_X8_123 C hW h ⟨by decide, by decide⟩ ⟨Nat.zero_le _, Nat.zero_le _⟩ hl.1 (Nat.le_of_ble_eq_true rfl) dX8_isSpan_13 (fun r_6 M_5 H locs h hW => ?_)
      refine lv_if_eq (tgt := 23) hx hb dX8_isSpan_16 (by decide) (fun c_7 => ?_) (fun c_7 => ?_)
      · have h := h.1 c_7
        refine lv_iconst (v := 0) hx hb dX8_isSpan_23 (by decide) ?_
        exact pd_zret C hA hW rfl h dX8_isSpan_24
      · have h := h.2 c_7
        refine lv_iconst (v := 1) hx hb dX8_isSpan_19 (by decide) ?_
        refine lv_goto (tgt := 24) hx hb dX8_isSpan_20 (by decide) ?_
        exact pd_zret C hA hW rfl h dX8_isSpan_24

theorem dd_X8_isSpan : yX8_isSpan.cls ≠ "java/lang/invoke/MethodHandle" ∧ yX8_isSpan.cls ≠ "java/lang/invoke/VarHandle" ∧ (parseMethodDescriptor yX8_isSpan.desc).map (fun d => d.parameters.length) = some 2 := by decide +kernel
theorem cl_X8_89 {p : Program} {l : Launch} {e : Env} {R : Room} {s : State} {m : MethodId} {args : Array Value} {below : List Frame} {meth : Method} {c : Code} {H : Heap} {locs : List Loc} {cells slots : Nat} {QQ : State → Prop} {cc : ByteArray} {pc : Nat} {ls : Array Slot} {rest : List Value} {D : va_G} {g : pd_G} {t : Nat} {M : pd_M} {X : va_W} {A : Nat → Prop} {nL : Nat} {ret : Option FieldType} {Qc : Int32 → pd_M → Prop} {a0 : Int32} {a1 : Int32} (C : pd_C p m c cc nL s args RX8 meth ret) (hW : pd_W D g t M X A s H locs) (h : wX8_isSpan Qc a0 a1 M) (hR : rX8_isSpan.frames + 1 ≤ R.frames ∧ 8 + (2 + 11) + rX8_isSpan.locals ≤ R.locals) (hcs : cells ≤ R.cells ∧ slots ≤ R.slots) (hls : ls.size = nL) (hw8 : (rest.map fun v => v.category).sum ≤ 8) (hdg : decode cc pc = .ok (.invokestatic 89, 3))
    (kk : ∀ (r : Int32) (M1 : pd_M) (H1 : Heap) (locs1 : List Loc), Qc r M1 → pd_W D g t M1 X A s H1 locs1 → W p l e R s m args below meth c H1 locs1 cells slots QQ (F0 m (pc + 3) ls (.int r :: rest))) : W p l e R s m args below meth c H locs cells slots QQ (F0 m pc ls (.int a1 :: .int a0 :: rest)) :=
  pd_callSi (As := [.int a0, .int a1]) C hW (mX8_isSpan h) mM_X8_89 mS_yX8_isSpan mI_X8 mC_yX8_isSpan dd_X8_isSpan ⟨rfl, rfl⟩ hR hcs hls rfl hw8 hdg kk
abbrev rX8_span : Room := { frames := 0, cells := 0, slots := 0, locals := 0 }
def jnX8_span_55 (B_11 : Int32 → Int32 → pd_M → Prop) (v0 : Int32) (v1 : Int32) (v2 : Int32) (v3 : Int32) (s0 : Int32) (M : pd_M) : Prop := ((s0 = 0 → ∀ x3_6 : Int32, x3_6 = v3 + 1 → B_11 v2 x3_6 M) ∧ (¬ s0 = 0 → ∀ x2_7 : Int32, x2_7 = (v2 ||| ((1 : Int32) <<< (v3 &&& 31))) → ∀ x3_8 : Int32, x3_8 = v3 + 1 → B_11 x2_7 x3_8 M))

set_option maxRecDepth 100000 in
set_option maxHeartbeats 4000000 in
theorem stX8_span_55 {p : Program} {l : Launch} {e : Env} {s : State} {m : MethodId} {args : Array Value} {below : List Frame} {meth : Method} {c : Code} {D : va_G} {g : pd_G} {t : Nat} {M0 : pd_M} {X : va_W} {A : Nat → Prop} {sz : Nat} {Q : Int32 → pd_M → Prop} (C : pd_C p m c cX8_span 5 s args RX8 meth (Option.some FieldType.int)) (hA : A = va_A (pd_WL g M0 ++ X) sz) {B_11 : Int32 → Int32 → pd_M → Prop} {v0 : Int32} {v1 : Int32} (hB_11 : ∀ (p2 : Int32) (p3 : Int32) (M : pd_M) (H : Heap) (locs : List Loc) (ls : Array Slot), pd_W D g t M X A s H locs → lv_has ls 5 [(0, .int v0), (1, .int v1), (2, .int p2), (3, .int p3)] → B_11 p2 p3 M → W p l e rX8_span s m args below meth c H locs 0 0 (MQ below (pd_Qi D g M0 X sz Q) args s 0 0 (va_A (pd_WL g M0 ++ X) sz)) (F0 m 11 ls [])) : ∀ (v2 : Int32) (v3 : Int32) (s0 : Int32) (M : pd_M) (H : Heap) (locs : List Loc) (ls : Array Slot), pd_W D g t M X A s H locs → lv_has ls 5 [(0, .int v0), (1, .int v1), (2, .int v2), (3, .int v3)] → jnX8_span_55 B_11 v0 v1 v2 v3 s0 M → W p l e rX8_span s m args below meth c H locs 0 0 (MQ below (pd_Qi D g M0 X sz Q) args s 0 0 (va_A (pd_WL g M0 ++ X) sz)) (F0 m 55 ls [.int s0]) := by
  have hx := C.1.1
  have hb := C.1.2.1
  have hown := C.1.2.2.2.1
  have hts := C.1.2.2.2.2
  intro v2 v3 s0 M H locs ls hW hl h
  refine lv_istore (lv' := [(4, .int s0), (0, .int v0), (1, .int v1), (2, .int v2), (3, .int v3)]) hx hb dX8_span_55 hl (by decide) rfl (fun ls hl => ?_)
  refine lv_iload hx hb dX8_span_57 (lv_at hl 0 rfl) ?_
  refine lv_if_eq (tgt := 68) hx hb dX8_span_59 (by decide) (fun c_5 => ?_) (fun c_5 => ?_)
  · have h := h.1 c_5
    obtain ⟨x3_6, ex3_6⟩ : ∃ y : Int32, y = v3 + 1 := ⟨_, rfl⟩
    have h := h x3_6 ex3_6
    refine lv_iinc (v := x3_6) (lv' := [(3, .int x3_6), (4, .int s0), (0, .int v0), (1, .int v1), (2, .int v2)]) hx hb dX8_span_68 hl (k := 4) rfl (by rw [ex3_6]; rfl) (by decide) rfl (fun ls hl => ?_)
    refine lv_goto (tgt := 11) hx hb dX8_span_71 (by decide) ?_
    exact hB_11 v2 x3_6 M _ _ _ hW (lv_sub hl [2, 3, 4, 0] rfl) h
  · have h := h.2 c_5
    refine lv_iload_n hx hb dX8_span_62 rfl (lv_at hl 3 rfl) ?_
    refine lv_iconst (v := 1) hx hb dX8_span_63 (by decide) ?_
    refine lv_iload_n hx hb dX8_span_64 rfl (lv_at hl 4 rfl) ?_
    refine lv_ishl hx hb dX8_span_65 ?_
    refine lv_ior hx hb dX8_span_66 ?_
    refine lv_topi (fun x2_7 ex2_7 => ?_)
    have h := h x2_7 ex2_7
    refine lv_istore_n (lv' := [(2, .int x2_7), (4, .int s0), (0, .int v0), (1, .int v1), (3, .int v3)]) hx hb dX8_span_67 rfl hl (by decide) rfl (fun ls hl => ?_)
    obtain ⟨x3_8, ex3_8⟩ : ∃ y : Int32, y = v3 + 1 := ⟨_, rfl⟩
    have h := h x3_8 ex3_8
    refine lv_iinc (v := x3_8) (lv' := [(3, .int x3_8), (2, .int x2_7), (4, .int s0), (0, .int v0), (1, .int v1)]) hx hb dX8_span_68 hl (k := 4) rfl (by rw [ex3_8]; rfl) (by decide) rfl (fun ls hl => ?_)
    refine lv_goto (tgt := 11) hx hb dX8_span_71 (by decide) ?_
    exact hB_11 x2_7 x3_8 M _ _ _ hW (lv_sub hl [3, 4, 1, 0] rfl) h

def lpX8_span_11 (K : Int32 → pd_M → Prop) (f0 : Int32) (f1 : Int32) : Nat → Int32 → Int32 → pd_M → Prop
  | 0, _, _, _ => False
  | n + 1, v2, v3, M => ((24 ≤ v3 → K v2 M) ∧ (¬ 24 ≤ v3 → ((f1 < f0 → ((f0 ≤ v3 → (jnX8_span_55 (lpX8_span_11 K f0 f1 n) f0 f1 v2 v3 1 M)) ∧ (¬ f0 ≤ v3 → ((f1 < v3 → (jnX8_span_55 (lpX8_span_11 K f0 f1 n) f0 f1 v2 v3 0 M)) ∧ (¬ f1 < v3 → (jnX8_span_55 (lpX8_span_11 K f0 f1 n) f0 f1 v2 v3 1 M)))))) ∧ (¬ f1 < f0 → ((v3 < f0 → (jnX8_span_55 (lpX8_span_11 K f0 f1 n) f0 f1 v2 v3 0 M)) ∧ (¬ v3 < f0 → ((f1 < v3 → (jnX8_span_55 (lpX8_span_11 K f0 f1 n) f0 f1 v2 v3 0 M)) ∧ (¬ f1 < v3 → (jnX8_span_55 (lpX8_span_11 K f0 f1 n) f0 f1 v2 v3 1 M)))))))))

set_option maxRecDepth 100000 in
set_option maxHeartbeats 4000000 in
theorem stX8_span_11 {p : Program} {l : Launch} {e : Env} {s : State} {m : MethodId} {args : Array Value} {below : List Frame} {meth : Method} {c : Code} {D : va_G} {g : pd_G} {t : Nat} {M0 : pd_M} {X : va_W} {A : Nat → Prop} {sz : Nat} {Q : Int32 → pd_M → Prop} (C : pd_C p m c cX8_span 5 s args RX8 meth (Option.some FieldType.int)) (hA : A = va_A (pd_WL g M0 ++ X) sz) {K : Int32 → pd_M → Prop} {f0 : Int32} {f1 : Int32}  (hK : ∀ (p2 : Int32) (M : pd_M) (H : Heap) (locs : List Loc) (ls : Array Slot), pd_W D g t M X A s H locs → lv_has ls 5 [(2, .int p2)] → K p2 M → W p l e rX8_span s m args below meth c H locs 0 0 (MQ below (pd_Qi D g M0 X sz Q) args s 0 0 (va_A (pd_WL g M0 ++ X) sz)) (F0 m 74 ls [])) :
    ∀ (n : Nat) (v2 : Int32) (v3 : Int32) (M : pd_M) (H : Heap) (locs : List Loc) (ls : Array Slot), pd_W D g t M X A s H locs → lv_has ls 5 [(0, .int f0), (1, .int f1), (2, .int v2), (3, .int v3)] → lpX8_span_11 K f0 f1 n v2 v3 M → W p l e rX8_span s m args below meth c H locs 0 0 (MQ below (pd_Qi D g M0 X sz Q) args s 0 0 (va_A (pd_WL g M0 ++ X) sz)) (F0 m 11 ls []) := by
  have hx := C.1.1
  have hb := C.1.2.1
  have hown := C.1.2.2.2.1
  have hts := C.1.2.2.2.2
  intro n
  induction n with
  | zero => intro v2 v3 M H locs ls hW hl h; exact h.elim
  | succ n ih =>
    intro v2 v3 M H locs ls hW hl h
    refine lv_iload_n hx hb dX8_span_11 rfl (lv_at hl 3 rfl) ?_
    refine lv_bipush (v := 24) hx hb dX8_span_12 (by decide) ?_
    refine lv_icmp_ge (tgt := 74) hx hb dX8_span_14 (by decide) (fun c_2 => ?_) (fun c_2 => ?_)
    · have h := h.1 c_2
      exact hK v2 M _ _ _ hW (lv_sub hl [2] rfl) h
    · have h := h.2 c_2
      refine lv_iload_n hx hb dX8_span_17 rfl (lv_at hl 0 rfl) ?_
      refine lv_iload_n hx hb dX8_span_18 rfl (lv_at hl 1 rfl) ?_
      refine lv_icmp_gt (tgt := 40) hx hb dX8_span_19 (by decide) (fun c_3 => ?_) (fun c_3 => ?_)
      · have h := h.1 c_3
        refine lv_iload_n hx hb dX8_span_40 rfl (lv_at hl 0 rfl) ?_
        refine lv_iload_n hx hb dX8_span_41 rfl (lv_at hl 3 rfl) ?_
        refine lv_icmp_le (tgt := 50) hx hb dX8_span_42 (by decide) (fun c_4 => ?_) (fun c_4 => ?_)
        · have h := h.1 c_4
          refine lv_iconst (v := 1) hx hb dX8_span_50 (by decide) ?_
          refine lv_goto (tgt := 55) hx hb dX8_span_51 (by decide) ?_
          exact stX8_span_55 C hA ih v2 v3 1 M _ _ _ hW (lv_sub hl [0, 1, 2, 3] rfl) h
        · have h := h.2 c_4
          refine lv_iload_n hx hb dX8_span_45 rfl (lv_at hl 3 rfl) ?_
          refine lv_iload_n hx hb dX8_span_46 rfl (lv_at hl 1 rfl) ?_
          refine lv_icmp_gt (tgt := 54) hx hb dX8_span_47 (by decide) (fun c_9 => ?_) (fun c_9 => ?_)
          · have h := h.1 c_9
            refine lv_iconst (v := 0) hx hb dX8_span_54 (by decide) ?_
            exact stX8_span_55 C hA ih v2 v3 0 M _ _ _ hW (lv_sub hl [0, 1, 2, 3] rfl) h
          · have h := h.2 c_9
            refine lv_iconst (v := 1) hx hb dX8_span_50 (by decide) ?_
            refine lv_goto (tgt := 55) hx hb dX8_span_51 (by decide) ?_
            exact stX8_span_55 C hA ih v2 v3 1 M _ _ _ hW (lv_sub hl [0, 1, 2, 3] rfl) h
      · have h := h.2 c_3
        refine lv_iload_n hx hb dX8_span_22 rfl (lv_at hl 0 rfl) ?_
        refine lv_iload_n hx hb dX8_span_23 rfl (lv_at hl 3 rfl) ?_
        refine lv_icmp_gt (tgt := 36) hx hb dX8_span_24 (by decide) (fun c_10 => ?_) (fun c_10 => ?_)
        · have h := h.1 c_10
          refine lv_iconst (v := 0) hx hb dX8_span_36 (by decide) ?_
          refine lv_goto (tgt := 55) hx hb dX8_span_37 (by decide) ?_
          exact stX8_span_55 C hA ih v2 v3 0 M _ _ _ hW (lv_sub hl [0, 1, 2, 3] rfl) h
        · have h := h.2 c_10
          refine lv_iload_n hx hb dX8_span_27 rfl (lv_at hl 3 rfl) ?_
          refine lv_iload_n hx hb dX8_span_28 rfl (lv_at hl 1 rfl) ?_
          refine lv_icmp_gt (tgt := 36) hx hb dX8_span_29 (by decide) (fun c_11 => ?_) (fun c_11 => ?_)
          · have h := h.1 c_11
            refine lv_iconst (v := 0) hx hb dX8_span_36 (by decide) ?_
            refine lv_goto (tgt := 55) hx hb dX8_span_37 (by decide) ?_
            exact stX8_span_55 C hA ih v2 v3 0 M _ _ _ hW (lv_sub hl [0, 1, 2, 3] rfl) h
          · have h := h.2 c_11
            refine lv_iconst (v := 1) hx hb dX8_span_32 (by decide) ?_
            refine lv_goto (tgt := 55) hx hb dX8_span_33 (by decide) ?_
            exact stX8_span_55 C hA ih v2 v3 1 M _ _ _ hW (lv_sub hl [0, 1, 2, 3] rfl) h

def wX8_span (Q : Int32 → pd_M → Prop) (a0 : Int32) (a1 : Int32) (M : pd_M) : Prop := ((¬ a0 = (-1) → (∃ k_11 : Nat, lpX8_span_11 (fun x2_13 M_12 => Q x2_13 M_12) a0 a1 k_11 0 0 M)) ∧ (a0 = (-1) → Q 0 M))

set_option maxRecDepth 100000 in
set_option maxHeartbeats 4000000 in
theorem mX8_span {l : Launch} {D : va_G} {g : pd_G} {t : Nat} {X : va_W} {Q : Int32 → pd_M → Prop} {a0 : Int32} {a1 : Int32} {M : pd_M} {sz : Nat} (h : wX8_span Q a0 a1 M) : Met l yX8_span (Cond.code yX8_span cX8_span 5 (Option.some FieldType.int) :: TB) rX8_span (pd_Pre D g t M X sz [.int a0, .int a1]) (pd_Qi D g M X sz Q) 0 0 (va_A (pd_WL g M ++ X) sz) := by
  refine pd_met (by decide) (Nat.le_of_ble_eq_true rfl) ?_
  intro p e s m below meth c A ls C hA hW hl
  have C : pd_C p m c cX8_span 5 s _ RX8 meth (Option.some FieldType.int) := C
  have hx := C.1.1
  have hb := C.1.2.1
  have hown := C.1.2.2.2.1
  have hts := C.1.2.2.2.2
  have hl : lv_has ls 5 [(0, .int a0), (1, .int a1)] := hl
  refine lv_iload_n hx hb dX8_span_0 rfl (lv_at hl 0 rfl) ?_
  refine lv_iconst (v := (-1)) hx hb dX8_span_1 (by decide) ?_
  refine lv_icmp_ne (tgt := 7) hx hb dX8_span_2 (by decide) (fun c_1 => ?_) (fun c_1 => ?_)
  · have h := h.1 c_1
    refine lv_iconst (v := 0) hx hb dX8_span_7 (by decide) ?_
    refine lv_istore_n (lv' := [(2, .int 0), (0, .int a0), (1, .int a1)]) hx hb dX8_span_8 rfl hl (by decide) rfl (fun ls hl => ?_)
    refine lv_iconst (v := 0) hx hb dX8_span_9 (by decide) ?_
    refine lv_istore_n (lv' := [(3, .int 0), (2, .int 0), (0, .int a0), (1, .int a1)]) hx hb dX8_span_10 rfl hl (by decide) rfl (fun ls hl => ?_)
    obtain ⟨k_11, h⟩ := h
    refine stX8_span_11 C hA (fun x2_13 M_12 H locs ls hW hl h => ?_) k_11 0 0 M _ _ _ hW (lv_sub hl [2, 3, 1, 0] rfl) h
    refine lv_iload_n hx hb dX8_span_74 rfl (lv_at hl 0 rfl) ?_
    exact pd_iret C hA hW h dX8_span_75
  · have h := h.2 c_1
    refine lv_iconst (v := 0) hx hb dX8_span_5 (by decide) ?_
    exact pd_iret C hA hW h dX8_span_6

theorem dd_X8_span : yX8_span.cls ≠ "java/lang/invoke/MethodHandle" ∧ yX8_span.cls ≠ "java/lang/invoke/VarHandle" ∧ (parseMethodDescriptor yX8_span.desc).map (fun d => d.parameters.length) = some 2 := by decide +kernel
theorem cl_X8_95 {p : Program} {l : Launch} {e : Env} {R : Room} {s : State} {m : MethodId} {args : Array Value} {below : List Frame} {meth : Method} {c : Code} {H : Heap} {locs : List Loc} {cells slots : Nat} {QQ : State → Prop} {cc : ByteArray} {pc : Nat} {ls : Array Slot} {rest : List Value} {D : va_G} {g : pd_G} {t : Nat} {M : pd_M} {X : va_W} {A : Nat → Prop} {nL : Nat} {ret : Option FieldType} {Qc : Int32 → pd_M → Prop} {a0 : Int32} {a1 : Int32} (C : pd_C p m c cc nL s args RX8 meth ret) (hW : pd_W D g t M X A s H locs) (h : wX8_span Qc a0 a1 M) (hR : rX8_span.frames + 1 ≤ R.frames ∧ 8 + (5 + 11) + rX8_span.locals ≤ R.locals) (hcs : cells ≤ R.cells ∧ slots ≤ R.slots) (hls : ls.size = nL) (hw8 : (rest.map fun v => v.category).sum ≤ 8) (hdg : decode cc pc = .ok (.invokestatic 95, 3))
    (kk : ∀ (r : Int32) (M1 : pd_M) (H1 : Heap) (locs1 : List Loc), Qc r M1 → pd_W D g t M1 X A s H1 locs1 → W p l e R s m args below meth c H1 locs1 cells slots QQ (F0 m (pc + 3) ls (.int r :: rest))) : W p l e R s m args below meth c H locs cells slots QQ (F0 m pc ls (.int a1 :: .int a0 :: rest)) :=
  pd_callSi (As := [.int a0, .int a1]) C hW (mX8_span h) mM_X8_95 mS_yX8_span mI_X8 mC_yX8_span dd_X8_span ⟨rfl, rfl⟩ hR hcs hls rfl hw8 hdg kk
abbrev rX8_street : Room := { frames := 2, cells := 0, slots := 0, locals := 41 }
def wX8_street (Q : Int32 → pd_M → Prop) (a1 : Int32) (a2 : Int32) (M : pd_M) : Prop := wX8_isZone (fun r_2 M_1 => ((r_2 = 0 → Q (-1) M_1) ∧ (¬ r_2 = 0 → wX8_isUpTo (fun r_5 M_4 => ((¬ r_5 = 0 → wX4_add (fun r_8 M_7 => Q r_8 M_7) a1 a2 M_4) ∧ (r_5 = 0 → Q (-1) M_4))) a2 5 M_1))) a1 M

set_option maxRecDepth 100000 in
set_option maxHeartbeats 4000000 in
theorem mX8_street {l : Launch} {D : va_G} {g : pd_G} {t : Nat} {X : va_W} {Q : Int32 → pd_M → Prop} {a1 : Int32} {a2 : Int32} {M : pd_M} {sz : Nat} (h : wX8_street Q a1 a2 M) : Met l yX8_street (Cond.code yX8_street cX8_street 3 (Option.some FieldType.int) :: TB) rX8_street (pd_Pre D g t M X sz [.ref (g.1 0), .int a1, .int a2]) (pd_Qi D g M X sz Q) 0 0 (va_A (pd_WL g M ++ X) sz) := by
  refine pd_met (by decide) (Nat.le_of_ble_eq_true rfl) ?_
  intro p e s m below meth c A ls C hA hW hl
  have C : pd_C p m c cX8_street 3 s _ RX8 meth (Option.some FieldType.int) := C
  have hx := C.1.1
  have hb := C.1.2.1
  have hown := C.1.2.2.2.1
  have hts := C.1.2.2.2.2
  have hl : lv_has ls 3 [(0, .ref (g.1 0)), (1, .int a1), (2, .int a2)] := hl
  refine lv_iload_n hx hb dX8_street_0 rfl (lv_at hl 1 rfl) ?_
  refine cl_X8_57 C hW h ⟨by decide, by decide⟩ ⟨Nat.zero_le _, Nat.zero_le _⟩ hl.1 (Nat.le_of_ble_eq_true rfl) dX8_street_1 (fun r_2 M_1 H locs h hW => ?_)
  refine lv_if_eq (tgt := 15) hx hb dX8_street_4 (by decide) (fun c_3 => ?_) (fun c_3 => ?_)
  · have h := h.1 c_3
    refine lv_iconst (v := (-1)) hx hb dX8_street_15 (by decide) ?_
    exact pd_iret C hA hW h dX8_street_16
  · have h := h.2 c_3
    refine lv_iload_n hx hb dX8_street_7 rfl (lv_at hl 2 rfl) ?_
    refine lv_iconst (v := 5) hx hb dX8_street_8 (by decide) ?_
    refine cl_X8_61 C hW h ⟨by decide, by decide⟩ ⟨Nat.zero_le _, Nat.zero_le _⟩ hl.1 (Nat.le_of_ble_eq_true rfl) dX8_street_9 (fun r_5 M_4 H locs h hW => ?_)
    refine lv_if_ne (tgt := 17) hx hb dX8_street_12 (by decide) (fun c_6 => ?_) (fun c_6 => ?_)
    · have h := h.1 c_6
      refine lv_aload_n hx hb dX8_street_17 rfl (lv_at hl 0 rfl) ?_
      refine gf_X8_19 C hW dX8_street_18 ?_
      refine lv_iload_n hx hb dX8_street_21 rfl (lv_at hl 1 rfl) ?_
      refine lv_iload_n hx hb dX8_street_22 rfl (lv_at hl 2 rfl) ?_
      refine cl_X8_65 C hW h ⟨by decide, by decide⟩ ⟨Nat.zero_le _, Nat.zero_le _⟩ hl.1 (Nat.le_of_ble_eq_true rfl) dX8_street_23 (fun r_8 M_7 H locs h hW => ?_)
      exact pd_iret C hA hW h dX8_street_26
    · have h := h.2 c_6
      refine lv_iconst (v := (-1)) hx hb dX8_street_15 (by decide) ?_
      exact pd_iret C hA hW h dX8_street_16

theorem dd_X8_street : yX8_street.cls ≠ "java/lang/invoke/MethodHandle" ∧ yX8_street.cls ≠ "java/lang/invoke/VarHandle" ∧ (parseMethodDescriptor yX8_street.desc).map (fun d => d.parameters.length) = some 2 := by decide +kernel
theorem cl_L_13 {p : Program} {l : Launch} {e : Env} {R : Room} {s : State} {m : MethodId} {args : Array Value} {below : List Frame} {meth : Method} {c : Code} {H : Heap} {locs : List Loc} {cells slots : Nat} {QQ : State → Prop} {cc : ByteArray} {pc : Nat} {ls : Array Slot} {rest : List Value} {D : va_G} {g : pd_G} {t : Nat} {M : pd_M} {X : va_W} {A : Nat → Prop} {nL : Nat} {ret : Option FieldType} {Qc : Int32 → pd_M → Prop} {a1 : Int32} {a2 : Int32} (C : pd_C p m c cc nL s args RL meth ret) (hW : pd_W D g t M X A s H locs) (h : wX8_street Qc a1 a2 M) (hR : rX8_street.frames + 1 ≤ R.frames ∧ 8 + (3 + 11) + rX8_street.locals ≤ R.locals) (hcs : cells ≤ R.cells ∧ slots ≤ R.slots) (hls : ls.size = nL) (hw8 : (rest.map fun v => v.category).sum ≤ 8) (hdg : decode cc pc = .ok (.invokevirtual 13, 3))
    (kk : ∀ (r : Int32) (M1 : pd_M) (H1 : Heap) (locs1 : List Loc), Qc r M1 → pd_W D g t M1 X A s H1 locs1 → W p l e R s m args below meth c H1 locs1 cells slots QQ (F0 m (pc + 3) ls (.int r :: rest))) : W p l e R s m args below meth c H locs cells slots QQ (F0 m pc ls (.int a2 :: .int a1 :: .ref (g.1 0) :: rest)) :=
  pd_callVi (As := [.int a1, .int a2]) C hW (mX8_street h) kd_0 rfl mM_L_13 mO_yX8_street mV_yX8_street mI_X8 mC_yX8_street dd_X8_street ⟨rfl, rfl⟩ hR hcs hls rfl hw8 hdg kk
abbrev rX8_move : Room := { frames := 2, cells := 0, slots := 0, locals := 42 }
def wX8_move (Q : Int32 → pd_M → Prop) (a1 : Int32) (a2 : Int32) (M : pd_M) : Prop := wX8_isStreet (fun r_2 M_1 => ((r_2 = 0 → Q (-1) M_1) ∧ (¬ r_2 = 0 → wX8_isZone (fun r_5 M_4 => ((¬ r_5 = 0 → (vp_in a1 5 ∧ ∀ x3_8 : Int32, x3_8 = (M_4.1 9 a1.toNatClampNeg) → (vp_in a1 5 ∧ ∀ M_10 : pd_M, M_10 = sI M_4 9 a1.toNatClampNeg a2 → Q x3_8 M_10))) ∧ (r_5 = 0 → Q (-1) M_4))) a2 M_1))) a1 M

set_option maxRecDepth 100000 in
set_option maxHeartbeats 4000000 in
theorem mX8_move {l : Launch} {D : va_G} {g : pd_G} {t : Nat} {X : va_W} {Q : Int32 → pd_M → Prop} {a1 : Int32} {a2 : Int32} {M : pd_M} {sz : Nat} (h : wX8_move Q a1 a2 M) : Met l yX8_move (Cond.code yX8_move cX8_move 4 (Option.some FieldType.int) :: TB) rX8_move (pd_Pre D g t M X sz [.ref (g.1 0), .int a1, .int a2]) (pd_Qi D g M X sz Q) 0 0 (va_A (pd_WL g M ++ X) sz) := by
  refine pd_met (by decide) (Nat.le_of_ble_eq_true rfl) ?_
  intro p e s m below meth c A ls C hA hW hl
  have C : pd_C p m c cX8_move 4 s _ RX8 meth (Option.some FieldType.int) := C
  have hx := C.1.1
  have hb := C.1.2.1
  have hown := C.1.2.2.2.1
  have hts := C.1.2.2.2.2
  have hl : lv_has ls 4 [(0, .ref (g.1 0)), (1, .int a1), (2, .int a2)] := hl
  refine lv_aload_n hx hb dX8_move_0 rfl (lv_at hl 0 rfl) ?_
  refine lv_iload_n hx hb dX8_move_1 rfl (lv_at hl 1 rfl) ?_
  refine cl_X8_69 C hW h ⟨by decide, by decide⟩ ⟨Nat.zero_le _, Nat.zero_le _⟩ hl.1 (Nat.le_of_ble_eq_true rfl) dX8_move_2 (fun r_2 M_1 H locs h hW => ?_)
  refine lv_if_eq (tgt := 15) hx hb dX8_move_5 (by decide) (fun c_3 => ?_) (fun c_3 => ?_)
  · have h := h.1 c_3
    refine lv_iconst (v := (-1)) hx hb dX8_move_15 (by decide) ?_
    exact pd_iret C hA hW h dX8_move_16
  · have h := h.2 c_3
    refine lv_iload_n hx hb dX8_move_8 rfl (lv_at hl 2 rfl) ?_
    refine cl_X8_57 C hW h ⟨by decide, by decide⟩ ⟨Nat.zero_le _, Nat.zero_le _⟩ hl.1 (Nat.le_of_ble_eq_true rfl) dX8_move_9 (fun r_5 M_4 H locs h hW => ?_)
    refine lv_if_ne (tgt := 17) hx hb dX8_move_12 (by decide) (fun c_6 => ?_) (fun c_6 => ?_)
    · have h := h.1 c_6
      refine lv_aload_n hx hb dX8_move_17 rfl (lv_at hl 0 rfl) ?_
      refine gf_X8_19 C hW dX8_move_18 ?_
      refine gf_X8_72 C hW dX8_move_21 ?_
      refine lv_iload_n hx hb dX8_move_24 rfl (lv_at hl 1 rfl) ?_
      have hi_7 := h.1
      have h := h.2
      refine pd_iald C hW kd_9 hi_7 dX8_move_25 ?_
      refine lv_topi (fun x3_8 ex3_8 => ?_)
      have h := h x3_8 ex3_8
      refine lv_istore_n (lv' := [(3, .int x3_8), (0, .ref (g.1 0)), (1, .int a1), (2, .int a2)]) hx hb dX8_move_26 rfl hl (by decide) rfl (fun ls hl => ?_)
      refine lv_aload_n hx hb dX8_move_27 rfl (lv_at hl 1 rfl) ?_
      refine gf_X8_19 C hW dX8_move_28 ?_
      refine gf_X8_72 C hW dX8_move_31 ?_
      refine lv_iload_n hx hb dX8_move_34 rfl (lv_at hl 2 rfl) ?_
      refine lv_iload_n hx hb dX8_move_35 rfl (lv_at hl 3 rfl) ?_
      have hi_9 := h.1
      have h := h.2
      refine pd_iast C hW kd_9 hi_9 dX8_move_36 (fun M_10 H locs eM_10 hW => ?_)
      have h := h M_10 eM_10
      refine lv_iload_n hx hb dX8_move_37 rfl (lv_at hl 0 rfl) ?_
      exact pd_iret C hA hW h dX8_move_38
    · have h := h.2 c_6
      refine lv_iconst (v := (-1)) hx hb dX8_move_15 (by decide) ?_
      exact pd_iret C hA hW h dX8_move_16

theorem dd_X8_move : yX8_move.cls ≠ "java/lang/invoke/MethodHandle" ∧ yX8_move.cls ≠ "java/lang/invoke/VarHandle" ∧ (parseMethodDescriptor yX8_move.desc).map (fun d => d.parameters.length) = some 2 := by decide +kernel
theorem cl_L_18 {p : Program} {l : Launch} {e : Env} {R : Room} {s : State} {m : MethodId} {args : Array Value} {below : List Frame} {meth : Method} {c : Code} {H : Heap} {locs : List Loc} {cells slots : Nat} {QQ : State → Prop} {cc : ByteArray} {pc : Nat} {ls : Array Slot} {rest : List Value} {D : va_G} {g : pd_G} {t : Nat} {M : pd_M} {X : va_W} {A : Nat → Prop} {nL : Nat} {ret : Option FieldType} {Qc : Int32 → pd_M → Prop} {a1 : Int32} {a2 : Int32} (C : pd_C p m c cc nL s args RL meth ret) (hW : pd_W D g t M X A s H locs) (h : wX8_move Qc a1 a2 M) (hR : rX8_move.frames + 1 ≤ R.frames ∧ 8 + (4 + 11) + rX8_move.locals ≤ R.locals) (hcs : cells ≤ R.cells ∧ slots ≤ R.slots) (hls : ls.size = nL) (hw8 : (rest.map fun v => v.category).sum ≤ 8) (hdg : decode cc pc = .ok (.invokevirtual 18, 3))
    (kk : ∀ (r : Int32) (M1 : pd_M) (H1 : Heap) (locs1 : List Loc), Qc r M1 → pd_W D g t M1 X A s H1 locs1 → W p l e R s m args below meth c H1 locs1 cells slots QQ (F0 m (pc + 3) ls (.int r :: rest))) : W p l e R s m args below meth c H locs cells slots QQ (F0 m pc ls (.int a2 :: .int a1 :: .ref (g.1 0) :: rest)) :=
  pd_callVi (As := [.int a1, .int a2]) C hW (mX8_move h) kd_0 rfl mM_L_18 mO_yX8_move mV_yX8_move mI_X8 mC_yX8_move dd_X8_move ⟨rfl, rfl⟩ hR hcs hls rfl hw8 hdg kk
abbrev rX8_walk : Room := { frames := 2, cells := 0, slots := 0, locals := 42 }
def wX8_walk (Q : Int32 → pd_M → Prop) (a1 : Int32) (a2 : Int32) (a3 : Int32) (M : pd_M) : Prop := wX8_isStreet (fun r_2 M_1 => ((r_2 = 0 → Q (-1) M_1) ∧ (¬ r_2 = 0 → wX8_isStreet (fun r_5 M_4 => ((r_5 = 0 → Q (-1) M_4) ∧ (¬ r_5 = 0 → ((a1 = a2 → Q (-1) M_4) ∧ (¬ a1 = a2 → wX8_isUpTo (fun r_9 M_8 => ((¬ r_9 = 0 → (vp_in a1 5 ∧ (vp_in a2 5 ∧ ∀ x4_13 : Int32, x4_13 = (M_8.1 (18 + a1.toNatClampNeg) a2.toNatClampNeg) → (vp_in a1 5 ∧ (vp_in a2 5 ∧ ∀ M_16 : pd_M, M_16 = sI M_8 (18 + a1.toNatClampNeg) a2.toNatClampNeg a3 → (vp_in a2 5 ∧ (vp_in a1 5 ∧ ∀ M_19 : pd_M, M_19 = sI M_16 (18 + a2.toNatClampNeg) a1.toNatClampNeg a3 → Q x4_13 M_19))))))) ∧ (r_9 = 0 → Q (-1) M_8))) a3 50 M_4))))) a2 M_1))) a1 M

set_option maxRecDepth 100000 in
set_option maxHeartbeats 4000000 in
theorem mX8_walk {l : Launch} {D : va_G} {g : pd_G} {t : Nat} {X : va_W} {Q : Int32 → pd_M → Prop} {a1 : Int32} {a2 : Int32} {a3 : Int32} {M : pd_M} {sz : Nat} (h : wX8_walk Q a1 a2 a3 M) : Met l yX8_walk (Cond.code yX8_walk cX8_walk 5 (Option.some FieldType.int) :: TB) rX8_walk (pd_Pre D g t M X sz [.ref (g.1 0), .int a1, .int a2, .int a3]) (pd_Qi D g M X sz Q) 0 0 (va_A (pd_WL g M ++ X) sz) := by
  refine pd_met (by decide) (Nat.le_of_ble_eq_true rfl) ?_
  intro p e s m below meth c A ls C hA hW hl
  have C : pd_C p m c cX8_walk 5 s _ RX8 meth (Option.some FieldType.int) := C
  have hx := C.1.1
  have hb := C.1.2.1
  have hown := C.1.2.2.2.1
  have hts := C.1.2.2.2.2
  have hl : lv_has ls 5 [(0, .ref (g.1 0)), (1, .int a1), (2, .int a2), (3, .int a3)] := hl
  refine lv_aload_n hx hb dX8_walk_0 rfl (lv_at hl 0 rfl) ?_
  refine lv_iload_n hx hb dX8_walk_1 rfl (lv_at hl 1 rfl) ?_
  refine cl_X8_69 C hW h ⟨by decide, by decide⟩ ⟨Nat.zero_le _, Nat.zero_le _⟩ hl.1 (Nat.le_of_ble_eq_true rfl) dX8_walk_2 (fun r_2 M_1 H locs h hW => ?_)
  refine lv_if_eq (tgt := 30) hx hb dX8_walk_5 (by decide) (fun c_3 => ?_) (fun c_3 => ?_)
  · have h := h.1 c_3
    refine lv_iconst (v := (-1)) hx hb dX8_walk_30 (by decide) ?_
    exact pd_iret C hA hW h dX8_walk_31
  · have h := h.2 c_3
    refine lv_aload_n hx hb dX8_walk_8 rfl (lv_at hl 0 rfl) ?_
    refine lv_iload_n hx hb dX8_walk_9 rfl (lv_at hl 2 rfl) ?_
    refine cl_X8_69 C hW h ⟨by decide, by decide⟩ ⟨Nat.zero_le _, Nat.zero_le _⟩ hl.1 (Nat.le_of_ble_eq_true rfl) dX8_walk_10 (fun r_5 M_4 H locs h hW => ?_)
    refine lv_if_eq (tgt := 30) hx hb dX8_walk_13 (by decide) (fun c_6 => ?_) (fun c_6 => ?_)
    · have h := h.1 c_6
      refine lv_iconst (v := (-1)) hx hb dX8_walk_30 (by decide) ?_
      exact pd_iret C hA hW h dX8_walk_31
    · have h := h.2 c_6
      refine lv_iload_n hx hb dX8_walk_16 rfl (lv_at hl 1 rfl) ?_
      refine lv_iload_n hx hb dX8_walk_17 rfl (lv_at hl 2 rfl) ?_
      refine lv_icmp_eq (tgt := 30) hx hb dX8_walk_18 (by decide) (fun c_7 => ?_) (fun c_7 => ?_)
      · have h := h.1 c_7
        refine lv_iconst (v := (-1)) hx hb dX8_walk_30 (by decide) ?_
        exact pd_iret C hA hW h dX8_walk_31
      · have h := h.2 c_7
        refine lv_iload_n hx hb dX8_walk_21 rfl (lv_at hl 3 rfl) ?_
        refine lv_bipush (v := 50) hx hb dX8_walk_22 (by decide) ?_
        refine cl_X8_61 C hW h ⟨by decide, by decide⟩ ⟨Nat.zero_le _, Nat.zero_le _⟩ hl.1 (Nat.le_of_ble_eq_true rfl) dX8_walk_24 (fun r_9 M_8 H locs h hW => ?_)
        refine lv_if_ne (tgt := 32) hx hb dX8_walk_27 (by decide) (fun c_10 => ?_) (fun c_10 => ?_)
        · have h := h.1 c_10
          refine lv_aload_n hx hb dX8_walk_32 rfl (lv_at hl 0 rfl) ?_
          refine gf_X8_19 C hW dX8_walk_33 ?_
          refine gf_X8_76 C hW dX8_walk_36 ?_
          refine lv_iload_n hx hb dX8_walk_39 rfl (lv_at hl 1 rfl) ?_
          have hi_11 := h.1
          have h := h.2
          refine pd_aald C hW kd_17 hi_11 dX8_walk_40 ?_
          refine lv_iload_n hx hb dX8_walk_41 rfl (lv_at hl 2 rfl) ?_
          have hi_12 := h.1
          have h := h.2
          refine pd_iald C hW (pd_k18 _ (pd_lt hi_11)) hi_12 dX8_walk_42 ?_
          refine lv_topi (fun x4_13 ex4_13 => ?_)
          have h := h x4_13 ex4_13
          refine lv_istore (lv' := [(4, .int x4_13), (0, .ref (g.1 0)), (1, .int a1), (2, .int a2), (3, .int a3)]) hx hb dX8_walk_43 hl (by decide) rfl (fun ls hl => ?_)
          refine lv_aload_n hx hb dX8_walk_45 rfl (lv_at hl 1 rfl) ?_
          refine gf_X8_19 C hW dX8_walk_46 ?_
          refine gf_X8_76 C hW dX8_walk_49 ?_
          refine lv_iload_n hx hb dX8_walk_52 rfl (lv_at hl 2 rfl) ?_
          have hi_14 := h.1
          have h := h.2
          refine pd_aald C hW kd_17 hi_14 dX8_walk_53 ?_
          refine lv_iload_n hx hb dX8_walk_54 rfl (lv_at hl 3 rfl) ?_
          refine lv_iload_n hx hb dX8_walk_55 rfl (lv_at hl 4 rfl) ?_
          have hi_15 := h.1
          have h := h.2
          refine pd_iast C hW (pd_k18 _ (pd_lt hi_14)) hi_15 dX8_walk_56 (fun M_16 H locs eM_16 hW => ?_)
          have h := h M_16 eM_16
          refine lv_aload_n hx hb dX8_walk_57 rfl (lv_at hl 1 rfl) ?_
          refine gf_X8_19 C hW dX8_walk_58 ?_
          refine gf_X8_76 C hW dX8_walk_61 ?_
          refine lv_iload_n hx hb dX8_walk_64 rfl (lv_at hl 3 rfl) ?_
          have hi_17 := h.1
          have h := h.2
          refine pd_aald C hW kd_17 hi_17 dX8_walk_65 ?_
          refine lv_iload_n hx hb dX8_walk_66 rfl (lv_at hl 2 rfl) ?_
          refine lv_iload_n hx hb dX8_walk_67 rfl (lv_at hl 4 rfl) ?_
          have hi_18 := h.1
          have h := h.2
          refine pd_iast C hW (pd_k18 _ (pd_lt hi_17)) hi_18 dX8_walk_68 (fun M_19 H locs eM_19 hW => ?_)
          have h := h M_19 eM_19
          refine lv_iload hx hb dX8_walk_69 (lv_at hl 0 rfl) ?_
          exact pd_iret C hA hW h dX8_walk_71
        · have h := h.2 c_10
          refine lv_iconst (v := (-1)) hx hb dX8_walk_30 (by decide) ?_
          exact pd_iret C hA hW h dX8_walk_31

theorem dd_X8_walk : yX8_walk.cls ≠ "java/lang/invoke/MethodHandle" ∧ yX8_walk.cls ≠ "java/lang/invoke/VarHandle" ∧ (parseMethodDescriptor yX8_walk.desc).map (fun d => d.parameters.length) = some 3 := by decide +kernel
theorem cl_L_22 {p : Program} {l : Launch} {e : Env} {R : Room} {s : State} {m : MethodId} {args : Array Value} {below : List Frame} {meth : Method} {c : Code} {H : Heap} {locs : List Loc} {cells slots : Nat} {QQ : State → Prop} {cc : ByteArray} {pc : Nat} {ls : Array Slot} {rest : List Value} {D : va_G} {g : pd_G} {t : Nat} {M : pd_M} {X : va_W} {A : Nat → Prop} {nL : Nat} {ret : Option FieldType} {Qc : Int32 → pd_M → Prop} {a1 : Int32} {a2 : Int32} {a3 : Int32} (C : pd_C p m c cc nL s args RL meth ret) (hW : pd_W D g t M X A s H locs) (h : wX8_walk Qc a1 a2 a3 M) (hR : rX8_walk.frames + 1 ≤ R.frames ∧ 8 + (5 + 11) + rX8_walk.locals ≤ R.locals) (hcs : cells ≤ R.cells ∧ slots ≤ R.slots) (hls : ls.size = nL) (hw8 : (rest.map fun v => v.category).sum ≤ 8) (hdg : decode cc pc = .ok (.invokevirtual 22, 3))
    (kk : ∀ (r : Int32) (M1 : pd_M) (H1 : Heap) (locs1 : List Loc), Qc r M1 → pd_W D g t M1 X A s H1 locs1 → W p l e R s m args below meth c H1 locs1 cells slots QQ (F0 m (pc + 3) ls (.int r :: rest))) : W p l e R s m args below meth c H locs cells slots QQ (F0 m pc ls (.int a3 :: .int a2 :: .int a1 :: .ref (g.1 0) :: rest)) :=
  pd_callVi (As := [.int a1, .int a2, .int a3]) C hW (mX8_walk h) kd_0 rfl mM_L_22 mO_yX8_walk mV_yX8_walk mI_X8 mC_yX8_walk dd_X8_walk ⟨rfl, rfl⟩ hR hcs hls rfl hw8 hdg kk
abbrev rX8_close : Room := { frames := 2, cells := 0, slots := 0, locals := 42 }
def wX8_close (Q : Int32 → pd_M → Prop) (a1 : Int32) (a2 : Int32) (a3 : Int32) (M : pd_M) : Prop := wX8_isStreet (fun r_2 M_1 => ((r_2 = 0 → Q (-1) M_1) ∧ (¬ r_2 = 0 → wX8_isNight (fun r_5 M_4 => ((r_5 = 0 → Q (-1) M_4) ∧ (¬ r_5 = 0 → (vp_in a1 5 ∧ wX8_isUpTo (fun r_9 M_8 => ((¬ r_9 = 0 → (vp_in a1 5 ∧ (vp_in a2 7 ∧ ∀ x4_13 : Int32, x4_13 = (M_8.1 (12 + a1.toNatClampNeg) a2.toNatClampNeg) → (vp_in a1 5 ∧ (vp_in a2 7 ∧ ∀ M_16 : pd_M, M_16 = sI M_8 (12 + a1.toNatClampNeg) a2.toNatClampNeg a3 → Q x4_13 M_16))))) ∧ (r_9 = 0 → Q (-1) M_8))) a3 (M_4.1 10 a1.toNatClampNeg) M_4)))) a2 M_1))) a1 M

set_option maxRecDepth 100000 in
set_option maxHeartbeats 4000000 in
theorem mX8_close {l : Launch} {D : va_G} {g : pd_G} {t : Nat} {X : va_W} {Q : Int32 → pd_M → Prop} {a1 : Int32} {a2 : Int32} {a3 : Int32} {M : pd_M} {sz : Nat} (h : wX8_close Q a1 a2 a3 M) : Met l yX8_close (Cond.code yX8_close cX8_close 5 (Option.some FieldType.int) :: TB) rX8_close (pd_Pre D g t M X sz [.ref (g.1 0), .int a1, .int a2, .int a3]) (pd_Qi D g M X sz Q) 0 0 (va_A (pd_WL g M ++ X) sz) := by
  refine pd_met (by decide) (Nat.le_of_ble_eq_true rfl) ?_
  intro p e s m below meth c A ls C hA hW hl
  have C : pd_C p m c cX8_close 5 s _ RX8 meth (Option.some FieldType.int) := C
  have hx := C.1.1
  have hb := C.1.2.1
  have hown := C.1.2.2.2.1
  have hts := C.1.2.2.2.2
  have hl : lv_has ls 5 [(0, .ref (g.1 0)), (1, .int a1), (2, .int a2), (3, .int a3)] := hl
  refine lv_aload_n hx hb dX8_close_0 rfl (lv_at hl 0 rfl) ?_
  refine lv_iload_n hx hb dX8_close_1 rfl (lv_at hl 1 rfl) ?_
  refine cl_X8_69 C hW h ⟨by decide, by decide⟩ ⟨Nat.zero_le _, Nat.zero_le _⟩ hl.1 (Nat.le_of_ble_eq_true rfl) dX8_close_2 (fun r_2 M_1 H locs h hW => ?_)
  refine lv_if_eq (tgt := 31) hx hb dX8_close_5 (by decide) (fun c_3 => ?_) (fun c_3 => ?_)
  · have h := h.1 c_3
    refine lv_iconst (v := (-1)) hx hb dX8_close_31 (by decide) ?_
    exact pd_iret C hA hW h dX8_close_32
  · have h := h.2 c_3
    refine lv_iload_n hx hb dX8_close_8 rfl (lv_at hl 2 rfl) ?_
    refine cl_X8_80 C hW h ⟨by decide, by decide⟩ ⟨Nat.zero_le _, Nat.zero_le _⟩ hl.1 (Nat.le_of_ble_eq_true rfl) dX8_close_9 (fun r_5 M_4 H locs h hW => ?_)
    refine lv_if_eq (tgt := 31) hx hb dX8_close_12 (by decide) (fun c_6 => ?_) (fun c_6 => ?_)
    · have h := h.1 c_6
      refine lv_iconst (v := (-1)) hx hb dX8_close_31 (by decide) ?_
      exact pd_iret C hA hW h dX8_close_32
    · have h := h.2 c_6
      refine lv_iload_n hx hb dX8_close_15 rfl (lv_at hl 3 rfl) ?_
      refine lv_aload_n hx hb dX8_close_16 rfl (lv_at hl 0 rfl) ?_
      refine gf_X8_19 C hW dX8_close_17 ?_
      refine gf_X8_83 C hW dX8_close_20 ?_
      refine lv_iload_n hx hb dX8_close_23 rfl (lv_at hl 1 rfl) ?_
      have hi_7 := h.1
      have h := h.2
      refine pd_iald C hW kd_10 hi_7 dX8_close_24 ?_
      refine cl_X8_61 C hW h ⟨by decide, by decide⟩ ⟨Nat.zero_le _, Nat.zero_le _⟩ hl.1 (Nat.le_of_ble_eq_true rfl) dX8_close_25 (fun r_9 M_8 H locs h hW => ?_)
      refine lv_if_ne (tgt := 33) hx hb dX8_close_28 (by decide) (fun c_10 => ?_) (fun c_10 => ?_)
      · have h := h.1 c_10
        refine lv_aload_n hx hb dX8_close_33 rfl (lv_at hl 0 rfl) ?_
        refine gf_X8_19 C hW dX8_close_34 ?_
        refine gf_X8_86 C hW dX8_close_37 ?_
        refine lv_iload_n hx hb dX8_close_40 rfl (lv_at hl 1 rfl) ?_
        have hi_11 := h.1
        have h := h.2
        refine pd_aald C hW kd_11 hi_11 dX8_close_41 ?_
        refine lv_iload_n hx hb dX8_close_42 rfl (lv_at hl 2 rfl) ?_
        have hi_12 := h.1
        have h := h.2
        refine pd_iald C hW (pd_k12 _ (pd_lt hi_11)) hi_12 dX8_close_43 ?_
        refine lv_topi (fun x4_13 ex4_13 => ?_)
        have h := h x4_13 ex4_13
        refine lv_istore (lv' := [(4, .int x4_13), (0, .ref (g.1 0)), (1, .int a1), (2, .int a2), (3, .int a3)]) hx hb dX8_close_44 hl (by decide) rfl (fun ls hl => ?_)
        refine lv_aload_n hx hb dX8_close_46 rfl (lv_at hl 1 rfl) ?_
        refine gf_X8_19 C hW dX8_close_47 ?_
        refine gf_X8_86 C hW dX8_close_50 ?_
        refine lv_iload_n hx hb dX8_close_53 rfl (lv_at hl 2 rfl) ?_
        have hi_14 := h.1
        have h := h.2
        refine pd_aald C hW kd_11 hi_14 dX8_close_54 ?_
        refine lv_iload_n hx hb dX8_close_55 rfl (lv_at hl 3 rfl) ?_
        refine lv_iload_n hx hb dX8_close_56 rfl (lv_at hl 4 rfl) ?_
        have hi_15 := h.1
        have h := h.2
        refine pd_iast C hW (pd_k12 _ (pd_lt hi_14)) hi_15 dX8_close_57 (fun M_16 H locs eM_16 hW => ?_)
        have h := h M_16 eM_16
        refine lv_iload hx hb dX8_close_58 (lv_at hl 0 rfl) ?_
        exact pd_iret C hA hW h dX8_close_60
      · have h := h.2 c_10
        refine lv_iconst (v := (-1)) hx hb dX8_close_31 (by decide) ?_
        exact pd_iret C hA hW h dX8_close_32

theorem dd_X8_close : yX8_close.cls ≠ "java/lang/invoke/MethodHandle" ∧ yX8_close.cls ≠ "java/lang/invoke/VarHandle" ∧ (parseMethodDescriptor yX8_close.desc).map (fun d => d.parameters.length) = some 3 := by decide +kernel
theorem cl_L_27 {p : Program} {l : Launch} {e : Env} {R : Room} {s : State} {m : MethodId} {args : Array Value} {below : List Frame} {meth : Method} {c : Code} {H : Heap} {locs : List Loc} {cells slots : Nat} {QQ : State → Prop} {cc : ByteArray} {pc : Nat} {ls : Array Slot} {rest : List Value} {D : va_G} {g : pd_G} {t : Nat} {M : pd_M} {X : va_W} {A : Nat → Prop} {nL : Nat} {ret : Option FieldType} {Qc : Int32 → pd_M → Prop} {a1 : Int32} {a2 : Int32} {a3 : Int32} (C : pd_C p m c cc nL s args RL meth ret) (hW : pd_W D g t M X A s H locs) (h : wX8_close Qc a1 a2 a3 M) (hR : rX8_close.frames + 1 ≤ R.frames ∧ 8 + (5 + 11) + rX8_close.locals ≤ R.locals) (hcs : cells ≤ R.cells ∧ slots ≤ R.slots) (hls : ls.size = nL) (hw8 : (rest.map fun v => v.category).sum ≤ 8) (hdg : decode cc pc = .ok (.invokevirtual 27, 3))
    (kk : ∀ (r : Int32) (M1 : pd_M) (H1 : Heap) (locs1 : List Loc), Qc r M1 → pd_W D g t M1 X A s H1 locs1 → W p l e R s m args below meth c H1 locs1 cells slots QQ (F0 m (pc + 3) ls (.int r :: rest))) : W p l e R s m args below meth c H locs cells slots QQ (F0 m pc ls (.int a3 :: .int a2 :: .int a1 :: .ref (g.1 0) :: rest)) :=
  pd_callVi (As := [.int a1, .int a2, .int a3]) C hW (mX8_close h) kd_0 rfl mM_L_27 mO_yX8_close mV_yX8_close mI_X8 mC_yX8_close dd_X8_close ⟨rfl, rfl⟩ hR hcs hls rfl hw8 hdg kk
abbrev rX8_rule : Room := { frames := 3, cells := 0, slots := 0, locals := 62 }
def wX8_rule (Q : Int32 → pd_M → Prop) (a1 : Int32) (a2 : Int32) (a3 : Int32) (M : pd_M) : Prop := wX8_isZone (fun r_2 M_1 => ((r_2 = 0 → Q (-1) M_1) ∧ (¬ r_2 = 0 → wX8_isSpan (fun r_5 M_4 => ((¬ r_5 = 0 → wX8_span (fun r_8 M_7 => (vp_in a1 4 ∧ ∀ M_10 : pd_M, M_10 = sI M_7 2 a1.toNatClampNeg r_8 → Q 1 M_10)) a2 a3 M_4) ∧ (r_5 = 0 → Q (-1) M_4))) a2 a3 M_1))) a1 M

set_option maxRecDepth 100000 in
set_option maxHeartbeats 4000000 in
theorem mX8_rule {l : Launch} {D : va_G} {g : pd_G} {t : Nat} {X : va_W} {Q : Int32 → pd_M → Prop} {a1 : Int32} {a2 : Int32} {a3 : Int32} {M : pd_M} {sz : Nat} (h : wX8_rule Q a1 a2 a3 M) : Met l yX8_rule (Cond.code yX8_rule cX8_rule 4 (Option.some FieldType.int) :: TB) rX8_rule (pd_Pre D g t M X sz [.ref (g.1 0), .int a1, .int a2, .int a3]) (pd_Qi D g M X sz Q) 0 0 (va_A (pd_WL g M ++ X) sz) := by
  refine pd_met (by decide) (Nat.le_of_ble_eq_true rfl) ?_
  intro p e s m below meth c A ls C hA hW hl
  have C : pd_C p m c cX8_rule 4 s _ RX8 meth (Option.some FieldType.int) := C
  have hx := C.1.1
  have hb := C.1.2.1
  have hown := C.1.2.2.2.1
  have hts := C.1.2.2.2.2
  have hl : lv_has ls 4 [(0, .ref (g.1 0)), (1, .int a1), (2, .int a2), (3, .int a3)] := hl
  refine lv_iload_n hx hb dX8_rule_0 rfl (lv_at hl 1 rfl) ?_
  refine cl_X8_57 C hW h ⟨by decide, by decide⟩ ⟨Nat.zero_le _, Nat.zero_le _⟩ hl.1 (Nat.le_of_ble_eq_true rfl) dX8_rule_1 (fun r_2 M_1 H locs h hW => ?_)
  refine lv_if_eq (tgt := 15) hx hb dX8_rule_4 (by decide) (fun c_3 => ?_) (fun c_3 => ?_)
  · have h := h.1 c_3
    refine lv_iconst (v := (-1)) hx hb dX8_rule_15 (by decide) ?_
    exact pd_iret C hA hW h dX8_rule_16
  · have h := h.2 c_3
    refine lv_iload_n hx hb dX8_rule_7 rfl (lv_at hl 2 rfl) ?_
    refine lv_iload_n hx hb dX8_rule_8 rfl (lv_at hl 3 rfl) ?_
    refine cl_X8_89 C hW h ⟨by decide, by decide⟩ ⟨Nat.zero_le _, Nat.zero_le _⟩ hl.1 (Nat.le_of_ble_eq_true rfl) dX8_rule_9 (fun r_5 M_4 H locs h hW => ?_)
    refine lv_if_ne (tgt := 17) hx hb dX8_rule_12 (by decide) (fun c_6 => ?_) (fun c_6 => ?_)
    · have h := h.1 c_6
      refine lv_aload_n hx hb dX8_rule_17 rfl (lv_at hl 0 rfl) ?_
      refine gf_X8_12 C hW dX8_rule_18 ?_
      refine gf_X8_92 C hW dX8_rule_21 ?_
      refine lv_iload_n hx hb dX8_rule_24 rfl (lv_at hl 1 rfl) ?_
      refine lv_iload_n hx hb dX8_rule_25 rfl (lv_at hl 2 rfl) ?_
      refine lv_iload_n hx hb dX8_rule_26 rfl (lv_at hl 3 rfl) ?_
      refine cl_X8_95 C hW h ⟨by decide, by decide⟩ ⟨Nat.zero_le _, Nat.zero_le _⟩ hl.1 (Nat.le_of_ble_eq_true rfl) dX8_rule_27 (fun r_8 M_7 H locs h hW => ?_)
      have hi_9 := h.1
      have h := h.2
      refine pd_iast C hW kd_2 hi_9 dX8_rule_30 (fun M_10 H locs eM_10 hW => ?_)
      have h := h M_10 eM_10
      refine lv_iconst (v := 1) hx hb dX8_rule_31 (by decide) ?_
      exact pd_iret C hA hW h dX8_rule_32
    · have h := h.2 c_6
      refine lv_iconst (v := (-1)) hx hb dX8_rule_15 (by decide) ?_
      exact pd_iret C hA hW h dX8_rule_16

theorem dd_X8_rule : yX8_rule.cls ≠ "java/lang/invoke/MethodHandle" ∧ yX8_rule.cls ≠ "java/lang/invoke/VarHandle" ∧ (parseMethodDescriptor yX8_rule.desc).map (fun d => d.parameters.length) = some 3 := by decide +kernel
theorem cl_L_31 {p : Program} {l : Launch} {e : Env} {R : Room} {s : State} {m : MethodId} {args : Array Value} {below : List Frame} {meth : Method} {c : Code} {H : Heap} {locs : List Loc} {cells slots : Nat} {QQ : State → Prop} {cc : ByteArray} {pc : Nat} {ls : Array Slot} {rest : List Value} {D : va_G} {g : pd_G} {t : Nat} {M : pd_M} {X : va_W} {A : Nat → Prop} {nL : Nat} {ret : Option FieldType} {Qc : Int32 → pd_M → Prop} {a1 : Int32} {a2 : Int32} {a3 : Int32} (C : pd_C p m c cc nL s args RL meth ret) (hW : pd_W D g t M X A s H locs) (h : wX8_rule Qc a1 a2 a3 M) (hR : rX8_rule.frames + 1 ≤ R.frames ∧ 8 + (4 + 11) + rX8_rule.locals ≤ R.locals) (hcs : cells ≤ R.cells ∧ slots ≤ R.slots) (hls : ls.size = nL) (hw8 : (rest.map fun v => v.category).sum ≤ 8) (hdg : decode cc pc = .ok (.invokevirtual 31, 3))
    (kk : ∀ (r : Int32) (M1 : pd_M) (H1 : Heap) (locs1 : List Loc), Qc r M1 → pd_W D g t M1 X A s H1 locs1 → W p l e R s m args below meth c H1 locs1 cells slots QQ (F0 m (pc + 3) ls (.int r :: rest))) : W p l e R s m args below meth c H locs cells slots QQ (F0 m pc ls (.int a3 :: .int a2 :: .int a1 :: .ref (g.1 0) :: rest)) :=
  pd_callVi (As := [.int a1, .int a2, .int a3]) C hW (mX8_rule h) kd_0 rfl mM_L_31 mO_yX8_rule mV_yX8_rule mI_X8 mC_yX8_rule dd_X8_rule ⟨rfl, rfl⟩ hR hcs hls rfl hw8 hdg kk
abbrev rX8_hours : Room := { frames := 3, cells := 0, slots := 0, locals := 62 }
def wX8_hours (Q : Int32 → pd_M → Prop) (a1 : Int32) (a2 : Int32) (a3 : Int32) (a4 : Int32) (M : pd_M) : Prop := wX8_isZone (fun r_2 M_1 => ((r_2 = 0 → Q (-1) M_1) ∧ (¬ r_2 = 0 → wX8_isSpan (fun r_5 M_4 => ((r_5 = 0 → Q (-1) M_4) ∧ (¬ r_5 = 0 → wX8_isSort (fun r_8 M_7 => ((¬ r_8 = 0 → (vp_in a1 4 ∧ wX8_span (fun r_12 M_11 => (vp_in a2 3 ∧ ∀ M_14 : pd_M, M_14 = sI M_11 (4 + a1.toNatClampNeg) a2.toNatClampNeg r_12 → Q 1 M_14)) a3 a4 M_7)) ∧ (r_8 = 0 → Q (-1) M_7))) a2 M_4))) a3 a4 M_1))) a1 M

set_option maxRecDepth 100000 in
set_option maxHeartbeats 4000000 in
theorem mX8_hours {l : Launch} {D : va_G} {g : pd_G} {t : Nat} {X : va_W} {Q : Int32 → pd_M → Prop} {a1 : Int32} {a2 : Int32} {a3 : Int32} {a4 : Int32} {M : pd_M} {sz : Nat} (h : wX8_hours Q a1 a2 a3 a4 M) : Met l yX8_hours (Cond.code yX8_hours cX8_hours 5 (Option.some FieldType.int) :: TB) rX8_hours (pd_Pre D g t M X sz [.ref (g.1 0), .int a1, .int a2, .int a3, .int a4]) (pd_Qi D g M X sz Q) 0 0 (va_A (pd_WL g M ++ X) sz) := by
  refine pd_met (by decide) (Nat.le_of_ble_eq_true rfl) ?_
  intro p e s m below meth c A ls C hA hW hl
  have C : pd_C p m c cX8_hours 5 s _ RX8 meth (Option.some FieldType.int) := C
  have hx := C.1.1
  have hb := C.1.2.1
  have hown := C.1.2.2.2.1
  have hts := C.1.2.2.2.2
  have hl : lv_has ls 5 [(0, .ref (g.1 0)), (1, .int a1), (2, .int a2), (3, .int a3), (4, .int a4)] := hl
  refine lv_iload_n hx hb dX8_hours_0 rfl (lv_at hl 1 rfl) ?_
  refine cl_X8_57 C hW h ⟨by decide, by decide⟩ ⟨Nat.zero_le _, Nat.zero_le _⟩ hl.1 (Nat.le_of_ble_eq_true rfl) dX8_hours_1 (fun r_2 M_1 H locs h hW => ?_)
  refine lv_if_eq (tgt := 23) hx hb dX8_hours_4 (by decide) (fun c_3 => ?_) (fun c_3 => ?_)
  · have h := h.1 c_3
    refine lv_iconst (v := (-1)) hx hb dX8_hours_23 (by decide) ?_
    exact pd_iret C hA hW h dX8_hours_24
  · have h := h.2 c_3
    refine lv_iload_n hx hb dX8_hours_7 rfl (lv_at hl 3 rfl) ?_
    refine lv_iload hx hb dX8_hours_8 (lv_at hl 4 rfl) ?_
    refine cl_X8_89 C hW h ⟨by decide, by decide⟩ ⟨Nat.zero_le _, Nat.zero_le _⟩ hl.1 (Nat.le_of_ble_eq_true rfl) dX8_hours_10 (fun r_5 M_4 H locs h hW => ?_)
    refine lv_if_eq (tgt := 23) hx hb dX8_hours_13 (by decide) (fun c_6 => ?_) (fun c_6 => ?_)
    · have h := h.1 c_6
      refine lv_iconst (v := (-1)) hx hb dX8_hours_23 (by decide) ?_
      exact pd_iret C hA hW h dX8_hours_24
    · have h := h.2 c_6
      refine lv_iload_n hx hb dX8_hours_16 rfl (lv_at hl 2 rfl) ?_
      refine cl_X8_98 C hW h ⟨by decide, by decide⟩ ⟨Nat.zero_le _, Nat.zero_le _⟩ hl.1 (Nat.le_of_ble_eq_true rfl) dX8_hours_17 (fun r_8 M_7 H locs h hW => ?_)
      refine lv_if_ne (tgt := 25) hx hb dX8_hours_20 (by decide) (fun c_9 => ?_) (fun c_9 => ?_)
      · have h := h.1 c_9
        refine lv_aload_n hx hb dX8_hours_25 rfl (lv_at hl 0 rfl) ?_
        refine gf_X8_12 C hW dX8_hours_26 ?_
        refine gf_X8_101 C hW dX8_hours_29 ?_
        refine lv_iload_n hx hb dX8_hours_32 rfl (lv_at hl 1 rfl) ?_
        have hi_10 := h.1
        have h := h.2
        refine pd_aald C hW kd_3 hi_10 dX8_hours_33 ?_
        refine lv_iload_n hx hb dX8_hours_34 rfl (lv_at hl 2 rfl) ?_
        refine lv_iload_n hx hb dX8_hours_35 rfl (lv_at hl 3 rfl) ?_
        refine lv_iload hx hb dX8_hours_36 (lv_at hl 4 rfl) ?_
        refine cl_X8_95 C hW h ⟨by decide, by decide⟩ ⟨Nat.zero_le _, Nat.zero_le _⟩ hl.1 (Nat.le_of_ble_eq_true rfl) dX8_hours_38 (fun r_12 M_11 H locs h hW => ?_)
        have hi_13 := h.1
        have h := h.2
        refine pd_iast C hW (pd_k4 _ (pd_lt hi_10)) hi_13 dX8_hours_41 (fun M_14 H locs eM_14 hW => ?_)
        have h := h M_14 eM_14
        refine lv_iconst (v := 1) hx hb dX8_hours_42 (by decide) ?_
        exact pd_iret C hA hW h dX8_hours_43
      · have h := h.2 c_9
        refine lv_iconst (v := (-1)) hx hb dX8_hours_23 (by decide) ?_
        exact pd_iret C hA hW h dX8_hours_24

theorem dd_X8_hours : yX8_hours.cls ≠ "java/lang/invoke/MethodHandle" ∧ yX8_hours.cls ≠ "java/lang/invoke/VarHandle" ∧ (parseMethodDescriptor yX8_hours.desc).map (fun d => d.parameters.length) = some 4 := by decide +kernel
theorem cl_L_35 {p : Program} {l : Launch} {e : Env} {R : Room} {s : State} {m : MethodId} {args : Array Value} {below : List Frame} {meth : Method} {c : Code} {H : Heap} {locs : List Loc} {cells slots : Nat} {QQ : State → Prop} {cc : ByteArray} {pc : Nat} {ls : Array Slot} {rest : List Value} {D : va_G} {g : pd_G} {t : Nat} {M : pd_M} {X : va_W} {A : Nat → Prop} {nL : Nat} {ret : Option FieldType} {Qc : Int32 → pd_M → Prop} {a1 : Int32} {a2 : Int32} {a3 : Int32} {a4 : Int32} (C : pd_C p m c cc nL s args RL meth ret) (hW : pd_W D g t M X A s H locs) (h : wX8_hours Qc a1 a2 a3 a4 M) (hR : rX8_hours.frames + 1 ≤ R.frames ∧ 8 + (5 + 11) + rX8_hours.locals ≤ R.locals) (hcs : cells ≤ R.cells ∧ slots ≤ R.slots) (hls : ls.size = nL) (hw8 : (rest.map fun v => v.category).sum ≤ 8) (hdg : decode cc pc = .ok (.invokevirtual 35, 3))
    (kk : ∀ (r : Int32) (M1 : pd_M) (H1 : Heap) (locs1 : List Loc), Qc r M1 → pd_W D g t M1 X A s H1 locs1 → W p l e R s m args below meth c H1 locs1 cells slots QQ (F0 m (pc + 3) ls (.int r :: rest))) : W p l e R s m args below meth c H locs cells slots QQ (F0 m pc ls (.int a4 :: .int a3 :: .int a2 :: .int a1 :: .ref (g.1 0) :: rest)) :=
  pd_callVi (As := [.int a1, .int a2, .int a3, .int a4]) C hW (mX8_hours h) kd_0 rfl mM_L_35 mO_yX8_hours mV_yX8_hours mI_X8 mC_yX8_hours dd_X8_hours ⟨rfl, rfl⟩ hR hcs hls rfl hw8 hdg kk
abbrev rX8_car : Room := { frames := 2, cells := 0, slots := 0, locals := 42 }
def wX8_car (Q : Int32 → pd_M → Prop) (a1 : Int32) (M : pd_M) : Prop := wX8_isStreet (fun r_2 M_1 => ((r_2 = 0 → Q (-1) M_1) ∧ (¬ r_2 = 0 → wX0_add (fun r_5 M_4 => Q r_5 M_4) a1 M_1))) a1 M

set_option maxRecDepth 100000 in
set_option maxHeartbeats 4000000 in
theorem mX8_car {l : Launch} {D : va_G} {g : pd_G} {t : Nat} {X : va_W} {Q : Int32 → pd_M → Prop} {a1 : Int32} {M : pd_M} {sz : Nat} (h : wX8_car Q a1 M) : Met l yX8_car (Cond.code yX8_car cX8_car 2 (Option.some FieldType.int) :: TB) rX8_car (pd_Pre D g t M X sz [.ref (g.1 0), .int a1]) (pd_Qi D g M X sz Q) 0 0 (va_A (pd_WL g M ++ X) sz) := by
  refine pd_met (by decide) (Nat.le_of_ble_eq_true rfl) ?_
  intro p e s m below meth c A ls C hA hW hl
  have C : pd_C p m c cX8_car 2 s _ RX8 meth (Option.some FieldType.int) := C
  have hx := C.1.1
  have hb := C.1.2.1
  have hown := C.1.2.2.2.1
  have hts := C.1.2.2.2.2
  have hl : lv_has ls 2 [(0, .ref (g.1 0)), (1, .int a1)] := hl
  refine lv_aload_n hx hb dX8_car_0 rfl (lv_at hl 0 rfl) ?_
  refine lv_iload_n hx hb dX8_car_1 rfl (lv_at hl 1 rfl) ?_
  refine cl_X8_69 C hW h ⟨by decide, by decide⟩ ⟨Nat.zero_le _, Nat.zero_le _⟩ hl.1 (Nat.le_of_ble_eq_true rfl) dX8_car_2 (fun r_2 M_1 H locs h hW => ?_)
  refine lv_if_eq (tgt := 19) hx hb dX8_car_5 (by decide) (fun c_3 => ?_) (fun c_3 => ?_)
  · have h := h.1 c_3
    refine lv_iconst (v := (-1)) hx hb dX8_car_19 (by decide) ?_
    exact pd_iret C hA hW h dX8_car_20
  · have h := h.2 c_3
    refine lv_aload_n hx hb dX8_car_8 rfl (lv_at hl 0 rfl) ?_
    refine gf_X8_28 C hW dX8_car_9 ?_
    refine lv_iload_n hx hb dX8_car_12 rfl (lv_at hl 1 rfl) ?_
    refine cl_X8_104 C hW h ⟨by decide, by decide⟩ ⟨Nat.zero_le _, Nat.zero_le _⟩ hl.1 (Nat.le_of_ble_eq_true rfl) dX8_car_13 (fun r_5 M_4 H locs h hW => ?_)
    refine lv_goto (tgt := 20) hx hb dX8_car_16 (by decide) ?_
    exact pd_iret C hA hW h dX8_car_20

theorem dd_X8_car : yX8_car.cls ≠ "java/lang/invoke/MethodHandle" ∧ yX8_car.cls ≠ "java/lang/invoke/VarHandle" ∧ (parseMethodDescriptor yX8_car.desc).map (fun d => d.parameters.length) = some 1 := by decide +kernel
theorem cl_L_40 {p : Program} {l : Launch} {e : Env} {R : Room} {s : State} {m : MethodId} {args : Array Value} {below : List Frame} {meth : Method} {c : Code} {H : Heap} {locs : List Loc} {cells slots : Nat} {QQ : State → Prop} {cc : ByteArray} {pc : Nat} {ls : Array Slot} {rest : List Value} {D : va_G} {g : pd_G} {t : Nat} {M : pd_M} {X : va_W} {A : Nat → Prop} {nL : Nat} {ret : Option FieldType} {Qc : Int32 → pd_M → Prop} {a1 : Int32} (C : pd_C p m c cc nL s args RL meth ret) (hW : pd_W D g t M X A s H locs) (h : wX8_car Qc a1 M) (hR : rX8_car.frames + 1 ≤ R.frames ∧ 8 + (2 + 11) + rX8_car.locals ≤ R.locals) (hcs : cells ≤ R.cells ∧ slots ≤ R.slots) (hls : ls.size = nL) (hw8 : (rest.map fun v => v.category).sum ≤ 8) (hdg : decode cc pc = .ok (.invokevirtual 40, 3))
    (kk : ∀ (r : Int32) (M1 : pd_M) (H1 : Heap) (locs1 : List Loc), Qc r M1 → pd_W D g t M1 X A s H1 locs1 → W p l e R s m args below meth c H1 locs1 cells slots QQ (F0 m (pc + 3) ls (.int r :: rest))) : W p l e R s m args below meth c H locs cells slots QQ (F0 m pc ls (.int a1 :: .ref (g.1 0) :: rest)) :=
  pd_callVi (As := [.int a1]) C hW (mX8_car h) kd_0 rfl mM_L_40 mO_yX8_car mV_yX8_car mI_X8 mC_yX8_car dd_X8_car ⟨rfl, rfl⟩ hR hcs hls rfl hw8 hdg kk
abbrev rX8_permit : Room := { frames := 3, cells := 0, slots := 0, locals := 68 }
def wX8_permit (Q : Int32 → pd_M → Prop) (a1 : Int32) (a2 : Int32) (a3 : Int32) (a4 : Int32) (M : pd_M) : Prop := wX8_isCar (fun r_2 M_1 => ((r_2 = 0 → Q (-1) M_1) ∧ (¬ r_2 = 0 → wX8_isSort (fun r_5 M_4 => ((r_5 = 0 → Q (-1) M_4) ∧ (¬ r_5 = 0 → wX8_isZone (fun r_8 M_7 => ((¬ r_8 = 0 → wX0_setPermit (fun r_11 M_10 => ((r_11 = 0 → Q 0 M_10) ∧ (¬ r_11 = 0 → Q 1 M_10))) a1 a2 a3 a4 M_7) ∧ (r_8 = 0 → Q (-1) M_7))) a3 M_4))) a2 M_1))) a1 M

set_option maxRecDepth 100000 in
set_option maxHeartbeats 4000000 in
theorem mX8_permit {l : Launch} {D : va_G} {g : pd_G} {t : Nat} {X : va_W} {Q : Int32 → pd_M → Prop} {a1 : Int32} {a2 : Int32} {a3 : Int32} {a4 : Int32} {M : pd_M} {sz : Nat} (h : wX8_permit Q a1 a2 a3 a4 M) : Met l yX8_permit (Cond.code yX8_permit cX8_permit 5 (Option.some FieldType.int) :: TB) rX8_permit (pd_Pre D g t M X sz [.ref (g.1 0), .int a1, .int a2, .int a3, .int a4]) (pd_Qi D g M X sz Q) 0 0 (va_A (pd_WL g M ++ X) sz) := by
  refine pd_met (by decide) (Nat.le_of_ble_eq_true rfl) ?_
  intro p e s m below meth c A ls C hA hW hl
  have C : pd_C p m c cX8_permit 5 s _ RX8 meth (Option.some FieldType.int) := C
  have hx := C.1.1
  have hb := C.1.2.1
  have hown := C.1.2.2.2.1
  have hts := C.1.2.2.2.2
  have hl : lv_has ls 5 [(0, .ref (g.1 0)), (1, .int a1), (2, .int a2), (3, .int a3), (4, .int a4)] := hl
  refine lv_aload_n hx hb dX8_permit_0 rfl (lv_at hl 0 rfl) ?_
  refine lv_iload_n hx hb dX8_permit_1 rfl (lv_at hl 1 rfl) ?_
  refine cl_X8_107 C hW h ⟨by decide, by decide⟩ ⟨Nat.zero_le _, Nat.zero_le _⟩ hl.1 (Nat.le_of_ble_eq_true rfl) dX8_permit_2 (fun r_2 M_1 H locs h hW => ?_)
  refine lv_if_eq (tgt := 22) hx hb dX8_permit_5 (by decide) (fun c_3 => ?_) (fun c_3 => ?_)
  · have h := h.1 c_3
    refine lv_iconst (v := (-1)) hx hb dX8_permit_22 (by decide) ?_
    exact pd_iret C hA hW h dX8_permit_23
  · have h := h.2 c_3
    refine lv_iload_n hx hb dX8_permit_8 rfl (lv_at hl 2 rfl) ?_
    refine cl_X8_98 C hW h ⟨by decide, by decide⟩ ⟨Nat.zero_le _, Nat.zero_le _⟩ hl.1 (Nat.le_of_ble_eq_true rfl) dX8_permit_9 (fun r_5 M_4 H locs h hW => ?_)
    refine lv_if_eq (tgt := 22) hx hb dX8_permit_12 (by decide) (fun c_6 => ?_) (fun c_6 => ?_)
    · have h := h.1 c_6
      refine lv_iconst (v := (-1)) hx hb dX8_permit_22 (by decide) ?_
      exact pd_iret C hA hW h dX8_permit_23
    · have h := h.2 c_6
      refine lv_iload_n hx hb dX8_permit_15 rfl (lv_at hl 3 rfl) ?_
      refine cl_X8_57 C hW h ⟨by decide, by decide⟩ ⟨Nat.zero_le _, Nat.zero_le _⟩ hl.1 (Nat.le_of_ble_eq_true rfl) dX8_permit_16 (fun r_8 M_7 H locs h hW => ?_)
      refine lv_if_ne (tgt := 24) hx hb dX8_permit_19 (by decide) (fun c_9 => ?_) (fun c_9 => ?_)
      · have h := h.1 c_9
        refine lv_aload_n hx hb dX8_permit_24 rfl (lv_at hl 0 rfl) ?_
        refine gf_X8_28 C hW dX8_permit_25 ?_
        refine lv_iload_n hx hb dX8_permit_28 rfl (lv_at hl 1 rfl) ?_
        refine lv_iload_n hx hb dX8_permit_29 rfl (lv_at hl 2 rfl) ?_
        refine lv_iload_n hx hb dX8_permit_30 rfl (lv_at hl 3 rfl) ?_
        refine lv_iload hx hb dX8_permit_31 (lv_at hl 4 rfl) ?_
        refine cl_X8_110 C hW h ⟨by decide, by decide⟩ ⟨Nat.zero_le _, Nat.zero_le _⟩ hl.1 (Nat.le_of_ble_eq_true rfl) dX8_permit_33 (fun r_11 M_10 H locs h hW => ?_)
        refine lv_if_eq (tgt := 43) hx hb dX8_permit_36 (by decide) (fun c_12 => ?_) (fun c_12 => ?_)
        · have h := h.1 c_12
          refine lv_iconst (v := 0) hx hb dX8_permit_43 (by decide) ?_
          exact pd_iret C hA hW h dX8_permit_44
        · have h := h.2 c_12
          refine lv_iconst (v := 1) hx hb dX8_permit_39 (by decide) ?_
          refine lv_goto (tgt := 44) hx hb dX8_permit_40 (by decide) ?_
          exact pd_iret C hA hW h dX8_permit_44
      · have h := h.2 c_9
        refine lv_iconst (v := (-1)) hx hb dX8_permit_22 (by decide) ?_
        exact pd_iret C hA hW h dX8_permit_23

theorem dd_X8_permit : yX8_permit.cls ≠ "java/lang/invoke/MethodHandle" ∧ yX8_permit.cls ≠ "java/lang/invoke/VarHandle" ∧ (parseMethodDescriptor yX8_permit.desc).map (fun d => d.parameters.length) = some 4 := by decide +kernel
theorem cl_L_45 {p : Program} {l : Launch} {e : Env} {R : Room} {s : State} {m : MethodId} {args : Array Value} {below : List Frame} {meth : Method} {c : Code} {H : Heap} {locs : List Loc} {cells slots : Nat} {QQ : State → Prop} {cc : ByteArray} {pc : Nat} {ls : Array Slot} {rest : List Value} {D : va_G} {g : pd_G} {t : Nat} {M : pd_M} {X : va_W} {A : Nat → Prop} {nL : Nat} {ret : Option FieldType} {Qc : Int32 → pd_M → Prop} {a1 : Int32} {a2 : Int32} {a3 : Int32} {a4 : Int32} (C : pd_C p m c cc nL s args RL meth ret) (hW : pd_W D g t M X A s H locs) (h : wX8_permit Qc a1 a2 a3 a4 M) (hR : rX8_permit.frames + 1 ≤ R.frames ∧ 8 + (5 + 11) + rX8_permit.locals ≤ R.locals) (hcs : cells ≤ R.cells ∧ slots ≤ R.slots) (hls : ls.size = nL) (hw8 : (rest.map fun v => v.category).sum ≤ 8) (hdg : decode cc pc = .ok (.invokevirtual 45, 3))
    (kk : ∀ (r : Int32) (M1 : pd_M) (H1 : Heap) (locs1 : List Loc), Qc r M1 → pd_W D g t M1 X A s H1 locs1 → W p l e R s m args below meth c H1 locs1 cells slots QQ (F0 m (pc + 3) ls (.int r :: rest))) : W p l e R s m args below meth c H locs cells slots QQ (F0 m pc ls (.int a4 :: .int a3 :: .int a2 :: .int a1 :: .ref (g.1 0) :: rest)) :=
  pd_callVi (As := [.int a1, .int a2, .int a3, .int a4]) C hW (mX8_permit h) kd_0 rfl mM_L_45 mO_yX8_permit mV_yX8_permit mI_X8 mC_yX8_permit dd_X8_permit ⟨rfl, rfl⟩ hR hcs hls rfl hw8 hdg kk
abbrev rX8_cards : Room := { frames := 2, cells := 0, slots := 0, locals := 42 }
def wX8_cards (Q : Int32 → pd_M → Prop) (a1 : Int32) (a2 : Int32) (a3 : Int32) (M : pd_M) : Prop := wX8_isCar (fun r_2 M_1 => ((r_2 = 0 → Q (-1) M_1) ∧ (¬ r_2 = 0 → wX8_isZone (fun r_5 M_4 => ((r_5 = 0 → Q (-1) M_4) ∧ (¬ r_5 = 0 → wX8_isUpTo (fun r_8 M_7 => ((¬ r_8 = 0 → (vp_in a1 7 ∧ (vp_in a2 4 ∧ ∀ x4_12 : Int32, x4_12 = (M_7.1 (29 + a1.toNatClampNeg) a2.toNatClampNeg) → (vp_in a1 7 ∧ (vp_in a2 4 ∧ ∀ M_15 : pd_M, M_15 = sI M_7 (29 + a1.toNatClampNeg) a2.toNatClampNeg a3 → Q x4_12 M_15))))) ∧ (r_8 = 0 → Q (-1) M_7))) a3 9 M_4))) a2 M_1))) a1 M

set_option maxRecDepth 100000 in
set_option maxHeartbeats 4000000 in
theorem mX8_cards {l : Launch} {D : va_G} {g : pd_G} {t : Nat} {X : va_W} {Q : Int32 → pd_M → Prop} {a1 : Int32} {a2 : Int32} {a3 : Int32} {M : pd_M} {sz : Nat} (h : wX8_cards Q a1 a2 a3 M) : Met l yX8_cards (Cond.code yX8_cards cX8_cards 5 (Option.some FieldType.int) :: TB) rX8_cards (pd_Pre D g t M X sz [.ref (g.1 0), .int a1, .int a2, .int a3]) (pd_Qi D g M X sz Q) 0 0 (va_A (pd_WL g M ++ X) sz) := by
  refine pd_met (by decide) (Nat.le_of_ble_eq_true rfl) ?_
  intro p e s m below meth c A ls C hA hW hl
  have C : pd_C p m c cX8_cards 5 s _ RX8 meth (Option.some FieldType.int) := C
  have hx := C.1.1
  have hb := C.1.2.1
  have hown := C.1.2.2.2.1
  have hts := C.1.2.2.2.2
  have hl : lv_has ls 5 [(0, .ref (g.1 0)), (1, .int a1), (2, .int a2), (3, .int a3)] := hl
  refine lv_aload_n hx hb dX8_cards_0 rfl (lv_at hl 0 rfl) ?_
  refine lv_iload_n hx hb dX8_cards_1 rfl (lv_at hl 1 rfl) ?_
  refine cl_X8_107 C hW h ⟨by decide, by decide⟩ ⟨Nat.zero_le _, Nat.zero_le _⟩ hl.1 (Nat.le_of_ble_eq_true rfl) dX8_cards_2 (fun r_2 M_1 H locs h hW => ?_)
  refine lv_if_eq (tgt := 24) hx hb dX8_cards_5 (by decide) (fun c_3 => ?_) (fun c_3 => ?_)
  · have h := h.1 c_3
    refine lv_iconst (v := (-1)) hx hb dX8_cards_24 (by decide) ?_
    exact pd_iret C hA hW h dX8_cards_25
  · have h := h.2 c_3
    refine lv_iload_n hx hb dX8_cards_8 rfl (lv_at hl 2 rfl) ?_
    refine cl_X8_57 C hW h ⟨by decide, by decide⟩ ⟨Nat.zero_le _, Nat.zero_le _⟩ hl.1 (Nat.le_of_ble_eq_true rfl) dX8_cards_9 (fun r_5 M_4 H locs h hW => ?_)
    refine lv_if_eq (tgt := 24) hx hb dX8_cards_12 (by decide) (fun c_6 => ?_) (fun c_6 => ?_)
    · have h := h.1 c_6
      refine lv_iconst (v := (-1)) hx hb dX8_cards_24 (by decide) ?_
      exact pd_iret C hA hW h dX8_cards_25
    · have h := h.2 c_6
      refine lv_iload_n hx hb dX8_cards_15 rfl (lv_at hl 3 rfl) ?_
      refine lv_bipush (v := 9) hx hb dX8_cards_16 (by decide) ?_
      refine cl_X8_61 C hW h ⟨by decide, by decide⟩ ⟨Nat.zero_le _, Nat.zero_le _⟩ hl.1 (Nat.le_of_ble_eq_true rfl) dX8_cards_18 (fun r_8 M_7 H locs h hW => ?_)
      refine lv_if_ne (tgt := 26) hx hb dX8_cards_21 (by decide) (fun c_9 => ?_) (fun c_9 => ?_)
      · have h := h.1 c_9
        refine lv_aload_n hx hb dX8_cards_26 rfl (lv_at hl 0 rfl) ?_
        refine gf_X8_28 C hW dX8_cards_27 ?_
        refine gf_X8_114 C hW dX8_cards_30 ?_
        refine lv_iload_n hx hb dX8_cards_33 rfl (lv_at hl 1 rfl) ?_
        have hi_10 := h.1
        have h := h.2
        refine pd_aald C hW kd_28 hi_10 dX8_cards_34 ?_
        refine lv_iload_n hx hb dX8_cards_35 rfl (lv_at hl 2 rfl) ?_
        have hi_11 := h.1
        have h := h.2
        refine pd_iald C hW (pd_k29 _ (pd_lt hi_10)) hi_11 dX8_cards_36 ?_
        refine lv_topi (fun x4_12 ex4_12 => ?_)
        have h := h x4_12 ex4_12
        refine lv_istore (lv' := [(4, .int x4_12), (0, .ref (g.1 0)), (1, .int a1), (2, .int a2), (3, .int a3)]) hx hb dX8_cards_37 hl (by decide) rfl (fun ls hl => ?_)
        refine lv_aload_n hx hb dX8_cards_39 rfl (lv_at hl 1 rfl) ?_
        refine gf_X8_28 C hW dX8_cards_40 ?_
        refine gf_X8_114 C hW dX8_cards_43 ?_
        refine lv_iload_n hx hb dX8_cards_46 rfl (lv_at hl 2 rfl) ?_
        have hi_13 := h.1
        have h := h.2
        refine pd_aald C hW kd_28 hi_13 dX8_cards_47 ?_
        refine lv_iload_n hx hb dX8_cards_48 rfl (lv_at hl 3 rfl) ?_
        refine lv_iload_n hx hb dX8_cards_49 rfl (lv_at hl 4 rfl) ?_
        have hi_14 := h.1
        have h := h.2
        refine pd_iast C hW (pd_k29 _ (pd_lt hi_13)) hi_14 dX8_cards_50 (fun M_15 H locs eM_15 hW => ?_)
        have h := h M_15 eM_15
        refine lv_iload hx hb dX8_cards_51 (lv_at hl 0 rfl) ?_
        exact pd_iret C hA hW h dX8_cards_53
      · have h := h.2 c_9
        refine lv_iconst (v := (-1)) hx hb dX8_cards_24 (by decide) ?_
        exact pd_iret C hA hW h dX8_cards_25

theorem dd_X8_cards : yX8_cards.cls ≠ "java/lang/invoke/MethodHandle" ∧ yX8_cards.cls ≠ "java/lang/invoke/VarHandle" ∧ (parseMethodDescriptor yX8_cards.desc).map (fun d => d.parameters.length) = some 3 := by decide +kernel
theorem cl_L_50 {p : Program} {l : Launch} {e : Env} {R : Room} {s : State} {m : MethodId} {args : Array Value} {below : List Frame} {meth : Method} {c : Code} {H : Heap} {locs : List Loc} {cells slots : Nat} {QQ : State → Prop} {cc : ByteArray} {pc : Nat} {ls : Array Slot} {rest : List Value} {D : va_G} {g : pd_G} {t : Nat} {M : pd_M} {X : va_W} {A : Nat → Prop} {nL : Nat} {ret : Option FieldType} {Qc : Int32 → pd_M → Prop} {a1 : Int32} {a2 : Int32} {a3 : Int32} (C : pd_C p m c cc nL s args RL meth ret) (hW : pd_W D g t M X A s H locs) (h : wX8_cards Qc a1 a2 a3 M) (hR : rX8_cards.frames + 1 ≤ R.frames ∧ 8 + (5 + 11) + rX8_cards.locals ≤ R.locals) (hcs : cells ≤ R.cells ∧ slots ≤ R.slots) (hls : ls.size = nL) (hw8 : (rest.map fun v => v.category).sum ≤ 8) (hdg : decode cc pc = .ok (.invokevirtual 50, 3))
    (kk : ∀ (r : Int32) (M1 : pd_M) (H1 : Heap) (locs1 : List Loc), Qc r M1 → pd_W D g t M1 X A s H1 locs1 → W p l e R s m args below meth c H1 locs1 cells slots QQ (F0 m (pc + 3) ls (.int r :: rest))) : W p l e R s m args below meth c H locs cells slots QQ (F0 m pc ls (.int a3 :: .int a2 :: .int a1 :: .ref (g.1 0) :: rest)) :=
  pd_callVi (As := [.int a1, .int a2, .int a3]) C hW (mX8_cards h) kd_0 rfl mM_L_50 mO_yX8_cards mV_yX8_cards mI_X8 mC_yX8_cards dd_X8_cards ⟨rfl, rfl⟩ hR hcs hls rfl hw8 hdg kk
abbrev rX8_limit : Room := { frames := 2, cells := 0, slots := 0, locals := 42 }
def wX8_limit (Q : Int32 → pd_M → Prop) (a1 : Int32) (a2 : Int32) (M : pd_M) : Prop := wX8_isCar (fun r_2 M_1 => ((r_2 = 0 → Q (-1) M_1) ∧ (¬ r_2 = 0 → wX8_isUpTo (fun r_5 M_4 => ((¬ r_5 = 0 → (vp_in a1 7 ∧ ∀ x3_8 : Int32, x3_8 = (M_4.1 26 a1.toNatClampNeg) → (vp_in a1 7 ∧ ∀ M_10 : pd_M, M_10 = sI M_4 26 a1.toNatClampNeg a2 → Q x3_8 M_10))) ∧ (r_5 = 0 → Q (-1) M_4))) a2 99 M_1))) a1 M

set_option maxRecDepth 100000 in
set_option maxHeartbeats 4000000 in
theorem mX8_limit {l : Launch} {D : va_G} {g : pd_G} {t : Nat} {X : va_W} {Q : Int32 → pd_M → Prop} {a1 : Int32} {a2 : Int32} {M : pd_M} {sz : Nat} (h : wX8_limit Q a1 a2 M) : Met l yX8_limit (Cond.code yX8_limit cX8_limit 4 (Option.some FieldType.int) :: TB) rX8_limit (pd_Pre D g t M X sz [.ref (g.1 0), .int a1, .int a2]) (pd_Qi D g M X sz Q) 0 0 (va_A (pd_WL g M ++ X) sz) := by
  refine pd_met (by decide) (Nat.le_of_ble_eq_true rfl) ?_
  intro p e s m below meth c A ls C hA hW hl
  have C : pd_C p m c cX8_limit 4 s _ RX8 meth (Option.some FieldType.int) := C
  have hx := C.1.1
  have hb := C.1.2.1
  have hown := C.1.2.2.2.1
  have hts := C.1.2.2.2.2
  have hl : lv_has ls 4 [(0, .ref (g.1 0)), (1, .int a1), (2, .int a2)] := hl
  refine lv_aload_n hx hb dX8_limit_0 rfl (lv_at hl 0 rfl) ?_
  refine lv_iload_n hx hb dX8_limit_1 rfl (lv_at hl 1 rfl) ?_
  refine cl_X8_107 C hW h ⟨by decide, by decide⟩ ⟨Nat.zero_le _, Nat.zero_le _⟩ hl.1 (Nat.le_of_ble_eq_true rfl) dX8_limit_2 (fun r_2 M_1 H locs h hW => ?_)
  refine lv_if_eq (tgt := 17) hx hb dX8_limit_5 (by decide) (fun c_3 => ?_) (fun c_3 => ?_)
  · have h := h.1 c_3
    refine lv_iconst (v := (-1)) hx hb dX8_limit_17 (by decide) ?_
    exact pd_iret C hA hW h dX8_limit_18
  · have h := h.2 c_3
    refine lv_iload_n hx hb dX8_limit_8 rfl (lv_at hl 2 rfl) ?_
    refine lv_bipush (v := 99) hx hb dX8_limit_9 (by decide) ?_
    refine cl_X8_61 C hW h ⟨by decide, by decide⟩ ⟨Nat.zero_le _, Nat.zero_le _⟩ hl.1 (Nat.le_of_ble_eq_true rfl) dX8_limit_11 (fun r_5 M_4 H locs h hW => ?_)
    refine lv_if_ne (tgt := 19) hx hb dX8_limit_14 (by decide) (fun c_6 => ?_) (fun c_6 => ?_)
    · have h := h.1 c_6
      refine lv_aload_n hx hb dX8_limit_19 rfl (lv_at hl 0 rfl) ?_
      refine gf_X8_28 C hW dX8_limit_20 ?_
      refine gf_X8_117 C hW dX8_limit_23 ?_
      refine lv_iload_n hx hb dX8_limit_26 rfl (lv_at hl 1 rfl) ?_
      have hi_7 := h.1
      have h := h.2
      refine pd_iald C hW kd_26 hi_7 dX8_limit_27 ?_
      refine lv_topi (fun x3_8 ex3_8 => ?_)
      have h := h x3_8 ex3_8
      refine lv_istore_n (lv' := [(3, .int x3_8), (0, .ref (g.1 0)), (1, .int a1), (2, .int a2)]) hx hb dX8_limit_28 rfl hl (by decide) rfl (fun ls hl => ?_)
      refine lv_aload_n hx hb dX8_limit_29 rfl (lv_at hl 1 rfl) ?_
      refine gf_X8_28 C hW dX8_limit_30 ?_
      refine gf_X8_117 C hW dX8_limit_33 ?_
      refine lv_iload_n hx hb dX8_limit_36 rfl (lv_at hl 2 rfl) ?_
      refine lv_iload_n hx hb dX8_limit_37 rfl (lv_at hl 3 rfl) ?_
      have hi_9 := h.1
      have h := h.2
      refine pd_iast C hW kd_26 hi_9 dX8_limit_38 (fun M_10 H locs eM_10 hW => ?_)
      have h := h M_10 eM_10
      refine lv_iload_n hx hb dX8_limit_39 rfl (lv_at hl 0 rfl) ?_
      exact pd_iret C hA hW h dX8_limit_40
    · have h := h.2 c_6
      refine lv_iconst (v := (-1)) hx hb dX8_limit_17 (by decide) ?_
      exact pd_iret C hA hW h dX8_limit_18

theorem dd_X8_limit : yX8_limit.cls ≠ "java/lang/invoke/MethodHandle" ∧ yX8_limit.cls ≠ "java/lang/invoke/VarHandle" ∧ (parseMethodDescriptor yX8_limit.desc).map (fun d => d.parameters.length) = some 2 := by decide +kernel
theorem cl_L_54 {p : Program} {l : Launch} {e : Env} {R : Room} {s : State} {m : MethodId} {args : Array Value} {below : List Frame} {meth : Method} {c : Code} {H : Heap} {locs : List Loc} {cells slots : Nat} {QQ : State → Prop} {cc : ByteArray} {pc : Nat} {ls : Array Slot} {rest : List Value} {D : va_G} {g : pd_G} {t : Nat} {M : pd_M} {X : va_W} {A : Nat → Prop} {nL : Nat} {ret : Option FieldType} {Qc : Int32 → pd_M → Prop} {a1 : Int32} {a2 : Int32} (C : pd_C p m c cc nL s args RL meth ret) (hW : pd_W D g t M X A s H locs) (h : wX8_limit Qc a1 a2 M) (hR : rX8_limit.frames + 1 ≤ R.frames ∧ 8 + (4 + 11) + rX8_limit.locals ≤ R.locals) (hcs : cells ≤ R.cells ∧ slots ≤ R.slots) (hls : ls.size = nL) (hw8 : (rest.map fun v => v.category).sum ≤ 8) (hdg : decode cc pc = .ok (.invokevirtual 54, 3))
    (kk : ∀ (r : Int32) (M1 : pd_M) (H1 : Heap) (locs1 : List Loc), Qc r M1 → pd_W D g t M1 X A s H1 locs1 → W p l e R s m args below meth c H1 locs1 cells slots QQ (F0 m (pc + 3) ls (.int r :: rest))) : W p l e R s m args below meth c H locs cells slots QQ (F0 m pc ls (.int a2 :: .int a1 :: .ref (g.1 0) :: rest)) :=
  pd_callVi (As := [.int a1, .int a2]) C hW (mX8_limit h) kd_0 rfl mM_L_54 mO_yX8_limit mV_yX8_limit mI_X8 mC_yX8_limit dd_X8_limit ⟨rfl, rfl⟩ hR hcs hls rfl hw8 hdg kk
abbrev rX8_late : Room := { frames := 2, cells := 0, slots := 0, locals := 42 }
def wX8_late (Q : Int32 → pd_M → Prop) (a1 : Int32) (M : pd_M) : Prop := wX8_isCar (fun r_2 M_1 => ((r_2 = 0 → Q (-1) M_1) ∧ (¬ r_2 = 0 → wX0_putLast (fun r_5 M_4 => Q r_5 M_4) a1 M_1))) a1 M

set_option maxRecDepth 100000 in
set_option maxHeartbeats 4000000 in
theorem mX8_late {l : Launch} {D : va_G} {g : pd_G} {t : Nat} {X : va_W} {Q : Int32 → pd_M → Prop} {a1 : Int32} {M : pd_M} {sz : Nat} (h : wX8_late Q a1 M) : Met l yX8_late (Cond.code yX8_late cX8_late 2 (Option.some FieldType.int) :: TB) rX8_late (pd_Pre D g t M X sz [.ref (g.1 0), .int a1]) (pd_Qi D g M X sz Q) 0 0 (va_A (pd_WL g M ++ X) sz) := by
  refine pd_met (by decide) (Nat.le_of_ble_eq_true rfl) ?_
  intro p e s m below meth c A ls C hA hW hl
  have C : pd_C p m c cX8_late 2 s _ RX8 meth (Option.some FieldType.int) := C
  have hx := C.1.1
  have hb := C.1.2.1
  have hown := C.1.2.2.2.1
  have hts := C.1.2.2.2.2
  have hl : lv_has ls 2 [(0, .ref (g.1 0)), (1, .int a1)] := hl
  refine lv_aload_n hx hb dX8_late_0 rfl (lv_at hl 0 rfl) ?_
  refine lv_iload_n hx hb dX8_late_1 rfl (lv_at hl 1 rfl) ?_
  refine cl_X8_107 C hW h ⟨by decide, by decide⟩ ⟨Nat.zero_le _, Nat.zero_le _⟩ hl.1 (Nat.le_of_ble_eq_true rfl) dX8_late_2 (fun r_2 M_1 H locs h hW => ?_)
  refine lv_if_eq (tgt := 19) hx hb dX8_late_5 (by decide) (fun c_3 => ?_) (fun c_3 => ?_)
  · have h := h.1 c_3
    refine lv_iconst (v := (-1)) hx hb dX8_late_19 (by decide) ?_
    exact pd_iret C hA hW h dX8_late_20
  · have h := h.2 c_3
    refine lv_aload_n hx hb dX8_late_8 rfl (lv_at hl 0 rfl) ?_
    refine gf_X8_28 C hW dX8_late_9 ?_
    refine lv_iload_n hx hb dX8_late_12 rfl (lv_at hl 1 rfl) ?_
    refine cl_X8_120 C hW h ⟨by decide, by decide⟩ ⟨Nat.zero_le _, Nat.zero_le _⟩ hl.1 (Nat.le_of_ble_eq_true rfl) dX8_late_13 (fun r_5 M_4 H locs h hW => ?_)
    refine lv_goto (tgt := 20) hx hb dX8_late_16 (by decide) ?_
    exact pd_iret C hA hW h dX8_late_20

theorem dd_X8_late : yX8_late.cls ≠ "java/lang/invoke/MethodHandle" ∧ yX8_late.cls ≠ "java/lang/invoke/VarHandle" ∧ (parseMethodDescriptor yX8_late.desc).map (fun d => d.parameters.length) = some 1 := by decide +kernel
theorem cl_L_58 {p : Program} {l : Launch} {e : Env} {R : Room} {s : State} {m : MethodId} {args : Array Value} {below : List Frame} {meth : Method} {c : Code} {H : Heap} {locs : List Loc} {cells slots : Nat} {QQ : State → Prop} {cc : ByteArray} {pc : Nat} {ls : Array Slot} {rest : List Value} {D : va_G} {g : pd_G} {t : Nat} {M : pd_M} {X : va_W} {A : Nat → Prop} {nL : Nat} {ret : Option FieldType} {Qc : Int32 → pd_M → Prop} {a1 : Int32} (C : pd_C p m c cc nL s args RL meth ret) (hW : pd_W D g t M X A s H locs) (h : wX8_late Qc a1 M) (hR : rX8_late.frames + 1 ≤ R.frames ∧ 8 + (2 + 11) + rX8_late.locals ≤ R.locals) (hcs : cells ≤ R.cells ∧ slots ≤ R.slots) (hls : ls.size = nL) (hw8 : (rest.map fun v => v.category).sum ≤ 8) (hdg : decode cc pc = .ok (.invokevirtual 58, 3))
    (kk : ∀ (r : Int32) (M1 : pd_M) (H1 : Heap) (locs1 : List Loc), Qc r M1 → pd_W D g t M1 X A s H1 locs1 → W p l e R s m args below meth c H1 locs1 cells slots QQ (F0 m (pc + 3) ls (.int r :: rest))) : W p l e R s m args below meth c H locs cells slots QQ (F0 m pc ls (.int a1 :: .ref (g.1 0) :: rest)) :=
  pd_callVi (As := [.int a1]) C hW (mX8_late h) kd_0 rfl mM_L_58 mO_yX8_late mV_yX8_late mI_X8 mC_yX8_late dd_X8_late ⟨rfl, rfl⟩ hR hcs hls rfl hw8 hdg kk
abbrev rX8_may : Room := { frames := 3, cells := 0, slots := 0, locals := 68 }
def wX8_may (Q : Int32 → pd_M → Prop) (a1 : Int32) (a2 : Int32) (a3 : Int32) (M : pd_M) : Prop := wX8_isCar (fun r_2 M_1 => ((r_2 = 0 → Q (-1) M_1) ∧ (¬ r_2 = 0 → wX8_isStreet (fun r_5 M_4 => ((r_5 = 0 → Q (-1) M_4) ∧ (¬ r_5 = 0 → wX8_isHour (fun r_8 M_7 => ((¬ r_8 = 0 → (vp_in a2 5 ∧ wX0_right (fun r_12 M_11 => Q r_12 M_11) a1 (M_7.1 9 a2.toNatClampNeg) a3 M_7)) ∧ (r_8 = 0 → Q (-1) M_7))) a3 M_4))) a2 M_1))) a1 M

set_option maxRecDepth 100000 in
set_option maxHeartbeats 4000000 in
theorem mX8_may {l : Launch} {D : va_G} {g : pd_G} {t : Nat} {X : va_W} {Q : Int32 → pd_M → Prop} {a1 : Int32} {a2 : Int32} {a3 : Int32} {M : pd_M} {sz : Nat} (h : wX8_may Q a1 a2 a3 M) : Met l yX8_may (Cond.code yX8_may cX8_may 4 (Option.some FieldType.int) :: TB) rX8_may (pd_Pre D g t M X sz [.ref (g.1 0), .int a1, .int a2, .int a3]) (pd_Qi D g M X sz Q) 0 0 (va_A (pd_WL g M ++ X) sz) := by
  refine pd_met (by decide) (Nat.le_of_ble_eq_true rfl) ?_
  intro p e s m below meth c A ls C hA hW hl
  have C : pd_C p m c cX8_may 4 s _ RX8 meth (Option.some FieldType.int) := C
  have hx := C.1.1
  have hb := C.1.2.1
  have hown := C.1.2.2.2.1
  have hts := C.1.2.2.2.2
  have hl : lv_has ls 4 [(0, .ref (g.1 0)), (1, .int a1), (2, .int a2), (3, .int a3)] := hl
  refine lv_aload_n hx hb dX8_may_0 rfl (lv_at hl 0 rfl) ?_
  refine lv_iload_n hx hb dX8_may_1 rfl (lv_at hl 1 rfl) ?_
  refine cl_X8_107 C hW h ⟨by decide, by decide⟩ ⟨Nat.zero_le _, Nat.zero_le _⟩ hl.1 (Nat.le_of_ble_eq_true rfl) dX8_may_2 (fun r_2 M_1 H locs h hW => ?_)
  refine lv_if_eq (tgt := 23) hx hb dX8_may_5 (by decide) (fun c_3 => ?_) (fun c_3 => ?_)
  · have h := h.1 c_3
    refine lv_iconst (v := (-1)) hx hb dX8_may_23 (by decide) ?_
    exact pd_iret C hA hW h dX8_may_24
  · have h := h.2 c_3
    refine lv_aload_n hx hb dX8_may_8 rfl (lv_at hl 0 rfl) ?_
    refine lv_iload_n hx hb dX8_may_9 rfl (lv_at hl 2 rfl) ?_
    refine cl_X8_69 C hW h ⟨by decide, by decide⟩ ⟨Nat.zero_le _, Nat.zero_le _⟩ hl.1 (Nat.le_of_ble_eq_true rfl) dX8_may_10 (fun r_5 M_4 H locs h hW => ?_)
    refine lv_if_eq (tgt := 23) hx hb dX8_may_13 (by decide) (fun c_6 => ?_) (fun c_6 => ?_)
    · have h := h.1 c_6
      refine lv_iconst (v := (-1)) hx hb dX8_may_23 (by decide) ?_
      exact pd_iret C hA hW h dX8_may_24
    · have h := h.2 c_6
      refine lv_iload_n hx hb dX8_may_16 rfl (lv_at hl 3 rfl) ?_
      refine cl_X8_123 C hW h ⟨by decide, by decide⟩ ⟨Nat.zero_le _, Nat.zero_le _⟩ hl.1 (Nat.le_of_ble_eq_true rfl) dX8_may_17 (fun r_8 M_7 H locs h hW => ?_)
      refine lv_if_ne (tgt := 25) hx hb dX8_may_20 (by decide) (fun c_9 => ?_) (fun c_9 => ?_)
      · have h := h.1 c_9
        refine lv_aload_n hx hb dX8_may_25 rfl (lv_at hl 0 rfl) ?_
        refine gf_X8_28 C hW dX8_may_26 ?_
        refine lv_iload_n hx hb dX8_may_29 rfl (lv_at hl 1 rfl) ?_
        refine lv_aload_n hx hb dX8_may_30 rfl (lv_at hl 0 rfl) ?_
        refine gf_X8_19 C hW dX8_may_31 ?_
        refine gf_X8_72 C hW dX8_may_34 ?_
        refine lv_iload_n hx hb dX8_may_37 rfl (lv_at hl 2 rfl) ?_
        have hi_10 := h.1
        have h := h.2
        refine pd_iald C hW kd_9 hi_10 dX8_may_38 ?_
        refine lv_iload_n hx hb dX8_may_39 rfl (lv_at hl 3 rfl) ?_
        refine cl_X8_126 C hW h ⟨by decide, by decide⟩ ⟨Nat.zero_le _, Nat.zero_le _⟩ hl.1 (Nat.le_of_ble_eq_true rfl) dX8_may_40 (fun r_12 M_11 H locs h hW => ?_)
        exact pd_iret C hA hW h dX8_may_43
      · have h := h.2 c_9
        refine lv_iconst (v := (-1)) hx hb dX8_may_23 (by decide) ?_
        exact pd_iret C hA hW h dX8_may_24

theorem dd_X8_may : yX8_may.cls ≠ "java/lang/invoke/MethodHandle" ∧ yX8_may.cls ≠ "java/lang/invoke/VarHandle" ∧ (parseMethodDescriptor yX8_may.desc).map (fun d => d.parameters.length) = some 3 := by decide +kernel
theorem cl_L_62 {p : Program} {l : Launch} {e : Env} {R : Room} {s : State} {m : MethodId} {args : Array Value} {below : List Frame} {meth : Method} {c : Code} {H : Heap} {locs : List Loc} {cells slots : Nat} {QQ : State → Prop} {cc : ByteArray} {pc : Nat} {ls : Array Slot} {rest : List Value} {D : va_G} {g : pd_G} {t : Nat} {M : pd_M} {X : va_W} {A : Nat → Prop} {nL : Nat} {ret : Option FieldType} {Qc : Int32 → pd_M → Prop} {a1 : Int32} {a2 : Int32} {a3 : Int32} (C : pd_C p m c cc nL s args RL meth ret) (hW : pd_W D g t M X A s H locs) (h : wX8_may Qc a1 a2 a3 M) (hR : rX8_may.frames + 1 ≤ R.frames ∧ 8 + (4 + 11) + rX8_may.locals ≤ R.locals) (hcs : cells ≤ R.cells ∧ slots ≤ R.slots) (hls : ls.size = nL) (hw8 : (rest.map fun v => v.category).sum ≤ 8) (hdg : decode cc pc = .ok (.invokevirtual 62, 3))
    (kk : ∀ (r : Int32) (M1 : pd_M) (H1 : Heap) (locs1 : List Loc), Qc r M1 → pd_W D g t M1 X A s H1 locs1 → W p l e R s m args below meth c H1 locs1 cells slots QQ (F0 m (pc + 3) ls (.int r :: rest))) : W p l e R s m args below meth c H locs cells slots QQ (F0 m pc ls (.int a3 :: .int a2 :: .int a1 :: .ref (g.1 0) :: rest)) :=
  pd_callVi (As := [.int a1, .int a2, .int a3]) C hW (mX8_may h) kd_0 rfl mM_L_62 mO_yX8_may mV_yX8_may mI_X8 mC_yX8_may dd_X8_may ⟨rfl, rfl⟩ hR hcs hls rfl hw8 hdg kk
abbrev rX8_stands : Room := { frames := 5, cells := 0, slots := 0, locals := 115 }
def wX8_stands (Q : Int32 → pd_M → Prop) (a1 : Int32) (a2 : Int32) (a3 : Int32) (a4 : Int32) (M : pd_M) : Prop := wX8_isNight (fun r_2 M_1 => ((r_2 = 0 → Q (-1) M_1) ∧ (¬ r_2 = 0 → wX8_isHour (fun r_5 M_4 => ((r_5 = 0 → Q (-1) M_4) ∧ (¬ r_5 = 0 → wX8_isCar (fun r_8 M_7 => ((¬ r_8 = 0 → wX2_lay (fun M_10 => (vp_in a3 7 ∧ ∀ x5_12 : Int32, x5_12 = (M_10.1 38 a3.toNatClampNeg) → ((¬ x5_12 = 5 → Q x5_12 M_10) ∧ (x5_12 = 5 → Q (-3) M_10)))) a1 a2 a4 M_7) ∧ (r_8 = 0 → Q (-1) M_7))) a3 M_4))) a2 M_1))) a1 M

set_option maxRecDepth 100000 in
set_option maxHeartbeats 4000000 in
theorem mX8_stands {l : Launch} {D : va_G} {g : pd_G} {t : Nat} {X : va_W} {Q : Int32 → pd_M → Prop} {a1 : Int32} {a2 : Int32} {a3 : Int32} {a4 : Int32} {M : pd_M} {sz : Nat} (h : wX8_stands Q a1 a2 a3 a4 M) : Met l yX8_stands (Cond.code yX8_stands cX8_stands 6 (Option.some FieldType.int) :: TB) rX8_stands (pd_Pre D g t M X sz [.ref (g.1 0), .int a1, .int a2, .int a3, .int a4]) (pd_Qi D g M X sz Q) 0 0 (va_A (pd_WL g M ++ X) sz) := by
  refine pd_met (by decide) (Nat.le_of_ble_eq_true rfl) ?_
  intro p e s m below meth c A ls C hA hW hl
  have C : pd_C p m c cX8_stands 6 s _ RX8 meth (Option.some FieldType.int) := C
  have hx := C.1.1
  have hb := C.1.2.1
  have hown := C.1.2.2.2.1
  have hts := C.1.2.2.2.2
  have hl : lv_has ls 6 [(0, .ref (g.1 0)), (1, .int a1), (2, .int a2), (3, .int a3), (4, .int a4)] := hl
  refine lv_iload_n hx hb dX8_stands_0 rfl (lv_at hl 1 rfl) ?_
  refine cl_X8_80 C hW h ⟨by decide, by decide⟩ ⟨Nat.zero_le _, Nat.zero_le _⟩ hl.1 (Nat.le_of_ble_eq_true rfl) dX8_stands_1 (fun r_2 M_1 H locs h hW => ?_)
  refine lv_if_eq (tgt := 22) hx hb dX8_stands_4 (by decide) (fun c_3 => ?_) (fun c_3 => ?_)
  · have h := h.1 c_3
    refine lv_iconst (v := (-1)) hx hb dX8_stands_22 (by decide) ?_
    exact pd_iret C hA hW h dX8_stands_23
  · have h := h.2 c_3
    refine lv_iload_n hx hb dX8_stands_7 rfl (lv_at hl 2 rfl) ?_
    refine cl_X8_123 C hW h ⟨by decide, by decide⟩ ⟨Nat.zero_le _, Nat.zero_le _⟩ hl.1 (Nat.le_of_ble_eq_true rfl) dX8_stands_8 (fun r_5 M_4 H locs h hW => ?_)
    refine lv_if_eq (tgt := 22) hx hb dX8_stands_11 (by decide) (fun c_6 => ?_) (fun c_6 => ?_)
    · have h := h.1 c_6
      refine lv_iconst (v := (-1)) hx hb dX8_stands_22 (by decide) ?_
      exact pd_iret C hA hW h dX8_stands_23
    · have h := h.2 c_6
      refine lv_aload_n hx hb dX8_stands_14 rfl (lv_at hl 0 rfl) ?_
      refine lv_iload_n hx hb dX8_stands_15 rfl (lv_at hl 3 rfl) ?_
      refine cl_X8_107 C hW h ⟨by decide, by decide⟩ ⟨Nat.zero_le _, Nat.zero_le _⟩ hl.1 (Nat.le_of_ble_eq_true rfl) dX8_stands_16 (fun r_8 M_7 H locs h hW => ?_)
      refine lv_if_ne (tgt := 24) hx hb dX8_stands_19 (by decide) (fun c_9 => ?_) (fun c_9 => ?_)
      · have h := h.1 c_9
        refine lv_aload_n hx hb dX8_stands_24 rfl (lv_at hl 0 rfl) ?_
        refine gf_X8_37 C hW dX8_stands_25 ?_
        refine lv_iload_n hx hb dX8_stands_28 rfl (lv_at hl 1 rfl) ?_
        refine lv_iload_n hx hb dX8_stands_29 rfl (lv_at hl 2 rfl) ?_
        refine lv_iload hx hb dX8_stands_30 (lv_at hl 4 rfl) ?_
        refine cl_X8_130 C hW h ⟨by decide, by decide⟩ ⟨Nat.zero_le _, Nat.zero_le _⟩ hl.1 (by decide) dX8_stands_32 (fun M_10 H locs h hW => ?_)
        refine lv_aload_n hx hb dX8_stands_35 rfl (lv_at hl 0 rfl) ?_
        refine gf_X8_37 C hW dX8_stands_36 ?_
        refine gf_X8_134 C hW dX8_stands_39 ?_
        refine lv_iload_n hx hb dX8_stands_42 rfl (lv_at hl 3 rfl) ?_
        have hi_11 := h.1
        have h := h.2
        refine pd_iald C hW kd_38 hi_11 dX8_stands_43 ?_
        refine lv_topi (fun x5_12 ex5_12 => ?_)
        have h := h x5_12 ex5_12
        refine lv_istore (lv' := [(5, .int x5_12), (0, .ref (g.1 0)), (1, .int a1), (2, .int a2), (3, .int a3), (4, .int a4)]) hx hb dX8_stands_44 hl (by decide) rfl (fun ls hl => ?_)
        refine lv_iload hx hb dX8_stands_46 (lv_at hl 0 rfl) ?_
        refine lv_iconst (v := 5) hx hb dX8_stands_48 (by decide) ?_
        refine lv_icmp_ne (tgt := 57) hx hb dX8_stands_49 (by decide) (fun c_13 => ?_) (fun c_13 => ?_)
        · have h := h.1 c_13
          refine lv_iload hx hb dX8_stands_57 (lv_at hl 0 rfl) ?_
          exact pd_iret C hA hW h dX8_stands_59
        · have h := h.2 c_13
          refine lv_bipush (v := (-3)) hx hb dX8_stands_52 (by decide) ?_
          refine lv_goto (tgt := 59) hx hb dX8_stands_54 (by decide) ?_
          exact pd_iret C hA hW h dX8_stands_59
      · have h := h.2 c_9
        refine lv_iconst (v := (-1)) hx hb dX8_stands_22 (by decide) ?_
        exact pd_iret C hA hW h dX8_stands_23

theorem dd_X8_stands : yX8_stands.cls ≠ "java/lang/invoke/MethodHandle" ∧ yX8_stands.cls ≠ "java/lang/invoke/VarHandle" ∧ (parseMethodDescriptor yX8_stands.desc).map (fun d => d.parameters.length) = some 4 := by decide +kernel
theorem cl_L_66 {p : Program} {l : Launch} {e : Env} {R : Room} {s : State} {m : MethodId} {args : Array Value} {below : List Frame} {meth : Method} {c : Code} {H : Heap} {locs : List Loc} {cells slots : Nat} {QQ : State → Prop} {cc : ByteArray} {pc : Nat} {ls : Array Slot} {rest : List Value} {D : va_G} {g : pd_G} {t : Nat} {M : pd_M} {X : va_W} {A : Nat → Prop} {nL : Nat} {ret : Option FieldType} {Qc : Int32 → pd_M → Prop} {a1 : Int32} {a2 : Int32} {a3 : Int32} {a4 : Int32} (C : pd_C p m c cc nL s args RL meth ret) (hW : pd_W D g t M X A s H locs) (h : wX8_stands Qc a1 a2 a3 a4 M) (hR : rX8_stands.frames + 1 ≤ R.frames ∧ 8 + (6 + 11) + rX8_stands.locals ≤ R.locals) (hcs : cells ≤ R.cells ∧ slots ≤ R.slots) (hls : ls.size = nL) (hw8 : (rest.map fun v => v.category).sum ≤ 8) (hdg : decode cc pc = .ok (.invokevirtual 66, 3))
    (kk : ∀ (r : Int32) (M1 : pd_M) (H1 : Heap) (locs1 : List Loc), Qc r M1 → pd_W D g t M1 X A s H1 locs1 → W p l e R s m args below meth c H1 locs1 cells slots QQ (F0 m (pc + 3) ls (.int r :: rest))) : W p l e R s m args below meth c H locs cells slots QQ (F0 m pc ls (.int a4 :: .int a3 :: .int a2 :: .int a1 :: .ref (g.1 0) :: rest)) :=
  pd_callVi (As := [.int a1, .int a2, .int a3, .int a4]) C hW (mX8_stands h) kd_0 rfl mM_L_66 mO_yX8_stands mV_yX8_stands mI_X8 mC_yX8_stands dd_X8_stands ⟨rfl, rfl⟩ hR hcs hls rfl hw8 hdg kk
abbrev rX8_told : Room := { frames := 5, cells := 0, slots := 0, locals := 115 }
def wX8_told (Q : Int32 → pd_M → Prop) (a1 : Int32) (a2 : Int32) (a3 : Int32) (a4 : Int32) (M : pd_M) : Prop := wX8_isNight (fun r_2 M_1 => ((r_2 = 0 → Q (-1) M_1) ∧ (¬ r_2 = 0 → wX8_isHour (fun r_5 M_4 => ((r_5 = 0 → Q (-1) M_4) ∧ (¬ r_5 = 0 → wX8_isUpTo (fun r_8 M_7 => ((¬ r_8 = 0 → wX2_lay (fun M_10 => wX2_tell (fun r_12 M_11 => Q r_12 M_11) a3 M_10) a1 a2 a4 M_7) ∧ (r_8 = 0 → Q (-1) M_7))) a3 2 M_4))) a2 M_1))) a1 M

set_option maxRecDepth 100000 in
set_option maxHeartbeats 4000000 in
theorem mX8_told {l : Launch} {D : va_G} {g : pd_G} {t : Nat} {X : va_W} {Q : Int32 → pd_M → Prop} {a1 : Int32} {a2 : Int32} {a3 : Int32} {a4 : Int32} {M : pd_M} {sz : Nat} (h : wX8_told Q a1 a2 a3 a4 M) : Met l yX8_told (Cond.code yX8_told cX8_told 5 (Option.some FieldType.int) :: TB) rX8_told (pd_Pre D g t M X sz [.ref (g.1 0), .int a1, .int a2, .int a3, .int a4]) (pd_Qi D g M X sz Q) 0 0 (va_A (pd_WL g M ++ X) sz) := by
  refine pd_met (by decide) (Nat.le_of_ble_eq_true rfl) ?_
  intro p e s m below meth c A ls C hA hW hl
  have C : pd_C p m c cX8_told 5 s _ RX8 meth (Option.some FieldType.int) := C
  have hx := C.1.1
  have hb := C.1.2.1
  have hown := C.1.2.2.2.1
  have hts := C.1.2.2.2.2
  have hl : lv_has ls 5 [(0, .ref (g.1 0)), (1, .int a1), (2, .int a2), (3, .int a3), (4, .int a4)] := hl
  refine lv_iload_n hx hb dX8_told_0 rfl (lv_at hl 1 rfl) ?_
  refine cl_X8_80 C hW h ⟨by decide, by decide⟩ ⟨Nat.zero_le _, Nat.zero_le _⟩ hl.1 (Nat.le_of_ble_eq_true rfl) dX8_told_1 (fun r_2 M_1 H locs h hW => ?_)
  refine lv_if_eq (tgt := 22) hx hb dX8_told_4 (by decide) (fun c_3 => ?_) (fun c_3 => ?_)
  · have h := h.1 c_3
    refine lv_iconst (v := (-1)) hx hb dX8_told_22 (by decide) ?_
    exact pd_iret C hA hW h dX8_told_23
  · have h := h.2 c_3
    refine lv_iload_n hx hb dX8_told_7 rfl (lv_at hl 2 rfl) ?_
    refine cl_X8_123 C hW h ⟨by decide, by decide⟩ ⟨Nat.zero_le _, Nat.zero_le _⟩ hl.1 (Nat.le_of_ble_eq_true rfl) dX8_told_8 (fun r_5 M_4 H locs h hW => ?_)
    refine lv_if_eq (tgt := 22) hx hb dX8_told_11 (by decide) (fun c_6 => ?_) (fun c_6 => ?_)
    · have h := h.1 c_6
      refine lv_iconst (v := (-1)) hx hb dX8_told_22 (by decide) ?_
      exact pd_iret C hA hW h dX8_told_23
    · have h := h.2 c_6
      refine lv_iload_n hx hb dX8_told_14 rfl (lv_at hl 3 rfl) ?_
      refine lv_iconst (v := 2) hx hb dX8_told_15 (by decide) ?_
      refine cl_X8_61 C hW h ⟨by decide, by decide⟩ ⟨Nat.zero_le _, Nat.zero_le _⟩ hl.1 (Nat.le_of_ble_eq_true rfl) dX8_told_16 (fun r_8 M_7 H locs h hW => ?_)
      refine lv_if_ne (tgt := 24) hx hb dX8_told_19 (by decide) (fun c_9 => ?_) (fun c_9 => ?_)
      · have h := h.1 c_9
        refine lv_aload_n hx hb dX8_told_24 rfl (lv_at hl 0 rfl) ?_
        refine gf_X8_37 C hW dX8_told_25 ?_
        refine lv_iload_n hx hb dX8_told_28 rfl (lv_at hl 1 rfl) ?_
        refine lv_iload_n hx hb dX8_told_29 rfl (lv_at hl 2 rfl) ?_
        refine lv_iload hx hb dX8_told_30 (lv_at hl 4 rfl) ?_
        refine cl_X8_130 C hW h ⟨by decide, by decide⟩ ⟨Nat.zero_le _, Nat.zero_le _⟩ hl.1 (by decide) dX8_told_32 (fun M_10 H locs h hW => ?_)
        refine lv_aload_n hx hb dX8_told_35 rfl (lv_at hl 0 rfl) ?_
        refine gf_X8_37 C hW dX8_told_36 ?_
        refine lv_iload_n hx hb dX8_told_39 rfl (lv_at hl 3 rfl) ?_
        refine cl_X8_137 C hW h ⟨by decide, by decide⟩ ⟨Nat.zero_le _, Nat.zero_le _⟩ hl.1 (Nat.le_of_ble_eq_true rfl) dX8_told_40 (fun r_12 M_11 H locs h hW => ?_)
        exact pd_iret C hA hW h dX8_told_43
      · have h := h.2 c_9
        refine lv_iconst (v := (-1)) hx hb dX8_told_22 (by decide) ?_
        exact pd_iret C hA hW h dX8_told_23

theorem dd_X8_told : yX8_told.cls ≠ "java/lang/invoke/MethodHandle" ∧ yX8_told.cls ≠ "java/lang/invoke/VarHandle" ∧ (parseMethodDescriptor yX8_told.desc).map (fun d => d.parameters.length) = some 4 := by decide +kernel
theorem cl_L_70 {p : Program} {l : Launch} {e : Env} {R : Room} {s : State} {m : MethodId} {args : Array Value} {below : List Frame} {meth : Method} {c : Code} {H : Heap} {locs : List Loc} {cells slots : Nat} {QQ : State → Prop} {cc : ByteArray} {pc : Nat} {ls : Array Slot} {rest : List Value} {D : va_G} {g : pd_G} {t : Nat} {M : pd_M} {X : va_W} {A : Nat → Prop} {nL : Nat} {ret : Option FieldType} {Qc : Int32 → pd_M → Prop} {a1 : Int32} {a2 : Int32} {a3 : Int32} {a4 : Int32} (C : pd_C p m c cc nL s args RL meth ret) (hW : pd_W D g t M X A s H locs) (h : wX8_told Qc a1 a2 a3 a4 M) (hR : rX8_told.frames + 1 ≤ R.frames ∧ 8 + (5 + 11) + rX8_told.locals ≤ R.locals) (hcs : cells ≤ R.cells ∧ slots ≤ R.slots) (hls : ls.size = nL) (hw8 : (rest.map fun v => v.category).sum ≤ 8) (hdg : decode cc pc = .ok (.invokevirtual 70, 3))
    (kk : ∀ (r : Int32) (M1 : pd_M) (H1 : Heap) (locs1 : List Loc), Qc r M1 → pd_W D g t M1 X A s H1 locs1 → W p l e R s m args below meth c H1 locs1 cells slots QQ (F0 m (pc + 3) ls (.int r :: rest))) : W p l e R s m args below meth c H locs cells slots QQ (F0 m pc ls (.int a4 :: .int a3 :: .int a2 :: .int a1 :: .ref (g.1 0) :: rest)) :=
  pd_callVi (As := [.int a1, .int a2, .int a3, .int a4]) C hW (mX8_told h) kd_0 rfl mM_L_70 mO_yX8_told mV_yX8_told mI_X8 mC_yX8_told dd_X8_told ⟨rfl, rfl⟩ hR hcs hls rfl hw8 hdg kk
abbrev rX8_keep : Room := { frames := 5, cells := 0, slots := 0, locals := 115 }
def wX8_keep (Q : Int32 → pd_M → Prop) (a1 : Int32) (a2 : Int32) (M : pd_M) : Prop := wX8_isNight (fun r_2 M_1 => ((r_2 = 0 → Q (-1) M_1) ∧ (¬ r_2 = 0 → wX8_isHour (fun r_5 M_4 => ((¬ r_5 = 0 → wX2_lay (fun M_7 => wX2_useCards (fun r_9 M_8 => Q r_9 M_8) M_7) a1 a2 0 M_4) ∧ (r_5 = 0 → Q (-1) M_4))) a2 M_1))) a1 M

set_option maxRecDepth 100000 in
set_option maxHeartbeats 4000000 in
theorem mX8_keep {l : Launch} {D : va_G} {g : pd_G} {t : Nat} {X : va_W} {Q : Int32 → pd_M → Prop} {a1 : Int32} {a2 : Int32} {M : pd_M} {sz : Nat} (h : wX8_keep Q a1 a2 M) : Met l yX8_keep (Cond.code yX8_keep cX8_keep 3 (Option.some FieldType.int) :: TB) rX8_keep (pd_Pre D g t M X sz [.ref (g.1 0), .int a1, .int a2]) (pd_Qi D g M X sz Q) 0 0 (va_A (pd_WL g M ++ X) sz) := by
  refine pd_met (by decide) (Nat.le_of_ble_eq_true rfl) ?_
  intro p e s m below meth c A ls C hA hW hl
  have C : pd_C p m c cX8_keep 3 s _ RX8 meth (Option.some FieldType.int) := C
  have hx := C.1.1
  have hb := C.1.2.1
  have hown := C.1.2.2.2.1
  have hts := C.1.2.2.2.2
  have hl : lv_has ls 3 [(0, .ref (g.1 0)), (1, .int a1), (2, .int a2)] := hl
  refine lv_iload_n hx hb dX8_keep_0 rfl (lv_at hl 1 rfl) ?_
  refine cl_X8_80 C hW h ⟨by decide, by decide⟩ ⟨Nat.zero_le _, Nat.zero_le _⟩ hl.1 (Nat.le_of_ble_eq_true rfl) dX8_keep_1 (fun r_2 M_1 H locs h hW => ?_)
  refine lv_if_eq (tgt := 14) hx hb dX8_keep_4 (by decide) (fun c_3 => ?_) (fun c_3 => ?_)
  · have h := h.1 c_3
    refine lv_iconst (v := (-1)) hx hb dX8_keep_14 (by decide) ?_
    exact pd_iret C hA hW h dX8_keep_15
  · have h := h.2 c_3
    refine lv_iload_n hx hb dX8_keep_7 rfl (lv_at hl 2 rfl) ?_
    refine cl_X8_123 C hW h ⟨by decide, by decide⟩ ⟨Nat.zero_le _, Nat.zero_le _⟩ hl.1 (Nat.le_of_ble_eq_true rfl) dX8_keep_8 (fun r_5 M_4 H locs h hW => ?_)
    refine lv_if_ne (tgt := 16) hx hb dX8_keep_11 (by decide) (fun c_6 => ?_) (fun c_6 => ?_)
    · have h := h.1 c_6
      refine lv_aload_n hx hb dX8_keep_16 rfl (lv_at hl 0 rfl) ?_
      refine gf_X8_37 C hW dX8_keep_17 ?_
      refine lv_iload_n hx hb dX8_keep_20 rfl (lv_at hl 1 rfl) ?_
      refine lv_iload_n hx hb dX8_keep_21 rfl (lv_at hl 2 rfl) ?_
      refine lv_iconst (v := 0) hx hb dX8_keep_22 (by decide) ?_
      refine cl_X8_130 C hW h ⟨by decide, by decide⟩ ⟨Nat.zero_le _, Nat.zero_le _⟩ hl.1 (by decide) dX8_keep_23 (fun M_7 H locs h hW => ?_)
      refine lv_aload_n hx hb dX8_keep_26 rfl (lv_at hl 0 rfl) ?_
      refine gf_X8_37 C hW dX8_keep_27 ?_
      refine cl_X8_140 C hW h ⟨by decide, by decide⟩ ⟨Nat.zero_le _, Nat.zero_le _⟩ hl.1 (Nat.le_of_ble_eq_true rfl) dX8_keep_30 (fun r_9 M_8 H locs h hW => ?_)
      exact pd_iret C hA hW h dX8_keep_33
    · have h := h.2 c_6
      refine lv_iconst (v := (-1)) hx hb dX8_keep_14 (by decide) ?_
      exact pd_iret C hA hW h dX8_keep_15

theorem dd_X8_keep : yX8_keep.cls ≠ "java/lang/invoke/MethodHandle" ∧ yX8_keep.cls ≠ "java/lang/invoke/VarHandle" ∧ (parseMethodDescriptor yX8_keep.desc).map (fun d => d.parameters.length) = some 2 := by decide +kernel
theorem cl_L_74 {p : Program} {l : Launch} {e : Env} {R : Room} {s : State} {m : MethodId} {args : Array Value} {below : List Frame} {meth : Method} {c : Code} {H : Heap} {locs : List Loc} {cells slots : Nat} {QQ : State → Prop} {cc : ByteArray} {pc : Nat} {ls : Array Slot} {rest : List Value} {D : va_G} {g : pd_G} {t : Nat} {M : pd_M} {X : va_W} {A : Nat → Prop} {nL : Nat} {ret : Option FieldType} {Qc : Int32 → pd_M → Prop} {a1 : Int32} {a2 : Int32} (C : pd_C p m c cc nL s args RL meth ret) (hW : pd_W D g t M X A s H locs) (h : wX8_keep Qc a1 a2 M) (hR : rX8_keep.frames + 1 ≤ R.frames ∧ 8 + (3 + 11) + rX8_keep.locals ≤ R.locals) (hcs : cells ≤ R.cells ∧ slots ≤ R.slots) (hls : ls.size = nL) (hw8 : (rest.map fun v => v.category).sum ≤ 8) (hdg : decode cc pc = .ok (.invokevirtual 74, 3))
    (kk : ∀ (r : Int32) (M1 : pd_M) (H1 : Heap) (locs1 : List Loc), Qc r M1 → pd_W D g t M1 X A s H1 locs1 → W p l e R s m args below meth c H1 locs1 cells slots QQ (F0 m (pc + 3) ls (.int r :: rest))) : W p l e R s m args below meth c H locs cells slots QQ (F0 m pc ls (.int a2 :: .int a1 :: .ref (g.1 0) :: rest)) :=
  pd_callVi (As := [.int a1, .int a2]) C hW (mX8_keep h) kd_0 rfl mM_L_74 mO_yX8_keep mV_yX8_keep mI_X8 mC_yX8_keep dd_X8_keep ⟨rfl, rfl⟩ hR hcs hls rfl hw8 hdg kk
abbrev rX8_moved : Room := { frames := 5, cells := 0, slots := 0, locals := 115 }
def wX8_moved (Q : Int32 → pd_M → Prop) (a1 : Int32) (a2 : Int32) (a3 : Int32) (a4 : Int32) (a5 : Int32) (M : pd_M) : Prop := wX8_isNight (fun r_2 M_1 => ((r_2 = 0 → Q (-1) M_1) ∧ (¬ r_2 = 0 → wX8_isHour (fun r_5 M_4 => ((r_5 = 0 → Q (-1) M_4) ∧ (¬ r_5 = 0 → wX8_isStreet (fun r_8 M_7 => ((r_8 = 0 → Q (-1) M_7) ∧ (¬ r_8 = 0 → wX8_isZone (fun r_11 M_10 => ((r_11 = 0 → Q (-1) M_10) ∧ (¬ r_11 = 0 → wX8_isUpTo (fun r_14 M_13 => ((¬ r_14 = 0 → (vp_in a3 5 ∧ ∀ x6_17 : Int32, x6_17 = (M_13.1 9 a3.toNatClampNeg) → (vp_in a3 5 ∧ ∀ M_19 : pd_M, M_19 = sI M_13 9 a3.toNatClampNeg a4 → wX2_lay (fun M_20 => wX2_tell (fun r_22 M_21 => (vp_in a3 5 ∧ ∀ M_24 : pd_M, M_24 = sI M_21 9 a3.toNatClampNeg x6_17 → Q r_22 M_24)) a5 M_20) a1 a2 1 M_19))) ∧ (r_14 = 0 → Q (-1) M_13))) a5 1 M_10))) a4 M_7))) a3 M_4))) a2 M_1))) a1 M

set_option maxRecDepth 100000 in
set_option maxHeartbeats 4000000 in
theorem mX8_moved {l : Launch} {D : va_G} {g : pd_G} {t : Nat} {X : va_W} {Q : Int32 → pd_M → Prop} {a1 : Int32} {a2 : Int32} {a3 : Int32} {a4 : Int32} {a5 : Int32} {M : pd_M} {sz : Nat} (h : wX8_moved Q a1 a2 a3 a4 a5 M) : Met l yX8_moved (Cond.code yX8_moved cX8_moved 8 (Option.some FieldType.int) :: TB) rX8_moved (pd_Pre D g t M X sz [.ref (g.1 0), .int a1, .int a2, .int a3, .int a4, .int a5]) (pd_Qi D g M X sz Q) 0 0 (va_A (pd_WL g M ++ X) sz) := by
  refine pd_met (by decide) (Nat.le_of_ble_eq_true rfl) ?_
  intro p e s m below meth c A ls C hA hW hl
  have C : pd_C p m c cX8_moved 8 s _ RX8 meth (Option.some FieldType.int) := C
  have hx := C.1.1
  have hb := C.1.2.1
  have hown := C.1.2.2.2.1
  have hts := C.1.2.2.2.2
  have hl : lv_has ls 8 [(0, .ref (g.1 0)), (1, .int a1), (2, .int a2), (3, .int a3), (4, .int a4), (5, .int a5)] := hl
  refine lv_iload_n hx hb dX8_moved_0 rfl (lv_at hl 1 rfl) ?_
  refine cl_X8_80 C hW h ⟨by decide, by decide⟩ ⟨Nat.zero_le _, Nat.zero_le _⟩ hl.1 (Nat.le_of_ble_eq_true rfl) dX8_moved_1 (fun r_2 M_1 H locs h hW => ?_)
  refine lv_if_eq (tgt := 39) hx hb dX8_moved_4 (by decide) (fun c_3 => ?_) (fun c_3 => ?_)
  · have h := h.1 c_3
    refine lv_iconst (v := (-1)) hx hb dX8_moved_39 (by decide) ?_
    exact pd_iret C hA hW h dX8_moved_40
  · have h := h.2 c_3
    refine lv_iload_n hx hb dX8_moved_7 rfl (lv_at hl 2 rfl) ?_
    refine cl_X8_123 C hW h ⟨by decide, by decide⟩ ⟨Nat.zero_le _, Nat.zero_le _⟩ hl.1 (Nat.le_of_ble_eq_true rfl) dX8_moved_8 (fun r_5 M_4 H locs h hW => ?_)
    refine lv_if_eq (tgt := 39) hx hb dX8_moved_11 (by decide) (fun c_6 => ?_) (fun c_6 => ?_)
    · have h := h.1 c_6
      refine lv_iconst (v := (-1)) hx hb dX8_moved_39 (by decide) ?_
      exact pd_iret C hA hW h dX8_moved_40
    · have h := h.2 c_6
      refine lv_aload_n hx hb dX8_moved_14 rfl (lv_at hl 0 rfl) ?_
      refine lv_iload_n hx hb dX8_moved_15 rfl (lv_at hl 3 rfl) ?_
      refine cl_X8_69 C hW h ⟨by decide, by decide⟩ ⟨Nat.zero_le _, Nat.zero_le _⟩ hl.1 (Nat.le_of_ble_eq_true rfl) dX8_moved_16 (fun r_8 M_7 H locs h hW => ?_)
      refine lv_if_eq (tgt := 39) hx hb dX8_moved_19 (by decide) (fun c_9 => ?_) (fun c_9 => ?_)
      · have h := h.1 c_9
        refine lv_iconst (v := (-1)) hx hb dX8_moved_39 (by decide) ?_
        exact pd_iret C hA hW h dX8_moved_40
      · have h := h.2 c_9
        refine lv_iload hx hb dX8_moved_22 (lv_at hl 4 rfl) ?_
        refine cl_X8_57 C hW h ⟨by decide, by decide⟩ ⟨Nat.zero_le _, Nat.zero_le _⟩ hl.1 (Nat.le_of_ble_eq_true rfl) dX8_moved_24 (fun r_11 M_10 H locs h hW => ?_)
        refine lv_if_eq (tgt := 39) hx hb dX8_moved_27 (by decide) (fun c_12 => ?_) (fun c_12 => ?_)
        · have h := h.1 c_12
          refine lv_iconst (v := (-1)) hx hb dX8_moved_39 (by decide) ?_
          exact pd_iret C hA hW h dX8_moved_40
        · have h := h.2 c_12
          refine lv_iload hx hb dX8_moved_30 (lv_at hl 5 rfl) ?_
          refine lv_iconst (v := 1) hx hb dX8_moved_32 (by decide) ?_
          refine cl_X8_61 C hW h ⟨by decide, by decide⟩ ⟨Nat.zero_le _, Nat.zero_le _⟩ hl.1 (Nat.le_of_ble_eq_true rfl) dX8_moved_33 (fun r_14 M_13 H locs h hW => ?_)
          refine lv_if_ne (tgt := 41) hx hb dX8_moved_36 (by decide) (fun c_15 => ?_) (fun c_15 => ?_)
          · have h := h.1 c_15
            refine lv_aload_n hx hb dX8_moved_41 rfl (lv_at hl 0 rfl) ?_
            refine gf_X8_19 C hW dX8_moved_42 ?_
            refine gf_X8_72 C hW dX8_moved_45 ?_
            refine lv_iload_n hx hb dX8_moved_48 rfl (lv_at hl 3 rfl) ?_
            have hi_16 := h.1
            have h := h.2
            refine pd_iald C hW kd_9 hi_16 dX8_moved_49 ?_
            refine lv_topi (fun x6_17 ex6_17 => ?_)
            have h := h x6_17 ex6_17
            refine lv_istore (lv' := [(6, .int x6_17), (0, .ref (g.1 0)), (1, .int a1), (2, .int a2), (3, .int a3), (4, .int a4), (5, .int a5)]) hx hb dX8_moved_50 hl (by decide) rfl (fun ls hl => ?_)
            refine lv_aload_n hx hb dX8_moved_52 rfl (lv_at hl 1 rfl) ?_
            refine gf_X8_19 C hW dX8_moved_53 ?_
            refine gf_X8_72 C hW dX8_moved_56 ?_
            refine lv_iload_n hx hb dX8_moved_59 rfl (lv_at hl 4 rfl) ?_
            refine lv_iload hx hb dX8_moved_60 (lv_at hl 5 rfl) ?_
            have hi_18 := h.1
            have h := h.2
            refine pd_iast C hW kd_9 hi_18 dX8_moved_62 (fun M_19 H locs eM_19 hW => ?_)
            have h := h M_19 eM_19
            refine lv_aload_n hx hb dX8_moved_63 rfl (lv_at hl 1 rfl) ?_
            refine gf_X8_37 C hW dX8_moved_64 ?_
            refine lv_iload_n hx hb dX8_moved_67 rfl (lv_at hl 2 rfl) ?_
            refine lv_iload_n hx hb dX8_moved_68 rfl (lv_at hl 3 rfl) ?_
            refine lv_iconst (v := 1) hx hb dX8_moved_69 (by decide) ?_
            refine cl_X8_130 C hW h ⟨by decide, by decide⟩ ⟨Nat.zero_le _, Nat.zero_le _⟩ hl.1 (by decide) dX8_moved_70 (fun M_20 H locs h hW => ?_)
            refine lv_aload_n hx hb dX8_moved_73 rfl (lv_at hl 1 rfl) ?_
            refine gf_X8_37 C hW dX8_moved_74 ?_
            refine lv_iload hx hb dX8_moved_77 (lv_at hl 6 rfl) ?_
            refine cl_X8_137 C hW h ⟨by decide, by decide⟩ ⟨Nat.zero_le _, Nat.zero_le _⟩ hl.1 (Nat.le_of_ble_eq_true rfl) dX8_moved_79 (fun r_22 M_21 H locs h hW => ?_)
            refine lv_istore (lv' := [(7, .int r_22), (6, .int x6_17), (0, .ref (g.1 0)), (1, .int a1), (2, .int a2), (3, .int a3), (4, .int a4), (5, .int a5)]) hx hb dX8_moved_82 hl (by decide) rfl (fun ls hl => ?_)
            refine lv_aload_n hx hb dX8_moved_84 rfl (lv_at hl 2 rfl) ?_
            refine gf_X8_19 C hW dX8_moved_85 ?_
            refine gf_X8_72 C hW dX8_moved_88 ?_
            refine lv_iload_n hx hb dX8_moved_91 rfl (lv_at hl 5 rfl) ?_
            refine lv_iload hx hb dX8_moved_92 (lv_at hl 1 rfl) ?_
            have hi_23 := h.1
            have h := h.2
            refine pd_iast C hW kd_9 hi_23 dX8_moved_94 (fun M_24 H locs eM_24 hW => ?_)
            have h := h M_24 eM_24
            refine lv_iload hx hb dX8_moved_95 (lv_at hl 0 rfl) ?_
            exact pd_iret C hA hW h dX8_moved_97
          · have h := h.2 c_15
            refine lv_iconst (v := (-1)) hx hb dX8_moved_39 (by decide) ?_
            exact pd_iret C hA hW h dX8_moved_40

theorem dd_X8_moved : yX8_moved.cls ≠ "java/lang/invoke/MethodHandle" ∧ yX8_moved.cls ≠ "java/lang/invoke/VarHandle" ∧ (parseMethodDescriptor yX8_moved.desc).map (fun d => d.parameters.length) = some 5 := by decide +kernel
theorem cl_L_78 {p : Program} {l : Launch} {e : Env} {R : Room} {s : State} {m : MethodId} {args : Array Value} {below : List Frame} {meth : Method} {c : Code} {H : Heap} {locs : List Loc} {cells slots : Nat} {QQ : State → Prop} {cc : ByteArray} {pc : Nat} {ls : Array Slot} {rest : List Value} {D : va_G} {g : pd_G} {t : Nat} {M : pd_M} {X : va_W} {A : Nat → Prop} {nL : Nat} {ret : Option FieldType} {Qc : Int32 → pd_M → Prop} {a1 : Int32} {a2 : Int32} {a3 : Int32} {a4 : Int32} {a5 : Int32} (C : pd_C p m c cc nL s args RL meth ret) (hW : pd_W D g t M X A s H locs) (h : wX8_moved Qc a1 a2 a3 a4 a5 M) (hR : rX8_moved.frames + 1 ≤ R.frames ∧ 8 + (8 + 11) + rX8_moved.locals ≤ R.locals) (hcs : cells ≤ R.cells ∧ slots ≤ R.slots) (hls : ls.size = nL) (hw8 : (rest.map fun v => v.category).sum ≤ 8) (hdg : decode cc pc = .ok (.invokevirtual 78, 3))
    (kk : ∀ (r : Int32) (M1 : pd_M) (H1 : Heap) (locs1 : List Loc), Qc r M1 → pd_W D g t M1 X A s H1 locs1 → W p l e R s m args below meth c H1 locs1 cells slots QQ (F0 m (pc + 3) ls (.int r :: rest))) : W p l e R s m args below meth c H locs cells slots QQ (F0 m pc ls (.int a5 :: .int a4 :: .int a3 :: .int a2 :: .int a1 :: .ref (g.1 0) :: rest)) :=
  pd_callVi (As := [.int a1, .int a2, .int a3, .int a4, .int a5]) C hW (mX8_moved h) kd_0 rfl mM_L_78 mO_yX8_moved mV_yX8_moved mI_X8 mC_yX8_moved dd_X8_moved ⟨rfl, rfl⟩ hR hcs hls rfl hw8 hdg kk
abbrev rX8_gain : Room := { frames := 2, cells := 0, slots := 0, locals := 42 }
def wX8_gain (Q : Int32 → pd_M → Prop) (a1 : Int32) (a2 : Int32) (M : pd_M) : Prop := wX8_isStreet (fun r_2 M_1 => ((r_2 = 0 → Q (-1) M_1) ∧ (¬ r_2 = 0 → wX8_isUpTo (fun r_5 M_4 => ((¬ r_5 = 0 → (vp_in a1 5 ∧ ∀ x3_8 : Int32, x3_8 = (M_4.1 23 a1.toNatClampNeg) → (vp_in a1 5 ∧ ∀ M_10 : pd_M, M_10 = sI M_4 23 a1.toNatClampNeg a2 → Q x3_8 M_10))) ∧ (r_5 = 0 → Q (-1) M_4))) a2 99 M_1))) a1 M

set_option maxRecDepth 100000 in
set_option maxHeartbeats 4000000 in
theorem mX8_gain {l : Launch} {D : va_G} {g : pd_G} {t : Nat} {X : va_W} {Q : Int32 → pd_M → Prop} {a1 : Int32} {a2 : Int32} {M : pd_M} {sz : Nat} (h : wX8_gain Q a1 a2 M) : Met l yX8_gain (Cond.code yX8_gain cX8_gain 4 (Option.some FieldType.int) :: TB) rX8_gain (pd_Pre D g t M X sz [.ref (g.1 0), .int a1, .int a2]) (pd_Qi D g M X sz Q) 0 0 (va_A (pd_WL g M ++ X) sz) := by
  refine pd_met (by decide) (Nat.le_of_ble_eq_true rfl) ?_
  intro p e s m below meth c A ls C hA hW hl
  have C : pd_C p m c cX8_gain 4 s _ RX8 meth (Option.some FieldType.int) := C
  have hx := C.1.1
  have hb := C.1.2.1
  have hown := C.1.2.2.2.1
  have hts := C.1.2.2.2.2
  have hl : lv_has ls 4 [(0, .ref (g.1 0)), (1, .int a1), (2, .int a2)] := hl
  refine lv_aload_n hx hb dX8_gain_0 rfl (lv_at hl 0 rfl) ?_
  refine lv_iload_n hx hb dX8_gain_1 rfl (lv_at hl 1 rfl) ?_
  refine cl_X8_69 C hW h ⟨by decide, by decide⟩ ⟨Nat.zero_le _, Nat.zero_le _⟩ hl.1 (Nat.le_of_ble_eq_true rfl) dX8_gain_2 (fun r_2 M_1 H locs h hW => ?_)
  refine lv_if_eq (tgt := 17) hx hb dX8_gain_5 (by decide) (fun c_3 => ?_) (fun c_3 => ?_)
  · have h := h.1 c_3
    refine lv_iconst (v := (-1)) hx hb dX8_gain_17 (by decide) ?_
    exact pd_iret C hA hW h dX8_gain_18
  · have h := h.2 c_3
    refine lv_iload_n hx hb dX8_gain_8 rfl (lv_at hl 2 rfl) ?_
    refine lv_bipush (v := 99) hx hb dX8_gain_9 (by decide) ?_
    refine cl_X8_61 C hW h ⟨by decide, by decide⟩ ⟨Nat.zero_le _, Nat.zero_le _⟩ hl.1 (Nat.le_of_ble_eq_true rfl) dX8_gain_11 (fun r_5 M_4 H locs h hW => ?_)
    refine lv_if_ne (tgt := 19) hx hb dX8_gain_14 (by decide) (fun c_6 => ?_) (fun c_6 => ?_)
    · have h := h.1 c_6
      refine lv_aload_n hx hb dX8_gain_19 rfl (lv_at hl 0 rfl) ?_
      refine gf_X8_19 C hW dX8_gain_20 ?_
      refine gf_X8_144 C hW dX8_gain_23 ?_
      refine lv_iload_n hx hb dX8_gain_26 rfl (lv_at hl 1 rfl) ?_
      have hi_7 := h.1
      have h := h.2
      refine pd_iald C hW kd_23 hi_7 dX8_gain_27 ?_
      refine lv_topi (fun x3_8 ex3_8 => ?_)
      have h := h x3_8 ex3_8
      refine lv_istore_n (lv' := [(3, .int x3_8), (0, .ref (g.1 0)), (1, .int a1), (2, .int a2)]) hx hb dX8_gain_28 rfl hl (by decide) rfl (fun ls hl => ?_)
      refine lv_aload_n hx hb dX8_gain_29 rfl (lv_at hl 1 rfl) ?_
      refine gf_X8_19 C hW dX8_gain_30 ?_
      refine gf_X8_144 C hW dX8_gain_33 ?_
      refine lv_iload_n hx hb dX8_gain_36 rfl (lv_at hl 2 rfl) ?_
      refine lv_iload_n hx hb dX8_gain_37 rfl (lv_at hl 3 rfl) ?_
      have hi_9 := h.1
      have h := h.2
      refine pd_iast C hW kd_23 hi_9 dX8_gain_38 (fun M_10 H locs eM_10 hW => ?_)
      have h := h M_10 eM_10
      refine lv_iload_n hx hb dX8_gain_39 rfl (lv_at hl 0 rfl) ?_
      exact pd_iret C hA hW h dX8_gain_40
    · have h := h.2 c_6
      refine lv_iconst (v := (-1)) hx hb dX8_gain_17 (by decide) ?_
      exact pd_iret C hA hW h dX8_gain_18

theorem dd_X8_gain : yX8_gain.cls ≠ "java/lang/invoke/MethodHandle" ∧ yX8_gain.cls ≠ "java/lang/invoke/VarHandle" ∧ (parseMethodDescriptor yX8_gain.desc).map (fun d => d.parameters.length) = some 2 := by decide +kernel
theorem cl_L_83 {p : Program} {l : Launch} {e : Env} {R : Room} {s : State} {m : MethodId} {args : Array Value} {below : List Frame} {meth : Method} {c : Code} {H : Heap} {locs : List Loc} {cells slots : Nat} {QQ : State → Prop} {cc : ByteArray} {pc : Nat} {ls : Array Slot} {rest : List Value} {D : va_G} {g : pd_G} {t : Nat} {M : pd_M} {X : va_W} {A : Nat → Prop} {nL : Nat} {ret : Option FieldType} {Qc : Int32 → pd_M → Prop} {a1 : Int32} {a2 : Int32} (C : pd_C p m c cc nL s args RL meth ret) (hW : pd_W D g t M X A s H locs) (h : wX8_gain Qc a1 a2 M) (hR : rX8_gain.frames + 1 ≤ R.frames ∧ 8 + (4 + 11) + rX8_gain.locals ≤ R.locals) (hcs : cells ≤ R.cells ∧ slots ≤ R.slots) (hls : ls.size = nL) (hw8 : (rest.map fun v => v.category).sum ≤ 8) (hdg : decode cc pc = .ok (.invokevirtual 83, 3))
    (kk : ∀ (r : Int32) (M1 : pd_M) (H1 : Heap) (locs1 : List Loc), Qc r M1 → pd_W D g t M1 X A s H1 locs1 → W p l e R s m args below meth c H1 locs1 cells slots QQ (F0 m (pc + 3) ls (.int r :: rest))) : W p l e R s m args below meth c H locs cells slots QQ (F0 m pc ls (.int a2 :: .int a1 :: .ref (g.1 0) :: rest)) :=
  pd_callVi (As := [.int a1, .int a2]) C hW (mX8_gain h) kd_0 rfl mM_L_83 mO_yX8_gain mV_yX8_gain mI_X8 mC_yX8_gain dd_X8_gain ⟨rfl, rfl⟩ hR hcs hls rfl hw8 hdg kk
abbrev rX8_fine : Room := { frames := 0, cells := 0, slots := 0, locals := 0 }
def wX8_fine (Q : Int32 → pd_M → Prop) (a1 : Int32) (M : pd_M) : Prop := ((a1 < 1 → Q (-1) M) ∧ (¬ a1 < 1 → ((a1 ≤ 500 → ∀ x2_3 : Int32, x2_3 = (M.1 59 1) → ∀ M_4 : pd_M, M_4 = sI M 59 1 a1 → Q x2_3 M_4) ∧ (¬ a1 ≤ 500 → Q (-1) M))))

set_option maxRecDepth 100000 in
set_option maxHeartbeats 4000000 in
theorem mX8_fine {l : Launch} {D : va_G} {g : pd_G} {t : Nat} {X : va_W} {Q : Int32 → pd_M → Prop} {a1 : Int32} {M : pd_M} {sz : Nat} (h : wX8_fine Q a1 M) : Met l yX8_fine (Cond.code yX8_fine cX8_fine 3 (Option.some FieldType.int) :: TB) rX8_fine (pd_Pre D g t M X sz [.ref (g.1 0), .int a1]) (pd_Qi D g M X sz Q) 0 0 (va_A (pd_WL g M ++ X) sz) := by
  refine pd_met (by decide) (Nat.le_of_ble_eq_true rfl) ?_
  intro p e s m below meth c A ls C hA hW hl
  have C : pd_C p m c cX8_fine 3 s _ RX8 meth (Option.some FieldType.int) := C
  have hx := C.1.1
  have hb := C.1.2.1
  have hown := C.1.2.2.2.1
  have hts := C.1.2.2.2.2
  have hl : lv_has ls 3 [(0, .ref (g.1 0)), (1, .int a1)] := hl
  refine lv_iload_n hx hb dX8_fine_0 rfl (lv_at hl 1 rfl) ?_
  refine lv_iconst (v := 1) hx hb dX8_fine_1 (by decide) ?_
  refine lv_icmp_lt (tgt := 12) hx hb dX8_fine_2 (by decide) (fun c_1 => ?_) (fun c_1 => ?_)
  · have h := h.1 c_1
    refine lv_iconst (v := (-1)) hx hb dX8_fine_12 (by decide) ?_
    exact pd_iret C hA hW h dX8_fine_13
  · have h := h.2 c_1
    refine lv_iload_n hx hb dX8_fine_5 rfl (lv_at hl 1 rfl) ?_
    refine lv_sipush (v := 500) hx hb dX8_fine_6 (by decide) ?_
    refine lv_icmp_le (tgt := 14) hx hb dX8_fine_9 (by decide) (fun c_2 => ?_) (fun c_2 => ?_)
    · have h := h.1 c_2
      refine lv_aload_n hx hb dX8_fine_14 rfl (lv_at hl 0 rfl) ?_
      refine gf_X8_46 C hW dX8_fine_15 ?_
      refine gf_X8_147 C hW dX8_fine_18 ?_
      refine lv_topi (fun x2_3 ex2_3 => ?_)
      have h := h x2_3 ex2_3
      refine lv_istore_n (lv' := [(2, .int x2_3), (0, .ref (g.1 0)), (1, .int a1)]) hx hb dX8_fine_21 rfl hl (by decide) rfl (fun ls hl => ?_)
      refine lv_aload_n hx hb dX8_fine_22 rfl (lv_at hl 1 rfl) ?_
      refine gf_X8_46 C hW dX8_fine_23 ?_
      refine lv_iload_n hx hb dX8_fine_26 rfl (lv_at hl 2 rfl) ?_
      refine pf_X8_147 C hW dX8_fine_27 (fun M_4 H locs eM_4 hW => ?_)
      have h := h M_4 eM_4
      refine lv_iload_n hx hb dX8_fine_30 rfl (lv_at hl 0 rfl) ?_
      exact pd_iret C hA hW h dX8_fine_31
    · have h := h.2 c_2
      refine lv_iconst (v := (-1)) hx hb dX8_fine_12 (by decide) ?_
      exact pd_iret C hA hW h dX8_fine_13

theorem dd_X8_fine : yX8_fine.cls ≠ "java/lang/invoke/MethodHandle" ∧ yX8_fine.cls ≠ "java/lang/invoke/VarHandle" ∧ (parseMethodDescriptor yX8_fine.desc).map (fun d => d.parameters.length) = some 1 := by decide +kernel
theorem cl_L_87 {p : Program} {l : Launch} {e : Env} {R : Room} {s : State} {m : MethodId} {args : Array Value} {below : List Frame} {meth : Method} {c : Code} {H : Heap} {locs : List Loc} {cells slots : Nat} {QQ : State → Prop} {cc : ByteArray} {pc : Nat} {ls : Array Slot} {rest : List Value} {D : va_G} {g : pd_G} {t : Nat} {M : pd_M} {X : va_W} {A : Nat → Prop} {nL : Nat} {ret : Option FieldType} {Qc : Int32 → pd_M → Prop} {a1 : Int32} (C : pd_C p m c cc nL s args RL meth ret) (hW : pd_W D g t M X A s H locs) (h : wX8_fine Qc a1 M) (hR : rX8_fine.frames + 1 ≤ R.frames ∧ 8 + (3 + 11) + rX8_fine.locals ≤ R.locals) (hcs : cells ≤ R.cells ∧ slots ≤ R.slots) (hls : ls.size = nL) (hw8 : (rest.map fun v => v.category).sum ≤ 8) (hdg : decode cc pc = .ok (.invokevirtual 87, 3))
    (kk : ∀ (r : Int32) (M1 : pd_M) (H1 : Heap) (locs1 : List Loc), Qc r M1 → pd_W D g t M1 X A s H1 locs1 → W p l e R s m args below meth c H1 locs1 cells slots QQ (F0 m (pc + 3) ls (.int r :: rest))) : W p l e R s m args below meth c H locs cells slots QQ (F0 m pc ls (.int a1 :: .ref (g.1 0) :: rest)) :=
  pd_callVi (As := [.int a1]) C hW (mX8_fine h) kd_0 rfl mM_L_87 mO_yX8_fine mV_yX8_fine mI_X8 mC_yX8_fine dd_X8_fine ⟨rfl, rfl⟩ hR hcs hls rfl hw8 hdg kk
abbrev rX8_ticket : Room := { frames := 3, cells := 0, slots := 0, locals := 68 }
def wX8_ticket (Q : Int32 → pd_M → Prop) (a1 : Int32) (a2 : Int32) (a3 : Int32) (a4 : Int32) (M : pd_M) : Prop := wX8_isCar (fun r_2 M_1 => ((r_2 = 0 → Q (-1) M_1) ∧ (¬ r_2 = 0 → wX8_isStreet (fun r_5 M_4 => ((r_5 = 0 → Q (-1) M_4) ∧ (¬ r_5 = 0 → wX8_isHour (fun r_8 M_7 => ((r_8 = 0 → Q (-1) M_7) ∧ (¬ r_8 = 0 → wX8_isNumbered (fun r_11 M_10 => ((¬ r_11 = 0 → (vp_in a2 5 ∧ ∀ x5_14 : Int32, x5_14 = (M_10.1 9 a2.toNatClampNeg) → wX0_right (fun r_16 M_15 => wX5_judge (fun r_18 M_17 => wX5_add (fun r_20 M_19 => Q r_20 M_19) a1 a2 a3 a4 x5_14 r_18 M_17) r_16 a4 M_15) a1 x5_14 a3 M_10)) ∧ (r_11 = 0 → Q (-1) M_10))) a4 3 M_7))) a3 M_4))) a2 M_1))) a1 M

set_option maxRecDepth 100000 in
set_option maxHeartbeats 4000000 in
theorem mX8_ticket {l : Launch} {D : va_G} {g : pd_G} {t : Nat} {X : va_W} {Q : Int32 → pd_M → Prop} {a1 : Int32} {a2 : Int32} {a3 : Int32} {a4 : Int32} {M : pd_M} {sz : Nat} (h : wX8_ticket Q a1 a2 a3 a4 M) : Met l yX8_ticket (Cond.code yX8_ticket cX8_ticket 7 (Option.some FieldType.int) :: TB) rX8_ticket (pd_Pre D g t M X sz [.ref (g.1 0), .int a1, .int a2, .int a3, .int a4]) (pd_Qi D g M X sz Q) 0 0 (va_A (pd_WL g M ++ X) sz) := by
  refine pd_met (by decide) (Nat.le_of_ble_eq_true rfl) ?_
  intro p e s m below meth c A ls C hA hW hl
  have C : pd_C p m c cX8_ticket 7 s _ RX8 meth (Option.some FieldType.int) := C
  have hx := C.1.1
  have hb := C.1.2.1
  have hown := C.1.2.2.2.1
  have hts := C.1.2.2.2.2
  have hl : lv_has ls 7 [(0, .ref (g.1 0)), (1, .int a1), (2, .int a2), (3, .int a3), (4, .int a4)] := hl
  refine lv_aload_n hx hb dX8_ticket_0 rfl (lv_at hl 0 rfl) ?_
  refine lv_iload_n hx hb dX8_ticket_1 rfl (lv_at hl 1 rfl) ?_
  refine cl_X8_107 C hW h ⟨by decide, by decide⟩ ⟨Nat.zero_le _, Nat.zero_le _⟩ hl.1 (Nat.le_of_ble_eq_true rfl) dX8_ticket_2 (fun r_2 M_1 H locs h hW => ?_)
  refine lv_if_eq (tgt := 32) hx hb dX8_ticket_5 (by decide) (fun c_3 => ?_) (fun c_3 => ?_)
  · have h := h.1 c_3
    refine lv_iconst (v := (-1)) hx hb dX8_ticket_32 (by decide) ?_
    exact pd_iret C hA hW h dX8_ticket_33
  · have h := h.2 c_3
    refine lv_aload_n hx hb dX8_ticket_8 rfl (lv_at hl 0 rfl) ?_
    refine lv_iload_n hx hb dX8_ticket_9 rfl (lv_at hl 2 rfl) ?_
    refine cl_X8_69 C hW h ⟨by decide, by decide⟩ ⟨Nat.zero_le _, Nat.zero_le _⟩ hl.1 (Nat.le_of_ble_eq_true rfl) dX8_ticket_10 (fun r_5 M_4 H locs h hW => ?_)
    refine lv_if_eq (tgt := 32) hx hb dX8_ticket_13 (by decide) (fun c_6 => ?_) (fun c_6 => ?_)
    · have h := h.1 c_6
      refine lv_iconst (v := (-1)) hx hb dX8_ticket_32 (by decide) ?_
      exact pd_iret C hA hW h dX8_ticket_33
    · have h := h.2 c_6
      refine lv_iload_n hx hb dX8_ticket_16 rfl (lv_at hl 3 rfl) ?_
      refine cl_X8_123 C hW h ⟨by decide, by decide⟩ ⟨Nat.zero_le _, Nat.zero_le _⟩ hl.1 (Nat.le_of_ble_eq_true rfl) dX8_ticket_17 (fun r_8 M_7 H locs h hW => ?_)
      refine lv_if_eq (tgt := 32) hx hb dX8_ticket_20 (by decide) (fun c_9 => ?_) (fun c_9 => ?_)
      · have h := h.1 c_9
        refine lv_iconst (v := (-1)) hx hb dX8_ticket_32 (by decide) ?_
        exact pd_iret C hA hW h dX8_ticket_33
      · have h := h.2 c_9
        refine lv_iload hx hb dX8_ticket_23 (lv_at hl 4 rfl) ?_
        refine lv_iconst (v := 3) hx hb dX8_ticket_25 (by decide) ?_
        refine cl_X8_164 C hW h ⟨by decide, by decide⟩ ⟨Nat.zero_le _, Nat.zero_le _⟩ hl.1 (Nat.le_of_ble_eq_true rfl) dX8_ticket_26 (fun r_11 M_10 H locs h hW => ?_)
        refine lv_if_ne (tgt := 34) hx hb dX8_ticket_29 (by decide) (fun c_12 => ?_) (fun c_12 => ?_)
        · have h := h.1 c_12
          refine lv_aload_n hx hb dX8_ticket_34 rfl (lv_at hl 0 rfl) ?_
          refine gf_X8_19 C hW dX8_ticket_35 ?_
          refine gf_X8_72 C hW dX8_ticket_38 ?_
          refine lv_iload_n hx hb dX8_ticket_41 rfl (lv_at hl 2 rfl) ?_
          have hi_13 := h.1
          have h := h.2
          refine pd_iald C hW kd_9 hi_13 dX8_ticket_42 ?_
          refine lv_topi (fun x5_14 ex5_14 => ?_)
          have h := h x5_14 ex5_14
          refine lv_istore (lv' := [(5, .int x5_14), (0, .ref (g.1 0)), (1, .int a1), (2, .int a2), (3, .int a3), (4, .int a4)]) hx hb dX8_ticket_43 hl (by decide) rfl (fun ls hl => ?_)
          refine lv_aload_n hx hb dX8_ticket_45 rfl (lv_at hl 1 rfl) ?_
          refine gf_X8_28 C hW dX8_ticket_46 ?_
          refine lv_iload_n hx hb dX8_ticket_49 rfl (lv_at hl 2 rfl) ?_
          refine lv_iload hx hb dX8_ticket_50 (lv_at hl 0 rfl) ?_
          refine lv_iload_n hx hb dX8_ticket_52 rfl (lv_at hl 4 rfl) ?_
          refine cl_X8_126 C hW h ⟨by decide, by decide⟩ ⟨Nat.zero_le _, Nat.zero_le _⟩ hl.1 (Nat.le_of_ble_eq_true rfl) dX8_ticket_53 (fun r_16 M_15 H locs h hW => ?_)
          refine lv_iload hx hb dX8_ticket_56 (lv_at hl 5 rfl) ?_
          refine cl_X8_167 C hW h ⟨by decide, by decide⟩ ⟨Nat.zero_le _, Nat.zero_le _⟩ hl.1 (Nat.le_of_ble_eq_true rfl) dX8_ticket_58 (fun r_18 M_17 H locs h hW => ?_)
          refine lv_istore (lv' := [(6, .int r_18), (5, .int x5_14), (0, .ref (g.1 0)), (1, .int a1), (2, .int a2), (3, .int a3), (4, .int a4)]) hx hb dX8_ticket_61 hl (by decide) rfl (fun ls hl => ?_)
          refine lv_aload_n hx hb dX8_ticket_63 rfl (lv_at hl 2 rfl) ?_
          refine gf_X8_53 C hW dX8_ticket_64 ?_
          refine lv_iload_n hx hb dX8_ticket_67 rfl (lv_at hl 3 rfl) ?_
          refine lv_iload_n hx hb dX8_ticket_68 rfl (lv_at hl 4 rfl) ?_
          refine lv_iload_n hx hb dX8_ticket_69 rfl (lv_at hl 5 rfl) ?_
          refine lv_iload hx hb dX8_ticket_70 (lv_at hl 6 rfl) ?_
          refine lv_iload hx hb dX8_ticket_72 (lv_at hl 1 rfl) ?_
          refine lv_iload hx hb dX8_ticket_74 (lv_at hl 0 rfl) ?_
          refine cl_X8_170 C hW h ⟨by decide, by decide⟩ ⟨Nat.zero_le _, Nat.zero_le _⟩ hl.1 (Nat.le_of_ble_eq_true rfl) dX8_ticket_76 (fun r_20 M_19 H locs h hW => ?_)
          exact pd_iret C hA hW h dX8_ticket_79
        · have h := h.2 c_12
          refine lv_iconst (v := (-1)) hx hb dX8_ticket_32 (by decide) ?_
          exact pd_iret C hA hW h dX8_ticket_33

theorem dd_X8_ticket : yX8_ticket.cls ≠ "java/lang/invoke/MethodHandle" ∧ yX8_ticket.cls ≠ "java/lang/invoke/VarHandle" ∧ (parseMethodDescriptor yX8_ticket.desc).map (fun d => d.parameters.length) = some 4 := by decide +kernel
theorem cl_L_99 {p : Program} {l : Launch} {e : Env} {R : Room} {s : State} {m : MethodId} {args : Array Value} {below : List Frame} {meth : Method} {c : Code} {H : Heap} {locs : List Loc} {cells slots : Nat} {QQ : State → Prop} {cc : ByteArray} {pc : Nat} {ls : Array Slot} {rest : List Value} {D : va_G} {g : pd_G} {t : Nat} {M : pd_M} {X : va_W} {A : Nat → Prop} {nL : Nat} {ret : Option FieldType} {Qc : Int32 → pd_M → Prop} {a1 : Int32} {a2 : Int32} {a3 : Int32} {a4 : Int32} (C : pd_C p m c cc nL s args RL meth ret) (hW : pd_W D g t M X A s H locs) (h : wX8_ticket Qc a1 a2 a3 a4 M) (hR : rX8_ticket.frames + 1 ≤ R.frames ∧ 8 + (7 + 11) + rX8_ticket.locals ≤ R.locals) (hcs : cells ≤ R.cells ∧ slots ≤ R.slots) (hls : ls.size = nL) (hw8 : (rest.map fun v => v.category).sum ≤ 8) (hdg : decode cc pc = .ok (.invokevirtual 99, 3))
    (kk : ∀ (r : Int32) (M1 : pd_M) (H1 : Heap) (locs1 : List Loc), Qc r M1 → pd_W D g t M1 X A s H1 locs1 → W p l e R s m args below meth c H1 locs1 cells slots QQ (F0 m (pc + 3) ls (.int r :: rest))) : W p l e R s m args below meth c H locs cells slots QQ (F0 m pc ls (.int a4 :: .int a3 :: .int a2 :: .int a1 :: .ref (g.1 0) :: rest)) :=
  pd_callVi (As := [.int a1, .int a2, .int a3, .int a4]) C hW (mX8_ticket h) kd_0 rfl mM_L_99 mO_yX8_ticket mV_yX8_ticket mI_X8 mC_yX8_ticket dd_X8_ticket ⟨rfl, rfl⟩ hR hcs hls rfl hw8 hdg kk
abbrev rX8_of : Room := { frames := 3, cells := 0, slots := 0, locals := 69 }
def wX8_of (Q : Int32 → pd_M → Prop) (a1 : Int32) (a2 : Int32) (M : pd_M) : Prop := wX8_isNumbered (fun r_2 M_1 => ((¬ r_2 = 0 → wX8_isUpTo (fun r_5 M_4 => ((r_5 = 0 → ((a2 = 6 → wX5_stateByLikes (fun r_9 M_8 => Q r_9 M_8) a1 M_4) ∧ (¬ a2 = 6 → ((a2 = 7 → wX5_countLikes (fun r_12 M_11 => wX5_countLikes (fun r_14 M_13 => Q (r_12 + r_14) M_13) a1 0 M_11) a1 1 M_4) ∧ (¬ a2 = 7 → Q (-1) M_4))))) ∧ (¬ r_5 = 0 → (vp_in a1 20 ∧ (vp_in a2 6 ∧ Q (M_4.1 (62 + a1.toNatClampNeg) a2.toNatClampNeg) M_4))))) a2 5 M_1) ∧ (r_2 = 0 → Q (-1) M_1))) a1 (M.1 60 0) M

set_option maxRecDepth 100000 in
set_option maxHeartbeats 4000000 in
theorem mX8_of {l : Launch} {D : va_G} {g : pd_G} {t : Nat} {X : va_W} {Q : Int32 → pd_M → Prop} {a1 : Int32} {a2 : Int32} {M : pd_M} {sz : Nat} (h : wX8_of Q a1 a2 M) : Met l yX8_of (Cond.code yX8_of cX8_of 3 (Option.some FieldType.int) :: TB) rX8_of (pd_Pre D g t M X sz [.ref (g.1 0), .int a1, .int a2]) (pd_Qi D g M X sz Q) 0 0 (va_A (pd_WL g M ++ X) sz) := by
  refine pd_met (by decide) (Nat.le_of_ble_eq_true rfl) ?_
  intro p e s m below meth c A ls C hA hW hl
  have C : pd_C p m c cX8_of 3 s _ RX8 meth (Option.some FieldType.int) := C
  have hx := C.1.1
  have hb := C.1.2.1
  have hown := C.1.2.2.2.1
  have hts := C.1.2.2.2.2
  have hl : lv_has ls 3 [(0, .ref (g.1 0)), (1, .int a1), (2, .int a2)] := hl
  refine lv_iload_n hx hb dX8_of_0 rfl (lv_at hl 1 rfl) ?_
  refine lv_aload_n hx hb dX8_of_1 rfl (lv_at hl 0 rfl) ?_
  refine gf_X8_53 C hW dX8_of_2 ?_
  refine gf_X8_173 C hW dX8_of_5 ?_
  refine cl_X8_164 C hW h ⟨by decide, by decide⟩ ⟨Nat.zero_le _, Nat.zero_le _⟩ hl.1 (Nat.le_of_ble_eq_true rfl) dX8_of_8 (fun r_2 M_1 H locs h hW => ?_)
  refine lv_if_ne (tgt := 16) hx hb dX8_of_11 (by decide) (fun c_3 => ?_) (fun c_3 => ?_)
  · have h := h.1 c_3
    refine lv_iload_n hx hb dX8_of_16 rfl (lv_at hl 2 rfl) ?_
    refine lv_iconst (v := 5) hx hb dX8_of_17 (by decide) ?_
    refine cl_X8_61 C hW h ⟨by decide, by decide⟩ ⟨Nat.zero_le _, Nat.zero_le _⟩ hl.1 (Nat.le_of_ble_eq_true rfl) dX8_of_18 (fun r_5 M_4 H locs h hW => ?_)
    refine lv_if_eq (tgt := 36) hx hb dX8_of_21 (by decide) (fun c_6 => ?_) (fun c_6 => ?_)
    · have h := h.1 c_6
      refine lv_iload_n hx hb dX8_of_36 rfl (lv_at hl 2 rfl) ?_
      by_cases c_7 : a2 = 6
      · have h := h.1 c_7
        refine lv_lookup (off := 27) (tgt := 64) hx hb dX8_of_37 (by decide) (by rw [c_7]; rfl) (by decide) ?_
        refine lv_aload_n hx hb dX8_of_64 rfl (lv_at hl 0 rfl) ?_
        refine gf_X8_53 C hW dX8_of_65 ?_
        refine lv_iload_n hx hb dX8_of_68 rfl (lv_at hl 1 rfl) ?_
        refine cl_X8_179 C hW h ⟨by decide, by decide⟩ ⟨Nat.zero_le _, Nat.zero_le _⟩ hl.1 (Nat.le_of_ble_eq_true rfl) dX8_of_69 (fun r_9 M_8 H locs h hW => ?_)
        exact pd_iret C hA hW h dX8_of_72
      have h := h.2 c_7
      by_cases c_10 : a2 = 7
      · have h := h.1 c_10
        refine lv_lookup (off := 36) (tgt := 73) hx hb dX8_of_37 (by decide) (by rw [c_10]; rfl) (by decide) ?_
        refine lv_aload_n hx hb dX8_of_73 rfl (lv_at hl 0 rfl) ?_
        refine gf_X8_53 C hW dX8_of_74 ?_
        refine lv_iload_n hx hb dX8_of_77 rfl (lv_at hl 1 rfl) ?_
        refine lv_iconst (v := 1) hx hb dX8_of_78 (by decide) ?_
        refine cl_X8_182 C hW h ⟨by decide, by decide⟩ ⟨Nat.zero_le _, Nat.zero_le _⟩ hl.1 (Nat.le_of_ble_eq_true rfl) dX8_of_79 (fun r_12 M_11 H locs h hW => ?_)
        refine lv_aload_n hx hb dX8_of_82 rfl (lv_at hl 0 rfl) ?_
        refine gf_X8_53 C hW dX8_of_83 ?_
        refine lv_iload_n hx hb dX8_of_86 rfl (lv_at hl 1 rfl) ?_
        refine lv_iconst (v := 0) hx hb dX8_of_87 (by decide) ?_
        refine cl_X8_182 C hW h ⟨by decide, by decide⟩ ⟨Nat.zero_le _, Nat.zero_le _⟩ hl.1 (Nat.le_of_ble_eq_true rfl) dX8_of_88 (fun r_14 M_13 H locs h hW => ?_)
        refine lv_iadd hx hb dX8_of_91 ?_
        exact pd_iret C hA hW h dX8_of_92
      have h := h.2 c_10
      refine lv_lookup (off := 56) (tgt := 93) hx hb dX8_of_37 (by decide) (pd_lk67 c_7 c_10) (by decide) ?_
      refine lv_iconst (v := (-1)) hx hb dX8_of_93 (by decide) ?_
      exact pd_iret C hA hW h dX8_of_94
    · have h := h.2 c_6
      refine lv_aload_n hx hb dX8_of_24 rfl (lv_at hl 0 rfl) ?_
      refine gf_X8_53 C hW dX8_of_25 ?_
      refine gf_X8_176 C hW dX8_of_28 ?_
      refine lv_iload_n hx hb dX8_of_31 rfl (lv_at hl 1 rfl) ?_
      have hi_15 := h.1
      have h := h.2
      refine pd_aald C hW kd_61 hi_15 dX8_of_32 ?_
      refine lv_iload_n hx hb dX8_of_33 rfl (lv_at hl 2 rfl) ?_
      have hi_16 := h.1
      have h := h.2
      refine pd_iald C hW (pd_k62 _ (pd_lt hi_15)) hi_16 dX8_of_34 ?_
      exact pd_iret C hA hW h dX8_of_35
  · have h := h.2 c_3
    refine lv_iconst (v := (-1)) hx hb dX8_of_14 (by decide) ?_
    exact pd_iret C hA hW h dX8_of_15

theorem dd_X8_of : yX8_of.cls ≠ "java/lang/invoke/MethodHandle" ∧ yX8_of.cls ≠ "java/lang/invoke/VarHandle" ∧ (parseMethodDescriptor yX8_of.desc).map (fun d => d.parameters.length) = some 2 := by decide +kernel
theorem cl_L_103 {p : Program} {l : Launch} {e : Env} {R : Room} {s : State} {m : MethodId} {args : Array Value} {below : List Frame} {meth : Method} {c : Code} {H : Heap} {locs : List Loc} {cells slots : Nat} {QQ : State → Prop} {cc : ByteArray} {pc : Nat} {ls : Array Slot} {rest : List Value} {D : va_G} {g : pd_G} {t : Nat} {M : pd_M} {X : va_W} {A : Nat → Prop} {nL : Nat} {ret : Option FieldType} {Qc : Int32 → pd_M → Prop} {a1 : Int32} {a2 : Int32} (C : pd_C p m c cc nL s args RL meth ret) (hW : pd_W D g t M X A s H locs) (h : wX8_of Qc a1 a2 M) (hR : rX8_of.frames + 1 ≤ R.frames ∧ 8 + (3 + 11) + rX8_of.locals ≤ R.locals) (hcs : cells ≤ R.cells ∧ slots ≤ R.slots) (hls : ls.size = nL) (hw8 : (rest.map fun v => v.category).sum ≤ 8) (hdg : decode cc pc = .ok (.invokevirtual 103, 3))
    (kk : ∀ (r : Int32) (M1 : pd_M) (H1 : Heap) (locs1 : List Loc), Qc r M1 → pd_W D g t M1 X A s H1 locs1 → W p l e R s m args below meth c H1 locs1 cells slots QQ (F0 m (pc + 3) ls (.int r :: rest))) : W p l e R s m args below meth c H locs cells slots QQ (F0 m pc ls (.int a2 :: .int a1 :: .ref (g.1 0) :: rest)) :=
  pd_callVi (As := [.int a1, .int a2]) C hW (mX8_of h) kd_0 rfl mM_L_103 mO_yX8_of mV_yX8_of mI_X8 mC_yX8_of dd_X8_of ⟨rfl, rfl⟩ hR hcs hls rfl hw8 hdg kk
abbrev rX8_many : Room := { frames := 1, cells := 0, slots := 0, locals := 23 }
def wX8_many (Q : Int32 → pd_M → Prop) (a1 : Int32) (M : pd_M) : Prop := ((a1 = 0 → Q (M.1 8 0) M) ∧ (¬ a1 = 0 → ((a1 = 1 → Q (M.1 24 1) M) ∧ (¬ a1 = 1 → ((a1 = 2 → Q (M.1 60 0) M) ∧ (¬ a1 = 2 → ((a1 = 3 → wX5_countState (fun r_6 M_5 => Q r_6 M_5) 1 M) ∧ (¬ a1 = 3 → ((a1 = 4 → wX5_countState (fun r_9 M_8 => Q r_9 M_8) 0 M) ∧ (¬ a1 = 4 → ((a1 = 5 → wX5_countState (fun r_12 M_11 => Q r_12 M_11) 2 M) ∧ (¬ a1 = 5 → ((a1 = 6 → wX4_countBays (fun r_15 M_14 => Q r_15 M_14) M) ∧ (¬ a1 = 6 → ((a1 = 7 → wX0_countCards (fun r_18 M_17 => Q r_18 M_17) M) ∧ (¬ a1 = 7 → Q (-1) M))))))))))))))))

set_option maxRecDepth 100000 in
set_option maxHeartbeats 4000000 in
theorem mX8_many {l : Launch} {D : va_G} {g : pd_G} {t : Nat} {X : va_W} {Q : Int32 → pd_M → Prop} {a1 : Int32} {M : pd_M} {sz : Nat} (h : wX8_many Q a1 M) : Met l yX8_many (Cond.code yX8_many cX8_many 2 (Option.some FieldType.int) :: TB) rX8_many (pd_Pre D g t M X sz [.ref (g.1 0), .int a1]) (pd_Qi D g M X sz Q) 0 0 (va_A (pd_WL g M ++ X) sz) := by
  refine pd_met (by decide) (Nat.le_of_ble_eq_true rfl) ?_
  intro p e s m below meth c A ls C hA hW hl
  have C : pd_C p m c cX8_many 2 s _ RX8 meth (Option.some FieldType.int) := C
  have hx := C.1.1
  have hb := C.1.2.1
  have hown := C.1.2.2.2.1
  have hts := C.1.2.2.2.2
  have hl : lv_has ls 2 [(0, .ref (g.1 0)), (1, .int a1)] := hl
  refine lv_iload_n hx hb dX8_many_0 rfl (lv_at hl 1 rfl) ?_
  by_cases c_1 : a1 = 0
  · have h := h.1 c_1
    refine lv_tableIn (off := 47) (tgt := 48) hx hb dX8_many_1 (by rw [c_1]; decide) (by rw [c_1]; decide) (by rw [c_1]; rfl) (by decide) ?_
    refine lv_aload_n hx hb dX8_many_48 rfl (lv_at hl 0 rfl) ?_
    refine gf_X8_19 C hW dX8_many_49 ?_
    refine gf_X8_185 C hW dX8_many_52 ?_
    exact pd_iret C hA hW h dX8_many_55
  have h := h.2 c_1
  by_cases c_2 : a1 = 1
  · have h := h.1 c_2
    refine lv_tableIn (off := 55) (tgt := 56) hx hb dX8_many_1 (by rw [c_2]; decide) (by rw [c_2]; decide) (by rw [c_2]; rfl) (by decide) ?_
    refine lv_aload_n hx hb dX8_many_56 rfl (lv_at hl 0 rfl) ?_
    refine gf_X8_28 C hW dX8_many_57 ?_
    refine gf_X8_186 C hW dX8_many_60 ?_
    exact pd_iret C hA hW h dX8_many_63
  have h := h.2 c_2
  by_cases c_3 : a1 = 2
  · have h := h.1 c_3
    refine lv_tableIn (off := 63) (tgt := 64) hx hb dX8_many_1 (by rw [c_3]; decide) (by rw [c_3]; decide) (by rw [c_3]; rfl) (by decide) ?_
    refine lv_aload_n hx hb dX8_many_64 rfl (lv_at hl 0 rfl) ?_
    refine gf_X8_53 C hW dX8_many_65 ?_
    refine gf_X8_173 C hW dX8_many_68 ?_
    exact pd_iret C hA hW h dX8_many_71
  have h := h.2 c_3
  by_cases c_4 : a1 = 3
  · have h := h.1 c_4
    refine lv_tableIn (off := 71) (tgt := 72) hx hb dX8_many_1 (by rw [c_4]; decide) (by rw [c_4]; decide) (by rw [c_4]; rfl) (by decide) ?_
    refine lv_aload_n hx hb dX8_many_72 rfl (lv_at hl 0 rfl) ?_
    refine gf_X8_53 C hW dX8_many_73 ?_
    refine lv_iconst (v := 1) hx hb dX8_many_76 (by decide) ?_
    refine cl_X8_187 C hW h ⟨by decide, by decide⟩ ⟨Nat.zero_le _, Nat.zero_le _⟩ hl.1 (Nat.le_of_ble_eq_true rfl) dX8_many_77 (fun r_6 M_5 H locs h hW => ?_)
    exact pd_iret C hA hW h dX8_many_80
  have h := h.2 c_4
  by_cases c_7 : a1 = 4
  · have h := h.1 c_7
    refine lv_tableIn (off := 80) (tgt := 81) hx hb dX8_many_1 (by rw [c_7]; decide) (by rw [c_7]; decide) (by rw [c_7]; rfl) (by decide) ?_
    refine lv_aload_n hx hb dX8_many_81 rfl (lv_at hl 0 rfl) ?_
    refine gf_X8_53 C hW dX8_many_82 ?_
    refine lv_iconst (v := 0) hx hb dX8_many_85 (by decide) ?_
    refine cl_X8_187 C hW h ⟨by decide, by decide⟩ ⟨Nat.zero_le _, Nat.zero_le _⟩ hl.1 (Nat.le_of_ble_eq_true rfl) dX8_many_86 (fun r_9 M_8 H locs h hW => ?_)
    exact pd_iret C hA hW h dX8_many_89
  have h := h.2 c_7
  by_cases c_10 : a1 = 5
  · have h := h.1 c_10
    refine lv_tableIn (off := 89) (tgt := 90) hx hb dX8_many_1 (by rw [c_10]; decide) (by rw [c_10]; decide) (by rw [c_10]; rfl) (by decide) ?_
    refine lv_aload_n hx hb dX8_many_90 rfl (lv_at hl 0 rfl) ?_
    refine gf_X8_53 C hW dX8_many_91 ?_
    refine lv_iconst (v := 2) hx hb dX8_many_94 (by decide) ?_
    refine cl_X8_187 C hW h ⟨by decide, by decide⟩ ⟨Nat.zero_le _, Nat.zero_le _⟩ hl.1 (Nat.le_of_ble_eq_true rfl) dX8_many_95 (fun r_12 M_11 H locs h hW => ?_)
    exact pd_iret C hA hW h dX8_many_98
  have h := h.2 c_10
  by_cases c_13 : a1 = 6
  · have h := h.1 c_13
    refine lv_tableIn (off := 98) (tgt := 99) hx hb dX8_many_1 (by rw [c_13]; decide) (by rw [c_13]; decide) (by rw [c_13]; rfl) (by decide) ?_
    refine lv_aload_n hx hb dX8_many_99 rfl (lv_at hl 0 rfl) ?_
    refine gf_X8_19 C hW dX8_many_100 ?_
    refine cl_X8_190 C hW h ⟨by decide, by decide⟩ ⟨Nat.zero_le _, Nat.zero_le _⟩ hl.1 (Nat.le_of_ble_eq_true rfl) dX8_many_103 (fun r_15 M_14 H locs h hW => ?_)
    exact pd_iret C hA hW h dX8_many_106
  have h := h.2 c_13
  by_cases c_16 : a1 = 7
  · have h := h.1 c_16
    refine lv_tableIn (off := 106) (tgt := 107) hx hb dX8_many_1 (by rw [c_16]; decide) (by rw [c_16]; decide) (by rw [c_16]; rfl) (by decide) ?_
    refine lv_aload_n hx hb dX8_many_107 rfl (lv_at hl 0 rfl) ?_
    refine gf_X8_28 C hW dX8_many_108 ?_
    refine cl_X8_193 C hW h ⟨by decide, by decide⟩ ⟨Nat.zero_le _, Nat.zero_le _⟩ hl.1 (Nat.le_of_ble_eq_true rfl) dX8_many_111 (fun r_18 M_17 H locs h hW => ?_)
    exact pd_iret C hA hW h dX8_many_114
  have h := h.2 c_16
  refine lv_tableOut (tgt := 115) hx hb dX8_many_1 (pd_sw7 c_1 c_2 c_3 c_4 c_7 c_10 c_13 c_16) (by decide) ?_
  refine lv_iconst (v := (-1)) hx hb dX8_many_115 (by decide) ?_
  exact pd_iret C hA hW h dX8_many_116

theorem dd_X8_many : yX8_many.cls ≠ "java/lang/invoke/MethodHandle" ∧ yX8_many.cls ≠ "java/lang/invoke/VarHandle" ∧ (parseMethodDescriptor yX8_many.desc).map (fun d => d.parameters.length) = some 1 := by decide +kernel
theorem cl_L_107 {p : Program} {l : Launch} {e : Env} {R : Room} {s : State} {m : MethodId} {args : Array Value} {below : List Frame} {meth : Method} {c : Code} {H : Heap} {locs : List Loc} {cells slots : Nat} {QQ : State → Prop} {cc : ByteArray} {pc : Nat} {ls : Array Slot} {rest : List Value} {D : va_G} {g : pd_G} {t : Nat} {M : pd_M} {X : va_W} {A : Nat → Prop} {nL : Nat} {ret : Option FieldType} {Qc : Int32 → pd_M → Prop} {a1 : Int32} (C : pd_C p m c cc nL s args RL meth ret) (hW : pd_W D g t M X A s H locs) (h : wX8_many Qc a1 M) (hR : rX8_many.frames + 1 ≤ R.frames ∧ 8 + (2 + 11) + rX8_many.locals ≤ R.locals) (hcs : cells ≤ R.cells ∧ slots ≤ R.slots) (hls : ls.size = nL) (hw8 : (rest.map fun v => v.category).sum ≤ 8) (hdg : decode cc pc = .ok (.invokevirtual 107, 3))
    (kk : ∀ (r : Int32) (M1 : pd_M) (H1 : Heap) (locs1 : List Loc), Qc r M1 → pd_W D g t M1 X A s H1 locs1 → W p l e R s m args below meth c H1 locs1 cells slots QQ (F0 m (pc + 3) ls (.int r :: rest))) : W p l e R s m args below meth c H locs cells slots QQ (F0 m pc ls (.int a1 :: .ref (g.1 0) :: rest)) :=
  pd_callVi (As := [.int a1]) C hW (mX8_many h) kd_0 rfl mM_L_107 mO_yX8_many mV_yX8_many mI_X8 mC_yX8_many dd_X8_many ⟨rfl, rfl⟩ hR hcs hls rfl hw8 hdg kk
