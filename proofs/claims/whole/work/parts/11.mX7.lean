abbrev rX7_isRuled : Room := { frames := 0, cells := 0, slots := 0, locals := 0 }
def wX7_isRuled (Q : Int32 → pd_M → Prop) (a1 : Int32) (a2 : Int32) (M : pd_M) : Prop := (vp_in a1 4 ∧ ((¬ (((M.1 2 a1.toNatClampNeg) >>> (a2 &&& 31)) &&& 1) = 1 → Q 0 M) ∧ ((((M.1 2 a1.toNatClampNeg) >>> (a2 &&& 31)) &&& 1) = 1 → Q 1 M)))

set_option maxRecDepth 100000 in
set_option maxHeartbeats 4000000 in
theorem mX7_isRuled {l : Launch} {D : va_G} {g : pd_G} {t : Nat} {X : va_W} {Q : Int32 → pd_M → Prop} {a1 : Int32} {a2 : Int32} {M : pd_M} {sz : Nat} (h : wX7_isRuled Q a1 a2 M) : Met l yX7_isRuled (Cond.code yX7_isRuled cX7_isRuled 3 (Option.some FieldType.boolean) :: TB) rX7_isRuled (pd_Pre D g t M X sz [.ref (g.1 1), .int a1, .int a2]) (pd_Qi D g M X sz Q) 0 0 (va_A (pd_WL g M ++ X) sz) := by
  refine pd_met (by decide) (Nat.le_of_ble_eq_true rfl) ?_
  intro p e s m below meth c A ls C hA hW hl
  have C : pd_C p m c cX7_isRuled 3 s _ RX7 meth (Option.some FieldType.boolean) := C
  have hx := C.1.1
  have hb := C.1.2.1
  have hown := C.1.2.2.2.1
  have hts := C.1.2.2.2.2
  have hl : lv_has ls 3 [(0, .ref (g.1 1)), (1, .int a1), (2, .int a2)] := hl
  refine lv_aload_n hx hb dX7_isRuled_0 rfl (lv_at hl 0 rfl) ?_
  refine gf_X7_9 C hW dX7_isRuled_1 ?_
  refine lv_iload_n hx hb dX7_isRuled_4 rfl (lv_at hl 1 rfl) ?_
  have hi_1 := h.1
  have h := h.2
  refine pd_iald C hW kd_2 hi_1 dX7_isRuled_5 ?_
  refine lv_iload_n hx hb dX7_isRuled_6 rfl (lv_at hl 2 rfl) ?_
  refine lv_ishr hx hb dX7_isRuled_7 ?_
  refine lv_iconst (v := 1) hx hb dX7_isRuled_8 (by decide) ?_
  refine lv_iand hx hb dX7_isRuled_9 ?_
  refine lv_iconst (v := 1) hx hb dX7_isRuled_10 (by decide) ?_
  refine lv_icmp_ne (tgt := 18) hx hb dX7_isRuled_11 (by decide) (fun c_2 => ?_) (fun c_2 => ?_)
  · have h := h.1 c_2
    refine lv_iconst (v := 0) hx hb dX7_isRuled_18 (by decide) ?_
    exact pd_zret C hA hW rfl h dX7_isRuled_19
  · have h := h.2 c_2
    refine lv_iconst (v := 1) hx hb dX7_isRuled_14 (by decide) ?_
    refine lv_goto (tgt := 19) hx hb dX7_isRuled_15 (by decide) ?_
    exact pd_zret C hA hW rfl h dX7_isRuled_19

theorem dd_X7_isRuled : yX7_isRuled.cls ≠ "java/lang/invoke/MethodHandle" ∧ yX7_isRuled.cls ≠ "java/lang/invoke/VarHandle" ∧ (parseMethodDescriptor yX7_isRuled.desc).map (fun d => d.parameters.length) = some 2 := by decide +kernel
theorem cl_X0_45 {p : Program} {l : Launch} {e : Env} {R : Room} {s : State} {m : MethodId} {args : Array Value} {below : List Frame} {meth : Method} {c : Code} {H : Heap} {locs : List Loc} {cells slots : Nat} {QQ : State → Prop} {cc : ByteArray} {pc : Nat} {ls : Array Slot} {rest : List Value} {D : va_G} {g : pd_G} {t : Nat} {M : pd_M} {X : va_W} {A : Nat → Prop} {nL : Nat} {ret : Option FieldType} {Qc : Int32 → pd_M → Prop} {a1 : Int32} {a2 : Int32} (C : pd_C p m c cc nL s args RX0 meth ret) (hW : pd_W D g t M X A s H locs) (h : wX7_isRuled Qc a1 a2 M) (hR : rX7_isRuled.frames + 1 ≤ R.frames ∧ 8 + (3 + 11) + rX7_isRuled.locals ≤ R.locals) (hcs : cells ≤ R.cells ∧ slots ≤ R.slots) (hls : ls.size = nL) (hw8 : (rest.map fun v => v.category).sum ≤ 8) (hdg : decode cc pc = .ok (.invokevirtual 45, 3))
    (kk : ∀ (r : Int32) (M1 : pd_M) (H1 : Heap) (locs1 : List Loc), Qc r M1 → pd_W D g t M1 X A s H1 locs1 → W p l e R s m args below meth c H1 locs1 cells slots QQ (F0 m (pc + 3) ls (.int r :: rest))) : W p l e R s m args below meth c H locs cells slots QQ (F0 m pc ls (.int a2 :: .int a1 :: .ref (g.1 1) :: rest)) :=
  pd_callVi (As := [.int a1, .int a2]) C hW (mX7_isRuled h) kd_1 rfl mM_X0_45 mO_yX7_isRuled mV_yX7_isRuled mI_X7 mC_yX7_isRuled dd_X7_isRuled ⟨rfl, rfl⟩ hR hcs hls rfl hw8 hdg kk
abbrev rX7_isGood : Room := { frames := 0, cells := 0, slots := 0, locals := 0 }
def wX7_isGood (Q : Int32 → pd_M → Prop) (a1 : Int32) (a2 : Int32) (a3 : Int32) (M : pd_M) : Prop := (vp_in a1 4 ∧ (vp_in a2 3 ∧ ((¬ (((M.1 (4 + a1.toNatClampNeg) a2.toNatClampNeg) >>> (a3 &&& 31)) &&& 1) = 1 → Q 0 M) ∧ ((((M.1 (4 + a1.toNatClampNeg) a2.toNatClampNeg) >>> (a3 &&& 31)) &&& 1) = 1 → Q 1 M))))

set_option maxRecDepth 100000 in
set_option maxHeartbeats 4000000 in
theorem mX7_isGood {l : Launch} {D : va_G} {g : pd_G} {t : Nat} {X : va_W} {Q : Int32 → pd_M → Prop} {a1 : Int32} {a2 : Int32} {a3 : Int32} {M : pd_M} {sz : Nat} (h : wX7_isGood Q a1 a2 a3 M) : Met l yX7_isGood (Cond.code yX7_isGood cX7_isGood 4 (Option.some FieldType.boolean) :: TB) rX7_isGood (pd_Pre D g t M X sz [.ref (g.1 1), .int a1, .int a2, .int a3]) (pd_Qi D g M X sz Q) 0 0 (va_A (pd_WL g M ++ X) sz) := by
  refine pd_met (by decide) (Nat.le_of_ble_eq_true rfl) ?_
  intro p e s m below meth c A ls C hA hW hl
  have C : pd_C p m c cX7_isGood 4 s _ RX7 meth (Option.some FieldType.boolean) := C
  have hx := C.1.1
  have hb := C.1.2.1
  have hown := C.1.2.2.2.1
  have hts := C.1.2.2.2.2
  have hl : lv_has ls 4 [(0, .ref (g.1 1)), (1, .int a1), (2, .int a2), (3, .int a3)] := hl
  refine lv_aload_n hx hb dX7_isGood_0 rfl (lv_at hl 0 rfl) ?_
  refine gf_X7_17 C hW dX7_isGood_1 ?_
  refine lv_iload_n hx hb dX7_isGood_4 rfl (lv_at hl 1 rfl) ?_
  have hi_1 := h.1
  have h := h.2
  refine pd_aald C hW kd_3 hi_1 dX7_isGood_5 ?_
  refine lv_iload_n hx hb dX7_isGood_6 rfl (lv_at hl 2 rfl) ?_
  have hi_2 := h.1
  have h := h.2
  refine pd_iald C hW (pd_k4 _ (pd_lt hi_1)) hi_2 dX7_isGood_7 ?_
  refine lv_iload_n hx hb dX7_isGood_8 rfl (lv_at hl 3 rfl) ?_
  refine lv_ishr hx hb dX7_isGood_9 ?_
  refine lv_iconst (v := 1) hx hb dX7_isGood_10 (by decide) ?_
  refine lv_iand hx hb dX7_isGood_11 ?_
  refine lv_iconst (v := 1) hx hb dX7_isGood_12 (by decide) ?_
  refine lv_icmp_ne (tgt := 20) hx hb dX7_isGood_13 (by decide) (fun c_3 => ?_) (fun c_3 => ?_)
  · have h := h.1 c_3
    refine lv_iconst (v := 0) hx hb dX7_isGood_20 (by decide) ?_
    exact pd_zret C hA hW rfl h dX7_isGood_21
  · have h := h.2 c_3
    refine lv_iconst (v := 1) hx hb dX7_isGood_16 (by decide) ?_
    refine lv_goto (tgt := 21) hx hb dX7_isGood_17 (by decide) ?_
    exact pd_zret C hA hW rfl h dX7_isGood_21

theorem dd_X7_isGood : yX7_isGood.cls ≠ "java/lang/invoke/MethodHandle" ∧ yX7_isGood.cls ≠ "java/lang/invoke/VarHandle" ∧ (parseMethodDescriptor yX7_isGood.desc).map (fun d => d.parameters.length) = some 3 := by decide +kernel
theorem cl_X0_51 {p : Program} {l : Launch} {e : Env} {R : Room} {s : State} {m : MethodId} {args : Array Value} {below : List Frame} {meth : Method} {c : Code} {H : Heap} {locs : List Loc} {cells slots : Nat} {QQ : State → Prop} {cc : ByteArray} {pc : Nat} {ls : Array Slot} {rest : List Value} {D : va_G} {g : pd_G} {t : Nat} {M : pd_M} {X : va_W} {A : Nat → Prop} {nL : Nat} {ret : Option FieldType} {Qc : Int32 → pd_M → Prop} {a1 : Int32} {a2 : Int32} {a3 : Int32} (C : pd_C p m c cc nL s args RX0 meth ret) (hW : pd_W D g t M X A s H locs) (h : wX7_isGood Qc a1 a2 a3 M) (hR : rX7_isGood.frames + 1 ≤ R.frames ∧ 8 + (4 + 11) + rX7_isGood.locals ≤ R.locals) (hcs : cells ≤ R.cells ∧ slots ≤ R.slots) (hls : ls.size = nL) (hw8 : (rest.map fun v => v.category).sum ≤ 8) (hdg : decode cc pc = .ok (.invokevirtual 51, 3))
    (kk : ∀ (r : Int32) (M1 : pd_M) (H1 : Heap) (locs1 : List Loc), Qc r M1 → pd_W D g t M1 X A s H1 locs1 → W p l e R s m args below meth c H1 locs1 cells slots QQ (F0 m (pc + 3) ls (.int r :: rest))) : W p l e R s m args below meth c H locs cells slots QQ (F0 m pc ls (.int a3 :: .int a2 :: .int a1 :: .ref (g.1 1) :: rest)) :=
  pd_callVi (As := [.int a1, .int a2, .int a3]) C hW (mX7_isGood h) kd_1 rfl mM_X0_51 mO_yX7_isGood mV_yX7_isGood mI_X7 mC_yX7_isGood dd_X7_isGood ⟨rfl, rfl⟩ hR hcs hls rfl hw8 hdg kk
