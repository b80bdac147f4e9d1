abbrev rX1_setPrice : Room := { frames := 0, cells := 0, slots := 0, locals := 0 }
def wX1_setPrice (Q : pd_M → Prop) (a1 : Int32) (a2 : Int32) (a3 : Int32) (M : pd_M) : Prop := (vp_in a1 7 ∧ (vp_in a1 7 ∧ (vp_in a2 6 ∧ ∀ M_4 : pd_M, M_4 = sJ M (50 + a1.toNatClampNeg) a2.toNatClampNeg ((a3.toInt64 * (279936 : Int64)) + (a2.toInt64 * ((pd_pp a1.toNatClampNeg).toInt64))) → Q M_4)))

set_option maxRecDepth 100000 in
set_option maxHeartbeats 4000000 in
theorem mX1_setPrice {l : Launch} {D : va_G} {g : pd_G} {t : Nat} {X : va_W} {Q : pd_M → Prop} {a1 : Int32} {a2 : Int32} {a3 : Int32} {M : pd_M} {sz : Nat} (h : wX1_setPrice Q a1 a2 a3 M) : Met l yX1_setPrice (Cond.code yX1_setPrice cX1_setPrice 4 (Option.none : Option FieldType) :: TB) rX1_setPrice (pd_Pre D g t M X sz [.ref (g.1 48), .int a1, .int a2, .int a3]) (pd_Qv D g M X sz Q) 0 0 (va_A (pd_WL g M ++ X) sz) := by
  refine pd_met (by decide) (Nat.le_of_ble_eq_true rfl) ?_
  intro p e s m below meth c A ls C hA hW hl
  have C : pd_C p m c cX1_setPrice 4 s _ RX1 meth (Option.none : Option FieldType) := C
  have hx := C.1.1
  have hb := C.1.2.1
  have hown := C.1.2.2.2.1
  have hts := C.1.2.2.2.2
  have hl : lv_has ls 4 [(0, .ref (g.1 48)), (1, .int a1), (2, .int a2), (3, .int a3)] := hl
  refine lv_aload_n hx hb dX1_setPrice_0 rfl (lv_at hl 0 rfl) ?_
  refine gf_X1_13 C hW dX1_setPrice_1 ?_
  refine lv_iload_n hx hb dX1_setPrice_4 rfl (lv_at hl 1 rfl) ?_
  have hi_1 := h.1
  have h := h.2
  refine pd_aaldJ C hW kd_49 hi_1 dX1_setPrice_5 ?_
  refine lv_iload_n hx hb dX1_setPrice_6 rfl (lv_at hl 2 rfl) ?_
  refine lv_iload_n hx hb dX1_setPrice_7 rfl (lv_at hl 3 rfl) ?_
  refine lv_i2l hx hb dX1_setPrice_8 rfl ?_
  refine lv_ldc2 (v := (279936 : Int64)) hx hb hown (hts _ mJ_X1_24) dX1_setPrice_9 ?_
  refine lv_lmul hx hb dX1_setPrice_12 ?_
  refine lv_iload_n hx hb dX1_setPrice_13 rfl (lv_at hl 2 rfl) ?_
  refine lv_i2l hx hb dX1_setPrice_14 rfl ?_
  refine pd_gets C hW mF_X1_26 dX1_setPrice_15 ?_
  refine lv_iload_n hx hb dX1_setPrice_18 rfl (lv_at hl 1 rfl) ?_
  have hi_2 := h.1
  have h := h.2
  refine pd_tald C hW hi_2 dX1_setPrice_19 ?_
  refine lv_i2l hx hb dX1_setPrice_20 rfl ?_
  refine lv_lmul hx hb dX1_setPrice_21 ?_
  refine lv_ladd hx hb dX1_setPrice_22 ?_
  have hi_3 := h.1
  have h := h.2
  refine pd_last C hW (pd_k50 _ (pd_lt hi_1)) hi_3 dX1_setPrice_23 (fun M_4 H locs eM_4 hW => ?_)
  have h := h M_4 eM_4
  exact pd_vret C hA hW h dX1_setPrice_24

theorem dd_X1_setPrice : yX1_setPrice.cls ≠ "java/lang/invoke/MethodHandle" ∧ yX1_setPrice.cls ≠ "java/lang/invoke/VarHandle" ∧ (parseMethodDescriptor yX1_setPrice.desc).map (fun d => d.parameters.length) = some 3 := by decide +kernel
theorem cl_X2_100 {p : Program} {l : Launch} {e : Env} {R : Room} {s : State} {m : MethodId} {args : Array Value} {below : List Frame} {meth : Method} {c : Code} {H : Heap} {locs : List Loc} {cells slots : Nat} {QQ : State → Prop} {cc : ByteArray} {pc : Nat} {ls : Array Slot} {rest : List Value} {D : va_G} {g : pd_G} {t : Nat} {M : pd_M} {X : va_W} {A : Nat → Prop} {nL : Nat} {ret : Option FieldType} {Qc : pd_M → Prop} {a1 : Int32} {a2 : Int32} {a3 : Int32} (C : pd_C p m c cc nL s args RX2 meth ret) (hW : pd_W D g t M X A s H locs) (h : wX1_setPrice Qc a1 a2 a3 M) (hR : rX1_setPrice.frames + 1 ≤ R.frames ∧ 8 + (4 + 11) + rX1_setPrice.locals ≤ R.locals) (hcs : cells ≤ R.cells ∧ slots ≤ R.slots) (hls : ls.size = nL) (hw8 : (rest.map fun v => v.category).sum ≤ 8) (hdg : decode cc pc = .ok (.invokevirtual 100, 3))
    (kk : ∀ (M1 : pd_M) (H1 : Heap) (locs1 : List Loc), Qc M1 → pd_W D g t M1 X A s H1 locs1 → W p l e R s m args below meth c H1 locs1 cells slots QQ (F0 m (pc + 3) ls rest)) : W p l e R s m args below meth c H locs cells slots QQ (F0 m pc ls (.int a3 :: .int a2 :: .int a1 :: .ref (g.1 48) :: rest)) :=
  pd_callVv (As := [.int a1, .int a2, .int a3]) C hW (mX1_setPrice h) kd_48 rfl mM_X2_100 mO_yX1_setPrice mV_yX1_setPrice mI_X1 mC_yX1_setPrice dd_X1_setPrice ⟨rfl, rfl⟩ hR hcs hls rfl hw8 hdg kk
abbrev rX1_setPriceOut : Room := { frames := 0, cells := 0, slots := 0, locals := 0 }
def wX1_setPriceOut (Q : pd_M → Prop) (a1 : Int32) (M : pd_M) : Prop := (vp_in a1 7 ∧ (vp_in a1 7 ∧ ∀ M_3 : pd_M, M_3 = sJ M (50 + a1.toNatClampNeg) (5 : Int32).toNatClampNeg ((279936000 : Int64) + ((5 : Int64) * ((pd_pp a1.toNatClampNeg).toInt64))) → Q M_3))

set_option maxRecDepth 100000 in
set_option maxHeartbeats 4000000 in
theorem mX1_setPriceOut {l : Launch} {D : va_G} {g : pd_G} {t : Nat} {X : va_W} {Q : pd_M → Prop} {a1 : Int32} {M : pd_M} {sz : Nat} (h : wX1_setPriceOut Q a1 M) : Met l yX1_setPriceOut (Cond.code yX1_setPriceOut cX1_setPriceOut 2 (Option.none : Option FieldType) :: TB) rX1_setPriceOut (pd_Pre D g t M X sz [.ref (g.1 48), .int a1]) (pd_Qv D g M X sz Q) 0 0 (va_A (pd_WL g M ++ X) sz) := by
  refine pd_met (by decide) (Nat.le_of_ble_eq_true rfl) ?_
  intro p e s m below meth c A ls C hA hW hl
  have C : pd_C p m c cX1_setPriceOut 2 s _ RX1 meth (Option.none : Option FieldType) := C
  have hx := C.1.1
  have hb := C.1.2.1
  have hown := C.1.2.2.2.1
  have hts := C.1.2.2.2.2
  have hl : lv_has ls 2 [(0, .ref (g.1 48)), (1, .int a1)] := hl
  refine lv_aload_n hx hb dX1_setPriceOut_0 rfl (lv_at hl 0 rfl) ?_
  refine gf_X1_13 C hW dX1_setPriceOut_1 ?_
  refine lv_iload_n hx hb dX1_setPriceOut_4 rfl (lv_at hl 1 rfl) ?_
  have hi_1 := h.1
  have h := h.2
  refine pd_aaldJ C hW kd_49 hi_1 dX1_setPriceOut_5 ?_
  refine lv_iconst (v := 5) hx hb dX1_setPriceOut_6 (by decide) ?_
  refine lv_ldc2 (v := (279936000 : Int64)) hx hb hown (hts _ mJ_X1_29) dX1_setPriceOut_7 ?_
  refine lv_ldc2 (v := (5 : Int64)) hx hb hown (hts _ mJ_X1_31) dX1_setPriceOut_10 ?_
  refine pd_gets C hW mF_X1_26 dX1_setPriceOut_13 ?_
  refine lv_iload_n hx hb dX1_setPriceOut_16 rfl (lv_at hl 1 rfl) ?_
  have hi_2 := h.1
  have h := h.2
  refine pd_tald C hW hi_2 dX1_setPriceOut_17 ?_
  refine lv_i2l hx hb dX1_setPriceOut_18 rfl ?_
  refine lv_lmul hx hb dX1_setPriceOut_19 ?_
  refine lv_ladd hx hb dX1_setPriceOut_20 ?_
  refine pd_last C hW (pd_k50 _ (pd_lt hi_1)) (by unfold vp_in; decide) dX1_setPriceOut_21 (fun M_3 H locs eM_3 hW => ?_)
  have h := h M_3 eM_3
  exact pd_vret C hA hW h dX1_setPriceOut_22

theorem dd_X1_setPriceOut : yX1_setPriceOut.cls ≠ "java/lang/invoke/MethodHandle" ∧ yX1_setPriceOut.cls ≠ "java/lang/invoke/VarHandle" ∧ (parseMethodDescriptor yX1_setPriceOut.desc).map (fun d => d.parameters.length) = some 1 := by decide +kernel
theorem cl_X2_108 {p : Program} {l : Launch} {e : Env} {R : Room} {s : State} {m : MethodId} {args : Array Value} {below : List Frame} {meth : Method} {c : Code} {H : Heap} {locs : List Loc} {cells slots : Nat} {QQ : State → Prop} {cc : ByteArray} {pc : Nat} {ls : Array Slot} {rest : List Value} {D : va_G} {g : pd_G} {t : Nat} {M : pd_M} {X : va_W} {A : Nat → Prop} {nL : Nat} {ret : Option FieldType} {Qc : pd_M → Prop} {a1 : Int32} (C : pd_C p m c cc nL s args RX2 meth ret) (hW : pd_W D g t M X A s H locs) (h : wX1_setPriceOut Qc a1 M) (hR : rX1_setPriceOut.frames + 1 ≤ R.frames ∧ 8 + (2 + 11) + rX1_setPriceOut.locals ≤ R.locals) (hcs : cells ≤ R.cells ∧ slots ≤ R.slots) (hls : ls.size = nL) (hw8 : (rest.map fun v => v.category).sum ≤ 8) (hdg : decode cc pc = .ok (.invokevirtual 108, 3))
    (kk : ∀ (M1 : pd_M) (H1 : Heap) (locs1 : List Loc), Qc M1 → pd_W D g t M1 X A s H1 locs1 → W p l e R s m args below meth c H1 locs1 cells slots QQ (F0 m (pc + 3) ls rest)) : W p l e R s m args below meth c H locs cells slots QQ (F0 m pc ls (.int a1 :: .ref (g.1 48) :: rest)) :=
  pd_callVv (As := [.int a1]) C hW (mX1_setPriceOut h) kd_48 rfl mM_X2_108 mO_yX1_setPriceOut mV_yX1_setPriceOut mI_X1 mC_yX1_setPriceOut dd_X1_setPriceOut ⟨rfl, rfl⟩ hR hcs hls rfl hw8 hdg kk
abbrev rX1_forbid : Room := { frames := 0, cells := 0, slots := 0, locals := 0 }
def wX1_forbid (Q : pd_M → Prop) (a1 : Int32) (a2 : Int32) (M : pd_M) : Prop := (vp_in a1 7 ∧ (vp_in a2 6 ∧ ∀ M_3 : pd_M, M_3 = sJ M (50 + a1.toNatClampNeg) a2.toNatClampNeg (-1 : Int64) → Q M_3))

set_option maxRecDepth 100000 in
set_option maxHeartbeats 4000000 in
theorem mX1_forbid {l : Launch} {D : va_G} {g : pd_G} {t : Nat} {X : va_W} {Q : pd_M → Prop} {a1 : Int32} {a2 : Int32} {M : pd_M} {sz : Nat} (h : wX1_forbid Q a1 a2 M) : Met l yX1_forbid (Cond.code yX1_forbid cX1_forbid 3 (Option.none : Option FieldType) :: TB) rX1_forbid (pd_Pre D g t M X sz [.ref (g.1 48), .int a1, .int a2]) (pd_Qv D g M X sz Q) 0 0 (va_A (pd_WL g M ++ X) sz) := by
  refine pd_met (by decide) (Nat.le_of_ble_eq_true rfl) ?_
  intro p e s m below meth c A ls C hA hW hl
  have C : pd_C p m c cX1_forbid 3 s _ RX1 meth (Option.none : Option FieldType) := C
  have hx := C.1.1
  have hb := C.1.2.1
  have hown := C.1.2.2.2.1
  have hts := C.1.2.2.2.2
  have hl : lv_has ls 3 [(0, .ref (g.1 48)), (1, .int a1), (2, .int a2)] := hl
  refine lv_aload_n hx hb dX1_forbid_0 rfl (lv_at hl 0 rfl) ?_
  refine gf_X1_13 C hW dX1_forbid_1 ?_
  refine lv_iload_n hx hb dX1_forbid_4 rfl (lv_at hl 1 rfl) ?_
  have hi_1 := h.1
  have h := h.2
  refine pd_aaldJ C hW kd_49 hi_1 dX1_forbid_5 ?_
  refine lv_iload_n hx hb dX1_forbid_6 rfl (lv_at hl 2 rfl) ?_
  refine lv_ldc2 (v := (-1 : Int64)) hx hb hown (hts _ mJ_X1_33) dX1_forbid_7 ?_
  have hi_2 := h.1
  have h := h.2
  refine pd_last C hW (pd_k50 _ (pd_lt hi_1)) hi_2 dX1_forbid_10 (fun M_3 H locs eM_3 hW => ?_)
  have h := h M_3 eM_3
  exact pd_vret C hA hW h dX1_forbid_11

theorem dd_X1_forbid : yX1_forbid.cls ≠ "java/lang/invoke/MethodHandle" ∧ yX1_forbid.cls ≠ "java/lang/invoke/VarHandle" ∧ (parseMethodDescriptor yX1_forbid.desc).map (fun d => d.parameters.length) = some 2 := by decide +kernel
theorem cl_X2_104 {p : Program} {l : Launch} {e : Env} {R : Room} {s : State} {m : MethodId} {args : Array Value} {below : List Frame} {meth : Method} {c : Code} {H : Heap} {locs : List Loc} {cells slots : Nat} {QQ : State → Prop} {cc : ByteArray} {pc : Nat} {ls : Array Slot} {rest : List Value} {D : va_G} {g : pd_G} {t : Nat} {M : pd_M} {X : va_W} {A : Nat → Prop} {nL : Nat} {ret : Option FieldType} {Qc : pd_M → Prop} {a1 : Int32} {a2 : Int32} (C : pd_C p m c cc nL s args RX2 meth ret) (hW : pd_W D g t M X A s H locs) (h : wX1_forbid Qc a1 a2 M) (hR : rX1_forbid.frames + 1 ≤ R.frames ∧ 8 + (3 + 11) + rX1_forbid.locals ≤ R.locals) (hcs : cells ≤ R.cells ∧ slots ≤ R.slots) (hls : ls.size = nL) (hw8 : (rest.map fun v => v.category).sum ≤ 8) (hdg : decode cc pc = .ok (.invokevirtual 104, 3))
    (kk : ∀ (M1 : pd_M) (H1 : Heap) (locs1 : List Loc), Qc M1 → pd_W D g t M1 X A s H1 locs1 → W p l e R s m args below meth c H1 locs1 cells slots QQ (F0 m (pc + 3) ls rest)) : W p l e R s m args below meth c H locs cells slots QQ (F0 m pc ls (.int a2 :: .int a1 :: .ref (g.1 48) :: rest)) :=
  pd_callVv (As := [.int a1, .int a2]) C hW (mX1_forbid h) kd_48 rfl mM_X2_104 mO_yX1_forbid mV_yX1_forbid mI_X1 mC_yX1_forbid dd_X1_forbid ⟨rfl, rfl⟩ hR hcs hls rfl hw8 hdg kk
abbrev rX1_startAt : Room := { frames := 0, cells := 0, slots := 0, locals := 0 }
def lpX1_startAt_2 (K : pd_M → Prop) (f1 : Int32) : Nat → Int32 → pd_M → Prop
  | 0, _, _ => False
  | n + 1, v2, M => ((6 ≤ v2 → K M) ∧ (¬ 6 ≤ v2 → (vp_in f1 7 ∧ (vp_in v2 6 ∧ ((¬ (lg_cmp (M.2 (50 + f1.toNatClampNeg) v2.toNatClampNeg) (-1 : Int64)) = 0 → (vp_in f1 7 ∧ (vp_in v2 6 ∧ (vp_in v2 6 ∧ ∀ M_8 : pd_M, M_8 = sJ M 57 v2.toNatClampNeg (M.2 (50 + f1.toNatClampNeg) v2.toNatClampNeg) → (vp_in v2 6 ∧ ∀ M_10 : pd_M, M_10 = sI M_8 58 v2.toNatClampNeg f1 → ∀ x2_11 : Int32, x2_11 = v2 + 1 → lpX1_startAt_2 K f1 n x2_11 M_10))))) ∧ ((lg_cmp (M.2 (50 + f1.toNatClampNeg) v2.toNatClampNeg) (-1 : Int64)) = 0 → (vp_in v2 6 ∧ ∀ M_13 : pd_M, M_13 = sJ M 57 v2.toNatClampNeg (1000000000000000 : Int64) → (vp_in v2 6 ∧ ∀ M_15 : pd_M, M_15 = sI M_13 58 v2.toNatClampNeg f1 → ∀ x2_16 : Int32, x2_16 = v2 + 1 → lpX1_startAt_2 K f1 n x2_16 M_15))))))))

set_option maxRecDepth 100000 in
set_option maxHeartbeats 4000000 in
theorem stX1_startAt_2 {p : Program} {l : Launch} {e : Env} {s : State} {m : MethodId} {args : Array Value} {below : List Frame} {meth : Method} {c : Code} {D : va_G} {g : pd_G} {t : Nat} {M0 : pd_M} {X : va_W} {A : Nat → Prop} {sz : Nat} {Q : pd_M → Prop} (C : pd_C p m c cX1_startAt 3 s args RX1 meth (Option.none : Option FieldType)) (hA : A = va_A (pd_WL g M0 ++ X) sz) {K : pd_M → Prop} {f1 : Int32}  (hK : ∀  (M : pd_M) (H : Heap) (locs : List Loc) (ls : Array Slot), pd_W D g t M X A s H locs → lv_has ls 3 [] → K  M → W p l e rX1_startAt s m args below meth c H locs 0 0 (MQ below (pd_Qv D g M0 X sz Q) args s 0 0 (va_A (pd_WL g M0 ++ X) sz)) (F0 m 56 ls [])) :
    ∀ (n : Nat) (v2 : Int32) (M : pd_M) (H : Heap) (locs : List Loc) (ls : Array Slot), pd_W D g t M X A s H locs → lv_has ls 3 [(0, .ref (g.1 48)), (1, .int f1), (2, .int v2)] → lpX1_startAt_2 K f1 n v2 M → W p l e rX1_startAt s m args below meth c H locs 0 0 (MQ below (pd_Qv D g M0 X sz Q) args s 0 0 (va_A (pd_WL g M0 ++ X) sz)) (F0 m 2 ls []) := by
  have hx := C.1.1
  have hb := C.1.2.1
  have hown := C.1.2.2.2.1
  have hts := C.1.2.2.2.2
  intro n
  induction n with
  | zero => intro v2 M H locs ls hW hl h; exact h.elim
  | succ n ih =>
    intro v2 M H locs ls hW hl h
    refine lv_iload_n hx hb dX1_startAt_2 rfl (lv_at hl 2 rfl) ?_
    refine lv_bipush (v := 6) hx hb dX1_startAt_3 (by decide) ?_
    refine lv_icmp_ge (tgt := 56) hx hb dX1_startAt_5 (by decide) (fun c_1 => ?_) (fun c_1 => ?_)
    · have h := h.1 c_1
      exact hK M _ _ _ hW (lv_sub hl [] rfl) h
    · have h := h.2 c_1
      refine lv_aload_n hx hb dX1_startAt_8 rfl (lv_at hl 0 rfl) ?_
      refine gf_X1_16 C hW dX1_startAt_9 ?_
      refine lv_iload_n hx hb dX1_startAt_12 rfl (lv_at hl 2 rfl) ?_
      refine lv_aload_n hx hb dX1_startAt_13 rfl (lv_at hl 0 rfl) ?_
      refine gf_X1_13 C hW dX1_startAt_14 ?_
      refine lv_iload_n hx hb dX1_startAt_17 rfl (lv_at hl 1 rfl) ?_
      have hi_2 := h.1
      have h := h.2
      refine pd_aaldJ C hW kd_49 hi_2 dX1_startAt_18 ?_
      refine lv_iload_n hx hb dX1_startAt_19 rfl (lv_at hl 2 rfl) ?_
      have hi_3 := h.1
      have h := h.2
      refine pd_lald C hW (pd_k50 _ (pd_lt hi_2)) hi_3 dX1_startAt_20 ?_
      refine lv_ldc2 (v := (-1 : Int64)) hx hb hown (hts _ mJ_X1_33) dX1_startAt_21 ?_
      refine W.lcmp hx hb dX1_startAt_24 ?_
      refine lv_if_ne (tgt := 34) hx hb dX1_startAt_25 (by decide) (fun c_4 => ?_) (fun c_4 => ?_)
      · have h := h.1 c_4
        refine lv_aload_n hx hb dX1_startAt_34 rfl (lv_at hl 0 rfl) ?_
        refine gf_X1_13 C hW dX1_startAt_35 ?_
        refine lv_iload_n hx hb dX1_startAt_38 rfl (lv_at hl 1 rfl) ?_
        have hi_5 := h.1
        have h := h.2
        refine pd_aaldJ C hW kd_49 hi_5 dX1_startAt_39 ?_
        refine lv_iload_n hx hb dX1_startAt_40 rfl (lv_at hl 2 rfl) ?_
        have hi_6 := h.1
        have h := h.2
        refine pd_lald C hW (pd_k50 _ (pd_lt hi_5)) hi_6 dX1_startAt_41 ?_
        have hi_7 := h.1
        have h := h.2
        refine pd_last C hW kd_57 hi_7 dX1_startAt_42 (fun M_8 H locs eM_8 hW => ?_)
        have h := h M_8 eM_8
        refine lv_aload_n hx hb dX1_startAt_43 rfl (lv_at hl 0 rfl) ?_
        refine gf_X1_20 C hW dX1_startAt_44 ?_
        refine lv_iload_n hx hb dX1_startAt_47 rfl (lv_at hl 2 rfl) ?_
        refine lv_iload_n hx hb dX1_startAt_48 rfl (lv_at hl 1 rfl) ?_
        have hi_9 := h.1
        have h := h.2
        refine pd_iast C hW kd_58 hi_9 dX1_startAt_49 (fun M_10 H locs eM_10 hW => ?_)
        have h := h M_10 eM_10
        obtain ⟨x2_11, ex2_11⟩ : ∃ y : Int32, y = v2 + 1 := ⟨_, rfl⟩
        have h := h x2_11 ex2_11
        refine lv_iinc (v := x2_11) (lv' := [(2, .int x2_11), (0, .ref (g.1 48)), (1, .int f1)]) hx hb dX1_startAt_50 hl (k := 2) rfl (by rw [ex2_11]; rfl) (by decide) rfl (fun ls hl => ?_)
        refine lv_goto (tgt := 2) hx hb dX1_startAt_53 (by decide) ?_
        exact ih x2_11 M_10 _ _ _ hW (lv_sub hl [1, 2, 0] rfl) h
      · have h := h.2 c_4
        refine lv_ldc2 (v := (1000000000000000 : Int64)) hx hb hown (hts _ mJ_X1_51) dX1_startAt_28 ?_
        refine lv_goto (tgt := 42) hx hb dX1_startAt_31 (by decide) ?_
        have hi_12 := h.1
        have h := h.2
        refine pd_last C hW kd_57 hi_12 dX1_startAt_42 (fun M_13 H locs eM_13 hW => ?_)
        have h := h M_13 eM_13
        refine lv_aload_n hx hb dX1_startAt_43 rfl (lv_at hl 0 rfl) ?_
        refine gf_X1_20 C hW dX1_startAt_44 ?_
        refine lv_iload_n hx hb dX1_startAt_47 rfl (lv_at hl 2 rfl) ?_
        refine lv_iload_n hx hb dX1_startAt_48 rfl (lv_at hl 1 rfl) ?_
        have hi_14 := h.1
        have h := h.2
        refine pd_iast C hW kd_58 hi_14 dX1_startAt_49 (fun M_15 H locs eM_15 hW => ?_)
        have h := h M_15 eM_15
        obtain ⟨x2_16, ex2_16⟩ : ∃ y : Int32, y = v2 + 1 := ⟨_, rfl⟩
        have h := h x2_16 ex2_16
        refine lv_iinc (v := x2_16) (lv' := [(2, .int x2_16), (0, .ref (g.1 48)), (1, .int f1)]) hx hb dX1_startAt_50 hl (k := 2) rfl (by rw [ex2_16]; rfl) (by decide) rfl (fun ls hl => ?_)
        refine lv_goto (tgt := 2) hx hb dX1_startAt_53 (by decide) ?_
        exact ih x2_16 M_15 _ _ _ hW (lv_sub hl [1, 2, 0] rfl) h

def wX1_startAt (Q : pd_M → Prop) (a1 : Int32) (M : pd_M) : Prop := (∃ k_2 : Nat, lpX1_startAt_2 (fun M_17 => Q M_17) a1 k_2 0 M)

set_option maxRecDepth 100000 in
set_option maxHeartbeats 4000000 in
theorem mX1_startAt {l : Launch} {D : va_G} {g : pd_G} {t : Nat} {X : va_W} {Q : pd_M → Prop} {a1 : Int32} {M : pd_M} {sz : Nat} (h : wX1_startAt Q a1 M) : Met l yX1_startAt (Cond.code yX1_startAt cX1_startAt 3 (Option.none : Option FieldType) :: TB) rX1_startAt (pd_Pre D g t M X sz [.ref (g.1 48), .int a1]) (pd_Qv D g M X sz Q) 0 0 (va_A (pd_WL g M ++ X) sz) := by
  refine pd_met (by decide) (Nat.le_of_ble_eq_true rfl) ?_
  intro p e s m below meth c A ls C hA hW hl
  have C : pd_C p m c cX1_startAt 3 s _ RX1 meth (Option.none : Option FieldType) := C
  have hx := C.1.1
  have hb := C.1.2.1
  have hown := C.1.2.2.2.1
  have hts := C.1.2.2.2.2
  have hl : lv_has ls 3 [(0, .ref (g.1 48)), (1, .int a1)] := hl
  refine lv_iconst (v := 0) hx hb dX1_startAt_0 (by decide) ?_
  refine lv_istore_n (lv' := [(2, .int 0), (0, .ref (g.1 48)), (1, .int a1)]) hx hb dX1_startAt_1 rfl hl (by decide) rfl (fun ls hl => ?_)
  obtain ⟨k_2, h⟩ := h
  refine stX1_startAt_2 C hA (fun M_17 H locs ls hW hl h => ?_) k_2 0 M _ _ _ hW (lv_sub hl [1, 2, 0] rfl) h
  exact pd_vret C hA hW h dX1_startAt_56

theorem dd_X1_startAt : yX1_startAt.cls ≠ "java/lang/invoke/MethodHandle" ∧ yX1_startAt.cls ≠ "java/lang/invoke/VarHandle" ∧ (parseMethodDescriptor yX1_startAt.desc).map (fun d => d.parameters.length) = some 1 := by decide +kernel
theorem cl_X1_35 {p : Program} {l : Launch} {e : Env} {R : Room} {s : State} {m : MethodId} {args : Array Value} {below : List Frame} {meth : Method} {c : Code} {H : Heap} {locs : List Loc} {cells slots : Nat} {QQ : State → Prop} {cc : ByteArray} {pc : Nat} {ls : Array Slot} {rest : List Value} {D : va_G} {g : pd_G} {t : Nat} {M : pd_M} {X : va_W} {A : Nat → Prop} {nL : Nat} {ret : Option FieldType} {Qc : pd_M → Prop} {a1 : Int32} (C : pd_C p m c cc nL s args RX1 meth ret) (hW : pd_W D g t M X A s H locs) (h : wX1_startAt Qc a1 M) (hR : rX1_startAt.frames + 1 ≤ R.frames ∧ 8 + (3 + 11) + rX1_startAt.locals ≤ R.locals) (hcs : cells ≤ R.cells ∧ slots ≤ R.slots) (hls : ls.size = nL) (hw8 : (rest.map fun v => v.category).sum ≤ 8) (hdg : decode cc pc = .ok (.invokevirtual 35, 3))
    (kk : ∀ (M1 : pd_M) (H1 : Heap) (locs1 : List Loc), Qc M1 → pd_W D g t M1 X A s H1 locs1 → W p l e R s m args below meth c H1 locs1 cells slots QQ (F0 m (pc + 3) ls rest)) : W p l e R s m args below meth c H locs cells slots QQ (F0 m pc ls (.int a1 :: .ref (g.1 48) :: rest)) :=
  pd_callVv (As := [.int a1]) C hW (mX1_startAt h) kd_48 rfl mM_X1_35 mO_yX1_startAt mV_yX1_startAt mI_X1 mC_yX1_startAt dd_X1_startAt ⟨rfl, rfl⟩ hR hcs hls rfl hw8 hdg kk
abbrev rX1_passOn : Room := { frames := 0, cells := 0, slots := 0, locals := 0 }
def lpX1_passOn_20 (K : Int32 → pd_M → Prop) (f1 : Int32) (f2 : Int32) : Nat → Int32 → Int32 → pd_M → Prop
  | 0, _, _, _ => False
  | n + 1, v3, v4, M => ((6 ≤ v4 → K v3 M) ∧ (¬ 6 ≤ v4 → (vp_in f2 6 ∧ (vp_in f1 7 ∧ (vp_in f2 6 ∧ (vp_in f1 7 ∧ (vp_in v4 6 ∧ ∀ x5_9 : Int64, x5_9 = (((M.2 57 f2.toNatClampNeg) - (M.2 (50 + f1.toNatClampNeg) f2.toNatClampNeg)) + (M.2 (50 + f1.toNatClampNeg) v4.toNatClampNeg)) → (vp_in f1 7 ∧ (vp_in v4 6 ∧ (((lg_cmp (M.2 (50 + f1.toNatClampNeg) v4.toNatClampNeg) (-1 : Int64)) = 0 → ∀ x4_13 : Int32, x4_13 = v4 + 1 → lpX1_passOn_20 K f1 f2 n v3 x4_13 M) ∧ (¬ (lg_cmp (M.2 (50 + f1.toNatClampNeg) v4.toNatClampNeg) (-1 : Int64)) = 0 → (vp_in v4 6 ∧ ((0 ≤ (lg_cmp x5_9 (M.2 57 v4.toNatClampNeg)) → ∀ x4_16 : Int32, x4_16 = v4 + 1 → lpX1_passOn_20 K f1 f2 n v3 x4_16 M) ∧ (¬ 0 ≤ (lg_cmp x5_9 (M.2 57 v4.toNatClampNeg)) → (vp_in v4 6 ∧ ∀ M_18 : pd_M, M_18 = sJ M 57 v4.toNatClampNeg x5_9 → (vp_in v4 6 ∧ ∀ M_20 : pd_M, M_20 = sI M_18 58 v4.toNatClampNeg f1 → ∀ x4_21 : Int32, x4_21 = v4 + 1 → lpX1_passOn_20 K f1 f2 n 1 x4_21 M_20))))))))))))))))

set_option maxRecDepth 100000 in
set_option maxHeartbeats 4000000 in
theorem stX1_passOn_20 {p : Program} {l : Launch} {e : Env} {s : State} {m : MethodId} {args : Array Value} {below : List Frame} {meth : Method} {c : Code} {D : va_G} {g : pd_G} {t : Nat} {M0 : pd_M} {X : va_W} {A : Nat → Prop} {sz : Nat} {Q : Int32 → pd_M → Prop} (C : pd_C p m c cX1_passOn 7 s args RX1 meth (Option.some FieldType.boolean)) (hA : A = va_A (pd_WL g M0 ++ X) sz) {K : Int32 → pd_M → Prop} {f1 : Int32} {f2 : Int32}  (hK : ∀ (p3 : Int32) (M : pd_M) (H : Heap) (locs : List Loc) (ls : Array Slot), pd_W D g t M X A s H locs → lv_has ls 7 [(3, .int p3)] → K p3 M → W p l e rX1_passOn s m args below meth c H locs 0 0 (MQ below (pd_Qi D g M0 X sz Q) args s 0 0 (va_A (pd_WL g M0 ++ X) sz)) (F0 m 108 ls [])) :
    ∀ (n : Nat) (v3 : Int32) (v4 : Int32) (M : pd_M) (H : Heap) (locs : List Loc) (ls : Array Slot), pd_W D g t M X A s H locs → lv_has ls 7 [(0, .ref (g.1 48)), (1, .int f1), (2, .int f2), (3, .int v3), (4, .int v4)] → lpX1_passOn_20 K f1 f2 n v3 v4 M → W p l e rX1_passOn s m args below meth c H locs 0 0 (MQ below (pd_Qi D g M0 X sz Q) args s 0 0 (va_A (pd_WL g M0 ++ X) sz)) (F0 m 20 ls []) := by
  have hx := C.1.1
  have hb := C.1.2.1
  have hown := C.1.2.2.2.1
  have hts := C.1.2.2.2.2
  intro n
  induction n with
  | zero => intro v3 v4 M H locs ls hW hl h; exact h.elim
  | succ n ih =>
    intro v3 v4 M H locs ls hW hl h
    refine lv_iload hx hb dX1_passOn_20 (lv_at hl 4 rfl) ?_
    refine lv_bipush (v := 6) hx hb dX1_passOn_22 (by decide) ?_
    refine lv_icmp_ge (tgt := 108) hx hb dX1_passOn_24 (by decide) (fun c_3 => ?_) (fun c_3 => ?_)
    · have h := h.1 c_3
      exact hK v3 M _ _ _ hW (lv_sub hl [3] rfl) h
    · have h := h.2 c_3
      refine lv_aload_n hx hb dX1_passOn_27 rfl (lv_at hl 0 rfl) ?_
      refine gf_X1_16 C hW dX1_passOn_28 ?_
      refine lv_iload_n hx hb dX1_passOn_31 rfl (lv_at hl 2 rfl) ?_
      have hi_4 := h.1
      have h := h.2
      refine pd_lald C hW kd_57 hi_4 dX1_passOn_32 ?_
      refine lv_aload_n hx hb dX1_passOn_33 rfl (lv_at hl 0 rfl) ?_
      refine gf_X1_13 C hW dX1_passOn_34 ?_
      refine lv_iload_n hx hb dX1_passOn_37 rfl (lv_at hl 1 rfl) ?_
      have hi_5 := h.1
      have h := h.2
      refine pd_aaldJ C hW kd_49 hi_5 dX1_passOn_38 ?_
      refine lv_iload_n hx hb dX1_passOn_39 rfl (lv_at hl 2 rfl) ?_
      have hi_6 := h.1
      have h := h.2
      refine pd_lald C hW (pd_k50 _ (pd_lt hi_5)) hi_6 dX1_passOn_40 ?_
      refine lv_lsub hx hb dX1_passOn_41 ?_
      refine lv_aload_n hx hb dX1_passOn_42 rfl (lv_at hl 0 rfl) ?_
      refine gf_X1_13 C hW dX1_passOn_43 ?_
      refine lv_iload_n hx hb dX1_passOn_46 rfl (lv_at hl 1 rfl) ?_
      have hi_7 := h.1
      have h := h.2
      refine pd_aaldJ C hW kd_49 hi_7 dX1_passOn_47 ?_
      refine lv_iload hx hb dX1_passOn_48 (lv_at hl 4 rfl) ?_
      have hi_8 := h.1
      have h := h.2
      refine pd_lald C hW (pd_k50 _ (pd_lt hi_7)) hi_8 dX1_passOn_50 ?_
      refine lv_ladd hx hb dX1_passOn_51 ?_
      refine lv_topl (fun x5_9 ex5_9 => ?_)
      have h := h x5_9 ex5_9
      refine lv_lstore (lv' := [(5, .long x5_9), (0, .ref (g.1 48)), (1, .int f1), (2, .int f2), (3, .int v3), (4, .int v4)]) hx hb dX1_passOn_52 hl (by decide) rfl (fun ls hl => ?_)
      refine lv_aload_n hx hb dX1_passOn_54 rfl (lv_at hl 1 rfl) ?_
      refine gf_X1_13 C hW dX1_passOn_55 ?_
      refine lv_iload_n hx hb dX1_passOn_58 rfl (lv_at hl 2 rfl) ?_
      have hi_10 := h.1
      have h := h.2
      refine pd_aaldJ C hW kd_49 hi_10 dX1_passOn_59 ?_
      refine lv_iload hx hb dX1_passOn_60 (lv_at hl 5 rfl) ?_
      have hi_11 := h.1
      have h := h.2
      refine pd_lald C hW (pd_k50 _ (pd_lt hi_10)) hi_11 dX1_passOn_62 ?_
      refine lv_ldc2 (v := (-1 : Int64)) hx hb hown (hts _ mJ_X1_33) dX1_passOn_63 ?_
      refine W.lcmp hx hb dX1_passOn_66 ?_
      refine lv_if_eq (tgt := 102) hx hb dX1_passOn_67 (by decide) (fun c_12 => ?_) (fun c_12 => ?_)
      · have h := h.1 c_12
        obtain ⟨x4_13, ex4_13⟩ : ∃ y : Int32, y = v4 + 1 := ⟨_, rfl⟩
        have h := h x4_13 ex4_13
        refine lv_iinc (v := x4_13) (lv' := [(4, .int x4_13), (5, .long x5_9), (0, .ref (g.1 48)), (1, .int f1), (2, .int f2), (3, .int v3)]) hx hb dX1_passOn_102 hl (k := 5) rfl (by rw [ex4_13]; rfl) (by decide) rfl (fun ls hl => ?_)
        refine lv_goto (tgt := 20) hx hb dX1_passOn_105 (by decide) ?_
        exact ih v3 x4_13 M _ _ _ hW (lv_sub hl [2, 3, 4, 5, 0] rfl) h
      · have h := h.2 c_12
        refine lv_lload hx hb dX1_passOn_70 (lv_at hl 0 rfl) ?_
        refine lv_aload_n hx hb dX1_passOn_72 rfl (lv_at hl 1 rfl) ?_
        refine gf_X1_16 C hW dX1_passOn_73 ?_
        refine lv_iload hx hb dX1_passOn_76 (lv_at hl 5 rfl) ?_
        have hi_14 := h.1
        have h := h.2
        refine pd_lald C hW kd_57 hi_14 dX1_passOn_78 ?_
        refine W.lcmp hx hb dX1_passOn_79 ?_
        refine lv_if_ge (tgt := 102) hx hb dX1_passOn_80 (by decide) (fun c_15 => ?_) (fun c_15 => ?_)
        · have h := h.1 c_15
          obtain ⟨x4_16, ex4_16⟩ : ∃ y : Int32, y = v4 + 1 := ⟨_, rfl⟩
          have h := h x4_16 ex4_16
          refine lv_iinc (v := x4_16) (lv' := [(4, .int x4_16), (5, .long x5_9), (0, .ref (g.1 48)), (1, .int f1), (2, .int f2), (3, .int v3)]) hx hb dX1_passOn_102 hl (k := 5) rfl (by rw [ex4_16]; rfl) (by decide) rfl (fun ls hl => ?_)
          refine lv_goto (tgt := 20) hx hb dX1_passOn_105 (by decide) ?_
          exact ih v3 x4_16 M _ _ _ hW (lv_sub hl [2, 3, 4, 5, 0] rfl) h
        · have h := h.2 c_15
          refine lv_aload_n hx hb dX1_passOn_83 rfl (lv_at hl 1 rfl) ?_
          refine gf_X1_16 C hW dX1_passOn_84 ?_
          refine lv_iload hx hb dX1_passOn_87 (lv_at hl 5 rfl) ?_
          refine lv_lload hx hb dX1_passOn_89 (lv_at hl 0 rfl) ?_
          have hi_17 := h.1
          have h := h.2
          refine pd_last C hW kd_57 hi_17 dX1_passOn_91 (fun M_18 H locs eM_18 hW => ?_)
          have h := h M_18 eM_18
          refine lv_aload_n hx hb dX1_passOn_92 rfl (lv_at hl 1 rfl) ?_
          refine gf_X1_20 C hW dX1_passOn_93 ?_
          refine lv_iload hx hb dX1_passOn_96 (lv_at hl 5 rfl) ?_
          refine lv_iload_n hx hb dX1_passOn_98 rfl (lv_at hl 2 rfl) ?_
          have hi_19 := h.1
          have h := h.2
          refine pd_iast C hW kd_58 hi_19 dX1_passOn_99 (fun M_20 H locs eM_20 hW => ?_)
          have h := h M_20 eM_20
          refine lv_iconst (v := 1) hx hb dX1_passOn_100 (by decide) ?_
          refine lv_istore_n (lv' := [(3, .int 1), (5, .long x5_9), (0, .ref (g.1 48)), (1, .int f1), (2, .int f2), (4, .int v4)]) hx hb dX1_passOn_101 rfl hl (by decide) rfl (fun ls hl => ?_)
          obtain ⟨x4_21, ex4_21⟩ : ∃ y : Int32, y = v4 + 1 := ⟨_, rfl⟩
          have h := h x4_21 ex4_21
          refine lv_iinc (v := x4_21) (lv' := [(4, .int x4_21), (3, .int 1), (5, .long x5_9), (0, .ref (g.1 48)), (1, .int f1), (2, .int f2)]) hx hb dX1_passOn_102 hl (k := 5) rfl (by rw [ex4_21]; rfl) (by decide) rfl (fun ls hl => ?_)
          refine lv_goto (tgt := 20) hx hb dX1_passOn_105 (by decide) ?_
          exact ih 1 x4_21 M_20 _ _ _ hW (lv_sub hl [3, 4, 5, 1, 0] rfl) h

def wX1_passOn (Q : Int32 → pd_M → Prop) (a1 : Int32) (a2 : Int32) (M : pd_M) : Prop := (vp_in a2 6 ∧ ((¬ (lg_cmp (M.2 57 a2.toNatClampNeg) (1000000000000000 : Int64)) = 0 → (∃ k_20 : Nat, lpX1_passOn_20 (fun x3_23 M_22 => (narrow FieldType.boolean (Value.int x3_23) = Value.int x3_23 ∧ Q x3_23 M_22)) a1 a2 k_20 0 0 M)) ∧ ((lg_cmp (M.2 57 a2.toNatClampNeg) (1000000000000000 : Int64)) = 0 → Q 0 M)))

set_option maxRecDepth 100000 in
set_option maxHeartbeats 4000000 in
theorem mX1_passOn {l : Launch} {D : va_G} {g : pd_G} {t : Nat} {X : va_W} {Q : Int32 → pd_M → Prop} {a1 : Int32} {a2 : Int32} {M : pd_M} {sz : Nat} (h : wX1_passOn Q a1 a2 M) : Met l yX1_passOn (Cond.code yX1_passOn cX1_passOn 7 (Option.some FieldType.boolean) :: TB) rX1_passOn (pd_Pre D g t M X sz [.ref (g.1 48), .int a1, .int a2]) (pd_Qi D g M X sz Q) 0 0 (va_A (pd_WL g M ++ X) sz) := by
  refine pd_met (by decide) (Nat.le_of_ble_eq_true rfl) ?_
  intro p e s m below meth c A ls C hA hW hl
  have C : pd_C p m c cX1_passOn 7 s _ RX1 meth (Option.some FieldType.boolean) := C
  have hx := C.1.1
  have hb := C.1.2.1
  have hown := C.1.2.2.2.1
  have hts := C.1.2.2.2.2
  have hl : lv_has ls 7 [(0, .ref (g.1 48)), (1, .int a1), (2, .int a2)] := hl
  refine lv_aload_n hx hb dX1_passOn_0 rfl (lv_at hl 0 rfl) ?_
  refine gf_X1_16 C hW dX1_passOn_1 ?_
  refine lv_iload_n hx hb dX1_passOn_4 rfl (lv_at hl 2 rfl) ?_
  have hi_1 := h.1
  have h := h.2
  refine pd_lald C hW kd_57 hi_1 dX1_passOn_5 ?_
  refine lv_ldc2 (v := (1000000000000000 : Int64)) hx hb hown (hts _ mJ_X1_51) dX1_passOn_6 ?_
  refine W.lcmp hx hb dX1_passOn_9 ?_
  refine lv_if_ne (tgt := 15) hx hb dX1_passOn_10 (by decide) (fun c_2 => ?_) (fun c_2 => ?_)
  · have h := h.1 c_2
    refine lv_iconst (v := 0) hx hb dX1_passOn_15 (by decide) ?_
    refine lv_istore_n (lv' := [(3, .int 0), (0, .ref (g.1 48)), (1, .int a1), (2, .int a2)]) hx hb dX1_passOn_16 rfl hl (by decide) rfl (fun ls hl => ?_)
    refine lv_iconst (v := 0) hx hb dX1_passOn_17 (by decide) ?_
    refine lv_istore (lv' := [(4, .int 0), (3, .int 0), (0, .ref (g.1 48)), (1, .int a1), (2, .int a2)]) hx hb dX1_passOn_18 hl (by decide) rfl (fun ls hl => ?_)
    obtain ⟨k_20, h⟩ := h
    refine stX1_passOn_20 C hA (fun x3_23 M_22 H locs ls hW hl h => ?_) k_20 0 0 M _ _ _ hW (lv_sub hl [2, 3, 4, 1, 0] rfl) h
    refine lv_iload_n hx hb dX1_passOn_108 rfl (lv_at hl 0 rfl) ?_
    exact pd_zret C hA hW h.1 h.2 dX1_passOn_109
  · have h := h.2 c_2
    refine lv_iconst (v := 0) hx hb dX1_passOn_13 (by decide) ?_
    exact pd_zret C hA hW rfl h dX1_passOn_14

theorem dd_X1_passOn : yX1_passOn.cls ≠ "java/lang/invoke/MethodHandle" ∧ yX1_passOn.cls ≠ "java/lang/invoke/VarHandle" ∧ (parseMethodDescriptor yX1_passOn.desc).map (fun d => d.parameters.length) = some 2 := by decide +kernel
theorem cl_X1_39 {p : Program} {l : Launch} {e : Env} {R : Room} {s : State} {m : MethodId} {args : Array Value} {below : List Frame} {meth : Method} {c : Code} {H : Heap} {locs : List Loc} {cells slots : Nat} {QQ : State → Prop} {cc : ByteArray} {pc : Nat} {ls : Array Slot} {rest : List Value} {D : va_G} {g : pd_G} {t : Nat} {M : pd_M} {X : va_W} {A : Nat → Prop} {nL : Nat} {ret : Option FieldType} {Qc : Int32 → pd_M → Prop} {a1 : Int32} {a2 : Int32} (C : pd_C p m c cc nL s args RX1 meth ret) (hW : pd_W D g t M X A s H locs) (h : wX1_passOn Qc a1 a2 M) (hR : rX1_passOn.frames + 1 ≤ R.frames ∧ 8 + (7 + 11) + rX1_passOn.locals ≤ R.locals) (hcs : cells ≤ R.cells ∧ slots ≤ R.slots) (hls : ls.size = nL) (hw8 : (rest.map fun v => v.category).sum ≤ 8) (hdg : decode cc pc = .ok (.invokevirtual 39, 3))
    (kk : ∀ (r : Int32) (M1 : pd_M) (H1 : Heap) (locs1 : List Loc), Qc r M1 → pd_W D g t M1 X A s H1 locs1 → W p l e R s m args below meth c H1 locs1 cells slots QQ (F0 m (pc + 3) ls (.int r :: rest))) : W p l e R s m args below meth c H locs cells slots QQ (F0 m pc ls (.int a2 :: .int a1 :: .ref (g.1 48) :: rest)) :=
  pd_callVi (As := [.int a1, .int a2]) C hW (mX1_passOn h) kd_48 rfl mM_X1_39 mO_yX1_passOn mV_yX1_passOn mI_X1 mC_yX1_passOn dd_X1_passOn ⟨rfl, rfl⟩ hR hcs hls rfl hw8 hdg kk
abbrev rX1_cheapestEnd : Room := { frames := 0, cells := 0, slots := 0, locals := 0 }
def lpX1_cheapestEnd_4 (K : Int32 → pd_M → Prop) : Nat → Int32 → Int32 → pd_M → Prop
  | 0, _, _, _ => False
  | n + 1, v2, v3, M => ((5 ≤ v3 → K v2 M) ∧ (¬ 5 ≤ v3 → (vp_in v3 6 ∧ (((M.1 47 v3.toNatClampNeg) ≤ 0 → ∀ x3_4 : Int32, x3_4 = v3 + 1 → lpX1_cheapestEnd_4 K n v2 x3_4 M) ∧ (¬ (M.1 47 v3.toNatClampNeg) ≤ 0 → (vp_in v3 6 ∧ (vp_in v2 6 ∧ ((0 ≤ (lg_cmp (M.2 57 v3.toNatClampNeg) (M.2 57 v2.toNatClampNeg)) → ∀ x3_8 : Int32, x3_8 = v3 + 1 → lpX1_cheapestEnd_4 K n v2 x3_8 M) ∧ (¬ 0 ≤ (lg_cmp (M.2 57 v3.toNatClampNeg) (M.2 57 v2.toNatClampNeg)) → ∀ x3_9 : Int32, x3_9 = v3 + 1 → lpX1_cheapestEnd_4 K n v3 x3_9 M)))))))))

set_option maxRecDepth 100000 in
set_option maxHeartbeats 4000000 in
theorem stX1_cheapestEnd_4 {p : Program} {l : Launch} {e : Env} {s : State} {m : MethodId} {args : Array Value} {below : List Frame} {meth : Method} {c : Code} {D : va_G} {g : pd_G} {t : Nat} {M0 : pd_M} {X : va_W} {A : Nat → Prop} {sz : Nat} {Q : Int32 → pd_M → Prop} (C : pd_C p m c cX1_cheapestEnd 4 s args RX1 meth (Option.some FieldType.int)) (hA : A = va_A (pd_WL g M0 ++ X) sz) {K : Int32 → pd_M → Prop}  (hK : ∀ (p2 : Int32) (M : pd_M) (H : Heap) (locs : List Loc) (ls : Array Slot), pd_W D g t M X A s H locs → lv_has ls 4 [(2, .int p2)] → K p2 M → W p l e rX1_cheapestEnd s m args below meth c H locs 0 0 (MQ below (pd_Qi D g M0 X sz Q) args s 0 0 (va_A (pd_WL g M0 ++ X) sz)) (F0 m 39 ls [])) :
    ∀ (n : Nat) (v2 : Int32) (v3 : Int32) (M : pd_M) (H : Heap) (locs : List Loc) (ls : Array Slot), pd_W D g t M X A s H locs → lv_has ls 4 [(0, .ref (g.1 48)), (1, .ref (g.1 47)), (2, .int v2), (3, .int v3)] → lpX1_cheapestEnd_4 K n v2 v3 M → W p l e rX1_cheapestEnd s m args below meth c H locs 0 0 (MQ below (pd_Qi D g M0 X sz Q) args s 0 0 (va_A (pd_WL g M0 ++ X) sz)) (F0 m 4 ls []) := by
  have hx := C.1.1
  have hb := C.1.2.1
  have hown := C.1.2.2.2.1
  have hts := C.1.2.2.2.2
  intro n
  induction n with
  | zero => intro v2 v3 M H locs ls hW hl h; exact h.elim
  | succ n ih =>
    intro v2 v3 M H locs ls hW hl h
    refine lv_iload_n hx hb dX1_cheapestEnd_4 rfl (lv_at hl 3 rfl) ?_
    refine lv_iconst (v := 5) hx hb dX1_cheapestEnd_5 (by decide) ?_
    refine lv_icmp_ge (tgt := 39) hx hb dX1_cheapestEnd_6 (by decide) (fun c_1 => ?_) (fun c_1 => ?_)
    · have h := h.1 c_1
      exact hK v2 M _ _ _ hW (lv_sub hl [2] rfl) h
    · have h := h.2 c_1
      refine lv_aload_n hx hb dX1_cheapestEnd_9 rfl (lv_at hl 1 rfl) ?_
      refine lv_iload_n hx hb dX1_cheapestEnd_10 rfl (lv_at hl 3 rfl) ?_
      have hi_2 := h.1
      have h := h.2
      refine pd_iald C hW kd_47 hi_2 dX1_cheapestEnd_11 ?_
      refine lv_if_le (tgt := 33) hx hb dX1_cheapestEnd_12 (by decide) (fun c_3 => ?_) (fun c_3 => ?_)
      · have h := h.1 c_3
        obtain ⟨x3_4, ex3_4⟩ : ∃ y : Int32, y = v3 + 1 := ⟨_, rfl⟩
        have h := h x3_4 ex3_4
        refine lv_iinc (v := x3_4) (lv' := [(3, .int x3_4), (0, .ref (g.1 48)), (1, .ref (g.1 47)), (2, .int v2)]) hx hb dX1_cheapestEnd_33 hl (k := 3) rfl (by rw [ex3_4]; rfl) (by decide) rfl (fun ls hl => ?_)
        refine lv_goto (tgt := 4) hx hb dX1_cheapestEnd_36 (by decide) ?_
        exact ih v2 x3_4 M _ _ _ hW (lv_sub hl [1, 2, 3, 0] rfl) h
      · have h := h.2 c_3
        refine lv_aload_n hx hb dX1_cheapestEnd_15 rfl (lv_at hl 0 rfl) ?_
        refine gf_X1_16 C hW dX1_cheapestEnd_16 ?_
        refine lv_iload_n hx hb dX1_cheapestEnd_19 rfl (lv_at hl 3 rfl) ?_
        have hi_5 := h.1
        have h := h.2
        refine pd_lald C hW kd_57 hi_5 dX1_cheapestEnd_20 ?_
        refine lv_aload_n hx hb dX1_cheapestEnd_21 rfl (lv_at hl 0 rfl) ?_
        refine gf_X1_16 C hW dX1_cheapestEnd_22 ?_
        refine lv_iload_n hx hb dX1_cheapestEnd_25 rfl (lv_at hl 2 rfl) ?_
        have hi_6 := h.1
        have h := h.2
        refine pd_lald C hW kd_57 hi_6 dX1_cheapestEnd_26 ?_
        refine W.lcmp hx hb dX1_cheapestEnd_27 ?_
        refine lv_if_ge (tgt := 33) hx hb dX1_cheapestEnd_28 (by decide) (fun c_7 => ?_) (fun c_7 => ?_)
        · have h := h.1 c_7
          obtain ⟨x3_8, ex3_8⟩ : ∃ y : Int32, y = v3 + 1 := ⟨_, rfl⟩
          have h := h x3_8 ex3_8
          refine lv_iinc (v := x3_8) (lv' := [(3, .int x3_8), (0, .ref (g.1 48)), (1, .ref (g.1 47)), (2, .int v2)]) hx hb dX1_cheapestEnd_33 hl (k := 3) rfl (by rw [ex3_8]; rfl) (by decide) rfl (fun ls hl => ?_)
          refine lv_goto (tgt := 4) hx hb dX1_cheapestEnd_36 (by decide) ?_
          exact ih v2 x3_8 M _ _ _ hW (lv_sub hl [1, 2, 3, 0] rfl) h
        · have h := h.2 c_7
          refine lv_iload_n hx hb dX1_cheapestEnd_31 rfl (lv_at hl 3 rfl) ?_
          refine lv_istore_n (lv' := [(2, .int v3), (0, .ref (g.1 48)), (1, .ref (g.1 47)), (3, .int v3)]) hx hb dX1_cheapestEnd_32 rfl hl (by decide) rfl (fun ls hl => ?_)
          obtain ⟨x3_9, ex3_9⟩ : ∃ y : Int32, y = v3 + 1 := ⟨_, rfl⟩
          have h := h x3_9 ex3_9
          refine lv_iinc (v := x3_9) (lv' := [(3, .int x3_9), (2, .int v3), (0, .ref (g.1 48)), (1, .ref (g.1 47))]) hx hb dX1_cheapestEnd_33 hl (k := 3) rfl (by rw [ex3_9]; rfl) (by decide) rfl (fun ls hl => ?_)
          refine lv_goto (tgt := 4) hx hb dX1_cheapestEnd_36 (by decide) ?_
          exact ih v3 x3_9 M _ _ _ hW (lv_sub hl [2, 3, 1, 0] rfl) h

def wX1_cheapestEnd (Q : Int32 → pd_M → Prop) (M : pd_M) : Prop := (∃ k_4 : Nat, lpX1_cheapestEnd_4 (fun x2_11 M_10 => Q x2_11 M_10) k_4 5 0 M)

set_option maxRecDepth 100000 in
set_option maxHeartbeats 4000000 in
theorem mX1_cheapestEnd {l : Launch} {D : va_G} {g : pd_G} {t : Nat} {X : va_W} {Q : Int32 → pd_M → Prop} {M : pd_M} {sz : Nat} (h : wX1_cheapestEnd Q M) : Met l yX1_cheapestEnd (Cond.code yX1_cheapestEnd cX1_cheapestEnd 4 (Option.some FieldType.int) :: TB) rX1_cheapestEnd (pd_Pre D g t M X sz [.ref (g.1 48), .ref (g.1 47)]) (pd_Qi D g M X sz Q) 0 0 (va_A (pd_WL g M ++ X) sz) := by
  refine pd_met (by decide) (Nat.le_of_ble_eq_true rfl) ?_
  intro p e s m below meth c A ls C hA hW hl
  have C : pd_C p m c cX1_cheapestEnd 4 s _ RX1 meth (Option.some FieldType.int) := C
  have hx := C.1.1
  have hb := C.1.2.1
  have hown := C.1.2.2.2.1
  have hts := C.1.2.2.2.2
  have hl : lv_has ls 4 [(0, .ref (g.1 48)), (1, .ref (g.1 47))] := hl
  refine lv_iconst (v := 5) hx hb dX1_cheapestEnd_0 (by decide) ?_
  refine lv_istore_n (lv' := [(2, .int 5), (0, .ref (g.1 48)), (1, .ref (g.1 47))]) hx hb dX1_cheapestEnd_1 rfl hl (by decide) rfl (fun ls hl => ?_)
  refine lv_iconst (v := 0) hx hb dX1_cheapestEnd_2 (by decide) ?_
  refine lv_istore_n (lv' := [(3, .int 0), (2, .int 5), (0, .ref (g.1 48)), (1, .ref (g.1 47))]) hx hb dX1_cheapestEnd_3 rfl hl (by decide) rfl (fun ls hl => ?_)
  obtain ⟨k_4, h⟩ := h
  refine stX1_cheapestEnd_4 C hA (fun x2_11 M_10 H locs ls hW hl h => ?_) k_4 5 0 M _ _ _ hW (lv_sub hl [2, 3, 1, 0] rfl) h
  refine lv_iload_n hx hb dX1_cheapestEnd_39 rfl (lv_at hl 0 rfl) ?_
  exact pd_iret C hA hW h dX1_cheapestEnd_40

theorem dd_X1_cheapestEnd : yX1_cheapestEnd.cls ≠ "java/lang/invoke/MethodHandle" ∧ yX1_cheapestEnd.cls ≠ "java/lang/invoke/VarHandle" ∧ (parseMethodDescriptor yX1_cheapestEnd.desc).map (fun d => d.parameters.length) = some 1 := by decide +kernel
theorem cl_X1_43 {p : Program} {l : Launch} {e : Env} {R : Room} {s : State} {m : MethodId} {args : Array Value} {below : List Frame} {meth : Method} {c : Code} {H : Heap} {locs : List Loc} {cells slots : Nat} {QQ : State → Prop} {cc : ByteArray} {pc : Nat} {ls : Array Slot} {rest : List Value} {D : va_G} {g : pd_G} {t : Nat} {M : pd_M} {X : va_W} {A : Nat → Prop} {nL : Nat} {ret : Option FieldType} {Qc : Int32 → pd_M → Prop} (C : pd_C p m c cc nL s args RX1 meth ret) (hW : pd_W D g t M X A s H locs) (h : wX1_cheapestEnd Qc M) (hR : rX1_cheapestEnd.frames + 1 ≤ R.frames ∧ 8 + (4 + 11) + rX1_cheapestEnd.locals ≤ R.locals) (hcs : cells ≤ R.cells ∧ slots ≤ R.slots) (hls : ls.size = nL) (hw8 : (rest.map fun v => v.category).sum ≤ 8) (hdg : decode cc pc = .ok (.invokevirtual 43, 3))
    (kk : ∀ (r : Int32) (M1 : pd_M) (H1 : Heap) (locs1 : List Loc), Qc r M1 → pd_W D g t M1 X A s H1 locs1 → W p l e R s m args below meth c H1 locs1 cells slots QQ (F0 m (pc + 3) ls (.int r :: rest))) : W p l e R s m args below meth c H locs cells slots QQ (F0 m pc ls (.ref (g.1 47) :: .ref (g.1 48) :: rest)) :=
  pd_callVi (As := [.ref (g.1 47)]) C hW (mX1_cheapestEnd h) kd_48 rfl mM_X1_43 mO_yX1_cheapestEnd mV_yX1_cheapestEnd mI_X1 mC_yX1_cheapestEnd dd_X1_cheapestEnd ⟨rfl, rfl⟩ hR hcs hls rfl hw8 hdg kk
abbrev rX1_shift : Room := { frames := 0, cells := 0, slots := 0, locals := 0 }
def lpX1_shift_6 (K : Int32 → pd_M → Prop) (f1 : Int32) : Nat → Int32 → Int32 → pd_M → Prop
  | 0, _, _, _ => False
  | n + 1, v4, v5, M => ((6 ≤ v5 → K v4 M) ∧ (¬ 6 ≤ v5 → (vp_in v4 6 ∧ (((M.1 58 v4.toNatClampNeg) = f1 → K v4 M) ∧ (¬ (M.1 58 v4.toNatClampNeg) = f1 → (vp_in v4 6 ∧ (vp_in (M.1 58 v4.toNatClampNeg) 7 ∧ ∀ x6_6 : Int32, x6_6 = (M.1 38 (M.1 58 v4.toNatClampNeg).toNatClampNeg) → (vp_in v4 6 ∧ (vp_in (M.1 58 v4.toNatClampNeg) 7 ∧ ∀ M_9 : pd_M, M_9 = sI M 38 (M.1 58 v4.toNatClampNeg).toNatClampNeg v4 → ∀ x5_10 : Int32, x5_10 = v5 + 1 → lpX1_shift_6 K f1 n x6_6 x5_10 M_9)))))))))

set_option maxRecDepth 100000 in
set_option maxHeartbeats 4000000 in
theorem stX1_shift_6 {p : Program} {l : Launch} {e : Env} {s : State} {m : MethodId} {args : Array Value} {below : List Frame} {meth : Method} {c : Code} {D : va_G} {g : pd_G} {t : Nat} {M0 : pd_M} {X : va_W} {A : Nat → Prop} {sz : Nat} {Q : pd_M → Prop} (C : pd_C p m c cX1_shift 7 s args RX1 meth (Option.none : Option FieldType)) (hA : A = va_A (pd_WL g M0 ++ X) sz) {K : Int32 → pd_M → Prop} {f1 : Int32}  (hK : ∀ (p4 : Int32) (M : pd_M) (H : Heap) (locs : List Loc) (ls : Array Slot), pd_W D g t M X A s H locs → lv_has ls 7 [(1, .int f1), (3, .ref (g.1 38)), (4, .int p4)] → K p4 M → W p l e rX1_shift s m args below meth c H locs 0 0 (MQ below (pd_Qv D g M0 X sz Q) args s 0 0 (va_A (pd_WL g M0 ++ X) sz)) (F0 m 56 ls [])) :
    ∀ (n : Nat) (v4 : Int32) (v5 : Int32) (M : pd_M) (H : Heap) (locs : List Loc) (ls : Array Slot), pd_W D g t M X A s H locs → lv_has ls 7 [(0, .ref (g.1 48)), (1, .int f1), (3, .ref (g.1 38)), (4, .int v4), (5, .int v5)] → lpX1_shift_6 K f1 n v4 v5 M → W p l e rX1_shift s m args below meth c H locs 0 0 (MQ below (pd_Qv D g M0 X sz Q) args s 0 0 (va_A (pd_WL g M0 ++ X) sz)) (F0 m 6 ls []) := by
  have hx := C.1.1
  have hb := C.1.2.1
  have hown := C.1.2.2.2.1
  have hts := C.1.2.2.2.2
  intro n
  induction n with
  | zero => intro v4 v5 M H locs ls hW hl h; exact h.elim
  | succ n ih =>
    intro v4 v5 M H locs ls hW hl h
    refine lv_iload hx hb dX1_shift_6 (lv_at hl 4 rfl) ?_
    refine lv_bipush (v := 6) hx hb dX1_shift_8 (by decide) ?_
    refine lv_icmp_ge (tgt := 56) hx hb dX1_shift_10 (by decide) (fun c_1 => ?_) (fun c_1 => ?_)
    · have h := h.1 c_1
      exact hK v4 M _ _ _ hW (lv_sub hl [1, 2, 3] rfl) h
    · have h := h.2 c_1
      refine lv_aload_n hx hb dX1_shift_13 rfl (lv_at hl 0 rfl) ?_
      refine gf_X1_20 C hW dX1_shift_14 ?_
      refine lv_iload hx hb dX1_shift_17 (lv_at hl 3 rfl) ?_
      have hi_2 := h.1
      have h := h.2
      refine pd_iald C hW kd_58 hi_2 dX1_shift_19 ?_
      refine lv_iload_n hx hb dX1_shift_20 rfl (lv_at hl 1 rfl) ?_
      refine lv_icmp_eq (tgt := 56) hx hb dX1_shift_21 (by decide) (fun c_3 => ?_) (fun c_3 => ?_)
      · have h := h.1 c_3
        exact hK v4 M _ _ _ hW (lv_sub hl [1, 2, 3] rfl) h
      · have h := h.2 c_3
        refine lv_aload_n hx hb dX1_shift_24 rfl (lv_at hl 2 rfl) ?_
        refine lv_aload_n hx hb dX1_shift_25 rfl (lv_at hl 0 rfl) ?_
        refine gf_X1_20 C hW dX1_shift_26 ?_
        refine lv_iload hx hb dX1_shift_29 (lv_at hl 3 rfl) ?_
        have hi_4 := h.1
        have h := h.2
        refine pd_iald C hW kd_58 hi_4 dX1_shift_31 ?_
        have hi_5 := h.1
        have h := h.2
        refine pd_iald C hW kd_38 hi_5 dX1_shift_32 ?_
        refine lv_topi (fun x6_6 ex6_6 => ?_)
        have h := h x6_6 ex6_6
        refine lv_istore (lv' := [(6, .int x6_6), (0, .ref (g.1 48)), (1, .int f1), (3, .ref (g.1 38)), (4, .int v4), (5, .int v5)]) hx hb dX1_shift_33 hl (by decide) rfl (fun ls hl => ?_)
        refine lv_aload_n hx hb dX1_shift_35 rfl (lv_at hl 3 rfl) ?_
        refine lv_aload_n hx hb dX1_shift_36 rfl (lv_at hl 1 rfl) ?_
        refine gf_X1_20 C hW dX1_shift_37 ?_
        refine lv_iload hx hb dX1_shift_40 (lv_at hl 4 rfl) ?_
        have hi_7 := h.1
        have h := h.2
        refine pd_iald C hW kd_58 hi_7 dX1_shift_42 ?_
        refine lv_iload hx hb dX1_shift_43 (lv_at hl 4 rfl) ?_
        have hi_8 := h.1
        have h := h.2
        refine pd_iast C hW kd_38 hi_8 dX1_shift_45 (fun M_9 H locs eM_9 hW => ?_)
        have h := h M_9 eM_9
        refine lv_iload hx hb dX1_shift_46 (lv_at hl 0 rfl) ?_
        refine lv_istore (lv' := [(4, .int x6_6), (6, .int x6_6), (0, .ref (g.1 48)), (1, .int f1), (3, .ref (g.1 38)), (5, .int v5)]) hx hb dX1_shift_48 hl (by decide) rfl (fun ls hl => ?_)
        obtain ⟨x5_10, ex5_10⟩ : ∃ y : Int32, y = v5 + 1 := ⟨_, rfl⟩
        have h := h x5_10 ex5_10
        refine lv_iinc (v := x5_10) (lv' := [(5, .int x5_10), (4, .int x6_6), (6, .int x6_6), (0, .ref (g.1 48)), (1, .int f1), (3, .ref (g.1 38))]) hx hb dX1_shift_50 hl (k := 5) rfl (by rw [ex5_10]; rfl) (by decide) rfl (fun ls hl => ?_)
        refine lv_goto (tgt := 6) hx hb dX1_shift_53 (by decide) ?_
        exact ih x6_6 x5_10 M_9 _ _ _ hW (lv_sub hl [3, 4, 5, 1, 0] rfl) h

def wX1_shift (Q : pd_M → Prop) (a1 : Int32) (a2 : Int32) (M : pd_M) : Prop := (∃ k_6 : Nat, lpX1_shift_6 (fun x4_12 M_11 => (vp_in a1 7 ∧ ∀ M_14 : pd_M, M_14 = sI M_11 38 a1.toNatClampNeg x4_12 → Q M_14)) a1 k_6 a2 0 M)

set_option maxRecDepth 100000 in
set_option maxHeartbeats 4000000 in
theorem mX1_shift {l : Launch} {D : va_G} {g : pd_G} {t : Nat} {X : va_W} {Q : pd_M → Prop} {a1 : Int32} {a2 : Int32} {M : pd_M} {sz : Nat} (h : wX1_shift Q a1 a2 M) : Met l yX1_shift (Cond.code yX1_shift cX1_shift 7 (Option.none : Option FieldType) :: TB) rX1_shift (pd_Pre D g t M X sz [.ref (g.1 48), .int a1, .int a2, .ref (g.1 38)]) (pd_Qv D g M X sz Q) 0 0 (va_A (pd_WL g M ++ X) sz) := by
  refine pd_met (by decide) (Nat.le_of_ble_eq_true rfl) ?_
  intro p e s m below meth c A ls C hA hW hl
  have C : pd_C p m c cX1_shift 7 s _ RX1 meth (Option.none : Option FieldType) := C
  have hx := C.1.1
  have hb := C.1.2.1
  have hown := C.1.2.2.2.1
  have hts := C.1.2.2.2.2
  have hl : lv_has ls 7 [(0, .ref (g.1 48)), (1, .int a1), (2, .int a2), (3, .ref (g.1 38))] := hl
  refine lv_iload_n hx hb dX1_shift_0 rfl (lv_at hl 2 rfl) ?_
  refine lv_istore (lv' := [(4, .int a2), (0, .ref (g.1 48)), (1, .int a1), (2, .int a2), (3, .ref (g.1 38))]) hx hb dX1_shift_1 hl (by decide) rfl (fun ls hl => ?_)
  refine lv_iconst (v := 0) hx hb dX1_shift_3 (by decide) ?_
  refine lv_istore (lv' := [(5, .int 0), (4, .int a2), (0, .ref (g.1 48)), (1, .int a1), (2, .int a2), (3, .ref (g.1 38))]) hx hb dX1_shift_4 hl (by decide) rfl (fun ls hl => ?_)
  obtain ⟨k_6, h⟩ := h
  refine stX1_shift_6 C hA (fun x4_12 M_11 H locs ls hW hl h => ?_) k_6 a2 0 M _ _ _ hW (lv_sub hl [2, 3, 5, 1, 0] rfl) h
  refine lv_aload_n hx hb dX1_shift_56 rfl (lv_at hl 1 rfl) ?_
  refine lv_iload_n hx hb dX1_shift_57 rfl (lv_at hl 0 rfl) ?_
  refine lv_iload hx hb dX1_shift_58 (lv_at hl 2 rfl) ?_
  have hi_13 := h.1
  have h := h.2
  refine pd_iast C hW kd_38 hi_13 dX1_shift_60 (fun M_14 H locs eM_14 hW => ?_)
  have h := h M_14 eM_14
  exact pd_vret C hA hW h dX1_shift_61

theorem dd_X1_shift : yX1_shift.cls ≠ "java/lang/invoke/MethodHandle" ∧ yX1_shift.cls ≠ "java/lang/invoke/VarHandle" ∧ (parseMethodDescriptor yX1_shift.desc).map (fun d => d.parameters.length) = some 3 := by decide +kernel
theorem cl_X1_47 {p : Program} {l : Launch} {e : Env} {R : Room} {s : State} {m : MethodId} {args : Array Value} {below : List Frame} {meth : Method} {c : Code} {H : Heap} {locs : List Loc} {cells slots : Nat} {QQ : State → Prop} {cc : ByteArray} {pc : Nat} {ls : Array Slot} {rest : List Value} {D : va_G} {g : pd_G} {t : Nat} {M : pd_M} {X : va_W} {A : Nat → Prop} {nL : Nat} {ret : Option FieldType} {Qc : pd_M → Prop} {a1 : Int32} {a2 : Int32} (C : pd_C p m c cc nL s args RX1 meth ret) (hW : pd_W D g t M X A s H locs) (h : wX1_shift Qc a1 a2 M) (hR : rX1_shift.frames + 1 ≤ R.frames ∧ 8 + (7 + 11) + rX1_shift.locals ≤ R.locals) (hcs : cells ≤ R.cells ∧ slots ≤ R.slots) (hls : ls.size = nL) (hw8 : (rest.map fun v => v.category).sum ≤ 8) (hdg : decode cc pc = .ok (.invokevirtual 47, 3))
    (kk : ∀ (M1 : pd_M) (H1 : Heap) (locs1 : List Loc), Qc M1 → pd_W D g t M1 X A s H1 locs1 → W p l e R s m args below meth c H1 locs1 cells slots QQ (F0 m (pc + 3) ls rest)) : W p l e R s m args below meth c H locs cells slots QQ (F0 m pc ls (.ref (g.1 38) :: .int a2 :: .int a1 :: .ref (g.1 48) :: rest)) :=
  pd_callVv (As := [.int a1, .int a2, .ref (g.1 38)]) C hW (mX1_shift h) kd_48 rfl mM_X1_47 mO_yX1_shift mV_yX1_shift mI_X1 mC_yX1_shift dd_X1_shift ⟨rfl, rfl⟩ hR hcs hls rfl hw8 hdg kk
abbrev rX1_add : Room := { frames := 1, cells := 0, slots := 0, locals := 26 }
def lpX1_add_29 (K : Int32 → pd_M → Prop) (f1 : Int32) (f5 : Int32) : Nat → Int32 → Int32 → pd_M → Prop
  | 0, _, _, _ => False
  | n + 1, v4, v6, M => ((f1 ≤ v6 → K v4 M) ∧ (¬ f1 ≤ v6 → (vp_in v6 7 ∧ wX1_passOn (fun r_7 M_6 => ((r_7 = 0 → ∀ x6_9 : Int32, x6_9 = v6 + 1 → lpX1_add_29 K f1 f5 n v4 x6_9 M_6) ∧ (¬ r_7 = 0 → ∀ x6_10 : Int32, x6_10 = v6 + 1 → lpX1_add_29 K f1 f5 n 1 x6_10 M_6))) v6 (M.1 38 v6.toNatClampNeg) M)))

set_option maxRecDepth 100000 in
set_option maxHeartbeats 4000000 in
theorem stX1_add_29 {p : Program} {l : Launch} {e : Env} {s : State} {m : MethodId} {args : Array Value} {below : List Frame} {meth : Method} {c : Code} {D : va_G} {g : pd_G} {t : Nat} {M0 : pd_M} {X : va_W} {A : Nat → Prop} {sz : Nat} {Q : pd_M → Prop} (C : pd_C p m c cX1_add 7 s args RX1 meth (Option.none : Option FieldType)) (hA : A = va_A (pd_WL g M0 ++ X) sz) {K : Int32 → pd_M → Prop} {f1 : Int32} {f5 : Int32}  (hK : ∀ (p4 : Int32) (M : pd_M) (H : Heap) (locs : List Loc) (ls : Array Slot), pd_W D g t M X A s H locs → lv_has ls 7 [(0, .ref (g.1 48)), (1, .int f1), (2, .ref (g.1 38)), (3, .ref (g.1 47)), (4, .int p4), (5, .int f5)] → K p4 M → W p l e rX1_add s m args below meth c H locs 0 0 (MQ below (pd_Qv D g M0 X sz Q) args s 0 0 (va_A (pd_WL g M0 ++ X) sz)) (F0 m 57 ls [])) :
    ∀ (n : Nat) (v4 : Int32) (v6 : Int32) (M : pd_M) (H : Heap) (locs : List Loc) (ls : Array Slot), pd_W D g t M X A s H locs → lv_has ls 7 [(0, .ref (g.1 48)), (1, .int f1), (2, .ref (g.1 38)), (3, .ref (g.1 47)), (4, .int v4), (5, .int f5), (6, .int v6)] → lpX1_add_29 K f1 f5 n v4 v6 M → W p l e rX1_add s m args below meth c H locs 0 0 (MQ below (pd_Qv D g M0 X sz Q) args s 0 0 (va_A (pd_WL g M0 ++ X) sz)) (F0 m 29 ls []) := by
  have hx := C.1.1
  have hb := C.1.2.1
  have hown := C.1.2.2.2.1
  have hts := C.1.2.2.2.2
  intro n
  induction n with
  | zero => intro v4 v6 M H locs ls hW hl h; exact h.elim
  | succ n ih =>
    intro v4 v6 M H locs ls hW hl h
    refine lv_iload hx hb dX1_add_29 (lv_at hl 6 rfl) ?_
    refine lv_iload_n hx hb dX1_add_31 rfl (lv_at hl 1 rfl) ?_
    refine lv_icmp_ge (tgt := 57) hx hb dX1_add_32 (by decide) (fun c_4 => ?_) (fun c_4 => ?_)
    · have h := h.1 c_4
      exact hK v4 M _ _ _ hW (lv_sub hl [0, 1, 2, 3, 4, 5] rfl) h
    · have h := h.2 c_4
      refine lv_aload_n hx hb dX1_add_35 rfl (lv_at hl 0 rfl) ?_
      refine lv_iload hx hb dX1_add_36 (lv_at hl 6 rfl) ?_
      refine lv_aload_n hx hb dX1_add_38 rfl (lv_at hl 2 rfl) ?_
      refine lv_iload hx hb dX1_add_39 (lv_at hl 6 rfl) ?_
      have hi_5 := h.1
      have h := h.2
      refine pd_iald C hW kd_38 hi_5 dX1_add_41 ?_
      refine cl_X1_39 C hW h ⟨by decide, by decide⟩ ⟨Nat.zero_le _, Nat.zero_le _⟩ hl.1 (Nat.le_of_ble_eq_true rfl) dX1_add_42 (fun r_7 M_6 H locs h hW => ?_)
      refine lv_if_eq (tgt := 51) hx hb dX1_add_45 (by decide) (fun c_8 => ?_) (fun c_8 => ?_)
      · have h := h.1 c_8
        obtain ⟨x6_9, ex6_9⟩ : ∃ y : Int32, y = v6 + 1 := ⟨_, rfl⟩
        have h := h x6_9 ex6_9
        refine lv_iinc (v := x6_9) (lv' := [(6, .int x6_9), (0, .ref (g.1 48)), (1, .int f1), (2, .ref (g.1 38)), (3, .ref (g.1 47)), (4, .int v4), (5, .int f5)]) hx hb dX1_add_51 hl (k := 6) rfl (by rw [ex6_9]; rfl) (by decide) rfl (fun ls hl => ?_)
        refine lv_goto (tgt := 29) hx hb dX1_add_54 (by decide) ?_
        exact ih v4 x6_9 M_6 _ _ _ hW (lv_sub hl [1, 2, 3, 4, 5, 6, 0] rfl) h
      · have h := h.2 c_8
        refine lv_iconst (v := 1) hx hb dX1_add_48 (by decide) ?_
        refine lv_istore (lv' := [(4, .int 1), (0, .ref (g.1 48)), (1, .int f1), (2, .ref (g.1 38)), (3, .ref (g.1 47)), (5, .int f5), (6, .int v6)]) hx hb dX1_add_49 hl (by decide) rfl (fun ls hl => ?_)
        obtain ⟨x6_10, ex6_10⟩ : ∃ y : Int32, y = v6 + 1 := ⟨_, rfl⟩
        have h := h x6_10 ex6_10
        refine lv_iinc (v := x6_10) (lv' := [(6, .int x6_10), (4, .int 1), (0, .ref (g.1 48)), (1, .int f1), (2, .ref (g.1 38)), (3, .ref (g.1 47)), (5, .int f5)]) hx hb dX1_add_51 hl (k := 6) rfl (by rw [ex6_10]; rfl) (by decide) rfl (fun ls hl => ?_)
        refine lv_goto (tgt := 29) hx hb dX1_add_54 (by decide) ?_
        exact ih 1 x6_10 M_6 _ _ _ hW (lv_sub hl [2, 3, 4, 5, 1, 6, 0] rfl) h

def lpX1_add_11 (K : pd_M → Prop) (f1 : Int32) : Nat → Int32 → Int32 → pd_M → Prop
  | 0, _, _, _ => False
  | n + 1, v4, v5, M => ((v4 = 0 → K M) ∧ (¬ v4 = 0 → ((6 ≤ v5 → K M) ∧ (¬ 6 ≤ v5 → (∃ k_29 : Nat, lpX1_add_29 (fun x4_12 M_11 => ∀ x5_13 : Int32, x5_13 = v5 + 1 → lpX1_add_11 K f1 n x4_12 x5_13 M_11) f1 v5 k_29 0 0 M)))))

set_option maxRecDepth 100000 in
set_option maxHeartbeats 4000000 in
theorem stX1_add_11 {p : Program} {l : Launch} {e : Env} {s : State} {m : MethodId} {args : Array Value} {below : List Frame} {meth : Method} {c : Code} {D : va_G} {g : pd_G} {t : Nat} {M0 : pd_M} {X : va_W} {A : Nat → Prop} {sz : Nat} {Q : pd_M → Prop} (C : pd_C p m c cX1_add 7 s args RX1 meth (Option.none : Option FieldType)) (hA : A = va_A (pd_WL g M0 ++ X) sz) {K : pd_M → Prop} {f1 : Int32}  (hK : ∀  (M : pd_M) (H : Heap) (locs : List Loc) (ls : Array Slot), pd_W D g t M X A s H locs → lv_has ls 7 [(0, .ref (g.1 48)), (1, .int f1), (2, .ref (g.1 38)), (3, .ref (g.1 47))] → K  M → W p l e rX1_add s m args below meth c H locs 0 0 (MQ below (pd_Qv D g M0 X sz Q) args s 0 0 (va_A (pd_WL g M0 ++ X) sz)) (F0 m 63 ls [])) :
    ∀ (n : Nat) (v4 : Int32) (v5 : Int32) (M : pd_M) (H : Heap) (locs : List Loc) (ls : Array Slot), pd_W D g t M X A s H locs → lv_has ls 7 [(0, .ref (g.1 48)), (1, .int f1), (2, .ref (g.1 38)), (3, .ref (g.1 47)), (4, .int v4), (5, .int v5)] → lpX1_add_11 K f1 n v4 v5 M → W p l e rX1_add s m args below meth c H locs 0 0 (MQ below (pd_Qv D g M0 X sz Q) args s 0 0 (va_A (pd_WL g M0 ++ X) sz)) (F0 m 11 ls []) := by
  have hx := C.1.1
  have hb := C.1.2.1
  have hown := C.1.2.2.2.1
  have hts := C.1.2.2.2.2
  intro n
  induction n with
  | zero => intro v4 v5 M H locs ls hW hl h; exact h.elim
  | succ n ih =>
    intro v4 v5 M H locs ls hW hl h
    refine lv_iload hx hb dX1_add_11 (lv_at hl 4 rfl) ?_
    refine lv_if_eq (tgt := 63) hx hb dX1_add_13 (by decide) (fun c_2 => ?_) (fun c_2 => ?_)
    · have h := h.1 c_2
      exact hK M _ _ _ hW (lv_sub hl [0, 1, 2, 3] rfl) h
    · have h := h.2 c_2
      refine lv_iload hx hb dX1_add_16 (lv_at hl 5 rfl) ?_
      refine lv_bipush (v := 6) hx hb dX1_add_18 (by decide) ?_
      refine lv_icmp_ge (tgt := 63) hx hb dX1_add_20 (by decide) (fun c_3 => ?_) (fun c_3 => ?_)
      · have h := h.1 c_3
        exact hK M _ _ _ hW (lv_sub hl [0, 1, 2, 3] rfl) h
      · have h := h.2 c_3
        refine lv_iconst (v := 0) hx hb dX1_add_23 (by decide) ?_
        refine lv_istore (lv' := [(4, .int 0), (0, .ref (g.1 48)), (1, .int f1), (2, .ref (g.1 38)), (3, .ref (g.1 47)), (5, .int v5)]) hx hb dX1_add_24 hl (by decide) rfl (fun ls hl => ?_)
        refine lv_iconst (v := 0) hx hb dX1_add_26 (by decide) ?_
        refine lv_istore (lv' := [(6, .int 0), (4, .int 0), (0, .ref (g.1 48)), (1, .int f1), (2, .ref (g.1 38)), (3, .ref (g.1 47)), (5, .int v5)]) hx hb dX1_add_27 hl (by decide) rfl (fun ls hl => ?_)
        obtain ⟨k_29, h⟩ := h
        refine stX1_add_29 C hA (fun x4_12 M_11 H locs ls hW hl h => ?_) k_29 0 0 M _ _ _ hW (lv_sub hl [2, 3, 4, 5, 1, 6, 0] rfl) h
        obtain ⟨x5_13, ex5_13⟩ : ∃ y : Int32, y = v5 + 1 := ⟨_, rfl⟩
        have h := h x5_13 ex5_13
        refine lv_iinc (v := x5_13) (lv' := [(5, .int x5_13), (0, .ref (g.1 48)), (1, .int f1), (2, .ref (g.1 38)), (3, .ref (g.1 47)), (4, .int x4_12)]) hx hb dX1_add_57 hl (k := 5) rfl (by rw [ex5_13]; rfl) (by decide) rfl (fun ls hl => ?_)
        refine lv_goto (tgt := 11) hx hb dX1_add_60 (by decide) ?_
        exact ih x4_12 x5_13 M_11 _ _ _ hW (lv_sub hl [1, 2, 3, 4, 5, 0] rfl) h

def wX1_add (Q : pd_M → Prop) (a1 : Int32) (M : pd_M) : Prop := wX1_startAt (fun M_1 => (∃ k_11 : Nat, lpX1_add_11 (fun M_14 => wX1_cheapestEnd (fun r_16 M_15 => (vp_in r_16 6 ∧ (vp_in r_16 6 ∧ ∀ M_19 : pd_M, M_19 = sI M_15 47 r_16.toNatClampNeg ((M_15.1 47 r_16.toNatClampNeg) - 1) → wX1_shift (fun M_20 => Q M_20) a1 r_16 M_19))) M_14) a1 k_11 1 0 M_1)) a1 M

set_option maxRecDepth 100000 in
set_option maxHeartbeats 4000000 in
theorem mX1_add {l : Launch} {D : va_G} {g : pd_G} {t : Nat} {X : va_W} {Q : pd_M → Prop} {a1 : Int32} {M : pd_M} {sz : Nat} (h : wX1_add Q a1 M) : Met l yX1_add (Cond.code yX1_add cX1_add 7 (Option.none : Option FieldType) :: TB) rX1_add (pd_Pre D g t M X sz [.ref (g.1 48), .int a1, .ref (g.1 38), .ref (g.1 47)]) (pd_Qv D g M X sz Q) 0 0 (va_A (pd_WL g M ++ X) sz) := by
  refine pd_met (by decide) (Nat.le_of_ble_eq_true rfl) ?_
  intro p e s m below meth c A ls C hA hW hl
  have C : pd_C p m c cX1_add 7 s _ RX1 meth (Option.none : Option FieldType) := C
  have hx := C.1.1
  have hb := C.1.2.1
  have hown := C.1.2.2.2.1
  have hts := C.1.2.2.2.2
  have hl : lv_has ls 7 [(0, .ref (g.1 48)), (1, .int a1), (2, .ref (g.1 38)), (3, .ref (g.1 47))] := hl
  refine lv_aload_n hx hb dX1_add_0 rfl (lv_at hl 0 rfl) ?_
  refine lv_iload_n hx hb dX1_add_1 rfl (lv_at hl 1 rfl) ?_
  refine cl_X1_35 C hW h ⟨by decide, by decide⟩ ⟨Nat.zero_le _, Nat.zero_le _⟩ hl.1 (by decide) dX1_add_2 (fun M_1 H locs h hW => ?_)
  refine lv_iconst (v := 1) hx hb dX1_add_5 (by decide) ?_
  refine lv_istore (lv' := [(4, .int 1), (0, .ref (g.1 48)), (1, .int a1), (2, .ref (g.1 38)), (3, .ref (g.1 47))]) hx hb dX1_add_6 hl (by decide) rfl (fun ls hl => ?_)
  refine lv_iconst (v := 0) hx hb dX1_add_8 (by decide) ?_
  refine lv_istore (lv' := [(5, .int 0), (4, .int 1), (0, .ref (g.1 48)), (1, .int a1), (2, .ref (g.1 38)), (3, .ref (g.1 47))]) hx hb dX1_add_9 hl (by decide) rfl (fun ls hl => ?_)
  obtain ⟨k_11, h⟩ := h
  refine stX1_add_11 C hA (fun M_14 H locs ls hW hl h => ?_) k_11 1 0 M_1 _ _ _ hW (lv_sub hl [2, 3, 4, 5, 1, 0] rfl) h
  refine lv_aload_n hx hb dX1_add_63 rfl (lv_at hl 0 rfl) ?_
  refine lv_aload_n hx hb dX1_add_64 rfl (lv_at hl 3 rfl) ?_
  refine cl_X1_43 C hW h ⟨by decide, by decide⟩ ⟨Nat.zero_le _, Nat.zero_le _⟩ hl.1 (Nat.le_of_ble_eq_true rfl) dX1_add_65 (fun r_16 M_15 H locs h hW => ?_)
  refine lv_istore (lv' := [(5, .int r_16), (0, .ref (g.1 48)), (1, .int a1), (2, .ref (g.1 38)), (3, .ref (g.1 47))]) hx hb dX1_add_68 hl (by decide) rfl (fun ls hl => ?_)
  refine lv_aload_n hx hb dX1_add_70 rfl (lv_at hl 4 rfl) ?_
  refine lv_iload hx hb dX1_add_71 (lv_at hl 0 rfl) ?_
  refine lv_dup2_11 hx hb dX1_add_73 rfl rfl ?_
  have hi_17 := h.1
  have h := h.2
  refine pd_iald C hW kd_47 hi_17 dX1_add_74 ?_
  refine lv_iconst (v := 1) hx hb dX1_add_75 (by decide) ?_
  refine lv_isub hx hb dX1_add_76 ?_
  have hi_18 := h.1
  have h := h.2
  refine pd_iast C hW kd_47 hi_18 dX1_add_77 (fun M_19 H locs eM_19 hW => ?_)
  have h := h M_19 eM_19
  refine lv_aload_n hx hb dX1_add_78 rfl (lv_at hl 1 rfl) ?_
  refine lv_iload_n hx hb dX1_add_79 rfl (lv_at hl 2 rfl) ?_
  refine lv_iload hx hb dX1_add_80 (lv_at hl 0 rfl) ?_
  refine lv_aload_n hx hb dX1_add_82 rfl (lv_at hl 3 rfl) ?_
  refine cl_X1_47 C hW h ⟨by decide, by decide⟩ ⟨Nat.zero_le _, Nat.zero_le _⟩ hl.1 (by decide) dX1_add_83 (fun M_20 H locs h hW => ?_)
  exact pd_vret C hA hW h dX1_add_86

theorem dd_X1_add : yX1_add.cls ≠ "java/lang/invoke/MethodHandle" ∧ yX1_add.cls ≠ "java/lang/invoke/VarHandle" ∧ (parseMethodDescriptor yX1_add.desc).map (fun d => d.parameters.length) = some 3 := by decide +kernel
theorem cl_X2_111 {p : Program} {l : Launch} {e : Env} {R : Room} {s : State} {m : MethodId} {args : Array Value} {below : List Frame} {meth : Method} {c : Code} {H : Heap} {locs : List Loc} {cells slots : Nat} {QQ : State → Prop} {cc : ByteArray} {pc : Nat} {ls : Array Slot} {rest : List Value} {D : va_G} {g : pd_G} {t : Nat} {M : pd_M} {X : va_W} {A : Nat → Prop} {nL : Nat} {ret : Option FieldType} {Qc : pd_M → Prop} {a1 : Int32} (C : pd_C p m c cc nL s args RX2 meth ret) (hW : pd_W D g t M X A s H locs) (h : wX1_add Qc a1 M) (hR : rX1_add.frames + 1 ≤ R.frames ∧ 8 + (7 + 11) + rX1_add.locals ≤ R.locals) (hcs : cells ≤ R.cells ∧ slots ≤ R.slots) (hls : ls.size = nL) (hw8 : (rest.map fun v => v.category).sum ≤ 8) (hdg : decode cc pc = .ok (.invokevirtual 111, 3))
    (kk : ∀ (M1 : pd_M) (H1 : Heap) (locs1 : List Loc), Qc M1 → pd_W D g t M1 X A s H1 locs1 → W p l e R s m args below meth c H1 locs1 cells slots QQ (F0 m (pc + 3) ls rest)) : W p l e R s m args below meth c H locs cells slots QQ (F0 m pc ls (.ref (g.1 47) :: .ref (g.1 38) :: .int a1 :: .ref (g.1 48) :: rest)) :=
  pd_callVv (As := [.int a1, .ref (g.1 38), .ref (g.1 47)]) C hW (mX1_add h) kd_48 rfl mM_X2_111 mO_yX1_add mV_yX1_add mI_X1 mC_yX1_add dd_X1_add ⟨rfl, rfl⟩ hR hcs hls rfl hw8 hdg kk
