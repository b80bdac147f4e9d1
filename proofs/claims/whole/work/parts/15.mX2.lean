abbrev rX2_walkTo : Room := { frames := 0, cells := 0, slots := 0, locals := 0 }
def wX2_walkTo (Q : Int32 → pd_M → Prop) (a1 : Int32) (a2 : Int32) (M : pd_M) : Prop := (vp_in a1 7 ∧ (vp_in (M.1 25 a1.toNatClampNeg) 5 ∧ (vp_in a2 5 ∧ Q (M.1 (18 + (M.1 25 a1.toNatClampNeg).toNatClampNeg) a2.toNatClampNeg) M)))

set_option maxRecDepth 100000 in
set_option maxHeartbeats 4000000 in
theorem mX2_walkTo {l : Launch} {D : va_G} {g : pd_G} {t : Nat} {X : va_W} {Q : Int32 → pd_M → Prop} {a1 : Int32} {a2 : Int32} {M : pd_M} {sz : Nat} (h : wX2_walkTo Q a1 a2 M) : Met l yX2_walkTo (Cond.code yX2_walkTo cX2_walkTo 3 (Option.some FieldType.int) :: TB) rX2_walkTo (pd_Pre D g t M X sz [.ref (g.1 37), .int a1, .int a2]) (pd_Qi D g M X sz Q) 0 0 (va_A (pd_WL g M ++ X) sz) := by
  refine pd_met (by decide) (Nat.le_of_ble_eq_true rfl) ?_
  intro p e s m below meth c A ls C hA hW hl
  have C : pd_C p m c cX2_walkTo 3 s _ RX2 meth (Option.some FieldType.int) := C
  have hx := C.1.1
  have hb := C.1.2.1
  have hown := C.1.2.2.2.1
  have hts := C.1.2.2.2.2
  have hl : lv_has ls 3 [(0, .ref (g.1 37)), (1, .int a1), (2, .int a2)] := hl
  refine lv_aload_n hx hb dX2_walkTo_0 rfl (lv_at hl 0 rfl) ?_
  refine gf_X2_30 C hW dX2_walkTo_1 ?_
  refine gf_X2_94 C hW dX2_walkTo_4 ?_
  refine lv_aload_n hx hb dX2_walkTo_7 rfl (lv_at hl 0 rfl) ?_
  refine gf_X2_34 C hW dX2_walkTo_8 ?_
  refine gf_X2_97 C hW dX2_walkTo_11 ?_
  refine lv_iload_n hx hb dX2_walkTo_14 rfl (lv_at hl 1 rfl) ?_
  have hi_1 := h.1
  have h := h.2
  refine pd_iald C hW kd_25 hi_1 dX2_walkTo_15 ?_
  have hi_2 := h.1
  have h := h.2
  refine pd_aald C hW kd_17 hi_2 dX2_walkTo_16 ?_
  refine lv_iload_n hx hb dX2_walkTo_17 rfl (lv_at hl 2 rfl) ?_
  have hi_3 := h.1
  have h := h.2
  refine pd_iald C hW (pd_k18 _ (pd_lt hi_2)) hi_3 dX2_walkTo_18 ?_
  exact pd_iret C hA hW h dX2_walkTo_19

theorem dd_X2_walkTo : yX2_walkTo.cls ≠ "java/lang/invoke/MethodHandle" ∧ yX2_walkTo.cls ≠ "java/lang/invoke/VarHandle" ∧ (parseMethodDescriptor yX2_walkTo.desc).map (fun d => d.parameters.length) = some 2 := by decide +kernel
theorem cl_X2_87 {p : Program} {l : Launch} {e : Env} {R : Room} {s : State} {m : MethodId} {args : Array Value} {below : List Frame} {meth : Method} {c : Code} {H : Heap} {locs : List Loc} {cells slots : Nat} {QQ : State → Prop} {cc : ByteArray} {pc : Nat} {ls : Array Slot} {rest : List Value} {D : va_G} {g : pd_G} {t : Nat} {M : pd_M} {X : va_W} {A : Nat → Prop} {nL : Nat} {ret : Option FieldType} {Qc : Int32 → pd_M → Prop} {a1 : Int32} {a2 : Int32} (C : pd_C p m c cc nL s args RX2 meth ret) (hW : pd_W D g t M X A s H locs) (h : wX2_walkTo Qc a1 a2 M) (hR : rX2_walkTo.frames + 1 ≤ R.frames ∧ 8 + (3 + 11) + rX2_walkTo.locals ≤ R.locals) (hcs : cells ≤ R.cells ∧ slots ≤ R.slots) (hls : ls.size = nL) (hw8 : (rest.map fun v => v.category).sum ≤ 8) (hdg : decode cc pc = .ok (.invokevirtual 87, 3))
    (kk : ∀ (r : Int32) (M1 : pd_M) (H1 : Heap) (locs1 : List Loc), Qc r M1 → pd_W D g t M1 X A s H1 locs1 → W p l e R s m args below meth c H1 locs1 cells slots QQ (F0 m (pc + 3) ls (.int r :: rest))) : W p l e R s m args below meth c H locs cells slots QQ (F0 m pc ls (.int a2 :: .int a1 :: .ref (g.1 37) :: rest)) :=
  pd_callVi (As := [.int a1, .int a2]) C hW (mX2_walkTo h) kd_37 rfl mM_X2_87 mO_yX2_walkTo mV_yX2_walkTo mI_X2 mC_yX2_walkTo dd_X2_walkTo ⟨rfl, rfl⟩ hR hcs hls rfl hw8 hdg kk
abbrev rX2_isWithin : Room := { frames := 1, cells := 0, slots := 0, locals := 22 }
def wX2_isWithin (Q : Int32 → pd_M → Prop) (a1 : Int32) (a2 : Int32) (M : pd_M) : Prop := (vp_in a1 7 ∧ (vp_in a2 5 ∧ (((M.1 (40 + a1.toNatClampNeg) a2.toNatClampNeg) = 0 → Q 0 M) ∧ (¬ (M.1 (40 + a1.toNatClampNeg) a2.toNatClampNeg) = 0 → wX2_walkTo (fun r_5 M_4 => (vp_in a1 7 ∧ (((M_4.1 26 a1.toNatClampNeg) < r_5 → Q 0 M_4) ∧ (¬ (M_4.1 26 a1.toNatClampNeg) < r_5 → Q 1 M_4)))) a1 a2 M))))

set_option maxRecDepth 100000 in
set_option maxHeartbeats 4000000 in
theorem mX2_isWithin {l : Launch} {D : va_G} {g : pd_G} {t : Nat} {X : va_W} {Q : Int32 → pd_M → Prop} {a1 : Int32} {a2 : Int32} {M : pd_M} {sz : Nat} (h : wX2_isWithin Q a1 a2 M) : Met l yX2_isWithin (Cond.code yX2_isWithin cX2_isWithin 3 (Option.some FieldType.boolean) :: TB) rX2_isWithin (pd_Pre D g t M X sz [.ref (g.1 37), .int a1, .int a2]) (pd_Qi D g M X sz Q) 0 0 (va_A (pd_WL g M ++ X) sz) := by
  refine pd_met (by decide) (Nat.le_of_ble_eq_true rfl) ?_
  intro p e s m below meth c A ls C hA hW hl
  have C : pd_C p m c cX2_isWithin 3 s _ RX2 meth (Option.some FieldType.boolean) := C
  have hx := C.1.1
  have hb := C.1.2.1
  have hown := C.1.2.2.2.1
  have hts := C.1.2.2.2.2
  have hl : lv_has ls 3 [(0, .ref (g.1 37)), (1, .int a1), (2, .int a2)] := hl
  refine lv_aload_n hx hb dX2_isWithin_0 rfl (lv_at hl 0 rfl) ?_
  refine gf_X2_17 C hW dX2_isWithin_1 ?_
  refine lv_iload_n hx hb dX2_isWithin_4 rfl (lv_at hl 1 rfl) ?_
  have hi_1 := h.1
  have h := h.2
  refine pd_aald C hW kd_39 hi_1 dX2_isWithin_5 ?_
  refine lv_iload_n hx hb dX2_isWithin_6 rfl (lv_at hl 2 rfl) ?_
  have hi_2 := h.1
  have h := h.2
  refine pd_iald C hW (pd_k40 _ (pd_lt hi_1)) hi_2 dX2_isWithin_7 ?_
  refine lv_if_eq (tgt := 33) hx hb dX2_isWithin_8 (by decide) (fun c_3 => ?_) (fun c_3 => ?_)
  · have h := h.1 c_3
    refine lv_iconst (v := 0) hx hb dX2_isWithin_33 (by decide) ?_
    exact pd_zret C hA hW rfl h dX2_isWithin_34
  · have h := h.2 c_3
    refine lv_aload_n hx hb dX2_isWithin_11 rfl (lv_at hl 0 rfl) ?_
    refine lv_iload_n hx hb dX2_isWithin_12 rfl (lv_at hl 1 rfl) ?_
    refine lv_iload_n hx hb dX2_isWithin_13 rfl (lv_at hl 2 rfl) ?_
    refine cl_X2_87 C hW h ⟨by decide, by decide⟩ ⟨Nat.zero_le _, Nat.zero_le _⟩ hl.1 (Nat.le_of_ble_eq_true rfl) dX2_isWithin_14 (fun r_5 M_4 H locs h hW => ?_)
    refine lv_aload_n hx hb dX2_isWithin_17 rfl (lv_at hl 0 rfl) ?_
    refine gf_X2_34 C hW dX2_isWithin_18 ?_
    refine gf_X2_91 C hW dX2_isWithin_21 ?_
    refine lv_iload_n hx hb dX2_isWithin_24 rfl (lv_at hl 1 rfl) ?_
    have hi_6 := h.1
    have h := h.2
    refine pd_iald C hW kd_26 hi_6 dX2_isWithin_25 ?_
    refine lv_icmp_gt (tgt := 33) hx hb dX2_isWithin_26 (by decide) (fun c_7 => ?_) (fun c_7 => ?_)
    · have h := h.1 c_7
      refine lv_iconst (v := 0) hx hb dX2_isWithin_33 (by decide) ?_
      exact pd_zret C hA hW rfl h dX2_isWithin_34
    · have h := h.2 c_7
      refine lv_iconst (v := 1) hx hb dX2_isWithin_29 (by decide) ?_
      refine lv_goto (tgt := 34) hx hb dX2_isWithin_30 (by decide) ?_
      exact pd_zret C hA hW rfl h dX2_isWithin_34

theorem dd_X2_isWithin : yX2_isWithin.cls ≠ "java/lang/invoke/MethodHandle" ∧ yX2_isWithin.cls ≠ "java/lang/invoke/VarHandle" ∧ (parseMethodDescriptor yX2_isWithin.desc).map (fun d => d.parameters.length) = some 2 := by decide +kernel
theorem cl_X2_79 {p : Program} {l : Launch} {e : Env} {R : Room} {s : State} {m : MethodId} {args : Array Value} {below : List Frame} {meth : Method} {c : Code} {H : Heap} {locs : List Loc} {cells slots : Nat} {QQ : State → Prop} {cc : ByteArray} {pc : Nat} {ls : Array Slot} {rest : List Value} {D : va_G} {g : pd_G} {t : Nat} {M : pd_M} {X : va_W} {A : Nat → Prop} {nL : Nat} {ret : Option FieldType} {Qc : Int32 → pd_M → Prop} {a1 : Int32} {a2 : Int32} (C : pd_C p m c cc nL s args RX2 meth ret) (hW : pd_W D g t M X A s H locs) (h : wX2_isWithin Qc a1 a2 M) (hR : rX2_isWithin.frames + 1 ≤ R.frames ∧ 8 + (3 + 11) + rX2_isWithin.locals ≤ R.locals) (hcs : cells ≤ R.cells ∧ slots ≤ R.slots) (hls : ls.size = nL) (hw8 : (rest.map fun v => v.category).sum ≤ 8) (hdg : decode cc pc = .ok (.invokevirtual 79, 3))
    (kk : ∀ (r : Int32) (M1 : pd_M) (H1 : Heap) (locs1 : List Loc), Qc r M1 → pd_W D g t M1 X A s H1 locs1 → W p l e R s m args below meth c H1 locs1 cells slots QQ (F0 m (pc + 3) ls (.int r :: rest))) : W p l e R s m args below meth c H locs cells slots QQ (F0 m pc ls (.int a2 :: .int a1 :: .ref (g.1 37) :: rest)) :=
  pd_callVi (As := [.int a1, .int a2]) C hW (mX2_isWithin h) kd_37 rfl mM_X2_79 mO_yX2_isWithin mV_yX2_isWithin mI_X2 mC_yX2_isWithin dd_X2_isWithin ⟨rfl, rfl⟩ hR hcs hls rfl hw8 hdg kk
abbrev rX2_isBetter : Room := { frames := 1, cells := 0, slots := 0, locals := 22 }
def wX2_isBetter (Q : Int32 → pd_M → Prop) (a1 : Int32) (a2 : Int32) (a3 : Int32) (M : pd_M) : Prop := wX2_walkTo (fun r_2 M_1 => wX2_walkTo (fun r_4 M_3 => ((r_2 < r_4 → Q 1 M_3) ∧ (¬ r_2 < r_4 → ((¬ r_2 = r_4 → Q 0 M_3) ∧ (r_2 = r_4 → (vp_in a1 7 ∧ (vp_in a2 5 ∧ (vp_in a1 7 ∧ (vp_in a3 5 ∧ (((M_3.1 (40 + a1.toNatClampNeg) a2.toNatClampNeg) ≤ (M_3.1 (40 + a1.toNatClampNeg) a3.toNatClampNeg) → Q 0 M_3) ∧ (¬ (M_3.1 (40 + a1.toNatClampNeg) a2.toNatClampNeg) ≤ (M_3.1 (40 + a1.toNatClampNeg) a3.toNatClampNeg) → Q 1 M_3))))))))))) a1 a3 M_1) a1 a2 M

set_option maxRecDepth 100000 in
set_option maxHeartbeats 4000000 in
theorem mX2_isBetter {l : Launch} {D : va_G} {g : pd_G} {t : Nat} {X : va_W} {Q : Int32 → pd_M → Prop} {a1 : Int32} {a2 : Int32} {a3 : Int32} {M : pd_M} {sz : Nat} (h : wX2_isBetter Q a1 a2 a3 M) : Met l yX2_isBetter (Cond.code yX2_isBetter cX2_isBetter 6 (Option.some FieldType.boolean) :: TB) rX2_isBetter (pd_Pre D g t M X sz [.ref (g.1 37), .int a1, .int a2, .int a3]) (pd_Qi D g M X sz Q) 0 0 (va_A (pd_WL g M ++ X) sz) := by
  refine pd_met (by decide) (Nat.le_of_ble_eq_true rfl) ?_
  intro p e s m below meth c A ls C hA hW hl
  have C : pd_C p m c cX2_isBetter 6 s _ RX2 meth (Option.some FieldType.boolean) := C
  have hx := C.1.1
  have hb := C.1.2.1
  have hown := C.1.2.2.2.1
  have hts := C.1.2.2.2.2
  have hl : lv_has ls 6 [(0, .ref (g.1 37)), (1, .int a1), (2, .int a2), (3, .int a3)] := hl
  refine lv_aload_n hx hb dX2_isBetter_0 rfl (lv_at hl 0 rfl) ?_
  refine lv_iload_n hx hb dX2_isBetter_1 rfl (lv_at hl 1 rfl) ?_
  refine lv_iload_n hx hb dX2_isBetter_2 rfl (lv_at hl 2 rfl) ?_
  refine cl_X2_87 C hW h ⟨by decide, by decide⟩ ⟨Nat.zero_le _, Nat.zero_le _⟩ hl.1 (Nat.le_of_ble_eq_true rfl) dX2_isBetter_3 (fun r_2 M_1 H locs h hW => ?_)
  refine lv_istore (lv' := [(4, .int r_2), (0, .ref (g.1 37)), (1, .int a1), (2, .int a2), (3, .int a3)]) hx hb dX2_isBetter_6 hl (by decide) rfl (fun ls hl => ?_)
  refine lv_aload_n hx hb dX2_isBetter_8 rfl (lv_at hl 1 rfl) ?_
  refine lv_iload_n hx hb dX2_isBetter_9 rfl (lv_at hl 2 rfl) ?_
  refine lv_iload_n hx hb dX2_isBetter_10 rfl (lv_at hl 4 rfl) ?_
  refine cl_X2_87 C hW h ⟨by decide, by decide⟩ ⟨Nat.zero_le _, Nat.zero_le _⟩ hl.1 (Nat.le_of_ble_eq_true rfl) dX2_isBetter_11 (fun r_4 M_3 H locs h hW => ?_)
  refine lv_istore (lv' := [(5, .int r_4), (4, .int r_2), (0, .ref (g.1 37)), (1, .int a1), (2, .int a2), (3, .int a3)]) hx hb dX2_isBetter_14 hl (by decide) rfl (fun ls hl => ?_)
  refine lv_iload hx hb dX2_isBetter_16 (lv_at hl 1 rfl) ?_
  refine lv_iload hx hb dX2_isBetter_18 (lv_at hl 0 rfl) ?_
  refine lv_icmp_lt (tgt := 49) hx hb dX2_isBetter_20 (by decide) (fun c_5 => ?_) (fun c_5 => ?_)
  · have h := h.1 c_5
    refine lv_iconst (v := 1) hx hb dX2_isBetter_49 (by decide) ?_
    refine lv_goto (tgt := 54) hx hb dX2_isBetter_50 (by decide) ?_
    exact pd_zret C hA hW rfl h dX2_isBetter_54
  · have h := h.2 c_5
    refine lv_iload hx hb dX2_isBetter_23 (lv_at hl 1 rfl) ?_
    refine lv_iload hx hb dX2_isBetter_25 (lv_at hl 0 rfl) ?_
    refine lv_icmp_ne (tgt := 53) hx hb dX2_isBetter_27 (by decide) (fun c_6 => ?_) (fun c_6 => ?_)
    · have h := h.1 c_6
      refine lv_iconst (v := 0) hx hb dX2_isBetter_53 (by decide) ?_
      exact pd_zret C hA hW rfl h dX2_isBetter_54
    · have h := h.2 c_6
      refine lv_aload_n hx hb dX2_isBetter_30 rfl (lv_at hl 2 rfl) ?_
      refine gf_X2_17 C hW dX2_isBetter_31 ?_
      refine lv_iload_n hx hb dX2_isBetter_34 rfl (lv_at hl 3 rfl) ?_
      have hi_7 := h.1
      have h := h.2
      refine pd_aald C hW kd_39 hi_7 dX2_isBetter_35 ?_
      refine lv_iload_n hx hb dX2_isBetter_36 rfl (lv_at hl 4 rfl) ?_
      have hi_8 := h.1
      have h := h.2
      refine pd_iald C hW (pd_k40 _ (pd_lt hi_7)) hi_8 dX2_isBetter_37 ?_
      refine lv_aload_n hx hb dX2_isBetter_38 rfl (lv_at hl 2 rfl) ?_
      refine gf_X2_17 C hW dX2_isBetter_39 ?_
      refine lv_iload_n hx hb dX2_isBetter_42 rfl (lv_at hl 3 rfl) ?_
      have hi_9 := h.1
      have h := h.2
      refine pd_aald C hW kd_39 hi_9 dX2_isBetter_43 ?_
      refine lv_iload_n hx hb dX2_isBetter_44 rfl (lv_at hl 5 rfl) ?_
      have hi_10 := h.1
      have h := h.2
      refine pd_iald C hW (pd_k40 _ (pd_lt hi_9)) hi_10 dX2_isBetter_45 ?_
      refine lv_icmp_le (tgt := 53) hx hb dX2_isBetter_46 (by decide) (fun c_11 => ?_) (fun c_11 => ?_)
      · have h := h.1 c_11
        refine lv_iconst (v := 0) hx hb dX2_isBetter_53 (by decide) ?_
        exact pd_zret C hA hW rfl h dX2_isBetter_54
      · have h := h.2 c_11
        refine lv_iconst (v := 1) hx hb dX2_isBetter_49 (by decide) ?_
        refine lv_goto (tgt := 54) hx hb dX2_isBetter_50 (by decide) ?_
        exact pd_zret C hA hW rfl h dX2_isBetter_54

theorem dd_X2_isBetter : yX2_isBetter.cls ≠ "java/lang/invoke/MethodHandle" ∧ yX2_isBetter.cls ≠ "java/lang/invoke/VarHandle" ∧ (parseMethodDescriptor yX2_isBetter.desc).map (fun d => d.parameters.length) = some 3 := by decide +kernel
theorem cl_X2_83 {p : Program} {l : Launch} {e : Env} {R : Room} {s : State} {m : MethodId} {args : Array Value} {below : List Frame} {meth : Method} {c : Code} {H : Heap} {locs : List Loc} {cells slots : Nat} {QQ : State → Prop} {cc : ByteArray} {pc : Nat} {ls : Array Slot} {rest : List Value} {D : va_G} {g : pd_G} {t : Nat} {M : pd_M} {X : va_W} {A : Nat → Prop} {nL : Nat} {ret : Option FieldType} {Qc : Int32 → pd_M → Prop} {a1 : Int32} {a2 : Int32} {a3 : Int32} (C : pd_C p m c cc nL s args RX2 meth ret) (hW : pd_W D g t M X A s H locs) (h : wX2_isBetter Qc a1 a2 a3 M) (hR : rX2_isBetter.frames + 1 ≤ R.frames ∧ 8 + (6 + 11) + rX2_isBetter.locals ≤ R.locals) (hcs : cells ≤ R.cells ∧ slots ≤ R.slots) (hls : ls.size = nL) (hw8 : (rest.map fun v => v.category).sum ≤ 8) (hdg : decode cc pc = .ok (.invokevirtual 83, 3))
    (kk : ∀ (r : Int32) (M1 : pd_M) (H1 : Heap) (locs1 : List Loc), Qc r M1 → pd_W D g t M1 X A s H1 locs1 → W p l e R s m args below meth c H1 locs1 cells slots QQ (F0 m (pc + 3) ls (.int r :: rest))) : W p l e R s m args below meth c H locs cells slots QQ (F0 m pc ls (.int a3 :: .int a2 :: .int a1 :: .ref (g.1 37) :: rest)) :=
  pd_callVi (As := [.int a1, .int a2, .int a3]) C hW (mX2_isBetter h) kd_37 rfl mM_X2_83 mO_yX2_isBetter mV_yX2_isBetter mI_X2 mC_yX2_isBetter dd_X2_isBetter ⟨rfl, rfl⟩ hR hcs hls rfl hw8 hdg kk
abbrev rX2_choose : Room := { frames := 2, cells := 0, slots := 0, locals := 47 }
def lpX2_choose_4 (K : Int32 → pd_M → Prop) (f1 : Int32) : Nat → Int32 → Int32 → pd_M → Prop
  | 0, _, _, _ => False
  | n + 1, v2, v3, M => ((5 ≤ v3 → K v2 M) ∧ (¬ 5 ≤ v3 → (vp_in v3 6 ∧ (((M.1 47 v3.toNatClampNeg) ≤ 0 → ∀ x3_4 : Int32, x3_4 = v3 + 1 → lpX2_choose_4 K f1 n v2 x3_4 M) ∧ (¬ (M.1 47 v3.toNatClampNeg) ≤ 0 → wX2_isWithin (fun r_6 M_5 => ((r_6 = 0 → ∀ x3_8 : Int32, x3_8 = v3 + 1 → lpX2_choose_4 K f1 n v2 x3_8 M_5) ∧ (¬ r_6 = 0 → ((v2 = 5 → ∀ x3_10 : Int32, x3_10 = v3 + 1 → lpX2_choose_4 K f1 n v3 x3_10 M_5) ∧ (¬ v2 = 5 → wX2_isBetter (fun r_12 M_11 => ((r_12 = 0 → ∀ x3_14 : Int32, x3_14 = v3 + 1 → lpX2_choose_4 K f1 n v2 x3_14 M_11) ∧ (¬ r_12 = 0 → ∀ x3_15 : Int32, x3_15 = v3 + 1 → lpX2_choose_4 K f1 n v3 x3_15 M_11))) f1 v3 v2 M_5))))) f1 v3 M)))))

set_option maxRecDepth 100000 in
set_option maxHeartbeats 4000000 in
theorem stX2_choose_4 {p : Program} {l : Launch} {e : Env} {s : State} {m : MethodId} {args : Array Value} {below : List Frame} {meth : Method} {c : Code} {D : va_G} {g : pd_G} {t : Nat} {M0 : pd_M} {X : va_W} {A : Nat → Prop} {sz : Nat} {Q : Int32 → pd_M → Prop} (C : pd_C p m c cX2_choose 4 s args RX2 meth (Option.some FieldType.int)) (hA : A = va_A (pd_WL g M0 ++ X) sz) {K : Int32 → pd_M → Prop} {f1 : Int32}  (hK : ∀ (p2 : Int32) (M : pd_M) (H : Heap) (locs : List Loc) (ls : Array Slot), pd_W D g t M X A s H locs → lv_has ls 4 [(2, .int p2)] → K p2 M → W p l e rX2_choose s m args below meth c H locs 0 0 (MQ below (pd_Qi D g M0 X sz Q) args s 0 0 (va_A (pd_WL g M0 ++ X) sz)) (F0 m 50 ls [])) :
    ∀ (n : Nat) (v2 : Int32) (v3 : Int32) (M : pd_M) (H : Heap) (locs : List Loc) (ls : Array Slot), pd_W D g t M X A s H locs → lv_has ls 4 [(0, .ref (g.1 37)), (1, .int f1), (2, .int v2), (3, .int v3)] → lpX2_choose_4 K f1 n v2 v3 M → W p l e rX2_choose s m args below meth c H locs 0 0 (MQ below (pd_Qi D g M0 X sz Q) args s 0 0 (va_A (pd_WL g M0 ++ X) sz)) (F0 m 4 ls []) := by
  have hx := C.1.1
  have hb := C.1.2.1
  have hown := C.1.2.2.2.1
  have hts := C.1.2.2.2.2
  intro n
  induction n with
  | zero => intro v2 v3 M H locs ls hW hl h; exact h.elim
  | succ n ih =>
    intro v2 v3 M H locs ls hW hl h
    refine lv_iload_n hx hb dX2_choose_4 rfl (lv_at hl 3 rfl) ?_
    refine lv_iconst (v := 5) hx hb dX2_choose_5 (by decide) ?_
    refine lv_icmp_ge (tgt := 50) hx hb dX2_choose_6 (by decide) (fun c_1 => ?_) (fun c_1 => ?_)
    · have h := h.1 c_1
      exact hK v2 M _ _ _ hW (lv_sub hl [2] rfl) h
    · have h := h.2 c_1
      refine lv_aload_n hx hb dX2_choose_9 rfl (lv_at hl 0 rfl) ?_
      refine gf_X2_20 C hW dX2_choose_10 ?_
      refine lv_iload_n hx hb dX2_choose_13 rfl (lv_at hl 3 rfl) ?_
      have hi_2 := h.1
      have h := h.2
      refine pd_iald C hW kd_47 hi_2 dX2_choose_14 ?_
      refine lv_if_le (tgt := 44) hx hb dX2_choose_15 (by decide) (fun c_3 => ?_) (fun c_3 => ?_)
      · have h := h.1 c_3
        obtain ⟨x3_4, ex3_4⟩ : ∃ y : Int32, y = v3 + 1 := ⟨_, rfl⟩
        have h := h x3_4 ex3_4
        refine lv_iinc (v := x3_4) (lv' := [(3, .int x3_4), (0, .ref (g.1 37)), (1, .int f1), (2, .int v2)]) hx hb dX2_choose_44 hl (k := 3) rfl (by rw [ex3_4]; rfl) (by decide) rfl (fun ls hl => ?_)
        refine lv_goto (tgt := 4) hx hb dX2_choose_47 (by decide) ?_
        exact ih v2 x3_4 M _ _ _ hW (lv_sub hl [1, 2, 3, 0] rfl) h
      · have h := h.2 c_3
        refine lv_aload_n hx hb dX2_choose_18 rfl (lv_at hl 0 rfl) ?_
        refine lv_iload_n hx hb dX2_choose_19 rfl (lv_at hl 1 rfl) ?_
        refine lv_iload_n hx hb dX2_choose_20 rfl (lv_at hl 3 rfl) ?_
        refine cl_X2_79 C hW h ⟨by decide, by decide⟩ ⟨Nat.zero_le _, Nat.zero_le _⟩ hl.1 (Nat.le_of_ble_eq_true rfl) dX2_choose_21 (fun r_6 M_5 H locs h hW => ?_)
        refine lv_if_eq (tgt := 44) hx hb dX2_choose_24 (by decide) (fun c_7 => ?_) (fun c_7 => ?_)
        · have h := h.1 c_7
          obtain ⟨x3_8, ex3_8⟩ : ∃ y : Int32, y = v3 + 1 := ⟨_, rfl⟩
          have h := h x3_8 ex3_8
          refine lv_iinc (v := x3_8) (lv' := [(3, .int x3_8), (0, .ref (g.1 37)), (1, .int f1), (2, .int v2)]) hx hb dX2_choose_44 hl (k := 3) rfl (by rw [ex3_8]; rfl) (by decide) rfl (fun ls hl => ?_)
          refine lv_goto (tgt := 4) hx hb dX2_choose_47 (by decide) ?_
          exact ih v2 x3_8 M_5 _ _ _ hW (lv_sub hl [1, 2, 3, 0] rfl) h
        · have h := h.2 c_7
          refine lv_iload_n hx hb dX2_choose_27 rfl (lv_at hl 2 rfl) ?_
          refine lv_iconst (v := 5) hx hb dX2_choose_28 (by decide) ?_
          refine lv_icmp_eq (tgt := 42) hx hb dX2_choose_29 (by decide) (fun c_9 => ?_) (fun c_9 => ?_)
          · have h := h.1 c_9
            refine lv_iload_n hx hb dX2_choose_42 rfl (lv_at hl 3 rfl) ?_
            refine lv_istore_n (lv' := [(2, .int v3), (0, .ref (g.1 37)), (1, .int f1), (3, .int v3)]) hx hb dX2_choose_43 rfl hl (by decide) rfl (fun ls hl => ?_)
            obtain ⟨x3_10, ex3_10⟩ : ∃ y : Int32, y = v3 + 1 := ⟨_, rfl⟩
            have h := h x3_10 ex3_10
            refine lv_iinc (v := x3_10) (lv' := [(3, .int x3_10), (2, .int v3), (0, .ref (g.1 37)), (1, .int f1)]) hx hb dX2_choose_44 hl (k := 3) rfl (by rw [ex3_10]; rfl) (by decide) rfl (fun ls hl => ?_)
            refine lv_goto (tgt := 4) hx hb dX2_choose_47 (by decide) ?_
            exact ih v3 x3_10 M_5 _ _ _ hW (lv_sub hl [2, 3, 1, 0] rfl) h
          · have h := h.2 c_9
            refine lv_aload_n hx hb dX2_choose_32 rfl (lv_at hl 0 rfl) ?_
            refine lv_iload_n hx hb dX2_choose_33 rfl (lv_at hl 1 rfl) ?_
            refine lv_iload_n hx hb dX2_choose_34 rfl (lv_at hl 3 rfl) ?_
            refine lv_iload_n hx hb dX2_choose_35 rfl (lv_at hl 2 rfl) ?_
            refine cl_X2_83 C hW h ⟨by decide, by decide⟩ ⟨Nat.zero_le _, Nat.zero_le _⟩ hl.1 (Nat.le_of_ble_eq_true rfl) dX2_choose_36 (fun r_12 M_11 H locs h hW => ?_)
            refine lv_if_eq (tgt := 44) hx hb dX2_choose_39 (by decide) (fun c_13 => ?_) (fun c_13 => ?_)
            · have h := h.1 c_13
              obtain ⟨x3_14, ex3_14⟩ : ∃ y : Int32, y = v3 + 1 := ⟨_, rfl⟩
              have h := h x3_14 ex3_14
              refine lv_iinc (v := x3_14) (lv' := [(3, .int x3_14), (0, .ref (g.1 37)), (1, .int f1), (2, .int v2)]) hx hb dX2_choose_44 hl (k := 3) rfl (by rw [ex3_14]; rfl) (by decide) rfl (fun ls hl => ?_)
              refine lv_goto (tgt := 4) hx hb dX2_choose_47 (by decide) ?_
              exact ih v2 x3_14 M_11 _ _ _ hW (lv_sub hl [1, 2, 3, 0] rfl) h
            · have h := h.2 c_13
              refine lv_iload_n hx hb dX2_choose_42 rfl (lv_at hl 3 rfl) ?_
              refine lv_istore_n (lv' := [(2, .int v3), (0, .ref (g.1 37)), (1, .int f1), (3, .int v3)]) hx hb dX2_choose_43 rfl hl (by decide) rfl (fun ls hl => ?_)
              obtain ⟨x3_15, ex3_15⟩ : ∃ y : Int32, y = v3 + 1 := ⟨_, rfl⟩
              have h := h x3_15 ex3_15
              refine lv_iinc (v := x3_15) (lv' := [(3, .int x3_15), (2, .int v3), (0, .ref (g.1 37)), (1, .int f1)]) hx hb dX2_choose_44 hl (k := 3) rfl (by rw [ex3_15]; rfl) (by decide) rfl (fun ls hl => ?_)
              refine lv_goto (tgt := 4) hx hb dX2_choose_47 (by decide) ?_
              exact ih v3 x3_15 M_11 _ _ _ hW (lv_sub hl [2, 3, 1, 0] rfl) h

def wX2_choose (Q : Int32 → pd_M → Prop) (a1 : Int32) (M : pd_M) : Prop := (∃ k_4 : Nat, lpX2_choose_4 (fun x2_17 M_16 => Q x2_17 M_16) a1 k_4 5 0 M)

set_option maxRecDepth 100000 in
set_option maxHeartbeats 4000000 in
theorem mX2_choose {l : Launch} {D : va_G} {g : pd_G} {t : Nat} {X : va_W} {Q : Int32 → pd_M → Prop} {a1 : Int32} {M : pd_M} {sz : Nat} (h : wX2_choose Q a1 M) : Met l yX2_choose (Cond.code yX2_choose cX2_choose 4 (Option.some FieldType.int) :: TB) rX2_choose (pd_Pre D g t M X sz [.ref (g.1 37), .int a1]) (pd_Qi D g M X sz Q) 0 0 (va_A (pd_WL g M ++ X) sz) := by
  refine pd_met (by decide) (Nat.le_of_ble_eq_true rfl) ?_
  intro p e s m below meth c A ls C hA hW hl
  have C : pd_C p m c cX2_choose 4 s _ RX2 meth (Option.some FieldType.int) := C
  have hx := C.1.1
  have hb := C.1.2.1
  have hown := C.1.2.2.2.1
  have hts := C.1.2.2.2.2
  have hl : lv_has ls 4 [(0, .ref (g.1 37)), (1, .int a1)] := hl
  refine lv_iconst (v := 5) hx hb dX2_choose_0 (by decide) ?_
  refine lv_istore_n (lv' := [(2, .int 5), (0, .ref (g.1 37)), (1, .int a1)]) hx hb dX2_choose_1 rfl hl (by decide) rfl (fun ls hl => ?_)
  refine lv_iconst (v := 0) hx hb dX2_choose_2 (by decide) ?_
  refine lv_istore_n (lv' := [(3, .int 0), (2, .int 5), (0, .ref (g.1 37)), (1, .int a1)]) hx hb dX2_choose_3 rfl hl (by decide) rfl (fun ls hl => ?_)
  obtain ⟨k_4, h⟩ := h
  refine stX2_choose_4 C hA (fun x2_17 M_16 H locs ls hW hl h => ?_) k_4 5 0 M _ _ _ hW (lv_sub hl [2, 3, 1, 0] rfl) h
  refine lv_iload_n hx hb dX2_choose_50 rfl (lv_at hl 0 rfl) ?_
  exact pd_iret C hA hW h dX2_choose_51

theorem dd_X2_choose : yX2_choose.cls ≠ "java/lang/invoke/MethodHandle" ∧ yX2_choose.cls ≠ "java/lang/invoke/VarHandle" ∧ (parseMethodDescriptor yX2_choose.desc).map (fun d => d.parameters.length) = some 1 := by decide +kernel
theorem cl_X2_75 {p : Program} {l : Launch} {e : Env} {R : Room} {s : State} {m : MethodId} {args : Array Value} {below : List Frame} {meth : Method} {c : Code} {H : Heap} {locs : List Loc} {cells slots : Nat} {QQ : State → Prop} {cc : ByteArray} {pc : Nat} {ls : Array Slot} {rest : List Value} {D : va_G} {g : pd_G} {t : Nat} {M : pd_M} {X : va_W} {A : Nat → Prop} {nL : Nat} {ret : Option FieldType} {Qc : Int32 → pd_M → Prop} {a1 : Int32} (C : pd_C p m c cc nL s args RX2 meth ret) (hW : pd_W D g t M X A s H locs) (h : wX2_choose Qc a1 M) (hR : rX2_choose.frames + 1 ≤ R.frames ∧ 8 + (4 + 11) + rX2_choose.locals ≤ R.locals) (hcs : cells ≤ R.cells ∧ slots ≤ R.slots) (hls : ls.size = nL) (hw8 : (rest.map fun v => v.category).sum ≤ 8) (hdg : decode cc pc = .ok (.invokevirtual 75, 3))
    (kk : ∀ (r : Int32) (M1 : pd_M) (H1 : Heap) (locs1 : List Loc), Qc r M1 → pd_W D g t M1 X A s H1 locs1 → W p l e R s m args below meth c H1 locs1 cells slots QQ (F0 m (pc + 3) ls (.int r :: rest))) : W p l e R s m args below meth c H locs cells slots QQ (F0 m pc ls (.int a1 :: .ref (g.1 37) :: rest)) :=
  pd_callVi (As := [.int a1]) C hW (mX2_choose h) kd_37 rfl mM_X2_75 mO_yX2_choose mV_yX2_choose mI_X2 mC_yX2_choose dd_X2_choose ⟨rfl, rfl⟩ hR hcs hls rfl hw8 hdg kk
abbrev rX2_openBays : Room := { frames := 0, cells := 0, slots := 0, locals := 0 }
def lpX2_openBays_2 (K : pd_M → Prop) (f1 : Int32) : Nat → Int32 → pd_M → Prop
  | 0, _, _ => False
  | n + 1, v2, M => (((M.1 8 0) ≤ v2 → K M) ∧ (¬ (M.1 8 0) ≤ v2 → (vp_in v2 5 ∧ (vp_in v2 5 ∧ (vp_in f1 7 ∧ (vp_in v2 6 ∧ ∀ M_6 : pd_M, M_6 = sI M 47 v2.toNatClampNeg ((M.1 10 v2.toNatClampNeg) - (M.1 (12 + v2.toNatClampNeg) f1.toNatClampNeg)) → ∀ x2_7 : Int32, x2_7 = v2 + 1 → lpX2_openBays_2 K f1 n x2_7 M_6))))))

set_option maxRecDepth 100000 in
set_option maxHeartbeats 4000000 in
theorem stX2_openBays_2 {p : Program} {l : Launch} {e : Env} {s : State} {m : MethodId} {args : Array Value} {below : List Frame} {meth : Method} {c : Code} {D : va_G} {g : pd_G} {t : Nat} {M0 : pd_M} {X : va_W} {A : Nat → Prop} {sz : Nat} {Q : pd_M → Prop} (C : pd_C p m c cX2_openBays 3 s args RX2 meth (Option.none : Option FieldType)) (hA : A = va_A (pd_WL g M0 ++ X) sz) {K : pd_M → Prop} {f1 : Int32}  (hK : ∀  (M : pd_M) (H : Heap) (locs : List Loc) (ls : Array Slot), pd_W D g t M X A s H locs → lv_has ls 3 [(0, .ref (g.1 37))] → K  M → W p l e rX2_openBays s m args below meth c H locs 0 0 (MQ below (pd_Qv D g M0 X sz Q) args s 0 0 (va_A (pd_WL g M0 ++ X) sz)) (F0 m 46 ls [])) :
    ∀ (n : Nat) (v2 : Int32) (M : pd_M) (H : Heap) (locs : List Loc) (ls : Array Slot), pd_W D g t M X A s H locs → lv_has ls 3 [(0, .ref (g.1 37)), (1, .int f1), (2, .int v2)] → lpX2_openBays_2 K f1 n v2 M → W p l e rX2_openBays s m args below meth c H locs 0 0 (MQ below (pd_Qv D g M0 X sz Q) args s 0 0 (va_A (pd_WL g M0 ++ X) sz)) (F0 m 2 ls []) := by
  have hx := C.1.1
  have hb := C.1.2.1
  have hown := C.1.2.2.2.1
  have hts := C.1.2.2.2.2
  intro n
  induction n with
  | zero => intro v2 M H locs ls hW hl h; exact h.elim
  | succ n ih =>
    intro v2 M H locs ls hW hl h
    refine lv_iload_n hx hb dX2_openBays_2 rfl (lv_at hl 2 rfl) ?_
    refine lv_aload_n hx hb dX2_openBays_3 rfl (lv_at hl 0 rfl) ?_
    refine gf_X2_30 C hW dX2_openBays_4 ?_
    refine gf_X2_51 C hW dX2_openBays_7 ?_
    refine lv_icmp_ge (tgt := 46) hx hb dX2_openBays_10 (by decide) (fun c_1 => ?_) (fun c_1 => ?_)
    · have h := h.1 c_1
      exact hK M _ _ _ hW (lv_sub hl [0] rfl) h
    · have h := h.2 c_1
      refine lv_aload_n hx hb dX2_openBays_13 rfl (lv_at hl 0 rfl) ?_
      refine gf_X2_20 C hW dX2_openBays_14 ?_
      refine lv_iload_n hx hb dX2_openBays_17 rfl (lv_at hl 2 rfl) ?_
      refine lv_aload_n hx hb dX2_openBays_18 rfl (lv_at hl 0 rfl) ?_
      refine gf_X2_30 C hW dX2_openBays_19 ?_
      refine gf_X2_57 C hW dX2_openBays_22 ?_
      refine lv_iload_n hx hb dX2_openBays_25 rfl (lv_at hl 2 rfl) ?_
      have hi_2 := h.1
      have h := h.2
      refine pd_iald C hW kd_10 hi_2 dX2_openBays_26 ?_
      refine lv_aload_n hx hb dX2_openBays_27 rfl (lv_at hl 0 rfl) ?_
      refine gf_X2_30 C hW dX2_openBays_28 ?_
      refine gf_X2_60 C hW dX2_openBays_31 ?_
      refine lv_iload_n hx hb dX2_openBays_34 rfl (lv_at hl 2 rfl) ?_
      have hi_3 := h.1
      have h := h.2
      refine pd_aald C hW kd_11 hi_3 dX2_openBays_35 ?_
      refine lv_iload_n hx hb dX2_openBays_36 rfl (lv_at hl 1 rfl) ?_
      have hi_4 := h.1
      have h := h.2
      refine pd_iald C hW (pd_k12 _ (pd_lt hi_3)) hi_4 dX2_openBays_37 ?_
      refine lv_isub hx hb dX2_openBays_38 ?_
      have hi_5 := h.1
      have h := h.2
      refine pd_iast C hW kd_47 hi_5 dX2_openBays_39 (fun M_6 H locs eM_6 hW => ?_)
      have h := h M_6 eM_6
      obtain ⟨x2_7, ex2_7⟩ : ∃ y : Int32, y = v2 + 1 := ⟨_, rfl⟩
      have h := h x2_7 ex2_7
      refine lv_iinc (v := x2_7) (lv' := [(2, .int x2_7), (0, .ref (g.1 37)), (1, .int f1)]) hx hb dX2_openBays_40 hl (k := 2) rfl (by rw [ex2_7]; rfl) (by decide) rfl (fun ls hl => ?_)
      refine lv_goto (tgt := 2) hx hb dX2_openBays_43 (by decide) ?_
      exact ih x2_7 M_6 _ _ _ hW (lv_sub hl [1, 2, 0] rfl) h

def wX2_openBays (Q : pd_M → Prop) (a1 : Int32) (M : pd_M) : Prop := (∃ k_2 : Nat, lpX2_openBays_2 (fun M_8 => ∀ M_9 : pd_M, M_9 = sI M_8 47 (5 : Int32).toNatClampNeg 7 → Q M_9) a1 k_2 0 M)

set_option maxRecDepth 100000 in
set_option maxHeartbeats 4000000 in
theorem mX2_openBays {l : Launch} {D : va_G} {g : pd_G} {t : Nat} {X : va_W} {Q : pd_M → Prop} {a1 : Int32} {M : pd_M} {sz : Nat} (h : wX2_openBays Q a1 M) : Met l yX2_openBays (Cond.code yX2_openBays cX2_openBays 3 (Option.none : Option FieldType) :: TB) rX2_openBays (pd_Pre D g t M X sz [.ref (g.1 37), .int a1]) (pd_Qv D g M X sz Q) 0 0 (va_A (pd_WL g M ++ X) sz) := by
  refine pd_met (by decide) (Nat.le_of_ble_eq_true rfl) ?_
  intro p e s m below meth c A ls C hA hW hl
  have C : pd_C p m c cX2_openBays 3 s _ RX2 meth (Option.none : Option FieldType) := C
  have hx := C.1.1
  have hb := C.1.2.1
  have hown := C.1.2.2.2.1
  have hts := C.1.2.2.2.2
  have hl : lv_has ls 3 [(0, .ref (g.1 37)), (1, .int a1)] := hl
  refine lv_iconst (v := 0) hx hb dX2_openBays_0 (by decide) ?_
  refine lv_istore_n (lv' := [(2, .int 0), (0, .ref (g.1 37)), (1, .int a1)]) hx hb dX2_openBays_1 rfl hl (by decide) rfl (fun ls hl => ?_)
  obtain ⟨k_2, h⟩ := h
  refine stX2_openBays_2 C hA (fun M_8 H locs ls hW hl h => ?_) k_2 0 M _ _ _ hW (lv_sub hl [1, 2, 0] rfl) h
  refine lv_aload_n hx hb dX2_openBays_46 rfl (lv_at hl 0 rfl) ?_
  refine gf_X2_20 C hW dX2_openBays_47 ?_
  refine lv_iconst (v := 5) hx hb dX2_openBays_50 (by decide) ?_
  refine lv_bipush (v := 7) hx hb dX2_openBays_51 (by decide) ?_
  refine pd_iast C hW kd_47 (by unfold vp_in; decide) dX2_openBays_53 (fun M_9 H locs eM_9 hW => ?_)
  have h := h M_9 eM_9
  exact pd_vret C hA hW h dX2_openBays_54

theorem dd_X2_openBays : yX2_openBays.cls ≠ "java/lang/invoke/MethodHandle" ∧ yX2_openBays.cls ≠ "java/lang/invoke/VarHandle" ∧ (parseMethodDescriptor yX2_openBays.desc).map (fun d => d.parameters.length) = some 1 := by decide +kernel
theorem cl_X2_38 {p : Program} {l : Launch} {e : Env} {R : Room} {s : State} {m : MethodId} {args : Array Value} {below : List Frame} {meth : Method} {c : Code} {H : Heap} {locs : List Loc} {cells slots : Nat} {QQ : State → Prop} {cc : ByteArray} {pc : Nat} {ls : Array Slot} {rest : List Value} {D : va_G} {g : pd_G} {t : Nat} {M : pd_M} {X : va_W} {A : Nat → Prop} {nL : Nat} {ret : Option FieldType} {Qc : pd_M → Prop} {a1 : Int32} (C : pd_C p m c cc nL s args RX2 meth ret) (hW : pd_W D g t M X A s H locs) (h : wX2_openBays Qc a1 M) (hR : rX2_openBays.frames + 1 ≤ R.frames ∧ 8 + (3 + 11) + rX2_openBays.locals ≤ R.locals) (hcs : cells ≤ R.cells ∧ slots ≤ R.slots) (hls : ls.size = nL) (hw8 : (rest.map fun v => v.category).sum ≤ 8) (hdg : decode cc pc = .ok (.invokevirtual 38, 3))
    (kk : ∀ (M1 : pd_M) (H1 : Heap) (locs1 : List Loc), Qc M1 → pd_W D g t M1 X A s H1 locs1 → W p l e R s m args below meth c H1 locs1 cells slots QQ (F0 m (pc + 3) ls rest)) : W p l e R s m args below meth c H locs cells slots QQ (F0 m pc ls (.int a1 :: .ref (g.1 37) :: rest)) :=
  pd_callVv (As := [.int a1]) C hW (mX2_openBays h) kd_37 rfl mM_X2_38 mO_yX2_openBays mV_yX2_openBays mI_X2 mC_yX2_openBays dd_X2_openBays ⟨rfl, rfl⟩ hR hcs hls rfl hw8 hdg kk
abbrev rX2_readRights : Room := { frames := 3, cells := 0, slots := 0, locals := 68 }
def lpX2_readRights_15 (K : pd_M → Prop) (f1 : Int32) (f2 : Int32) : Nat → Int32 → pd_M → Prop
  | 0, _, _ => False
  | n + 1, v3, M => (((M.1 8 0) ≤ v3 → K M) ∧ (¬ (M.1 8 0) ≤ v3 → (vp_in f2 7 ∧ (vp_in v3 5 ∧ wX0_right (fun r_6 M_5 => (vp_in v3 5 ∧ ∀ M_8 : pd_M, M_8 = sI M_5 (40 + f2.toNatClampNeg) v3.toNatClampNeg r_6 → ∀ x3_9 : Int32, x3_9 = v3 + 1 → lpX2_readRights_15 K f1 f2 n x3_9 M_8)) f2 (M.1 9 v3.toNatClampNeg) f1 M))))

set_option maxRecDepth 100000 in
set_option maxHeartbeats 4000000 in
theorem stX2_readRights_15 {p : Program} {l : Launch} {e : Env} {s : State} {m : MethodId} {args : Array Value} {below : List Frame} {meth : Method} {c : Code} {D : va_G} {g : pd_G} {t : Nat} {M0 : pd_M} {X : va_W} {A : Nat → Prop} {sz : Nat} {Q : pd_M → Prop} (C : pd_C p m c cX2_readRights 4 s args RX2 meth (Option.none : Option FieldType)) (hA : A = va_A (pd_WL g M0 ++ X) sz) {K : pd_M → Prop} {f1 : Int32} {f2 : Int32}  (hK : ∀  (M : pd_M) (H : Heap) (locs : List Loc) (ls : Array Slot), pd_W D g t M X A s H locs → lv_has ls 4 [(0, .ref (g.1 37)), (1, .int f1), (2, .int f2)] → K  M → W p l e rX2_readRights s m args below meth c H locs 0 0 (MQ below (pd_Qv D g M0 X sz Q) args s 0 0 (va_A (pd_WL g M0 ++ X) sz)) (F0 m 58 ls [])) :
    ∀ (n : Nat) (v3 : Int32) (M : pd_M) (H : Heap) (locs : List Loc) (ls : Array Slot), pd_W D g t M X A s H locs → lv_has ls 4 [(0, .ref (g.1 37)), (1, .int f1), (2, .int f2), (3, .int v3)] → lpX2_readRights_15 K f1 f2 n v3 M → W p l e rX2_readRights s m args below meth c H locs 0 0 (MQ below (pd_Qv D g M0 X sz Q) args s 0 0 (va_A (pd_WL g M0 ++ X) sz)) (F0 m 15 ls []) := by
  have hx := C.1.1
  have hb := C.1.2.1
  have hown := C.1.2.2.2.1
  have hts := C.1.2.2.2.2
  intro n
  induction n with
  | zero => intro v3 M H locs ls hW hl h; exact h.elim
  | succ n ih =>
    intro v3 M H locs ls hW hl h
    refine lv_iload_n hx hb dX2_readRights_15 rfl (lv_at hl 3 rfl) ?_
    refine lv_aload_n hx hb dX2_readRights_16 rfl (lv_at hl 0 rfl) ?_
    refine gf_X2_30 C hW dX2_readRights_17 ?_
    refine gf_X2_51 C hW dX2_readRights_20 ?_
    refine lv_icmp_ge (tgt := 58) hx hb dX2_readRights_23 (by decide) (fun c_2 => ?_) (fun c_2 => ?_)
    · have h := h.1 c_2
      exact hK M _ _ _ hW (lv_sub hl [0, 1, 2] rfl) h
    · have h := h.2 c_2
      refine lv_aload_n hx hb dX2_readRights_26 rfl (lv_at hl 0 rfl) ?_
      refine gf_X2_17 C hW dX2_readRights_27 ?_
      refine lv_iload_n hx hb dX2_readRights_30 rfl (lv_at hl 2 rfl) ?_
      have hi_3 := h.1
      have h := h.2
      refine pd_aald C hW kd_39 hi_3 dX2_readRights_31 ?_
      refine lv_iload_n hx hb dX2_readRights_32 rfl (lv_at hl 3 rfl) ?_
      refine lv_aload_n hx hb dX2_readRights_33 rfl (lv_at hl 0 rfl) ?_
      refine gf_X2_34 C hW dX2_readRights_34 ?_
      refine lv_iload_n hx hb dX2_readRights_37 rfl (lv_at hl 2 rfl) ?_
      refine lv_aload_n hx hb dX2_readRights_38 rfl (lv_at hl 0 rfl) ?_
      refine gf_X2_30 C hW dX2_readRights_39 ?_
      refine gf_X2_66 C hW dX2_readRights_42 ?_
      refine lv_iload_n hx hb dX2_readRights_45 rfl (lv_at hl 3 rfl) ?_
      have hi_4 := h.1
      have h := h.2
      refine pd_iald C hW kd_9 hi_4 dX2_readRights_46 ?_
      refine lv_iload_n hx hb dX2_readRights_47 rfl (lv_at hl 1 rfl) ?_
      refine cl_X2_69 C hW h ⟨by decide, by decide⟩ ⟨Nat.zero_le _, Nat.zero_le _⟩ hl.1 (Nat.le_of_ble_eq_true rfl) dX2_readRights_48 (fun r_6 M_5 H locs h hW => ?_)
      have hi_7 := h.1
      have h := h.2
      refine pd_iast C hW (pd_k40 _ (pd_lt hi_3)) hi_7 dX2_readRights_51 (fun M_8 H locs eM_8 hW => ?_)
      have h := h M_8 eM_8
      obtain ⟨x3_9, ex3_9⟩ : ∃ y : Int32, y = v3 + 1 := ⟨_, rfl⟩
      have h := h x3_9 ex3_9
      refine lv_iinc (v := x3_9) (lv' := [(3, .int x3_9), (0, .ref (g.1 37)), (1, .int f1), (2, .int f2)]) hx hb dX2_readRights_52 hl (k := 3) rfl (by rw [ex3_9]; rfl) (by decide) rfl (fun ls hl => ?_)
      refine lv_goto (tgt := 15) hx hb dX2_readRights_55 (by decide) ?_
      exact ih x3_9 M_8 _ _ _ hW (lv_sub hl [1, 2, 3, 0] rfl) h

def lpX2_readRights_2 (K : pd_M → Prop) (f1 : Int32) : Nat → Int32 → pd_M → Prop
  | 0, _, _ => False
  | n + 1, v2, M => (((M.1 24 1) ≤ v2 → K M) ∧ (¬ (M.1 24 1) ≤ v2 → (∃ k_15 : Nat, lpX2_readRights_15 (fun M_10 => ∀ x2_11 : Int32, x2_11 = v2 + 1 → lpX2_readRights_2 K f1 n x2_11 M_10) f1 v2 k_15 0 M)))

set_option maxRecDepth 100000 in
set_option maxHeartbeats 4000000 in
theorem stX2_readRights_2 {p : Program} {l : Launch} {e : Env} {s : State} {m : MethodId} {args : Array Value} {below : List Frame} {meth : Method} {c : Code} {D : va_G} {g : pd_G} {t : Nat} {M0 : pd_M} {X : va_W} {A : Nat → Prop} {sz : Nat} {Q : pd_M → Prop} (C : pd_C p m c cX2_readRights 4 s args RX2 meth (Option.none : Option FieldType)) (hA : A = va_A (pd_WL g M0 ++ X) sz) {K : pd_M → Prop} {f1 : Int32}  (hK : ∀  (M : pd_M) (H : Heap) (locs : List Loc) (ls : Array Slot), pd_W D g t M X A s H locs → lv_has ls 4 [] → K  M → W p l e rX2_readRights s m args below meth c H locs 0 0 (MQ below (pd_Qv D g M0 X sz Q) args s 0 0 (va_A (pd_WL g M0 ++ X) sz)) (F0 m 64 ls [])) :
    ∀ (n : Nat) (v2 : Int32) (M : pd_M) (H : Heap) (locs : List Loc) (ls : Array Slot), pd_W D g t M X A s H locs → lv_has ls 4 [(0, .ref (g.1 37)), (1, .int f1), (2, .int v2)] → lpX2_readRights_2 K f1 n v2 M → W p l e rX2_readRights s m args below meth c H locs 0 0 (MQ below (pd_Qv D g M0 X sz Q) args s 0 0 (va_A (pd_WL g M0 ++ X) sz)) (F0 m 2 ls []) := by
  have hx := C.1.1
  have hb := C.1.2.1
  have hown := C.1.2.2.2.1
  have hts := C.1.2.2.2.2
  intro n
  induction n with
  | zero => intro v2 M H locs ls hW hl h; exact h.elim
  | succ n ih =>
    intro v2 M H locs ls hW hl h
    refine lv_iload_n hx hb dX2_readRights_2 rfl (lv_at hl 2 rfl) ?_
    refine lv_aload_n hx hb dX2_readRights_3 rfl (lv_at hl 0 rfl) ?_
    refine gf_X2_34 C hW dX2_readRights_4 ?_
    refine gf_X2_63 C hW dX2_readRights_7 ?_
    refine lv_icmp_ge (tgt := 64) hx hb dX2_readRights_10 (by decide) (fun c_1 => ?_) (fun c_1 => ?_)
    · have h := h.1 c_1
      exact hK M _ _ _ hW (lv_sub hl [] rfl) h
    · have h := h.2 c_1
      refine lv_iconst (v := 0) hx hb dX2_readRights_13 (by decide) ?_
      refine lv_istore_n (lv' := [(3, .int 0), (0, .ref (g.1 37)), (1, .int f1), (2, .int v2)]) hx hb dX2_readRights_14 rfl hl (by decide) rfl (fun ls hl => ?_)
      obtain ⟨k_15, h⟩ := h
      refine stX2_readRights_15 C hA (fun M_10 H locs ls hW hl h => ?_) k_15 0 M _ _ _ hW (lv_sub hl [1, 2, 3, 0] rfl) h
      obtain ⟨x2_11, ex2_11⟩ : ∃ y : Int32, y = v2 + 1 := ⟨_, rfl⟩
      have h := h x2_11 ex2_11
      refine lv_iinc (v := x2_11) (lv' := [(2, .int x2_11), (0, .ref (g.1 37)), (1, .int f1)]) hx hb dX2_readRights_58 hl (k := 2) rfl (by rw [ex2_11]; rfl) (by decide) rfl (fun ls hl => ?_)
      refine lv_goto (tgt := 2) hx hb dX2_readRights_61 (by decide) ?_
      exact ih x2_11 M_10 _ _ _ hW (lv_sub hl [1, 2, 0] rfl) h

def wX2_readRights (Q : pd_M → Prop) (a1 : Int32) (M : pd_M) : Prop := (∃ k_2 : Nat, lpX2_readRights_2 (fun M_12 => Q M_12) a1 k_2 0 M)

set_option maxRecDepth 100000 in
set_option maxHeartbeats 4000000 in
theorem mX2_readRights {l : Launch} {D : va_G} {g : pd_G} {t : Nat} {X : va_W} {Q : pd_M → Prop} {a1 : Int32} {M : pd_M} {sz : Nat} (h : wX2_readRights Q a1 M) : Met l yX2_readRights (Cond.code yX2_readRights cX2_readRights 4 (Option.none : Option FieldType) :: TB) rX2_readRights (pd_Pre D g t M X sz [.ref (g.1 37), .int a1]) (pd_Qv D g M X sz Q) 0 0 (va_A (pd_WL g M ++ X) sz) := by
  refine pd_met (by decide) (Nat.le_of_ble_eq_true rfl) ?_
  intro p e s m below meth c A ls C hA hW hl
  have C : pd_C p m c cX2_readRights 4 s _ RX2 meth (Option.none : Option FieldType) := C
  have hx := C.1.1
  have hb := C.1.2.1
  have hown := C.1.2.2.2.1
  have hts := C.1.2.2.2.2
  have hl : lv_has ls 4 [(0, .ref (g.1 37)), (1, .int a1)] := hl
  refine lv_iconst (v := 0) hx hb dX2_readRights_0 (by decide) ?_
  refine lv_istore_n (lv' := [(2, .int 0), (0, .ref (g.1 37)), (1, .int a1)]) hx hb dX2_readRights_1 rfl hl (by decide) rfl (fun ls hl => ?_)
  obtain ⟨k_2, h⟩ := h
  refine stX2_readRights_2 C hA (fun M_12 H locs ls hW hl h => ?_) k_2 0 M _ _ _ hW (lv_sub hl [1, 2, 0] rfl) h
  exact pd_vret C hA hW h dX2_readRights_64

theorem dd_X2_readRights : yX2_readRights.cls ≠ "java/lang/invoke/MethodHandle" ∧ yX2_readRights.cls ≠ "java/lang/invoke/VarHandle" ∧ (parseMethodDescriptor yX2_readRights.desc).map (fun d => d.parameters.length) = some 1 := by decide +kernel
theorem cl_X2_42 {p : Program} {l : Launch} {e : Env} {R : Room} {s : State} {m : MethodId} {args : Array Value} {below : List Frame} {meth : Method} {c : Code} {H : Heap} {locs : List Loc} {cells slots : Nat} {QQ : State → Prop} {cc : ByteArray} {pc : Nat} {ls : Array Slot} {rest : List Value} {D : va_G} {g : pd_G} {t : Nat} {M : pd_M} {X : va_W} {A : Nat → Prop} {nL : Nat} {ret : Option FieldType} {Qc : pd_M → Prop} {a1 : Int32} (C : pd_C p m c cc nL s args RX2 meth ret) (hW : pd_W D g t M X A s H locs) (h : wX2_readRights Qc a1 M) (hR : rX2_readRights.frames + 1 ≤ R.frames ∧ 8 + (4 + 11) + rX2_readRights.locals ≤ R.locals) (hcs : cells ≤ R.cells ∧ slots ≤ R.slots) (hls : ls.size = nL) (hw8 : (rest.map fun v => v.category).sum ≤ 8) (hdg : decode cc pc = .ok (.invokevirtual 42, 3))
    (kk : ∀ (M1 : pd_M) (H1 : Heap) (locs1 : List Loc), Qc M1 → pd_W D g t M1 X A s H1 locs1 → W p l e R s m args below meth c H1 locs1 cells slots QQ (F0 m (pc + 3) ls rest)) : W p l e R s m args below meth c H locs cells slots QQ (F0 m pc ls (.int a1 :: .ref (g.1 37) :: rest)) :=
  pd_callVv (As := [.int a1]) C hW (mX2_readRights h) kd_37 rfl mM_X2_42 mO_yX2_readRights mV_yX2_readRights mI_X2 mC_yX2_readRights dd_X2_readRights ⟨rfl, rfl⟩ hR hcs hls rfl hw8 hdg kk
abbrev rX2_comeHome : Room := { frames := 3, cells := 0, slots := 0, locals := 70 }
def lpX2_comeHome_2 (K : pd_M → Prop) : Nat → Int32 → pd_M → Prop
  | 0, _, _ => False
  | n + 1, v1, M => (((M.1 24 1) ≤ v1 → K M) ∧ (¬ (M.1 24 1) ≤ v1 → (vp_in v1 7 ∧ ∀ x2_3 : Int32, x2_3 = (M.1 36 v1.toNatClampNeg) → wX2_choose (fun r_5 M_4 => (vp_in x2_3 7 ∧ ∀ M_7 : pd_M, M_7 = sI M_4 38 x2_3.toNatClampNeg r_5 → (vp_in x2_3 7 ∧ (vp_in (M_7.1 38 x2_3.toNatClampNeg) 6 ∧ (vp_in (M_7.1 38 x2_3.toNatClampNeg) 6 ∧ ∀ M_11 : pd_M, M_11 = sI M_7 47 (M_7.1 38 x2_3.toNatClampNeg).toNatClampNeg ((M_7.1 47 (M_7.1 38 x2_3.toNatClampNeg).toNatClampNeg) - 1) → ∀ x1_12 : Int32, x1_12 = v1 + 1 → lpX2_comeHome_2 K n x1_12 M_11))))) x2_3 M)))

set_option maxRecDepth 100000 in
set_option maxHeartbeats 4000000 in
theorem stX2_comeHome_2 {p : Program} {l : Launch} {e : Env} {s : State} {m : MethodId} {args : Array Value} {below : List Frame} {meth : Method} {c : Code} {D : va_G} {g : pd_G} {t : Nat} {M0 : pd_M} {X : va_W} {A : Nat → Prop} {sz : Nat} {Q : pd_M → Prop} (C : pd_C p m c cX2_comeHome 3 s args RX2 meth (Option.none : Option FieldType)) (hA : A = va_A (pd_WL g M0 ++ X) sz) {K : pd_M → Prop}  (hK : ∀  (M : pd_M) (H : Heap) (locs : List Loc) (ls : Array Slot), pd_W D g t M X A s H locs → lv_has ls 3 [] → K  M → W p l e rX2_comeHome s m args below meth c H locs 0 0 (MQ below (pd_Qv D g M0 X sz Q) args s 0 0 (va_A (pd_WL g M0 ++ X) sz)) (F0 m 55 ls [])) :
    ∀ (n : Nat) (v1 : Int32) (M : pd_M) (H : Heap) (locs : List Loc) (ls : Array Slot), pd_W D g t M X A s H locs → lv_has ls 3 [(0, .ref (g.1 37)), (1, .int v1)] → lpX2_comeHome_2 K n v1 M → W p l e rX2_comeHome s m args below meth c H locs 0 0 (MQ below (pd_Qv D g M0 X sz Q) args s 0 0 (va_A (pd_WL g M0 ++ X) sz)) (F0 m 2 ls []) := by
  have hx := C.1.1
  have hb := C.1.2.1
  have hown := C.1.2.2.2.1
  have hts := C.1.2.2.2.2
  intro n
  induction n with
  | zero => intro v1 M H locs ls hW hl h; exact h.elim
  | succ n ih =>
    intro v1 M H locs ls hW hl h
    refine lv_iload_n hx hb dX2_comeHome_2 rfl (lv_at hl 1 rfl) ?_
    refine lv_aload_n hx hb dX2_comeHome_3 rfl (lv_at hl 0 rfl) ?_
    refine gf_X2_34 C hW dX2_comeHome_4 ?_
    refine gf_X2_63 C hW dX2_comeHome_7 ?_
    refine lv_icmp_ge (tgt := 55) hx hb dX2_comeHome_10 (by decide) (fun c_1 => ?_) (fun c_1 => ?_)
    · have h := h.1 c_1
      exact hK M _ _ _ hW (lv_sub hl [] rfl) h
    · have h := h.2 c_1
      refine lv_aload_n hx hb dX2_comeHome_13 rfl (lv_at hl 0 rfl) ?_
      refine gf_X2_34 C hW dX2_comeHome_14 ?_
      refine gf_X2_72 C hW dX2_comeHome_17 ?_
      refine lv_iload_n hx hb dX2_comeHome_20 rfl (lv_at hl 1 rfl) ?_
      have hi_2 := h.1
      have h := h.2
      refine pd_iald C hW kd_36 hi_2 dX2_comeHome_21 ?_
      refine lv_topi (fun x2_3 ex2_3 => ?_)
      have h := h x2_3 ex2_3
      refine lv_istore_n (lv' := [(2, .int x2_3), (0, .ref (g.1 37)), (1, .int v1)]) hx hb dX2_comeHome_22 rfl hl (by decide) rfl (fun ls hl => ?_)
      refine lv_aload_n hx hb dX2_comeHome_23 rfl (lv_at hl 1 rfl) ?_
      refine gf_X2_9 C hW dX2_comeHome_24 ?_
      refine lv_iload_n hx hb dX2_comeHome_27 rfl (lv_at hl 0 rfl) ?_
      refine lv_aload_n hx hb dX2_comeHome_28 rfl (lv_at hl 1 rfl) ?_
      refine lv_iload_n hx hb dX2_comeHome_29 rfl (lv_at hl 0 rfl) ?_
      refine cl_X2_75 C hW h ⟨by decide, by decide⟩ ⟨Nat.zero_le _, Nat.zero_le _⟩ hl.1 (Nat.le_of_ble_eq_true rfl) dX2_comeHome_30 (fun r_5 M_4 H locs h hW => ?_)
      have hi_6 := h.1
      have h := h.2
      refine pd_iast C hW kd_38 hi_6 dX2_comeHome_33 (fun M_7 H locs eM_7 hW => ?_)
      have h := h M_7 eM_7
      refine lv_aload_n hx hb dX2_comeHome_34 rfl (lv_at hl 1 rfl) ?_
      refine gf_X2_20 C hW dX2_comeHome_35 ?_
      refine lv_aload_n hx hb dX2_comeHome_38 rfl (lv_at hl 1 rfl) ?_
      refine gf_X2_9 C hW dX2_comeHome_39 ?_
      refine lv_iload_n hx hb dX2_comeHome_42 rfl (lv_at hl 0 rfl) ?_
      have hi_8 := h.1
      have h := h.2
      refine pd_iald C hW kd_38 hi_8 dX2_comeHome_43 ?_
      refine lv_dup2_11 hx hb dX2_comeHome_44 rfl rfl ?_
      have hi_9 := h.1
      have h := h.2
      refine pd_iald C hW kd_47 hi_9 dX2_comeHome_45 ?_
      refine lv_iconst (v := 1) hx hb dX2_comeHome_46 (by decide) ?_
      refine lv_isub hx hb dX2_comeHome_47 ?_
      have hi_10 := h.1
      have h := h.2
      refine pd_iast C hW kd_47 hi_10 dX2_comeHome_48 (fun M_11 H locs eM_11 hW => ?_)
      have h := h M_11 eM_11
      obtain ⟨x1_12, ex1_12⟩ : ∃ y : Int32, y = v1 + 1 := ⟨_, rfl⟩
      have h := h x1_12 ex1_12
      refine lv_iinc (v := x1_12) (lv' := [(1, .int x1_12), (2, .int x2_3), (0, .ref (g.1 37))]) hx hb dX2_comeHome_49 hl (k := 2) rfl (by rw [ex1_12]; rfl) (by decide) rfl (fun ls hl => ?_)
      refine lv_goto (tgt := 2) hx hb dX2_comeHome_52 (by decide) ?_
      exact ih x1_12 M_11 _ _ _ hW (lv_sub hl [2, 0] rfl) h

def wX2_comeHome (Q : pd_M → Prop) (M : pd_M) : Prop := (∃ k_2 : Nat, lpX2_comeHome_2 (fun M_13 => Q M_13) k_2 0 M)

set_option maxRecDepth 100000 in
set_option maxHeartbeats 4000000 in
theorem mX2_comeHome {l : Launch} {D : va_G} {g : pd_G} {t : Nat} {X : va_W} {Q : pd_M → Prop} {M : pd_M} {sz : Nat} (h : wX2_comeHome Q M) : Met l yX2_comeHome (Cond.code yX2_comeHome cX2_comeHome 3 (Option.none : Option FieldType) :: TB) rX2_comeHome (pd_Pre D g t M X sz [.ref (g.1 37)]) (pd_Qv D g M X sz Q) 0 0 (va_A (pd_WL g M ++ X) sz) := by
  refine pd_met (by decide) (Nat.le_of_ble_eq_true rfl) ?_
  intro p e s m below meth c A ls C hA hW hl
  have C : pd_C p m c cX2_comeHome 3 s _ RX2 meth (Option.none : Option FieldType) := C
  have hx := C.1.1
  have hb := C.1.2.1
  have hown := C.1.2.2.2.1
  have hts := C.1.2.2.2.2
  have hl : lv_has ls 3 [(0, .ref (g.1 37))] := hl
  refine lv_iconst (v := 0) hx hb dX2_comeHome_0 (by decide) ?_
  refine lv_istore_n (lv' := [(1, .int 0), (0, .ref (g.1 37))]) hx hb dX2_comeHome_1 rfl hl (by decide) rfl (fun ls hl => ?_)
  obtain ⟨k_2, h⟩ := h
  refine stX2_comeHome_2 C hA (fun M_13 H locs ls hW hl h => ?_) k_2 0 M _ _ _ hW (lv_sub hl [1, 0] rfl) h
  exact pd_vret C hA hW h dX2_comeHome_55

theorem dd_X2_comeHome : yX2_comeHome.cls ≠ "java/lang/invoke/MethodHandle" ∧ yX2_comeHome.cls ≠ "java/lang/invoke/VarHandle" ∧ (parseMethodDescriptor yX2_comeHome.desc).map (fun d => d.parameters.length) = some 0 := by decide +kernel
theorem cl_X2_48 {p : Program} {l : Launch} {e : Env} {R : Room} {s : State} {m : MethodId} {args : Array Value} {below : List Frame} {meth : Method} {c : Code} {H : Heap} {locs : List Loc} {cells slots : Nat} {QQ : State → Prop} {cc : ByteArray} {pc : Nat} {ls : Array Slot} {rest : List Value} {D : va_G} {g : pd_G} {t : Nat} {M : pd_M} {X : va_W} {A : Nat → Prop} {nL : Nat} {ret : Option FieldType} {Qc : pd_M → Prop} (C : pd_C p m c cc nL s args RX2 meth ret) (hW : pd_W D g t M X A s H locs) (h : wX2_comeHome Qc M) (hR : rX2_comeHome.frames + 1 ≤ R.frames ∧ 8 + (3 + 11) + rX2_comeHome.locals ≤ R.locals) (hcs : cells ≤ R.cells ∧ slots ≤ R.slots) (hls : ls.size = nL) (hw8 : (rest.map fun v => v.category).sum ≤ 8) (hdg : decode cc pc = .ok (.invokevirtual 48, 3))
    (kk : ∀ (M1 : pd_M) (H1 : Heap) (locs1 : List Loc), Qc M1 → pd_W D g t M1 X A s H1 locs1 → W p l e R s m args below meth c H1 locs1 cells slots QQ (F0 m (pc + 3) ls rest)) : W p l e R s m args below meth c H locs cells slots QQ (F0 m pc ls (.ref (g.1 37) :: rest)) :=
  pd_callVv (As := []) C hW (mX2_comeHome h) kd_37 rfl mM_X2_48 mO_yX2_comeHome mV_yX2_comeHome mI_X2 mC_yX2_comeHome dd_X2_comeHome ⟨rfl, rfl⟩ hR hcs hls rfl hw8 hdg kk
abbrev rX2_layLeast : Room := { frames := 2, cells := 0, slots := 0, locals := 52 }
def lpX2_layLeast_15 (K : pd_M → Prop) (f1 : Int32) : Nat → Int32 → pd_M → Prop
  | 0, _, _ => False
  | n + 1, v2, M => ((5 ≤ v2 → K M) ∧ (¬ 5 ≤ v2 → wX2_isWithin (fun r_4 M_3 => ((r_4 = 0 → wX1_forbid (fun M_6 => ∀ x2_7 : Int32, x2_7 = v2 + 1 → lpX2_layLeast_15 K f1 n x2_7 M_6) f1 v2 M_3) ∧ (¬ r_4 = 0 → wX2_walkTo (fun r_9 M_8 => wX1_setPrice (fun M_10 => ∀ x2_11 : Int32, x2_11 = v2 + 1 → lpX2_layLeast_15 K f1 n x2_11 M_10) f1 v2 r_9 M_8) f1 v2 M_3))) f1 v2 M))

set_option maxRecDepth 100000 in
set_option maxHeartbeats 4000000 in
theorem stX2_layLeast_15 {p : Program} {l : Launch} {e : Env} {s : State} {m : MethodId} {args : Array Value} {below : List Frame} {meth : Method} {c : Code} {D : va_G} {g : pd_G} {t : Nat} {M0 : pd_M} {X : va_W} {A : Nat → Prop} {sz : Nat} {Q : pd_M → Prop} (C : pd_C p m c cX2_layLeast 3 s args RX2 meth (Option.none : Option FieldType)) (hA : A = va_A (pd_WL g M0 ++ X) sz) {K : pd_M → Prop} {f1 : Int32}  (hK : ∀  (M : pd_M) (H : Heap) (locs : List Loc) (ls : Array Slot), pd_W D g t M X A s H locs → lv_has ls 3 [(0, .ref (g.1 37)), (1, .int f1)] → K  M → W p l e rX2_layLeast s m args below meth c H locs 0 0 (MQ below (pd_Qv D g M0 X sz Q) args s 0 0 (va_A (pd_WL g M0 ++ X) sz)) (F0 m 62 ls [])) :
    ∀ (n : Nat) (v2 : Int32) (M : pd_M) (H : Heap) (locs : List Loc) (ls : Array Slot), pd_W D g t M X A s H locs → lv_has ls 3 [(0, .ref (g.1 37)), (1, .int f1), (2, .int v2)] → lpX2_layLeast_15 K f1 n v2 M → W p l e rX2_layLeast s m args below meth c H locs 0 0 (MQ below (pd_Qv D g M0 X sz Q) args s 0 0 (va_A (pd_WL g M0 ++ X) sz)) (F0 m 15 ls []) := by
  have hx := C.1.1
  have hb := C.1.2.1
  have hown := C.1.2.2.2.1
  have hts := C.1.2.2.2.2
  intro n
  induction n with
  | zero => intro v2 M H locs ls hW hl h; exact h.elim
  | succ n ih =>
    intro v2 M H locs ls hW hl h
    refine lv_iload_n hx hb dX2_layLeast_15 rfl (lv_at hl 2 rfl) ?_
    refine lv_iconst (v := 5) hx hb dX2_layLeast_16 (by decide) ?_
    refine lv_icmp_ge (tgt := 62) hx hb dX2_layLeast_17 (by decide) (fun c_2 => ?_) (fun c_2 => ?_)
    · have h := h.1 c_2
      exact hK M _ _ _ hW (lv_sub hl [0, 1] rfl) h
    · have h := h.2 c_2
      refine lv_aload_n hx hb dX2_layLeast_20 rfl (lv_at hl 0 rfl) ?_
      refine lv_iload_n hx hb dX2_layLeast_21 rfl (lv_at hl 1 rfl) ?_
      refine lv_iload_n hx hb dX2_layLeast_22 rfl (lv_at hl 2 rfl) ?_
      refine cl_X2_79 C hW h ⟨by decide, by decide⟩ ⟨Nat.zero_le _, Nat.zero_le _⟩ hl.1 (Nat.le_of_ble_eq_true rfl) dX2_layLeast_23 (fun r_4 M_3 H locs h hW => ?_)
      refine lv_if_eq (tgt := 47) hx hb dX2_layLeast_26 (by decide) (fun c_5 => ?_) (fun c_5 => ?_)
      · have h := h.1 c_5
        refine lv_aload_n hx hb dX2_layLeast_47 rfl (lv_at hl 0 rfl) ?_
        refine gf_X2_26 C hW dX2_layLeast_48 ?_
        refine lv_iload_n hx hb dX2_layLeast_51 rfl (lv_at hl 1 rfl) ?_
        refine lv_iload_n hx hb dX2_layLeast_52 rfl (lv_at hl 2 rfl) ?_
        refine cl_X2_104 C hW h ⟨by decide, by decide⟩ ⟨Nat.zero_le _, Nat.zero_le _⟩ hl.1 (by decide) dX2_layLeast_53 (fun M_6 H locs h hW => ?_)
        obtain ⟨x2_7, ex2_7⟩ : ∃ y : Int32, y = v2 + 1 := ⟨_, rfl⟩
        have h := h x2_7 ex2_7
        refine lv_iinc (v := x2_7) (lv' := [(2, .int x2_7), (0, .ref (g.1 37)), (1, .int f1)]) hx hb dX2_layLeast_56 hl (k := 2) rfl (by rw [ex2_7]; rfl) (by decide) rfl (fun ls hl => ?_)
        refine lv_goto (tgt := 15) hx hb dX2_layLeast_59 (by decide) ?_
        exact ih x2_7 M_6 _ _ _ hW (lv_sub hl [1, 2, 0] rfl) h
      · have h := h.2 c_5
        refine lv_aload_n hx hb dX2_layLeast_29 rfl (lv_at hl 0 rfl) ?_
        refine gf_X2_26 C hW dX2_layLeast_30 ?_
        refine lv_iload_n hx hb dX2_layLeast_33 rfl (lv_at hl 1 rfl) ?_
        refine lv_iload_n hx hb dX2_layLeast_34 rfl (lv_at hl 2 rfl) ?_
        refine lv_aload_n hx hb dX2_layLeast_35 rfl (lv_at hl 0 rfl) ?_
        refine lv_iload_n hx hb dX2_layLeast_36 rfl (lv_at hl 1 rfl) ?_
        refine lv_iload_n hx hb dX2_layLeast_37 rfl (lv_at hl 2 rfl) ?_
        refine cl_X2_87 C hW h ⟨by decide, by decide⟩ ⟨Nat.zero_le _, Nat.zero_le _⟩ hl.1 (Nat.le_of_ble_eq_true rfl) dX2_layLeast_38 (fun r_9 M_8 H locs h hW => ?_)
        refine cl_X2_100 C hW h ⟨by decide, by decide⟩ ⟨Nat.zero_le _, Nat.zero_le _⟩ hl.1 (by decide) dX2_layLeast_41 (fun M_10 H locs h hW => ?_)
        refine lv_goto (tgt := 56) hx hb dX2_layLeast_44 (by decide) ?_
        obtain ⟨x2_11, ex2_11⟩ : ∃ y : Int32, y = v2 + 1 := ⟨_, rfl⟩
        have h := h x2_11 ex2_11
        refine lv_iinc (v := x2_11) (lv' := [(2, .int x2_11), (0, .ref (g.1 37)), (1, .int f1)]) hx hb dX2_layLeast_56 hl (k := 2) rfl (by rw [ex2_11]; rfl) (by decide) rfl (fun ls hl => ?_)
        refine lv_goto (tgt := 15) hx hb dX2_layLeast_59 (by decide) ?_
        exact ih x2_11 M_10 _ _ _ hW (lv_sub hl [1, 2, 0] rfl) h

def lpX2_layLeast_2 (K : pd_M → Prop) : Nat → Int32 → pd_M → Prop
  | 0, _, _ => False
  | n + 1, v1, M => (((M.1 24 1) ≤ v1 → K M) ∧ (¬ (M.1 24 1) ≤ v1 → (∃ k_15 : Nat, lpX2_layLeast_15 (fun M_12 => wX1_setPriceOut (fun M_13 => wX1_add (fun M_14 => ∀ x1_15 : Int32, x1_15 = v1 + 1 → lpX2_layLeast_2 K n x1_15 M_14) v1 M_13) v1 M_12) v1 k_15 0 M)))

set_option maxRecDepth 100000 in
set_option maxHeartbeats 4000000 in
theorem stX2_layLeast_2 {p : Program} {l : Launch} {e : Env} {s : State} {m : MethodId} {args : Array Value} {below : List Frame} {meth : Method} {c : Code} {D : va_G} {g : pd_G} {t : Nat} {M0 : pd_M} {X : va_W} {A : Nat → Prop} {sz : Nat} {Q : pd_M → Prop} (C : pd_C p m c cX2_layLeast 3 s args RX2 meth (Option.none : Option FieldType)) (hA : A = va_A (pd_WL g M0 ++ X) sz) {K : pd_M → Prop}  (hK : ∀  (M : pd_M) (H : Heap) (locs : List Loc) (ls : Array Slot), pd_W D g t M X A s H locs → lv_has ls 3 [] → K  M → W p l e rX2_layLeast s m args below meth c H locs 0 0 (MQ below (pd_Qv D g M0 X sz Q) args s 0 0 (va_A (pd_WL g M0 ++ X) sz)) (F0 m 92 ls [])) :
    ∀ (n : Nat) (v1 : Int32) (M : pd_M) (H : Heap) (locs : List Loc) (ls : Array Slot), pd_W D g t M X A s H locs → lv_has ls 3 [(0, .ref (g.1 37)), (1, .int v1)] → lpX2_layLeast_2 K n v1 M → W p l e rX2_layLeast s m args below meth c H locs 0 0 (MQ below (pd_Qv D g M0 X sz Q) args s 0 0 (va_A (pd_WL g M0 ++ X) sz)) (F0 m 2 ls []) := by
  have hx := C.1.1
  have hb := C.1.2.1
  have hown := C.1.2.2.2.1
  have hts := C.1.2.2.2.2
  intro n
  induction n with
  | zero => intro v1 M H locs ls hW hl h; exact h.elim
  | succ n ih =>
    intro v1 M H locs ls hW hl h
    refine lv_iload_n hx hb dX2_layLeast_2 rfl (lv_at hl 1 rfl) ?_
    refine lv_aload_n hx hb dX2_layLeast_3 rfl (lv_at hl 0 rfl) ?_
    refine gf_X2_34 C hW dX2_layLeast_4 ?_
    refine gf_X2_63 C hW dX2_layLeast_7 ?_
    refine lv_icmp_ge (tgt := 92) hx hb dX2_layLeast_10 (by decide) (fun c_1 => ?_) (fun c_1 => ?_)
    · have h := h.1 c_1
      exact hK M _ _ _ hW (lv_sub hl [] rfl) h
    · have h := h.2 c_1
      refine lv_iconst (v := 0) hx hb dX2_layLeast_13 (by decide) ?_
      refine lv_istore_n (lv' := [(2, .int 0), (0, .ref (g.1 37)), (1, .int v1)]) hx hb dX2_layLeast_14 rfl hl (by decide) rfl (fun ls hl => ?_)
      obtain ⟨k_15, h⟩ := h
      refine stX2_layLeast_15 C hA (fun M_12 H locs ls hW hl h => ?_) k_15 0 M _ _ _ hW (lv_sub hl [1, 2, 0] rfl) h
      refine lv_aload_n hx hb dX2_layLeast_62 rfl (lv_at hl 0 rfl) ?_
      refine gf_X2_26 C hW dX2_layLeast_63 ?_
      refine lv_iload_n hx hb dX2_layLeast_66 rfl (lv_at hl 1 rfl) ?_
      refine cl_X2_108 C hW h ⟨by decide, by decide⟩ ⟨Nat.zero_le _, Nat.zero_le _⟩ hl.1 (by decide) dX2_layLeast_67 (fun M_13 H locs h hW => ?_)
      refine lv_aload_n hx hb dX2_layLeast_70 rfl (lv_at hl 0 rfl) ?_
      refine gf_X2_26 C hW dX2_layLeast_71 ?_
      refine lv_iload_n hx hb dX2_layLeast_74 rfl (lv_at hl 1 rfl) ?_
      refine lv_aload_n hx hb dX2_layLeast_75 rfl (lv_at hl 0 rfl) ?_
      refine gf_X2_9 C hW dX2_layLeast_76 ?_
      refine lv_aload_n hx hb dX2_layLeast_79 rfl (lv_at hl 0 rfl) ?_
      refine gf_X2_20 C hW dX2_layLeast_80 ?_
      refine cl_X2_111 C hW h ⟨by decide, by decide⟩ ⟨Nat.zero_le _, Nat.zero_le _⟩ hl.1 (by decide) dX2_layLeast_83 (fun M_14 H locs h hW => ?_)
      obtain ⟨x1_15, ex1_15⟩ : ∃ y : Int32, y = v1 + 1 := ⟨_, rfl⟩
      have h := h x1_15 ex1_15
      refine lv_iinc (v := x1_15) (lv' := [(1, .int x1_15), (0, .ref (g.1 37))]) hx hb dX2_layLeast_86 hl (k := 1) rfl (by rw [ex1_15]; rfl) (by decide) rfl (fun ls hl => ?_)
      refine lv_goto (tgt := 2) hx hb dX2_layLeast_89 (by decide) ?_
      exact ih x1_15 M_14 _ _ _ hW (lv_sub hl [1, 0] rfl) h

def wX2_layLeast (Q : pd_M → Prop) (M : pd_M) : Prop := (∃ k_2 : Nat, lpX2_layLeast_2 (fun M_16 => Q M_16) k_2 0 M)

set_option maxRecDepth 100000 in
set_option maxHeartbeats 4000000 in
theorem mX2_layLeast {l : Launch} {D : va_G} {g : pd_G} {t : Nat} {X : va_W} {Q : pd_M → Prop} {M : pd_M} {sz : Nat} (h : wX2_layLeast Q M) : Met l yX2_layLeast (Cond.code yX2_layLeast cX2_layLeast 3 (Option.none : Option FieldType) :: TB) rX2_layLeast (pd_Pre D g t M X sz [.ref (g.1 37)]) (pd_Qv D g M X sz Q) 0 0 (va_A (pd_WL g M ++ X) sz) := by
  refine pd_met (by decide) (Nat.le_of_ble_eq_true rfl) ?_
  intro p e s m below meth c A ls C hA hW hl
  have C : pd_C p m c cX2_layLeast 3 s _ RX2 meth (Option.none : Option FieldType) := C
  have hx := C.1.1
  have hb := C.1.2.1
  have hown := C.1.2.2.2.1
  have hts := C.1.2.2.2.2
  have hl : lv_has ls 3 [(0, .ref (g.1 37))] := hl
  refine lv_iconst (v := 0) hx hb dX2_layLeast_0 (by decide) ?_
  refine lv_istore_n (lv' := [(1, .int 0), (0, .ref (g.1 37))]) hx hb dX2_layLeast_1 rfl hl (by decide) rfl (fun ls hl => ?_)
  obtain ⟨k_2, h⟩ := h
  refine stX2_layLeast_2 C hA (fun M_16 H locs ls hW hl h => ?_) k_2 0 M _ _ _ hW (lv_sub hl [1, 0] rfl) h
  exact pd_vret C hA hW h dX2_layLeast_92

theorem dd_X2_layLeast : yX2_layLeast.cls ≠ "java/lang/invoke/MethodHandle" ∧ yX2_layLeast.cls ≠ "java/lang/invoke/VarHandle" ∧ (parseMethodDescriptor yX2_layLeast.desc).map (fun d => d.parameters.length) = some 0 := by decide +kernel
theorem cl_X2_45 {p : Program} {l : Launch} {e : Env} {R : Room} {s : State} {m : MethodId} {args : Array Value} {below : List Frame} {meth : Method} {c : Code} {H : Heap} {locs : List Loc} {cells slots : Nat} {QQ : State → Prop} {cc : ByteArray} {pc : Nat} {ls : Array Slot} {rest : List Value} {D : va_G} {g : pd_G} {t : Nat} {M : pd_M} {X : va_W} {A : Nat → Prop} {nL : Nat} {ret : Option FieldType} {Qc : pd_M → Prop} (C : pd_C p m c cc nL s args RX2 meth ret) (hW : pd_W D g t M X A s H locs) (h : wX2_layLeast Qc M) (hR : rX2_layLeast.frames + 1 ≤ R.frames ∧ 8 + (3 + 11) + rX2_layLeast.locals ≤ R.locals) (hcs : cells ≤ R.cells ∧ slots ≤ R.slots) (hls : ls.size = nL) (hw8 : (rest.map fun v => v.category).sum ≤ 8) (hdg : decode cc pc = .ok (.invokevirtual 45, 3))
    (kk : ∀ (M1 : pd_M) (H1 : Heap) (locs1 : List Loc), Qc M1 → pd_W D g t M1 X A s H1 locs1 → W p l e R s m args below meth c H1 locs1 cells slots QQ (F0 m (pc + 3) ls rest)) : W p l e R s m args below meth c H locs cells slots QQ (F0 m pc ls (.ref (g.1 37) :: rest)) :=
  pd_callVv (As := []) C hW (mX2_layLeast h) kd_37 rfl mM_X2_45 mO_yX2_layLeast mV_yX2_layLeast mI_X2 mC_yX2_layLeast dd_X2_layLeast ⟨rfl, rfl⟩ hR hcs hls rfl hw8 hdg kk
abbrev rX2_lay : Room := { frames := 4, cells := 0, slots := 0, locals := 92 }
def wX2_lay (Q : pd_M → Prop) (a1 : Int32) (a2 : Int32) (a3 : Int32) (M : pd_M) : Prop := wX2_openBays (fun M_1 => wX2_readRights (fun M_2 => ((a3 = 0 → wX2_comeHome (fun M_4 => Q M_4) M_2) ∧ (¬ a3 = 0 → wX2_layLeast (fun M_5 => Q M_5) M_2))) a2 M_1) a1 M

set_option maxRecDepth 100000 in
set_option maxHeartbeats 4000000 in
theorem mX2_lay {l : Launch} {D : va_G} {g : pd_G} {t : Nat} {X : va_W} {Q : pd_M → Prop} {a1 : Int32} {a2 : Int32} {a3 : Int32} {M : pd_M} {sz : Nat} (h : wX2_lay Q a1 a2 a3 M) : Met l yX2_lay (Cond.code yX2_lay cX2_lay 4 (Option.none : Option FieldType) :: TB) rX2_lay (pd_Pre D g t M X sz [.ref (g.1 37), .int a1, .int a2, .int a3]) (pd_Qv D g M X sz Q) 0 0 (va_A (pd_WL g M ++ X) sz) := by
  refine pd_met (by decide) (Nat.le_of_ble_eq_true rfl) ?_
  intro p e s m below meth c A ls C hA hW hl
  have C : pd_C p m c cX2_lay 4 s _ RX2 meth (Option.none : Option FieldType) := C
  have hx := C.1.1
  have hb := C.1.2.1
  have hown := C.1.2.2.2.1
  have hts := C.1.2.2.2.2
  have hl : lv_has ls 4 [(0, .ref (g.1 37)), (1, .int a1), (2, .int a2), (3, .int a3)] := hl
  refine lv_aload_n hx hb dX2_lay_0 rfl (lv_at hl 0 rfl) ?_
  refine lv_iload_n hx hb dX2_lay_1 rfl (lv_at hl 1 rfl) ?_
  refine cl_X2_38 C hW h ⟨by decide, by decide⟩ ⟨Nat.zero_le _, Nat.zero_le _⟩ hl.1 (by decide) dX2_lay_2 (fun M_1 H locs h hW => ?_)
  refine lv_aload_n hx hb dX2_lay_5 rfl (lv_at hl 0 rfl) ?_
  refine lv_iload_n hx hb dX2_lay_6 rfl (lv_at hl 2 rfl) ?_
  refine cl_X2_42 C hW h ⟨by decide, by decide⟩ ⟨Nat.zero_le _, Nat.zero_le _⟩ hl.1 (by decide) dX2_lay_7 (fun M_2 H locs h hW => ?_)
  refine lv_iload_n hx hb dX2_lay_10 rfl (lv_at hl 3 rfl) ?_
  refine lv_if_eq (tgt := 21) hx hb dX2_lay_11 (by decide) (fun c_3 => ?_) (fun c_3 => ?_)
  · have h := h.1 c_3
    refine lv_aload_n hx hb dX2_lay_21 rfl (lv_at hl 0 rfl) ?_
    refine cl_X2_48 C hW h ⟨by decide, by decide⟩ ⟨Nat.zero_le _, Nat.zero_le _⟩ hl.1 (by decide) dX2_lay_22 (fun M_4 H locs h hW => ?_)
    exact pd_vret C hA hW h dX2_lay_25
  · have h := h.2 c_3
    refine lv_aload_n hx hb dX2_lay_14 rfl (lv_at hl 0 rfl) ?_
    refine cl_X2_45 C hW h ⟨by decide, by decide⟩ ⟨Nat.zero_le _, Nat.zero_le _⟩ hl.1 (by decide) dX2_lay_15 (fun M_5 H locs h hW => ?_)
    refine lv_goto (tgt := 25) hx hb dX2_lay_18 (by decide) ?_
    exact pd_vret C hA hW h dX2_lay_25

theorem dd_X2_lay : yX2_lay.cls ≠ "java/lang/invoke/MethodHandle" ∧ yX2_lay.cls ≠ "java/lang/invoke/VarHandle" ∧ (parseMethodDescriptor yX2_lay.desc).map (fun d => d.parameters.length) = some 3 := by decide +kernel
theorem cl_X8_130 {p : Program} {l : Launch} {e : Env} {R : Room} {s : State} {m : MethodId} {args : Array Value} {below : List Frame} {meth : Method} {c : Code} {H : Heap} {locs : List Loc} {cells slots : Nat} {QQ : State → Prop} {cc : ByteArray} {pc : Nat} {ls : Array Slot} {rest : List Value} {D : va_G} {g : pd_G} {t : Nat} {M : pd_M} {X : va_W} {A : Nat → Prop} {nL : Nat} {ret : Option FieldType} {Qc : pd_M → Prop} {a1 : Int32} {a2 : Int32} {a3 : Int32} (C : pd_C p m c cc nL s args RX8 meth ret) (hW : pd_W D g t M X A s H locs) (h : wX2_lay Qc a1 a2 a3 M) (hR : rX2_lay.frames + 1 ≤ R.frames ∧ 8 + (4 + 11) + rX2_lay.locals ≤ R.locals) (hcs : cells ≤ R.cells ∧ slots ≤ R.slots) (hls : ls.size = nL) (hw8 : (rest.map fun v => v.category).sum ≤ 8) (hdg : decode cc pc = .ok (.invokevirtual 130, 3))
    (kk : ∀ (M1 : pd_M) (H1 : Heap) (locs1 : List Loc), Qc M1 → pd_W D g t M1 X A s H1 locs1 → W p l e R s m args below meth c H1 locs1 cells slots QQ (F0 m (pc + 3) ls rest)) : W p l e R s m args below meth c H locs cells slots QQ (F0 m pc ls (.int a3 :: .int a2 :: .int a1 :: .ref (g.1 37) :: rest)) :=
  pd_callVv (As := [.int a1, .int a2, .int a3]) C hW (mX2_lay h) kd_37 rfl mM_X8_130 mO_yX2_lay mV_yX2_lay mI_X2 mC_yX2_lay dd_X2_lay ⟨rfl, rfl⟩ hR hcs hls rfl hw8 hdg kk
abbrev rX2_standsByCard : Room := { frames := 0, cells := 0, slots := 0, locals := 0 }
def wX2_standsByCard (Q : Int32 → pd_M → Prop) (a1 : Int32) (M : pd_M) : Prop := (vp_in a1 7 ∧ (((M.1 38 a1.toNatClampNeg) = 5 → Q 0 M) ∧ (¬ (M.1 38 a1.toNatClampNeg) = 5 → (vp_in a1 7 ∧ (vp_in a1 7 ∧ (vp_in (M.1 38 a1.toNatClampNeg) 5 ∧ ((¬ (M.1 (40 + a1.toNatClampNeg) (M.1 38 a1.toNatClampNeg).toNatClampNeg) = 1 → Q 0 M) ∧ ((M.1 (40 + a1.toNatClampNeg) (M.1 38 a1.toNatClampNeg).toNatClampNeg) = 1 → Q 1 M))))))))

set_option maxRecDepth 100000 in
set_option maxHeartbeats 4000000 in
theorem mX2_standsByCard {l : Launch} {D : va_G} {g : pd_G} {t : Nat} {X : va_W} {Q : Int32 → pd_M → Prop} {a1 : Int32} {M : pd_M} {sz : Nat} (h : wX2_standsByCard Q a1 M) : Met l yX2_standsByCard (Cond.code yX2_standsByCard cX2_standsByCard 2 (Option.some FieldType.boolean) :: TB) rX2_standsByCard (pd_Pre D g t M X sz [.ref (g.1 37), .int a1]) (pd_Qi D g M X sz Q) 0 0 (va_A (pd_WL g M ++ X) sz) := by
  refine pd_met (by decide) (Nat.le_of_ble_eq_true rfl) ?_
  intro p e s m below meth c A ls C hA hW hl
  have C : pd_C p m c cX2_standsByCard 2 s _ RX2 meth (Option.some FieldType.boolean) := C
  have hx := C.1.1
  have hb := C.1.2.1
  have hown := C.1.2.2.2.1
  have hts := C.1.2.2.2.2
  have hl : lv_has ls 2 [(0, .ref (g.1 37)), (1, .int a1)] := hl
  refine lv_aload_n hx hb dX2_standsByCard_0 rfl (lv_at hl 0 rfl) ?_
  refine gf_X2_9 C hW dX2_standsByCard_1 ?_
  refine lv_iload_n hx hb dX2_standsByCard_4 rfl (lv_at hl 1 rfl) ?_
  have hi_1 := h.1
  have h := h.2
  refine pd_iald C hW kd_38 hi_1 dX2_standsByCard_5 ?_
  refine lv_iconst (v := 5) hx hb dX2_standsByCard_6 (by decide) ?_
  refine lv_icmp_eq (tgt := 31) hx hb dX2_standsByCard_7 (by decide) (fun c_2 => ?_) (fun c_2 => ?_)
  · have h := h.1 c_2
    refine lv_iconst (v := 0) hx hb dX2_standsByCard_31 (by decide) ?_
    exact pd_zret C hA hW rfl h dX2_standsByCard_32
  · have h := h.2 c_2
    refine lv_aload_n hx hb dX2_standsByCard_10 rfl (lv_at hl 0 rfl) ?_
    refine gf_X2_17 C hW dX2_standsByCard_11 ?_
    refine lv_iload_n hx hb dX2_standsByCard_14 rfl (lv_at hl 1 rfl) ?_
    have hi_3 := h.1
    have h := h.2
    refine pd_aald C hW kd_39 hi_3 dX2_standsByCard_15 ?_
    refine lv_aload_n hx hb dX2_standsByCard_16 rfl (lv_at hl 0 rfl) ?_
    refine gf_X2_9 C hW dX2_standsByCard_17 ?_
    refine lv_iload_n hx hb dX2_standsByCard_20 rfl (lv_at hl 1 rfl) ?_
    have hi_4 := h.1
    have h := h.2
    refine pd_iald C hW kd_38 hi_4 dX2_standsByCard_21 ?_
    have hi_5 := h.1
    have h := h.2
    refine pd_iald C hW (pd_k40 _ (pd_lt hi_3)) hi_5 dX2_standsByCard_22 ?_
    refine lv_iconst (v := 1) hx hb dX2_standsByCard_23 (by decide) ?_
    refine lv_icmp_ne (tgt := 31) hx hb dX2_standsByCard_24 (by decide) (fun c_6 => ?_) (fun c_6 => ?_)
    · have h := h.1 c_6
      refine lv_iconst (v := 0) hx hb dX2_standsByCard_31 (by decide) ?_
      exact pd_zret C hA hW rfl h dX2_standsByCard_32
    · have h := h.2 c_6
      refine lv_iconst (v := 1) hx hb dX2_standsByCard_27 (by decide) ?_
      refine lv_goto (tgt := 32) hx hb dX2_standsByCard_28 (by decide) ?_
      exact pd_zret C hA hW rfl h dX2_standsByCard_32

theorem dd_X2_standsByCard : yX2_standsByCard.cls ≠ "java/lang/invoke/MethodHandle" ∧ yX2_standsByCard.cls ≠ "java/lang/invoke/VarHandle" ∧ (parseMethodDescriptor yX2_standsByCard.desc).map (fun d => d.parameters.length) = some 1 := by decide +kernel
theorem cl_X2_118 {p : Program} {l : Launch} {e : Env} {R : Room} {s : State} {m : MethodId} {args : Array Value} {below : List Frame} {meth : Method} {c : Code} {H : Heap} {locs : List Loc} {cells slots : Nat} {QQ : State → Prop} {cc : ByteArray} {pc : Nat} {ls : Array Slot} {rest : List Value} {D : va_G} {g : pd_G} {t : Nat} {M : pd_M} {X : va_W} {A : Nat → Prop} {nL : Nat} {ret : Option FieldType} {Qc : Int32 → pd_M → Prop} {a1 : Int32} (C : pd_C p m c cc nL s args RX2 meth ret) (hW : pd_W D g t M X A s H locs) (h : wX2_standsByCard Qc a1 M) (hR : rX2_standsByCard.frames + 1 ≤ R.frames ∧ 8 + (2 + 11) + rX2_standsByCard.locals ≤ R.locals) (hcs : cells ≤ R.cells ∧ slots ≤ R.slots) (hls : ls.size = nL) (hw8 : (rest.map fun v => v.category).sum ≤ 8) (hdg : decode cc pc = .ok (.invokevirtual 118, 3))
    (kk : ∀ (r : Int32) (M1 : pd_M) (H1 : Heap) (locs1 : List Loc), Qc r M1 → pd_W D g t M1 X A s H1 locs1 → W p l e R s m args below meth c H1 locs1 cells slots QQ (F0 m (pc + 3) ls (.int r :: rest))) : W p l e R s m args below meth c H locs cells slots QQ (F0 m pc ls (.int a1 :: .ref (g.1 37) :: rest)) :=
  pd_callVi (As := [.int a1]) C hW (mX2_standsByCard h) kd_37 rfl mM_X2_118 mO_yX2_standsByCard mV_yX2_standsByCard mI_X2 mC_yX2_standsByCard dd_X2_standsByCard ⟨rfl, rfl⟩ hR hcs hls rfl hw8 hdg kk
abbrev rX2_tellOne : Room := { frames := 1, cells := 0, slots := 0, locals := 22 }
def wX2_tellOne (Q : Int32 → pd_M → Prop) (a1 : Int32) (a2 : Int32) (M : pd_M) : Prop := (vp_in a2 7 ∧ ((¬ (M.1 38 a2.toNatClampNeg) = 5 → ((¬ a1 = 0 → ((¬ a1 = 2 → Q 0 M) ∧ (a1 = 2 → wX2_standsByCard (fun r_6 M_5 => ((r_6 = 0 → Q 0 M_5) ∧ (¬ r_6 = 0 → Q 1 M_5))) a2 M))) ∧ (a1 = 0 → (vp_in a2 7 ∧ wX2_walkTo (fun r_10 M_9 => Q r_10 M_9) a2 (M.1 38 a2.toNatClampNeg) M)))) ∧ ((M.1 38 a2.toNatClampNeg) = 5 → ((¬ a1 = 1 → Q 0 M) ∧ (a1 = 1 → Q 1 M)))))

set_option maxRecDepth 100000 in
set_option maxHeartbeats 4000000 in
theorem mX2_tellOne {l : Launch} {D : va_G} {g : pd_G} {t : Nat} {X : va_W} {Q : Int32 → pd_M → Prop} {a1 : Int32} {a2 : Int32} {M : pd_M} {sz : Nat} (h : wX2_tellOne Q a1 a2 M) : Met l yX2_tellOne (Cond.code yX2_tellOne cX2_tellOne 3 (Option.some FieldType.int) :: TB) rX2_tellOne (pd_Pre D g t M X sz [.ref (g.1 37), .int a1, .int a2]) (pd_Qi D g M X sz Q) 0 0 (va_A (pd_WL g M ++ X) sz) := by
  refine pd_met (by decide) (Nat.le_of_ble_eq_true rfl) ?_
  intro p e s m below meth c A ls C hA hW hl
  have C : pd_C p m c cX2_tellOne 3 s _ RX2 meth (Option.some FieldType.int) := C
  have hx := C.1.1
  have hb := C.1.2.1
  have hown := C.1.2.2.2.1
  have hts := C.1.2.2.2.2
  have hl : lv_has ls 3 [(0, .ref (g.1 37)), (1, .int a1), (2, .int a2)] := hl
  refine lv_aload_n hx hb dX2_tellOne_0 rfl (lv_at hl 0 rfl) ?_
  refine gf_X2_9 C hW dX2_tellOne_1 ?_
  refine lv_iload_n hx hb dX2_tellOne_4 rfl (lv_at hl 2 rfl) ?_
  have hi_1 := h.1
  have h := h.2
  refine pd_iald C hW kd_38 hi_1 dX2_tellOne_5 ?_
  refine lv_iconst (v := 5) hx hb dX2_tellOne_6 (by decide) ?_
  refine lv_icmp_ne (tgt := 21) hx hb dX2_tellOne_7 (by decide) (fun c_2 => ?_) (fun c_2 => ?_)
  · have h := h.1 c_2
    refine lv_iload_n hx hb dX2_tellOne_21 rfl (lv_at hl 1 rfl) ?_
    refine lv_if_ne (tgt := 37) hx hb dX2_tellOne_22 (by decide) (fun c_3 => ?_) (fun c_3 => ?_)
    · have h := h.1 c_3
      refine lv_iload_n hx hb dX2_tellOne_37 rfl (lv_at hl 1 rfl) ?_
      refine lv_iconst (v := 2) hx hb dX2_tellOne_38 (by decide) ?_
      refine lv_icmp_ne (tgt := 54) hx hb dX2_tellOne_39 (by decide) (fun c_4 => ?_) (fun c_4 => ?_)
      · have h := h.1 c_4
        refine lv_iconst (v := 0) hx hb dX2_tellOne_54 (by decide) ?_
        exact pd_iret C hA hW h dX2_tellOne_55
      · have h := h.2 c_4
        refine lv_aload_n hx hb dX2_tellOne_42 rfl (lv_at hl 0 rfl) ?_
        refine lv_iload_n hx hb dX2_tellOne_43 rfl (lv_at hl 2 rfl) ?_
        refine cl_X2_118 C hW h ⟨by decide, by decide⟩ ⟨Nat.zero_le _, Nat.zero_le _⟩ hl.1 (Nat.le_of_ble_eq_true rfl) dX2_tellOne_44 (fun r_6 M_5 H locs h hW => ?_)
        refine lv_if_eq (tgt := 54) hx hb dX2_tellOne_47 (by decide) (fun c_7 => ?_) (fun c_7 => ?_)
        · have h := h.1 c_7
          refine lv_iconst (v := 0) hx hb dX2_tellOne_54 (by decide) ?_
          exact pd_iret C hA hW h dX2_tellOne_55
        · have h := h.2 c_7
          refine lv_iconst (v := 1) hx hb dX2_tellOne_50 (by decide) ?_
          refine lv_goto (tgt := 55) hx hb dX2_tellOne_51 (by decide) ?_
          exact pd_iret C hA hW h dX2_tellOne_55
    · have h := h.2 c_3
      refine lv_aload_n hx hb dX2_tellOne_25 rfl (lv_at hl 0 rfl) ?_
      refine lv_iload_n hx hb dX2_tellOne_26 rfl (lv_at hl 2 rfl) ?_
      refine lv_aload_n hx hb dX2_tellOne_27 rfl (lv_at hl 0 rfl) ?_
      refine gf_X2_9 C hW dX2_tellOne_28 ?_
      refine lv_iload_n hx hb dX2_tellOne_31 rfl (lv_at hl 2 rfl) ?_
      have hi_8 := h.1
      have h := h.2
      refine pd_iald C hW kd_38 hi_8 dX2_tellOne_32 ?_
      refine cl_X2_87 C hW h ⟨by decide, by decide⟩ ⟨Nat.zero_le _, Nat.zero_le _⟩ hl.1 (Nat.le_of_ble_eq_true rfl) dX2_tellOne_33 (fun r_10 M_9 H locs h hW => ?_)
      exact pd_iret C hA hW h dX2_tellOne_36
  · have h := h.2 c_2
    refine lv_iload_n hx hb dX2_tellOne_10 rfl (lv_at hl 1 rfl) ?_
    refine lv_iconst (v := 1) hx hb dX2_tellOne_11 (by decide) ?_
    refine lv_icmp_ne (tgt := 19) hx hb dX2_tellOne_12 (by decide) (fun c_11 => ?_) (fun c_11 => ?_)
    · have h := h.1 c_11
      refine lv_iconst (v := 0) hx hb dX2_tellOne_19 (by decide) ?_
      exact pd_iret C hA hW h dX2_tellOne_20
    · have h := h.2 c_11
      refine lv_iconst (v := 1) hx hb dX2_tellOne_15 (by decide) ?_
      refine lv_goto (tgt := 20) hx hb dX2_tellOne_16 (by decide) ?_
      exact pd_iret C hA hW h dX2_tellOne_20

theorem dd_X2_tellOne : yX2_tellOne.cls ≠ "java/lang/invoke/MethodHandle" ∧ yX2_tellOne.cls ≠ "java/lang/invoke/VarHandle" ∧ (parseMethodDescriptor yX2_tellOne.desc).map (fun d => d.parameters.length) = some 2 := by decide +kernel
theorem cl_X2_115 {p : Program} {l : Launch} {e : Env} {R : Room} {s : State} {m : MethodId} {args : Array Value} {below : List Frame} {meth : Method} {c : Code} {H : Heap} {locs : List Loc} {cells slots : Nat} {QQ : State → Prop} {cc : ByteArray} {pc : Nat} {ls : Array Slot} {rest : List Value} {D : va_G} {g : pd_G} {t : Nat} {M : pd_M} {X : va_W} {A : Nat → Prop} {nL : Nat} {ret : Option FieldType} {Qc : Int32 → pd_M → Prop} {a1 : Int32} {a2 : Int32} (C : pd_C p m c cc nL s args RX2 meth ret) (hW : pd_W D g t M X A s H locs) (h : wX2_tellOne Qc a1 a2 M) (hR : rX2_tellOne.frames + 1 ≤ R.frames ∧ 8 + (3 + 11) + rX2_tellOne.locals ≤ R.locals) (hcs : cells ≤ R.cells ∧ slots ≤ R.slots) (hls : ls.size = nL) (hw8 : (rest.map fun v => v.category).sum ≤ 8) (hdg : decode cc pc = .ok (.invokevirtual 115, 3))
    (kk : ∀ (r : Int32) (M1 : pd_M) (H1 : Heap) (locs1 : List Loc), Qc r M1 → pd_W D g t M1 X A s H1 locs1 → W p l e R s m args below meth c H1 locs1 cells slots QQ (F0 m (pc + 3) ls (.int r :: rest))) : W p l e R s m args below meth c H locs cells slots QQ (F0 m pc ls (.int a2 :: .int a1 :: .ref (g.1 37) :: rest)) :=
  pd_callVi (As := [.int a1, .int a2]) C hW (mX2_tellOne h) kd_37 rfl mM_X2_115 mO_yX2_tellOne mV_yX2_tellOne mI_X2 mC_yX2_tellOne dd_X2_tellOne ⟨rfl, rfl⟩ hR hcs hls rfl hw8 hdg kk
abbrev rX2_tell : Room := { frames := 2, cells := 0, slots := 0, locals := 44 }
def lpX2_tell_4 (K : Int32 → pd_M → Prop) (f1 : Int32) : Nat → Int32 → Int32 → pd_M → Prop
  | 0, _, _, _ => False
  | n + 1, v2, v3, M => (((M.1 24 1) ≤ v3 → K v2 M) ∧ (¬ (M.1 24 1) ≤ v3 → wX2_tellOne (fun r_3 M_2 => ∀ x2_4 : Int32, x2_4 = (v2 + r_3) → ∀ x3_5 : Int32, x3_5 = v3 + 1 → lpX2_tell_4 K f1 n x2_4 x3_5 M_2) f1 v3 M))

set_option maxRecDepth 100000 in
set_option maxHeartbeats 4000000 in
theorem stX2_tell_4 {p : Program} {l : Launch} {e : Env} {s : State} {m : MethodId} {args : Array Value} {below : List Frame} {meth : Method} {c : Code} {D : va_G} {g : pd_G} {t : Nat} {M0 : pd_M} {X : va_W} {A : Nat → Prop} {sz : Nat} {Q : Int32 → pd_M → Prop} (C : pd_C p m c cX2_tell 4 s args RX2 meth (Option.some FieldType.int)) (hA : A = va_A (pd_WL g M0 ++ X) sz) {K : Int32 → pd_M → Prop} {f1 : Int32}  (hK : ∀ (p2 : Int32) (M : pd_M) (H : Heap) (locs : List Loc) (ls : Array Slot), pd_W D g t M X A s H locs → lv_has ls 4 [(2, .int p2)] → K p2 M → W p l e rX2_tell s m args below meth c H locs 0 0 (MQ below (pd_Qi D g M0 X sz Q) args s 0 0 (va_A (pd_WL g M0 ++ X) sz)) (F0 m 30 ls [])) :
    ∀ (n : Nat) (v2 : Int32) (v3 : Int32) (M : pd_M) (H : Heap) (locs : List Loc) (ls : Array Slot), pd_W D g t M X A s H locs → lv_has ls 4 [(0, .ref (g.1 37)), (1, .int f1), (2, .int v2), (3, .int v3)] → lpX2_tell_4 K f1 n v2 v3 M → W p l e rX2_tell s m args below meth c H locs 0 0 (MQ below (pd_Qi D g M0 X sz Q) args s 0 0 (va_A (pd_WL g M0 ++ X) sz)) (F0 m 4 ls []) := by
  have hx := C.1.1
  have hb := C.1.2.1
  have hown := C.1.2.2.2.1
  have hts := C.1.2.2.2.2
  intro n
  induction n with
  | zero => intro v2 v3 M H locs ls hW hl h; exact h.elim
  | succ n ih =>
    intro v2 v3 M H locs ls hW hl h
    refine lv_iload_n hx hb dX2_tell_4 rfl (lv_at hl 3 rfl) ?_
    refine lv_aload_n hx hb dX2_tell_5 rfl (lv_at hl 0 rfl) ?_
    refine gf_X2_34 C hW dX2_tell_6 ?_
    refine gf_X2_63 C hW dX2_tell_9 ?_
    refine lv_icmp_ge (tgt := 30) hx hb dX2_tell_12 (by decide) (fun c_1 => ?_) (fun c_1 => ?_)
    · have h := h.1 c_1
      exact hK v2 M _ _ _ hW (lv_sub hl [2] rfl) h
    · have h := h.2 c_1
      refine lv_iload_n hx hb dX2_tell_15 rfl (lv_at hl 2 rfl) ?_
      refine lv_aload_n hx hb dX2_tell_16 rfl (lv_at hl 0 rfl) ?_
      refine lv_iload_n hx hb dX2_tell_17 rfl (lv_at hl 1 rfl) ?_
      refine lv_iload_n hx hb dX2_tell_18 rfl (lv_at hl 3 rfl) ?_
      refine cl_X2_115 C hW h ⟨by decide, by decide⟩ ⟨Nat.zero_le _, Nat.zero_le _⟩ hl.1 (Nat.le_of_ble_eq_true rfl) dX2_tell_19 (fun r_3 M_2 H locs h hW => ?_)
      refine lv_iadd hx hb dX2_tell_22 ?_
      refine lv_topi (fun x2_4 ex2_4 => ?_)
      have h := h x2_4 ex2_4
      refine lv_istore_n (lv' := [(2, .int x2_4), (0, .ref (g.1 37)), (1, .int f1), (3, .int v3)]) hx hb dX2_tell_23 rfl hl (by decide) rfl (fun ls hl => ?_)
      obtain ⟨x3_5, ex3_5⟩ : ∃ y : Int32, y = v3 + 1 := ⟨_, rfl⟩
      have h := h x3_5 ex3_5
      refine lv_iinc (v := x3_5) (lv' := [(3, .int x3_5), (2, .int x2_4), (0, .ref (g.1 37)), (1, .int f1)]) hx hb dX2_tell_24 hl (k := 3) rfl (by rw [ex3_5]; rfl) (by decide) rfl (fun ls hl => ?_)
      refine lv_goto (tgt := 4) hx hb dX2_tell_27 (by decide) ?_
      exact ih x2_4 x3_5 M_2 _ _ _ hW (lv_sub hl [2, 3, 1, 0] rfl) h

def wX2_tell (Q : Int32 → pd_M → Prop) (a1 : Int32) (M : pd_M) : Prop := (∃ k_4 : Nat, lpX2_tell_4 (fun x2_7 M_6 => Q x2_7 M_6) a1 k_4 0 0 M)

set_option maxRecDepth 100000 in
set_option maxHeartbeats 4000000 in
theorem mX2_tell {l : Launch} {D : va_G} {g : pd_G} {t : Nat} {X : va_W} {Q : Int32 → pd_M → Prop} {a1 : Int32} {M : pd_M} {sz : Nat} (h : wX2_tell Q a1 M) : Met l yX2_tell (Cond.code yX2_tell cX2_tell 4 (Option.some FieldType.int) :: TB) rX2_tell (pd_Pre D g t M X sz [.ref (g.1 37), .int a1]) (pd_Qi D g M X sz Q) 0 0 (va_A (pd_WL g M ++ X) sz) := by
  refine pd_met (by decide) (Nat.le_of_ble_eq_true rfl) ?_
  intro p e s m below meth c A ls C hA hW hl
  have C : pd_C p m c cX2_tell 4 s _ RX2 meth (Option.some FieldType.int) := C
  have hx := C.1.1
  have hb := C.1.2.1
  have hown := C.1.2.2.2.1
  have hts := C.1.2.2.2.2
  have hl : lv_has ls 4 [(0, .ref (g.1 37)), (1, .int a1)] := hl
  refine lv_iconst (v := 0) hx hb dX2_tell_0 (by decide) ?_
  refine lv_istore_n (lv' := [(2, .int 0), (0, .ref (g.1 37)), (1, .int a1)]) hx hb dX2_tell_1 rfl hl (by decide) rfl (fun ls hl => ?_)
  refine lv_iconst (v := 0) hx hb dX2_tell_2 (by decide) ?_
  refine lv_istore_n (lv' := [(3, .int 0), (2, .int 0), (0, .ref (g.1 37)), (1, .int a1)]) hx hb dX2_tell_3 rfl hl (by decide) rfl (fun ls hl => ?_)
  obtain ⟨k_4, h⟩ := h
  refine stX2_tell_4 C hA (fun x2_7 M_6 H locs ls hW hl h => ?_) k_4 0 0 M _ _ _ hW (lv_sub hl [2, 3, 1, 0] rfl) h
  refine lv_iload_n hx hb dX2_tell_30 rfl (lv_at hl 0 rfl) ?_
  exact pd_iret C hA hW h dX2_tell_31

theorem dd_X2_tell : yX2_tell.cls ≠ "java/lang/invoke/MethodHandle" ∧ yX2_tell.cls ≠ "java/lang/invoke/VarHandle" ∧ (parseMethodDescriptor yX2_tell.desc).map (fun d => d.parameters.length) = some 1 := by decide +kernel
theorem cl_X8_137 {p : Program} {l : Launch} {e : Env} {R : Room} {s : State} {m : MethodId} {args : Array Value} {below : List Frame} {meth : Method} {c : Code} {H : Heap} {locs : List Loc} {cells slots : Nat} {QQ : State → Prop} {cc : ByteArray} {pc : Nat} {ls : Array Slot} {rest : List Value} {D : va_G} {g : pd_G} {t : Nat} {M : pd_M} {X : va_W} {A : Nat → Prop} {nL : Nat} {ret : Option FieldType} {Qc : Int32 → pd_M → Prop} {a1 : Int32} (C : pd_C p m c cc nL s args RX8 meth ret) (hW : pd_W D g t M X A s H locs) (h : wX2_tell Qc a1 M) (hR : rX2_tell.frames + 1 ≤ R.frames ∧ 8 + (4 + 11) + rX2_tell.locals ≤ R.locals) (hcs : cells ≤ R.cells ∧ slots ≤ R.slots) (hls : ls.size = nL) (hw8 : (rest.map fun v => v.category).sum ≤ 8) (hdg : decode cc pc = .ok (.invokevirtual 137, 3))
    (kk : ∀ (r : Int32) (M1 : pd_M) (H1 : Heap) (locs1 : List Loc), Qc r M1 → pd_W D g t M1 X A s H1 locs1 → W p l e R s m args below meth c H1 locs1 cells slots QQ (F0 m (pc + 3) ls (.int r :: rest))) : W p l e R s m args below meth c H locs cells slots QQ (F0 m pc ls (.int a1 :: .ref (g.1 37) :: rest)) :=
  pd_callVi (As := [.int a1]) C hW (mX2_tell h) kd_37 rfl mM_X8_137 mO_yX2_tell mV_yX2_tell mI_X2 mC_yX2_tell dd_X2_tell ⟨rfl, rfl⟩ hR hcs hls rfl hw8 hdg kk
abbrev rX2_useCards : Room := { frames := 1, cells := 0, slots := 0, locals := 21 }
def lpX2_useCards_4 (K : Int32 → pd_M → Prop) : Nat → Int32 → Int32 → pd_M → Prop
  | 0, _, _, _ => False
  | n + 1, v1, v2, M => (((M.1 24 1) ≤ v2 → K v1 M) ∧ (¬ (M.1 24 1) ≤ v2 → wX2_standsByCard (fun r_3 M_2 => ((r_3 = 0 → ∀ x2_5 : Int32, x2_5 = v2 + 1 → lpX2_useCards_4 K n v1 x2_5 M_2) ∧ (¬ r_3 = 0 → (vp_in v2 7 ∧ (vp_in v2 7 ∧ (vp_in (M_2.1 38 v2.toNatClampNeg) 5 ∧ (vp_in (M_2.1 9 (M_2.1 38 v2.toNatClampNeg).toNatClampNeg) 4 ∧ (vp_in (M_2.1 9 (M_2.1 38 v2.toNatClampNeg).toNatClampNeg) 4 ∧ ∀ M_11 : pd_M, M_11 = sI M_2 (29 + v2.toNatClampNeg) (M_2.1 9 (M_2.1 38 v2.toNatClampNeg).toNatClampNeg).toNatClampNeg ((M_2.1 (29 + v2.toNatClampNeg) (M_2.1 9 (M_2.1 38 v2.toNatClampNeg).toNatClampNeg).toNatClampNeg) - 1) → ∀ x1_12 : Int32, x1_12 = v1 + 1 → ∀ x2_13 : Int32, x2_13 = v2 + 1 → lpX2_useCards_4 K n x1_12 x2_13 M_11)))))))) v2 M))

set_option maxRecDepth 100000 in
set_option maxHeartbeats 4000000 in
theorem stX2_useCards_4 {p : Program} {l : Launch} {e : Env} {s : State} {m : MethodId} {args : Array Value} {below : List Frame} {meth : Method} {c : Code} {D : va_G} {g : pd_G} {t : Nat} {M0 : pd_M} {X : va_W} {A : Nat → Prop} {sz : Nat} {Q : Int32 → pd_M → Prop} (C : pd_C p m c cX2_useCards 3 s args RX2 meth (Option.some FieldType.int)) (hA : A = va_A (pd_WL g M0 ++ X) sz) {K : Int32 → pd_M → Prop}  (hK : ∀ (p1 : Int32) (M : pd_M) (H : Heap) (locs : List Loc) (ls : Array Slot), pd_W D g t M X A s H locs → lv_has ls 3 [(1, .int p1)] → K p1 M → W p l e rX2_useCards s m args below meth c H locs 0 0 (MQ below (pd_Qi D g M0 X sz Q) args s 0 0 (va_A (pd_WL g M0 ++ X) sz)) (F0 m 60 ls [])) :
    ∀ (n : Nat) (v1 : Int32) (v2 : Int32) (M : pd_M) (H : Heap) (locs : List Loc) (ls : Array Slot), pd_W D g t M X A s H locs → lv_has ls 3 [(0, .ref (g.1 37)), (1, .int v1), (2, .int v2)] → lpX2_useCards_4 K n v1 v2 M → W p l e rX2_useCards s m args below meth c H locs 0 0 (MQ below (pd_Qi D g M0 X sz Q) args s 0 0 (va_A (pd_WL g M0 ++ X) sz)) (F0 m 4 ls []) := by
  have hx := C.1.1
  have hb := C.1.2.1
  have hown := C.1.2.2.2.1
  have hts := C.1.2.2.2.2
  intro n
  induction n with
  | zero => intro v1 v2 M H locs ls hW hl h; exact h.elim
  | succ n ih =>
    intro v1 v2 M H locs ls hW hl h
    refine lv_iload_n hx hb dX2_useCards_4 rfl (lv_at hl 2 rfl) ?_
    refine lv_aload_n hx hb dX2_useCards_5 rfl (lv_at hl 0 rfl) ?_
    refine gf_X2_34 C hW dX2_useCards_6 ?_
    refine gf_X2_63 C hW dX2_useCards_9 ?_
    refine lv_icmp_ge (tgt := 60) hx hb dX2_useCards_12 (by decide) (fun c_1 => ?_) (fun c_1 => ?_)
    · have h := h.1 c_1
      exact hK v1 M _ _ _ hW (lv_sub hl [1] rfl) h
    · have h := h.2 c_1
      refine lv_aload_n hx hb dX2_useCards_15 rfl (lv_at hl 0 rfl) ?_
      refine lv_iload_n hx hb dX2_useCards_16 rfl (lv_at hl 2 rfl) ?_
      refine cl_X2_118 C hW h ⟨by decide, by decide⟩ ⟨Nat.zero_le _, Nat.zero_le _⟩ hl.1 (Nat.le_of_ble_eq_true rfl) dX2_useCards_17 (fun r_3 M_2 H locs h hW => ?_)
      refine lv_if_eq (tgt := 54) hx hb dX2_useCards_20 (by decide) (fun c_4 => ?_) (fun c_4 => ?_)
      · have h := h.1 c_4
        obtain ⟨x2_5, ex2_5⟩ : ∃ y : Int32, y = v2 + 1 := ⟨_, rfl⟩
        have h := h x2_5 ex2_5
        refine lv_iinc (v := x2_5) (lv' := [(2, .int x2_5), (0, .ref (g.1 37)), (1, .int v1)]) hx hb dX2_useCards_54 hl (k := 2) rfl (by rw [ex2_5]; rfl) (by decide) rfl (fun ls hl => ?_)
        refine lv_goto (tgt := 4) hx hb dX2_useCards_57 (by decide) ?_
        exact ih v1 x2_5 M_2 _ _ _ hW (lv_sub hl [1, 2, 0] rfl) h
      · have h := h.2 c_4
        refine lv_aload_n hx hb dX2_useCards_23 rfl (lv_at hl 0 rfl) ?_
        refine gf_X2_34 C hW dX2_useCards_24 ?_
        refine gf_X2_122 C hW dX2_useCards_27 ?_
        refine lv_iload_n hx hb dX2_useCards_30 rfl (lv_at hl 2 rfl) ?_
        have hi_6 := h.1
        have h := h.2
        refine pd_aald C hW kd_28 hi_6 dX2_useCards_31 ?_
        refine lv_aload_n hx hb dX2_useCards_32 rfl (lv_at hl 0 rfl) ?_
        refine gf_X2_30 C hW dX2_useCards_33 ?_
        refine gf_X2_66 C hW dX2_useCards_36 ?_
        refine lv_aload_n hx hb dX2_useCards_39 rfl (lv_at hl 0 rfl) ?_
        refine gf_X2_9 C hW dX2_useCards_40 ?_
        refine lv_iload_n hx hb dX2_useCards_43 rfl (lv_at hl 2 rfl) ?_
        have hi_7 := h.1
        have h := h.2
        refine pd_iald C hW kd_38 hi_7 dX2_useCards_44 ?_
        have hi_8 := h.1
        have h := h.2
        refine pd_iald C hW kd_9 hi_8 dX2_useCards_45 ?_
        refine lv_dup2_11 hx hb dX2_useCards_46 rfl rfl ?_
        have hi_9 := h.1
        have h := h.2
        refine pd_iald C hW (pd_k29 _ (pd_lt hi_6)) hi_9 dX2_useCards_47 ?_
        refine lv_iconst (v := 1) hx hb dX2_useCards_48 (by decide) ?_
        refine lv_isub hx hb dX2_useCards_49 ?_
        have hi_10 := h.1
        have h := h.2
        refine pd_iast C hW (pd_k29 _ (pd_lt hi_6)) hi_10 dX2_useCards_50 (fun M_11 H locs eM_11 hW => ?_)
        have h := h M_11 eM_11
        obtain ⟨x1_12, ex1_12⟩ : ∃ y : Int32, y = v1 + 1 := ⟨_, rfl⟩
        have h := h x1_12 ex1_12
        refine lv_iinc (v := x1_12) (lv' := [(1, .int x1_12), (0, .ref (g.1 37)), (2, .int v2)]) hx hb dX2_useCards_51 hl (k := 1) rfl (by rw [ex1_12]; rfl) (by decide) rfl (fun ls hl => ?_)
        obtain ⟨x2_13, ex2_13⟩ : ∃ y : Int32, y = v2 + 1 := ⟨_, rfl⟩
        have h := h x2_13 ex2_13
        refine lv_iinc (v := x2_13) (lv' := [(2, .int x2_13), (1, .int x1_12), (0, .ref (g.1 37))]) hx hb dX2_useCards_54 hl (k := 2) rfl (by rw [ex2_13]; rfl) (by decide) rfl (fun ls hl => ?_)
        refine lv_goto (tgt := 4) hx hb dX2_useCards_57 (by decide) ?_
        exact ih x1_12 x2_13 M_11 _ _ _ hW (lv_sub hl [2, 1, 0] rfl) h

def wX2_useCards (Q : Int32 → pd_M → Prop) (M : pd_M) : Prop := (∃ k_4 : Nat, lpX2_useCards_4 (fun x1_15 M_14 => Q x1_15 M_14) k_4 0 0 M)

set_option maxRecDepth 100000 in
set_option maxHeartbeats 4000000 in
theorem mX2_useCards {l : Launch} {D : va_G} {g : pd_G} {t : Nat} {X : va_W} {Q : Int32 → pd_M → Prop} {M : pd_M} {sz : Nat} (h : wX2_useCards Q M) : Met l yX2_useCards (Cond.code yX2_useCards cX2_useCards 3 (Option.some FieldType.int) :: TB) rX2_useCards (pd_Pre D g t M X sz [.ref (g.1 37)]) (pd_Qi D g M X sz Q) 0 0 (va_A (pd_WL g M ++ X) sz) := by
  refine pd_met (by decide) (Nat.le_of_ble_eq_true rfl) ?_
  intro p e s m below meth c A ls C hA hW hl
  have C : pd_C p m c cX2_useCards 3 s _ RX2 meth (Option.some FieldType.int) := C
  have hx := C.1.1
  have hb := C.1.2.1
  have hown := C.1.2.2.2.1
  have hts := C.1.2.2.2.2
  have hl : lv_has ls 3 [(0, .ref (g.1 37))] := hl
  refine lv_iconst (v := 0) hx hb dX2_useCards_0 (by decide) ?_
  refine lv_istore_n (lv' := [(1, .int 0), (0, .ref (g.1 37))]) hx hb dX2_useCards_1 rfl hl (by decide) rfl (fun ls hl => ?_)
  refine lv_iconst (v := 0) hx hb dX2_useCards_2 (by decide) ?_
  refine lv_istore_n (lv' := [(2, .int 0), (1, .int 0), (0, .ref (g.1 37))]) hx hb dX2_useCards_3 rfl hl (by decide) rfl (fun ls hl => ?_)
  obtain ⟨k_4, h⟩ := h
  refine stX2_useCards_4 C hA (fun x1_15 M_14 H locs ls hW hl h => ?_) k_4 0 0 M _ _ _ hW (lv_sub hl [2, 1, 0] rfl) h
  refine lv_iload_n hx hb dX2_useCards_60 rfl (lv_at hl 0 rfl) ?_
  exact pd_iret C hA hW h dX2_useCards_61

theorem dd_X2_useCards : yX2_useCards.cls ≠ "java/lang/invoke/MethodHandle" ∧ yX2_useCards.cls ≠ "java/lang/invoke/VarHandle" ∧ (parseMethodDescriptor yX2_useCards.desc).map (fun d => d.parameters.length) = some 0 := by decide +kernel
theorem cl_X8_140 {p : Program} {l : Launch} {e : Env} {R : Room} {s : State} {m : MethodId} {args : Array Value} {below : List Frame} {meth : Method} {c : Code} {H : Heap} {locs : List Loc} {cells slots : Nat} {QQ : State → Prop} {cc : ByteArray} {pc : Nat} {ls : Array Slot} {rest : List Value} {D : va_G} {g : pd_G} {t : Nat} {M : pd_M} {X : va_W} {A : Nat → Prop} {nL : Nat} {ret : Option FieldType} {Qc : Int32 → pd_M → Prop} (C : pd_C p m c cc nL s args RX8 meth ret) (hW : pd_W D g t M X A s H locs) (h : wX2_useCards Qc M) (hR : rX2_useCards.frames + 1 ≤ R.frames ∧ 8 + (3 + 11) + rX2_useCards.locals ≤ R.locals) (hcs : cells ≤ R.cells ∧ slots ≤ R.slots) (hls : ls.size = nL) (hw8 : (rest.map fun v => v.category).sum ≤ 8) (hdg : decode cc pc = .ok (.invokevirtual 140, 3))
    (kk : ∀ (r : Int32) (M1 : pd_M) (H1 : Heap) (locs1 : List Loc), Qc r M1 → pd_W D g t M1 X A s H1 locs1 → W p l e R s m args below meth c H1 locs1 cells slots QQ (F0 m (pc + 3) ls (.int r :: rest))) : W p l e R s m args below meth c H locs cells slots QQ (F0 m pc ls (.ref (g.1 37) :: rest)) :=
  pd_callVi (As := []) C hW (mX2_useCards h) kd_37 rfl mM_X8_140 mO_yX2_useCards mV_yX2_useCards mI_X2 mC_yX2_useCards dd_X2_useCards ⟨rfl, rfl⟩ hR hcs hls rfl hw8 hdg kk
