abbrev rX0_permitBit : Room := { frames := 0, cells := 0, slots := 0, locals := 0 }
def wX0_permitBit (Q : Int32 → pd_M → Prop) (a0 : Int32) (a1 : Int32) (M : pd_M) : Prop := Q ((1 : Int32) <<< (((a1 * 3) + a0) &&& 31)) M

set_option maxRecDepth 100000 in
set_option maxHeartbeats 4000000 in
theorem mX0_permitBit {l : Launch} {D : va_G} {g : pd_G} {t : Nat} {X : va_W} {Q : Int32 → pd_M → Prop} {a0 : Int32} {a1 : Int32} {M : pd_M} {sz : Nat} (h : wX0_permitBit Q a0 a1 M) : Met l yX0_permitBit (Cond.code yX0_permitBit cX0_permitBit 2 (Option.some FieldType.int) :: TB) rX0_permitBit (pd_Pre D g t M X sz [.int a0, .int a1]) (pd_Qi D g M X sz Q) 0 0 (va_A (pd_WL g M ++ X) sz) := by
  refine pd_met (by decide) (Nat.le_of_ble_eq_true rfl) ?_
  intro p e s m below meth c A ls C hA hW hl
  have C : pd_C p m c cX0_permitBit 2 s _ RX0 meth (Option.some FieldType.int) := C
  have hx := C.1.1
  have hb := C.1.2.1
  have hown := C.1.2.2.2.1
  have hts := C.1.2.2.2.2
  have hl : lv_has ls 2 [(0, .int a0), (1, .int a1)] := hl
  refine lv_iconst (v := 1) hx hb dX0_permitBit_0 (by decide) ?_
  refine lv_iload_n hx hb dX0_permitBit_1 rfl (lv_at hl 1 rfl) ?_
  refine lv_iconst (v := 3) hx hb dX0_permitBit_2 (by decide) ?_
  refine lv_imul hx hb dX0_permitBit_3 ?_
  refine lv_iload_n hx hb dX0_permitBit_4 rfl (lv_at hl 0 rfl) ?_
  refine lv_iadd hx hb dX0_permitBit_5 ?_
  refine lv_ishl hx hb dX0_permitBit_6 ?_
  exact pd_iret C hA hW h dX0_permitBit_7

theorem dd_X0_permitBit : yX0_permitBit.cls ≠ "java/lang/invoke/MethodHandle" ∧ yX0_permitBit.cls ≠ "java/lang/invoke/VarHandle" ∧ (parseMethodDescriptor yX0_permitBit.desc).map (fun d => d.parameters.length) = some 2 := by decide +kernel
theorem cl_X0_37 {p : Program} {l : Launch} {e : Env} {R : Room} {s : State} {m : MethodId} {args : Array Value} {below : List Frame} {meth : Method} {c : Code} {H : Heap} {locs : List Loc} {cells slots : Nat} {QQ : State → Prop} {cc : ByteArray} {pc : Nat} {ls : Array Slot} {rest : List Value} {D : va_G} {g : pd_G} {t : Nat} {M : pd_M} {X : va_W} {A : Nat → Prop} {nL : Nat} {ret : Option FieldType} {Qc : Int32 → pd_M → Prop} {a0 : Int32} {a1 : Int32} (C : pd_C p m c cc nL s args RX0 meth ret) (hW : pd_W D g t M X A s H locs) (h : wX0_permitBit Qc a0 a1 M) (hR : rX0_permitBit.frames + 1 ≤ R.frames ∧ 8 + (2 + 11) + rX0_permitBit.locals ≤ R.locals) (hcs : cells ≤ R.cells ∧ slots ≤ R.slots) (hls : ls.size = nL) (hw8 : (rest.map fun v => v.category).sum ≤ 8) (hdg : decode cc pc = .ok (.invokestatic 37, 3))
    (kk : ∀ (r : Int32) (M1 : pd_M) (H1 : Heap) (locs1 : List Loc), Qc r M1 → pd_W D g t M1 X A s H1 locs1 → W p l e R s m args below meth c H1 locs1 cells slots QQ (F0 m (pc + 3) ls (.int r :: rest))) : W p l e R s m args below meth c H locs cells slots QQ (F0 m pc ls (.int a1 :: .int a0 :: rest)) :=
  pd_callSi (As := [.int a0, .int a1]) C hW (mX0_permitBit h) mM_X0_37 mS_yX0_permitBit mI_X0 mC_yX0_permitBit dd_X0_permitBit ⟨rfl, rfl⟩ hR hcs hls rfl hw8 hdg kk
abbrev rX0_hasPermit : Room := { frames := 1, cells := 0, slots := 0, locals := 21 }
def wX0_hasPermit (Q : Int32 → pd_M → Prop) (a1 : Int32) (a2 : Int32) (a3 : Int32) (M : pd_M) : Prop := (vp_in a1 7 ∧ wX0_permitBit (fun r_3 M_2 => ((((M.1 27 a1.toNatClampNeg) &&& r_3) = 0 → Q 0 M_2) ∧ (¬ ((M.1 27 a1.toNatClampNeg) &&& r_3) = 0 → Q 1 M_2))) a2 a3 M)

set_option maxRecDepth 100000 in
set_option maxHeartbeats 4000000 in
theorem mX0_hasPermit {l : Launch} {D : va_G} {g : pd_G} {t : Nat} {X : va_W} {Q : Int32 → pd_M → Prop} {a1 : Int32} {a2 : Int32} {a3 : Int32} {M : pd_M} {sz : Nat} (h : wX0_hasPermit Q a1 a2 a3 M) : Met l yX0_hasPermit (Cond.code yX0_hasPermit cX0_hasPermit 4 (Option.some FieldType.boolean) :: TB) rX0_hasPermit (pd_Pre D g t M X sz [.ref (g.1 24), .int a1, .int a2, .int a3]) (pd_Qi D g M X sz Q) 0 0 (va_A (pd_WL g M ++ X) sz) := by
  refine pd_met (by decide) (Nat.le_of_ble_eq_true rfl) ?_
  intro p e s m below meth c A ls C hA hW hl
  have C : pd_C p m c cX0_hasPermit 4 s _ RX0 meth (Option.some FieldType.boolean) := C
  have hx := C.1.1
  have hb := C.1.2.1
  have hown := C.1.2.2.2.1
  have hts := C.1.2.2.2.2
  have hl : lv_has ls 4 [(0, .ref (g.1 24)), (1, .int a1), (2, .int a2), (3, .int a3)] := hl
  refine lv_aload_n hx hb dX0_hasPermit_0 rfl (lv_at hl 0 rfl) ?_
  refine gf_X0_22 C hW dX0_hasPermit_1 ?_
  refine lv_iload_n hx hb dX0_hasPermit_4 rfl (lv_at hl 1 rfl) ?_
  have hi_1 := h.1
  have h := h.2
  refine pd_iald C hW kd_27 hi_1 dX0_hasPermit_5 ?_
  refine lv_iload_n hx hb dX0_hasPermit_6 rfl (lv_at hl 2 rfl) ?_
  refine lv_iload_n hx hb dX0_hasPermit_7 rfl (lv_at hl 3 rfl) ?_
  refine cl_X0_37 C hW h ⟨by decide, by decide⟩ ⟨Nat.zero_le _, Nat.zero_le _⟩ hl.1 (Nat.le_of_ble_eq_true rfl) dX0_hasPermit_8 (fun r_3 M_2 H locs h hW => ?_)
  refine lv_iand hx hb dX0_hasPermit_11 ?_
  refine lv_if_eq (tgt := 19) hx hb dX0_hasPermit_12 (by decide) (fun c_4 => ?_) (fun c_4 => ?_)
  · have h := h.1 c_4
    refine lv_iconst (v := 0) hx hb dX0_hasPermit_19 (by decide) ?_
    exact pd_zret C hA hW rfl h dX0_hasPermit_20
  · have h := h.2 c_4
    refine lv_iconst (v := 1) hx hb dX0_hasPermit_15 (by decide) ?_
    refine lv_goto (tgt := 20) hx hb dX0_hasPermit_16 (by decide) ?_
    exact pd_zret C hA hW rfl h dX0_hasPermit_20

theorem dd_X0_hasPermit : yX0_hasPermit.cls ≠ "java/lang/invoke/MethodHandle" ∧ yX0_hasPermit.cls ≠ "java/lang/invoke/VarHandle" ∧ (parseMethodDescriptor yX0_hasPermit.desc).map (fun d => d.parameters.length) = some 3 := by decide +kernel
theorem cl_X0_41 {p : Program} {l : Launch} {e : Env} {R : Room} {s : State} {m : MethodId} {args : Array Value} {below : List Frame} {meth : Method} {c : Code} {H : Heap} {locs : List Loc} {cells slots : Nat} {QQ : State → Prop} {cc : ByteArray} {pc : Nat} {ls : Array Slot} {rest : List Value} {D : va_G} {g : pd_G} {t : Nat} {M : pd_M} {X : va_W} {A : Nat → Prop} {nL : Nat} {ret : Option FieldType} {Qc : Int32 → pd_M → Prop} {a1 : Int32} {a2 : Int32} {a3 : Int32} (C : pd_C p m c cc nL s args RX0 meth ret) (hW : pd_W D g t M X A s H locs) (h : wX0_hasPermit Qc a1 a2 a3 M) (hR : rX0_hasPermit.frames + 1 ≤ R.frames ∧ 8 + (4 + 11) + rX0_hasPermit.locals ≤ R.locals) (hcs : cells ≤ R.cells ∧ slots ≤ R.slots) (hls : ls.size = nL) (hw8 : (rest.map fun v => v.category).sum ≤ 8) (hdg : decode cc pc = .ok (.invokevirtual 41, 3))
    (kk : ∀ (r : Int32) (M1 : pd_M) (H1 : Heap) (locs1 : List Loc), Qc r M1 → pd_W D g t M1 X A s H1 locs1 → W p l e R s m args below meth c H1 locs1 cells slots QQ (F0 m (pc + 3) ls (.int r :: rest))) : W p l e R s m args below meth c H locs cells slots QQ (F0 m pc ls (.int a3 :: .int a2 :: .int a1 :: .ref (g.1 24) :: rest)) :=
  pd_callVi (As := [.int a1, .int a2, .int a3]) C hW (mX0_hasPermit h) kd_24 rfl mM_X0_41 mO_yX0_hasPermit mV_yX0_hasPermit mI_X0 mC_yX0_hasPermit dd_X0_hasPermit ⟨rfl, rfl⟩ hR hcs hls rfl hw8 hdg kk
abbrev rX0_setPermit : Room := { frames := 2, cells := 0, slots := 0, locals := 44 }
def wX0_setPermit (Q : Int32 → pd_M → Prop) (a1 : Int32) (a2 : Int32) (a3 : Int32) (a4 : Int32) (M : pd_M) : Prop := wX0_hasPermit (fun r_2 M_1 => ((¬ r_2 = a4 → (vp_in a1 7 ∧ wX0_permitBit (fun r_6 M_5 => (vp_in a1 7 ∧ ∀ M_8 : pd_M, M_8 = sI M_5 27 a1.toNatClampNeg ((M_1.1 27 a1.toNatClampNeg) ^^^ r_6) → Q 1 M_8)) a2 a3 M_1)) ∧ (r_2 = a4 → Q 0 M_1))) a1 a2 a3 M

set_option maxRecDepth 100000 in
set_option maxHeartbeats 4000000 in
theorem mX0_setPermit {l : Launch} {D : va_G} {g : pd_G} {t : Nat} {X : va_W} {Q : Int32 → pd_M → Prop} {a1 : Int32} {a2 : Int32} {a3 : Int32} {a4 : Int32} {M : pd_M} {sz : Nat} (h : wX0_setPermit Q a1 a2 a3 a4 M) : Met l yX0_setPermit (Cond.code yX0_setPermit cX0_setPermit 5 (Option.some FieldType.boolean) :: TB) rX0_setPermit (pd_Pre D g t M X sz [.ref (g.1 24), .int a1, .int a2, .int a3, .int a4]) (pd_Qi D g M X sz Q) 0 0 (va_A (pd_WL g M ++ X) sz) := by
  refine pd_met (by decide) (Nat.le_of_ble_eq_true rfl) ?_
  intro p e s m below meth c A ls C hA hW hl
  have C : pd_C p m c cX0_setPermit 5 s _ RX0 meth (Option.some FieldType.boolean) := C
  have hx := C.1.1
  have hb := C.1.2.1
  have hown := C.1.2.2.2.1
  have hts := C.1.2.2.2.2
  have hl : lv_has ls 5 [(0, .ref (g.1 24)), (1, .int a1), (2, .int a2), (3, .int a3), (4, .int a4)] := hl
  refine lv_aload_n hx hb dX0_setPermit_0 rfl (lv_at hl 0 rfl) ?_
  refine lv_iload_n hx hb dX0_setPermit_1 rfl (lv_at hl 1 rfl) ?_
  refine lv_iload_n hx hb dX0_setPermit_2 rfl (lv_at hl 2 rfl) ?_
  refine lv_iload_n hx hb dX0_setPermit_3 rfl (lv_at hl 3 rfl) ?_
  refine cl_X0_41 C hW h ⟨by decide, by decide⟩ ⟨Nat.zero_le _, Nat.zero_le _⟩ hl.1 (Nat.le_of_ble_eq_true rfl) dX0_setPermit_4 (fun r_2 M_1 H locs h hW => ?_)
  refine lv_iload hx hb dX0_setPermit_7 (lv_at hl 4 rfl) ?_
  refine lv_icmp_ne (tgt := 14) hx hb dX0_setPermit_9 (by decide) (fun c_3 => ?_) (fun c_3 => ?_)
  · have h := h.1 c_3
    refine lv_aload_n hx hb dX0_setPermit_14 rfl (lv_at hl 0 rfl) ?_
    refine gf_X0_22 C hW dX0_setPermit_15 ?_
    refine lv_iload_n hx hb dX0_setPermit_18 rfl (lv_at hl 1 rfl) ?_
    refine lv_dup2_11 hx hb dX0_setPermit_19 rfl rfl ?_
    have hi_4 := h.1
    have h := h.2
    refine pd_iald C hW kd_27 hi_4 dX0_setPermit_20 ?_
    refine lv_iload_n hx hb dX0_setPermit_21 rfl (lv_at hl 2 rfl) ?_
    refine lv_iload_n hx hb dX0_setPermit_22 rfl (lv_at hl 3 rfl) ?_
    refine cl_X0_37 C hW h ⟨by decide, by decide⟩ ⟨Nat.zero_le _, Nat.zero_le _⟩ hl.1 (Nat.le_of_ble_eq_true rfl) dX0_setPermit_23 (fun r_6 M_5 H locs h hW => ?_)
    refine lv_ixor hx hb dX0_setPermit_26 ?_
    have hi_7 := h.1
    have h := h.2
    refine pd_iast C hW kd_27 hi_7 dX0_setPermit_27 (fun M_8 H locs eM_8 hW => ?_)
    have h := h M_8 eM_8
    refine lv_iconst (v := 1) hx hb dX0_setPermit_28 (by decide) ?_
    exact pd_zret C hA hW rfl h dX0_setPermit_29
  · have h := h.2 c_3
    refine lv_iconst (v := 0) hx hb dX0_setPermit_12 (by decide) ?_
    exact pd_zret C hA hW rfl h dX0_setPermit_13

theorem dd_X0_setPermit : yX0_setPermit.cls ≠ "java/lang/invoke/MethodHandle" ∧ yX0_setPermit.cls ≠ "java/lang/invoke/VarHandle" ∧ (parseMethodDescriptor yX0_setPermit.desc).map (fun d => d.parameters.length) = some 4 := by decide +kernel
theorem cl_X8_110 {p : Program} {l : Launch} {e : Env} {R : Room} {s : State} {m : MethodId} {args : Array Value} {below : List Frame} {meth : Method} {c : Code} {H : Heap} {locs : List Loc} {cells slots : Nat} {QQ : State → Prop} {cc : ByteArray} {pc : Nat} {ls : Array Slot} {rest : List Value} {D : va_G} {g : pd_G} {t : Nat} {M : pd_M} {X : va_W} {A : Nat → Prop} {nL : Nat} {ret : Option FieldType} {Qc : Int32 → pd_M → Prop} {a1 : Int32} {a2 : Int32} {a3 : Int32} {a4 : Int32} (C : pd_C p m c cc nL s args RX8 meth ret) (hW : pd_W D g t M X A s H locs) (h : wX0_setPermit Qc a1 a2 a3 a4 M) (hR : rX0_setPermit.frames + 1 ≤ R.frames ∧ 8 + (5 + 11) + rX0_setPermit.locals ≤ R.locals) (hcs : cells ≤ R.cells ∧ slots ≤ R.slots) (hls : ls.size = nL) (hw8 : (rest.map fun v => v.category).sum ≤ 8) (hdg : decode cc pc = .ok (.invokevirtual 110, 3))
    (kk : ∀ (r : Int32) (M1 : pd_M) (H1 : Heap) (locs1 : List Loc), Qc r M1 → pd_W D g t M1 X A s H1 locs1 → W p l e R s m args below meth c H1 locs1 cells slots QQ (F0 m (pc + 3) ls (.int r :: rest))) : W p l e R s m args below meth c H locs cells slots QQ (F0 m pc ls (.int a4 :: .int a3 :: .int a2 :: .int a1 :: .ref (g.1 24) :: rest)) :=
  pd_callVi (As := [.int a1, .int a2, .int a3, .int a4]) C hW (mX0_setPermit h) kd_24 rfl mM_X8_110 mO_yX0_setPermit mV_yX0_setPermit mI_X0 mC_yX0_setPermit dd_X0_setPermit ⟨rfl, rfl⟩ hR hcs hls rfl hw8 hdg kk
abbrev rX0_right : Room := { frames := 2, cells := 0, slots := 0, locals := 44 }
def lpX0_right_17 (Q : Int32 → pd_M → Prop) (K : pd_M → Prop) (f1 : Int32) (f2 : Int32) (f3 : Int32) : Nat → Int32 → pd_M → Prop
  | 0, _, _ => False
  | n + 1, v4, M => ((3 ≤ v4 → K M) ∧ (¬ 3 ≤ v4 → wX0_hasPermit (fun r_6 M_5 => ((r_6 = 0 → ∀ x4_8 : Int32, x4_8 = v4 + 1 → lpX0_right_17 Q K f1 f2 f3 n x4_8 M_5) ∧ (¬ r_6 = 0 → wX7_isGood (fun r_10 M_9 => ((r_10 = 0 → ∀ x4_12 : Int32, x4_12 = v4 + 1 → lpX0_right_17 Q K f1 f2 f3 n x4_12 M_9) ∧ (¬ r_10 = 0 → Q 2 M_9))) f2 v4 f3 M_5))) f1 v4 f2 M))

set_option maxRecDepth 100000 in
set_option maxHeartbeats 4000000 in
theorem stX0_right_17 {p : Program} {l : Launch} {e : Env} {s : State} {m : MethodId} {args : Array Value} {below : List Frame} {meth : Method} {c : Code} {D : va_G} {g : pd_G} {t : Nat} {M0 : pd_M} {X : va_W} {A : Nat → Prop} {sz : Nat} {Q : Int32 → pd_M → Prop} (C : pd_C p m c cX0_right 5 s args RX0 meth (Option.some FieldType.int)) (hA : A = va_A (pd_WL g M0 ++ X) sz) {K : pd_M → Prop} {f1 : Int32} {f2 : Int32} {f3 : Int32}  (hK : ∀  (M : pd_M) (H : Heap) (locs : List Loc) (ls : Array Slot), pd_W D g t M X A s H locs → lv_has ls 5 [(0, .ref (g.1 24)), (1, .int f1), (2, .int f2)] → K  M → W p l e rX0_right s m args below meth c H locs 0 0 (MQ below (pd_Qi D g M0 X sz Q) args s 0 0 (va_A (pd_WL g M0 ++ X) sz)) (F0 m 56 ls [])) :
    ∀ (n : Nat) (v4 : Int32) (M : pd_M) (H : Heap) (locs : List Loc) (ls : Array Slot), pd_W D g t M X A s H locs → lv_has ls 5 [(0, .ref (g.1 24)), (1, .int f1), (2, .int f2), (3, .int f3), (4, .int v4)] → lpX0_right_17 Q K f1 f2 f3 n v4 M → W p l e rX0_right s m args below meth c H locs 0 0 (MQ below (pd_Qi D g M0 X sz Q) args s 0 0 (va_A (pd_WL g M0 ++ X) sz)) (F0 m 17 ls []) := by
  have hx := C.1.1
  have hb := C.1.2.1
  have hown := C.1.2.2.2.1
  have hts := C.1.2.2.2.2
  intro n
  induction n with
  | zero => intro v4 M H locs ls hW hl h; exact h.elim
  | succ n ih =>
    intro v4 M H locs ls hW hl h
    refine lv_iload hx hb dX0_right_17 (lv_at hl 4 rfl) ?_
    refine lv_iconst (v := 3) hx hb dX0_right_19 (by decide) ?_
    refine lv_icmp_ge (tgt := 56) hx hb dX0_right_20 (by decide) (fun c_4 => ?_) (fun c_4 => ?_)
    · have h := h.1 c_4
      exact hK M _ _ _ hW (lv_sub hl [0, 1, 2] rfl) h
    · have h := h.2 c_4
      refine lv_aload_n hx hb dX0_right_23 rfl (lv_at hl 0 rfl) ?_
      refine lv_iload_n hx hb dX0_right_24 rfl (lv_at hl 1 rfl) ?_
      refine lv_iload hx hb dX0_right_25 (lv_at hl 4 rfl) ?_
      refine lv_iload_n hx hb dX0_right_27 rfl (lv_at hl 2 rfl) ?_
      refine cl_X0_41 C hW h ⟨by decide, by decide⟩ ⟨Nat.zero_le _, Nat.zero_le _⟩ hl.1 (Nat.le_of_ble_eq_true rfl) dX0_right_28 (fun r_6 M_5 H locs h hW => ?_)
      refine lv_if_eq (tgt := 50) hx hb dX0_right_31 (by decide) (fun c_7 => ?_) (fun c_7 => ?_)
      · have h := h.1 c_7
        obtain ⟨x4_8, ex4_8⟩ : ∃ y : Int32, y = v4 + 1 := ⟨_, rfl⟩
        have h := h x4_8 ex4_8
        refine lv_iinc (v := x4_8) (lv' := [(4, .int x4_8), (0, .ref (g.1 24)), (1, .int f1), (2, .int f2), (3, .int f3)]) hx hb dX0_right_50 hl (k := 4) rfl (by rw [ex4_8]; rfl) (by decide) rfl (fun ls hl => ?_)
        refine lv_goto (tgt := 17) hx hb dX0_right_53 (by decide) ?_
        exact ih x4_8 M_5 _ _ _ hW (lv_sub hl [1, 2, 3, 4, 0] rfl) h
      · have h := h.2 c_7
        refine lv_aload_n hx hb dX0_right_34 rfl (lv_at hl 0 rfl) ?_
        refine gf_X0_33 C hW dX0_right_35 ?_
        refine lv_iload_n hx hb dX0_right_38 rfl (lv_at hl 2 rfl) ?_
        refine lv_iload hx hb dX0_right_39 (lv_at hl 4 rfl) ?_
        refine lv_iload_n hx hb dX0_right_41 rfl (lv_at hl 3 rfl) ?_
        refine cl_X0_51 C hW h ⟨by decide, by decide⟩ ⟨Nat.zero_le _, Nat.zero_le _⟩ hl.1 (Nat.le_of_ble_eq_true rfl) dX0_right_42 (fun r_10 M_9 H locs h hW => ?_)
        refine lv_if_eq (tgt := 50) hx hb dX0_right_45 (by decide) (fun c_11 => ?_) (fun c_11 => ?_)
        · have h := h.1 c_11
          obtain ⟨x4_12, ex4_12⟩ : ∃ y : Int32, y = v4 + 1 := ⟨_, rfl⟩
          have h := h x4_12 ex4_12
          refine lv_iinc (v := x4_12) (lv' := [(4, .int x4_12), (0, .ref (g.1 24)), (1, .int f1), (2, .int f2), (3, .int f3)]) hx hb dX0_right_50 hl (k := 4) rfl (by rw [ex4_12]; rfl) (by decide) rfl (fun ls hl => ?_)
          refine lv_goto (tgt := 17) hx hb dX0_right_53 (by decide) ?_
          exact ih x4_12 M_9 _ _ _ hW (lv_sub hl [1, 2, 3, 4, 0] rfl) h
        · have h := h.2 c_11
          refine lv_iconst (v := 2) hx hb dX0_right_48 (by decide) ?_
          exact pd_iret C hA hW h dX0_right_49

def wX0_right (Q : Int32 → pd_M → Prop) (a1 : Int32) (a2 : Int32) (a3 : Int32) (M : pd_M) : Prop := wX7_isRuled (fun r_2 M_1 => ((¬ r_2 = 0 → (∃ k_17 : Nat, lpX0_right_17 Q (fun M_13 => (vp_in a1 7 ∧ (vp_in a2 4 ∧ (((M_13.1 (29 + a1.toNatClampNeg) a2.toNatClampNeg) ≤ 0 → Q 0 M_13) ∧ (¬ (M_13.1 (29 + a1.toNatClampNeg) a2.toNatClampNeg) ≤ 0 → Q 1 M_13))))) a1 a2 a3 k_17 0 M_1)) ∧ (r_2 = 0 → Q 2 M_1))) a2 a3 M

set_option maxRecDepth 100000 in
set_option maxHeartbeats 4000000 in
theorem mX0_right {l : Launch} {D : va_G} {g : pd_G} {t : Nat} {X : va_W} {Q : Int32 → pd_M → Prop} {a1 : Int32} {a2 : Int32} {a3 : Int32} {M : pd_M} {sz : Nat} (h : wX0_right Q a1 a2 a3 M) : Met l yX0_right (Cond.code yX0_right cX0_right 5 (Option.some FieldType.int) :: TB) rX0_right (pd_Pre D g t M X sz [.ref (g.1 24), .int a1, .int a2, .int a3]) (pd_Qi D g M X sz Q) 0 0 (va_A (pd_WL g M ++ X) sz) := by
  refine pd_met (by decide) (Nat.le_of_ble_eq_true rfl) ?_
  intro p e s m below meth c A ls C hA hW hl
  have C : pd_C p m c cX0_right 5 s _ RX0 meth (Option.some FieldType.int) := C
  have hx := C.1.1
  have hb := C.1.2.1
  have hown := C.1.2.2.2.1
  have hts := C.1.2.2.2.2
  have hl : lv_has ls 5 [(0, .ref (g.1 24)), (1, .int a1), (2, .int a2), (3, .int a3)] := hl
  refine lv_aload_n hx hb dX0_right_0 rfl (lv_at hl 0 rfl) ?_
  refine gf_X0_33 C hW dX0_right_1 ?_
  refine lv_iload_n hx hb dX0_right_4 rfl (lv_at hl 2 rfl) ?_
  refine lv_iload_n hx hb dX0_right_5 rfl (lv_at hl 3 rfl) ?_
  refine cl_X0_45 C hW h ⟨by decide, by decide⟩ ⟨Nat.zero_le _, Nat.zero_le _⟩ hl.1 (Nat.le_of_ble_eq_true rfl) dX0_right_6 (fun r_2 M_1 H locs h hW => ?_)
  refine lv_if_ne (tgt := 14) hx hb dX0_right_9 (by decide) (fun c_3 => ?_) (fun c_3 => ?_)
  · have h := h.1 c_3
    refine lv_iconst (v := 0) hx hb dX0_right_14 (by decide) ?_
    refine lv_istore (lv' := [(4, .int 0), (0, .ref (g.1 24)), (1, .int a1), (2, .int a2), (3, .int a3)]) hx hb dX0_right_15 hl (by decide) rfl (fun ls hl => ?_)
    obtain ⟨k_17, h⟩ := h
    refine stX0_right_17 C hA (fun M_13 H locs ls hW hl h => ?_) k_17 0 M_1 _ _ _ hW (lv_sub hl [1, 2, 3, 4, 0] rfl) h
    refine lv_aload_n hx hb dX0_right_56 rfl (lv_at hl 0 rfl) ?_
    refine gf_X0_27 C hW dX0_right_57 ?_
    refine lv_iload_n hx hb dX0_right_60 rfl (lv_at hl 1 rfl) ?_
    have hi_14 := h.1
    have h := h.2
    refine pd_aald C hW kd_28 hi_14 dX0_right_61 ?_
    refine lv_iload_n hx hb dX0_right_62 rfl (lv_at hl 2 rfl) ?_
    have hi_15 := h.1
    have h := h.2
    refine pd_iald C hW (pd_k29 _ (pd_lt hi_14)) hi_15 dX0_right_63 ?_
    refine lv_if_le (tgt := 71) hx hb dX0_right_64 (by decide) (fun c_16 => ?_) (fun c_16 => ?_)
    · have h := h.1 c_16
      refine lv_iconst (v := 0) hx hb dX0_right_71 (by decide) ?_
      exact pd_iret C hA hW h dX0_right_72
    · have h := h.2 c_16
      refine lv_iconst (v := 1) hx hb dX0_right_67 (by decide) ?_
      refine lv_goto (tgt := 72) hx hb dX0_right_68 (by decide) ?_
      exact pd_iret C hA hW h dX0_right_72
  · have h := h.2 c_3
    refine lv_iconst (v := 2) hx hb dX0_right_12 (by decide) ?_
    exact pd_iret C hA hW h dX0_right_13

theorem dd_X0_right : yX0_right.cls ≠ "java/lang/invoke/MethodHandle" ∧ yX0_right.cls ≠ "java/lang/invoke/VarHandle" ∧ (parseMethodDescriptor yX0_right.desc).map (fun d => d.parameters.length) = some 3 := by decide +kernel
theorem cl_X2_69 {p : Program} {l : Launch} {e : Env} {R : Room} {s : State} {m : MethodId} {args : Array Value} {below : List Frame} {meth : Method} {c : Code} {H : Heap} {locs : List Loc} {cells slots : Nat} {QQ : State → Prop} {cc : ByteArray} {pc : Nat} {ls : Array Slot} {rest : List Value} {D : va_G} {g : pd_G} {t : Nat} {M : pd_M} {X : va_W} {A : Nat → Prop} {nL : Nat} {ret : Option FieldType} {Qc : Int32 → pd_M → Prop} {a1 : Int32} {a2 : Int32} {a3 : Int32} (C : pd_C p m c cc nL s args RX2 meth ret) (hW : pd_W D g t M X A s H locs) (h : wX0_right Qc a1 a2 a3 M) (hR : rX0_right.frames + 1 ≤ R.frames ∧ 8 + (5 + 11) + rX0_right.locals ≤ R.locals) (hcs : cells ≤ R.cells ∧ slots ≤ R.slots) (hls : ls.size = nL) (hw8 : (rest.map fun v => v.category).sum ≤ 8) (hdg : decode cc pc = .ok (.invokevirtual 69, 3))
    (kk : ∀ (r : Int32) (M1 : pd_M) (H1 : Heap) (locs1 : List Loc), Qc r M1 → pd_W D g t M1 X A s H1 locs1 → W p l e R s m args below meth c H1 locs1 cells slots QQ (F0 m (pc + 3) ls (.int r :: rest))) : W p l e R s m args below meth c H locs cells slots QQ (F0 m pc ls (.int a3 :: .int a2 :: .int a1 :: .ref (g.1 24) :: rest)) :=
  pd_callVi (As := [.int a1, .int a2, .int a3]) C hW (mX0_right h) kd_24 rfl mM_X2_69 mO_yX0_right mV_yX0_right mI_X0 mC_yX0_right dd_X0_right ⟨rfl, rfl⟩ hR hcs hls rfl hw8 hdg kk
theorem cl_X8_126 {p : Program} {l : Launch} {e : Env} {R : Room} {s : State} {m : MethodId} {args : Array Value} {below : List Frame} {meth : Method} {c : Code} {H : Heap} {locs : List Loc} {cells slots : Nat} {QQ : State → Prop} {cc : ByteArray} {pc : Nat} {ls : Array Slot} {rest : List Value} {D : va_G} {g : pd_G} {t : Nat} {M : pd_M} {X : va_W} {A : Nat → Prop} {nL : Nat} {ret : Option FieldType} {Qc : Int32 → pd_M → Prop} {a1 : Int32} {a2 : Int32} {a3 : Int32} (C : pd_C p m c cc nL s args RX8 meth ret) (hW : pd_W D g t M X A s H locs) (h : wX0_right Qc a1 a2 a3 M) (hR : rX0_right.frames + 1 ≤ R.frames ∧ 8 + (5 + 11) + rX0_right.locals ≤ R.locals) (hcs : cells ≤ R.cells ∧ slots ≤ R.slots) (hls : ls.size = nL) (hw8 : (rest.map fun v => v.category).sum ≤ 8) (hdg : decode cc pc = .ok (.invokevirtual 126, 3))
    (kk : ∀ (r : Int32) (M1 : pd_M) (H1 : Heap) (locs1 : List Loc), Qc r M1 → pd_W D g t M1 X A s H1 locs1 → W p l e R s m args below meth c H1 locs1 cells slots QQ (F0 m (pc + 3) ls (.int r :: rest))) : W p l e R s m args below meth c H locs cells slots QQ (F0 m pc ls (.int a3 :: .int a2 :: .int a1 :: .ref (g.1 24) :: rest)) :=
  pd_callVi (As := [.int a1, .int a2, .int a3]) C hW (mX0_right h) kd_24 rfl mM_X8_126 mO_yX0_right mV_yX0_right mI_X0 mC_yX0_right dd_X0_right ⟨rfl, rfl⟩ hR hcs hls rfl hw8 hdg kk
abbrev rX0_add : Room := { frames := 0, cells := 0, slots := 0, locals := 0 }
def wX0_add (Q : Int32 → pd_M → Prop) (a1 : Int32) (M : pd_M) : Prop := (((M.1 24 1) < 7 → (vp_in (M.1 24 1) 7 ∧ ∀ M_3 : pd_M, M_3 = sI M 25 (M.1 24 1).toNatClampNeg a1 → (vp_in (M_3.1 24 1) 7 ∧ ∀ M_5 : pd_M, M_5 = sI M_3 26 (M_3.1 24 1).toNatClampNeg 99 → (vp_in (M_5.1 24 1) 7 ∧ ∀ M_7 : pd_M, M_7 = sI M_5 36 (M_5.1 24 1).toNatClampNeg (M_5.1 24 1) → ∀ M_8 : pd_M, M_8 = sI M_7 24 1 ((M_7.1 24 1) + 1) → Q ((M_8.1 24 1) - 1) M_8)))) ∧ (¬ (M.1 24 1) < 7 → Q (-2) M))

set_option maxRecDepth 100000 in
set_option maxHeartbeats 4000000 in
theorem mX0_add {l : Launch} {D : va_G} {g : pd_G} {t : Nat} {X : va_W} {Q : Int32 → pd_M → Prop} {a1 : Int32} {M : pd_M} {sz : Nat} (h : wX0_add Q a1 M) : Met l yX0_add (Cond.code yX0_add cX0_add 2 (Option.some FieldType.int) :: TB) rX0_add (pd_Pre D g t M X sz [.ref (g.1 24), .int a1]) (pd_Qi D g M X sz Q) 0 0 (va_A (pd_WL g M ++ X) sz) := by
  refine pd_met (by decide) (Nat.le_of_ble_eq_true rfl) ?_
  intro p e s m below meth c A ls C hA hW hl
  have C : pd_C p m c cX0_add 2 s _ RX0 meth (Option.some FieldType.int) := C
  have hx := C.1.1
  have hb := C.1.2.1
  have hown := C.1.2.2.2.1
  have hts := C.1.2.2.2.2
  have hl : lv_has ls 2 [(0, .ref (g.1 24)), (1, .int a1)] := hl
  refine lv_aload_n hx hb dX0_add_0 rfl (lv_at hl 0 rfl) ?_
  refine gf_X0_9 C hW dX0_add_1 ?_
  refine lv_bipush (v := 7) hx hb dX0_add_4 (by decide) ?_
  refine lv_icmp_lt (tgt := 12) hx hb dX0_add_6 (by decide) (fun c_1 => ?_) (fun c_1 => ?_)
  · have h := h.1 c_1
    refine lv_aload_n hx hb dX0_add_12 rfl (lv_at hl 0 rfl) ?_
    refine gf_X0_15 C hW dX0_add_13 ?_
    refine lv_aload_n hx hb dX0_add_16 rfl (lv_at hl 0 rfl) ?_
    refine gf_X0_9 C hW dX0_add_17 ?_
    refine lv_iload_n hx hb dX0_add_20 rfl (lv_at hl 1 rfl) ?_
    have hi_2 := h.1
    have h := h.2
    refine pd_iast C hW kd_25 hi_2 dX0_add_21 (fun M_3 H locs eM_3 hW => ?_)
    have h := h M_3 eM_3
    refine lv_aload_n hx hb dX0_add_22 rfl (lv_at hl 0 rfl) ?_
    refine gf_X0_19 C hW dX0_add_23 ?_
    refine lv_aload_n hx hb dX0_add_26 rfl (lv_at hl 0 rfl) ?_
    refine gf_X0_9 C hW dX0_add_27 ?_
    refine lv_bipush (v := 99) hx hb dX0_add_30 (by decide) ?_
    have hi_4 := h.1
    have h := h.2
    refine pd_iast C hW kd_26 hi_4 dX0_add_32 (fun M_5 H locs eM_5 hW => ?_)
    have h := h M_5 eM_5
    refine lv_aload_n hx hb dX0_add_33 rfl (lv_at hl 0 rfl) ?_
    refine gf_X0_30 C hW dX0_add_34 ?_
    refine lv_aload_n hx hb dX0_add_37 rfl (lv_at hl 0 rfl) ?_
    refine gf_X0_9 C hW dX0_add_38 ?_
    refine lv_aload_n hx hb dX0_add_41 rfl (lv_at hl 0 rfl) ?_
    refine gf_X0_9 C hW dX0_add_42 ?_
    have hi_6 := h.1
    have h := h.2
    refine pd_iast C hW kd_36 hi_6 dX0_add_45 (fun M_7 H locs eM_7 hW => ?_)
    have h := h M_7 eM_7
    refine lv_aload_n hx hb dX0_add_46 rfl (lv_at hl 0 rfl) ?_
    refine lv_dup hx hb dX0_add_47 rfl ?_
    refine gf_X0_9 C hW dX0_add_48 ?_
    refine lv_iconst (v := 1) hx hb dX0_add_51 (by decide) ?_
    refine lv_iadd hx hb dX0_add_52 ?_
    refine pf_X0_9 C hW dX0_add_53 (fun M_8 H locs eM_8 hW => ?_)
    have h := h M_8 eM_8
    refine lv_aload_n hx hb dX0_add_56 rfl (lv_at hl 0 rfl) ?_
    refine gf_X0_9 C hW dX0_add_57 ?_
    refine lv_iconst (v := 1) hx hb dX0_add_60 (by decide) ?_
    refine lv_isub hx hb dX0_add_61 ?_
    exact pd_iret C hA hW h dX0_add_62
  · have h := h.2 c_1
    refine lv_bipush (v := (-2)) hx hb dX0_add_9 (by decide) ?_
    exact pd_iret C hA hW h dX0_add_11

theorem dd_X0_add : yX0_add.cls ≠ "java/lang/invoke/MethodHandle" ∧ yX0_add.cls ≠ "java/lang/invoke/VarHandle" ∧ (parseMethodDescriptor yX0_add.desc).map (fun d => d.parameters.length) = some 1 := by decide +kernel
theorem cl_X8_104 {p : Program} {l : Launch} {e : Env} {R : Room} {s : State} {m : MethodId} {args : Array Value} {below : List Frame} {meth : Method} {c : Code} {H : Heap} {locs : List Loc} {cells slots : Nat} {QQ : State → Prop} {cc : ByteArray} {pc : Nat} {ls : Array Slot} {rest : List Value} {D : va_G} {g : pd_G} {t : Nat} {M : pd_M} {X : va_W} {A : Nat → Prop} {nL : Nat} {ret : Option FieldType} {Qc : Int32 → pd_M → Prop} {a1 : Int32} (C : pd_C p m c cc nL s args RX8 meth ret) (hW : pd_W D g t M X A s H locs) (h : wX0_add Qc a1 M) (hR : rX0_add.frames + 1 ≤ R.frames ∧ 8 + (2 + 11) + rX0_add.locals ≤ R.locals) (hcs : cells ≤ R.cells ∧ slots ≤ R.slots) (hls : ls.size = nL) (hw8 : (rest.map fun v => v.category).sum ≤ 8) (hdg : decode cc pc = .ok (.invokevirtual 104, 3))
    (kk : ∀ (r : Int32) (M1 : pd_M) (H1 : Heap) (locs1 : List Loc), Qc r M1 → pd_W D g t M1 X A s H1 locs1 → W p l e R s m args below meth c H1 locs1 cells slots QQ (F0 m (pc + 3) ls (.int r :: rest))) : W p l e R s m args below meth c H locs cells slots QQ (F0 m pc ls (.int a1 :: .ref (g.1 24) :: rest)) :=
  pd_callVi (As := [.int a1]) C hW (mX0_add h) kd_24 rfl mM_X8_104 mO_yX0_add mV_yX0_add mI_X0 mC_yX0_add dd_X0_add ⟨rfl, rfl⟩ hR hcs hls rfl hw8 hdg kk
abbrev rX0_putLast : Room := { frames := 0, cells := 0, slots := 0, locals := 0 }
def lpX0_putLast_7 (K : Int32 → pd_M → Prop) (f1 : Int32) : Nat → Int32 → Int32 → Int32 → pd_M → Prop
  | 0, _, _, _, _ => False
  | n + 1, v2, v3, v4, M => (((M.1 24 1) ≤ v4 → K v2 M) ∧ (¬ (M.1 24 1) ≤ v4 → ((v3 = 0 → (vp_in v4 7 ∧ ((¬ (M.1 36 v4.toNatClampNeg) = f1 → ∀ x4_5 : Int32, x4_5 = v4 + 1 → lpX0_putLast_7 K f1 n v2 0 x4_5 M) ∧ ((M.1 36 v4.toNatClampNeg) = f1 → ∀ x4_6 : Int32, x4_6 = v4 + 1 → lpX0_putLast_7 K f1 n v2 1 x4_6 M)))) ∧ (¬ v3 = 0 → (vp_in v4 7 ∧ (vp_in (v4 - 1) 7 ∧ ∀ M_9 : pd_M, M_9 = sI M 36 (v4 - 1).toNatClampNeg (M.1 36 v4.toNatClampNeg) → ∀ x2_10 : Int32, x2_10 = v2 + 1 → ∀ x4_11 : Int32, x4_11 = v4 + 1 → lpX0_putLast_7 K f1 n x2_10 v3 x4_11 M_9))))))

set_option maxRecDepth 100000 in
set_option maxHeartbeats 4000000 in
theorem stX0_putLast_7 {p : Program} {l : Launch} {e : Env} {s : State} {m : MethodId} {args : Array Value} {below : List Frame} {meth : Method} {c : Code} {D : va_G} {g : pd_G} {t : Nat} {M0 : pd_M} {X : va_W} {A : Nat → Prop} {sz : Nat} {Q : Int32 → pd_M → Prop} (C : pd_C p m c cX0_putLast 5 s args RX0 meth (Option.some FieldType.int)) (hA : A = va_A (pd_WL g M0 ++ X) sz) {K : Int32 → pd_M → Prop} {f1 : Int32}  (hK : ∀ (p2 : Int32) (M : pd_M) (H : Heap) (locs : List Loc) (ls : Array Slot), pd_W D g t M X A s H locs → lv_has ls 5 [(0, .ref (g.1 24)), (1, .int f1), (2, .int p2)] → K p2 M → W p l e rX0_putLast s m args below meth c H locs 0 0 (MQ below (pd_Qi D g M0 X sz Q) args s 0 0 (va_A (pd_WL g M0 ++ X) sz)) (F0 m 65 ls [])) :
    ∀ (n : Nat) (v2 : Int32) (v3 : Int32) (v4 : Int32) (M : pd_M) (H : Heap) (locs : List Loc) (ls : Array Slot), pd_W D g t M X A s H locs → lv_has ls 5 [(0, .ref (g.1 24)), (1, .int f1), (2, .int v2), (3, .int v3), (4, .int v4)] → lpX0_putLast_7 K f1 n v2 v3 v4 M → W p l e rX0_putLast s m args below meth c H locs 0 0 (MQ below (pd_Qi D g M0 X sz Q) args s 0 0 (va_A (pd_WL g M0 ++ X) sz)) (F0 m 7 ls []) := by
  have hx := C.1.1
  have hb := C.1.2.1
  have hown := C.1.2.2.2.1
  have hts := C.1.2.2.2.2
  intro n
  induction n with
  | zero => intro v2 v3 v4 M H locs ls hW hl h; exact h.elim
  | succ n ih =>
    intro v2 v3 v4 M H locs ls hW hl h
    refine lv_iload hx hb dX0_putLast_7 (lv_at hl 4 rfl) ?_
    refine lv_aload_n hx hb dX0_putLast_9 rfl (lv_at hl 0 rfl) ?_
    refine gf_X0_9 C hW dX0_putLast_10 ?_
    refine lv_icmp_ge (tgt := 65) hx hb dX0_putLast_13 (by decide) (fun c_1 => ?_) (fun c_1 => ?_)
    · have h := h.1 c_1
      exact hK v2 M _ _ _ hW (lv_sub hl [0, 1, 2] rfl) h
    · have h := h.2 c_1
      refine lv_iload_n hx hb dX0_putLast_16 rfl (lv_at hl 3 rfl) ?_
      refine lv_if_eq (tgt := 42) hx hb dX0_putLast_17 (by decide) (fun c_2 => ?_) (fun c_2 => ?_)
      · have h := h.1 c_2
        refine lv_aload_n hx hb dX0_putLast_42 rfl (lv_at hl 0 rfl) ?_
        refine gf_X0_30 C hW dX0_putLast_43 ?_
        refine lv_iload hx hb dX0_putLast_46 (lv_at hl 4 rfl) ?_
        have hi_3 := h.1
        have h := h.2
        refine pd_iald C hW kd_36 hi_3 dX0_putLast_48 ?_
        refine lv_iload_n hx hb dX0_putLast_49 rfl (lv_at hl 1 rfl) ?_
        refine lv_icmp_ne (tgt := 57) hx hb dX0_putLast_50 (by decide) (fun c_4 => ?_) (fun c_4 => ?_)
        · have h := h.1 c_4
          refine lv_iconst (v := 0) hx hb dX0_putLast_57 (by decide) ?_
          refine lv_istore_n (lv' := [(3, .int 0), (0, .ref (g.1 24)), (1, .int f1), (2, .int v2), (4, .int v4)]) hx hb dX0_putLast_58 rfl hl (by decide) rfl (fun ls hl => ?_)
          obtain ⟨x4_5, ex4_5⟩ : ∃ y : Int32, y = v4 + 1 := ⟨_, rfl⟩
          have h := h x4_5 ex4_5
          refine lv_iinc (v := x4_5) (lv' := [(4, .int x4_5), (3, .int 0), (0, .ref (g.1 24)), (1, .int f1), (2, .int v2)]) hx hb dX0_putLast_59 hl (k := 4) rfl (by rw [ex4_5]; rfl) (by decide) rfl (fun ls hl => ?_)
          refine lv_goto (tgt := 7) hx hb dX0_putLast_62 (by decide) ?_
          exact ih v2 0 x4_5 M _ _ _ hW (lv_sub hl [2, 3, 4, 1, 0] rfl) h
        · have h := h.2 c_4
          refine lv_iconst (v := 1) hx hb dX0_putLast_53 (by decide) ?_
          refine lv_goto (tgt := 58) hx hb dX0_putLast_54 (by decide) ?_
          refine lv_istore_n (lv' := [(3, .int 1), (0, .ref (g.1 24)), (1, .int f1), (2, .int v2), (4, .int v4)]) hx hb dX0_putLast_58 rfl hl (by decide) rfl (fun ls hl => ?_)
          obtain ⟨x4_6, ex4_6⟩ : ∃ y : Int32, y = v4 + 1 := ⟨_, rfl⟩
          have h := h x4_6 ex4_6
          refine lv_iinc (v := x4_6) (lv' := [(4, .int x4_6), (3, .int 1), (0, .ref (g.1 24)), (1, .int f1), (2, .int v2)]) hx hb dX0_putLast_59 hl (k := 4) rfl (by rw [ex4_6]; rfl) (by decide) rfl (fun ls hl => ?_)
          refine lv_goto (tgt := 7) hx hb dX0_putLast_62 (by decide) ?_
          exact ih v2 1 x4_6 M _ _ _ hW (lv_sub hl [2, 3, 4, 1, 0] rfl) h
      · have h := h.2 c_2
        refine lv_aload_n hx hb dX0_putLast_20 rfl (lv_at hl 0 rfl) ?_
        refine gf_X0_30 C hW dX0_putLast_21 ?_
        refine lv_iload hx hb dX0_putLast_24 (lv_at hl 4 rfl) ?_
        refine lv_iconst (v := 1) hx hb dX0_putLast_26 (by decide) ?_
        refine lv_isub hx hb dX0_putLast_27 ?_
        refine lv_aload_n hx hb dX0_putLast_28 rfl (lv_at hl 0 rfl) ?_
        refine gf_X0_30 C hW dX0_putLast_29 ?_
        refine lv_iload hx hb dX0_putLast_32 (lv_at hl 4 rfl) ?_
        have hi_7 := h.1
        have h := h.2
        refine pd_iald C hW kd_36 hi_7 dX0_putLast_34 ?_
        have hi_8 := h.1
        have h := h.2
        refine pd_iast C hW kd_36 hi_8 dX0_putLast_35 (fun M_9 H locs eM_9 hW => ?_)
        have h := h M_9 eM_9
        obtain ⟨x2_10, ex2_10⟩ : ∃ y : Int32, y = v2 + 1 := ⟨_, rfl⟩
        have h := h x2_10 ex2_10
        refine lv_iinc (v := x2_10) (lv' := [(2, .int x2_10), (0, .ref (g.1 24)), (1, .int f1), (3, .int v3), (4, .int v4)]) hx hb dX0_putLast_36 hl (k := 2) rfl (by rw [ex2_10]; rfl) (by decide) rfl (fun ls hl => ?_)
        refine lv_goto (tgt := 59) hx hb dX0_putLast_39 (by decide) ?_
        obtain ⟨x4_11, ex4_11⟩ : ∃ y : Int32, y = v4 + 1 := ⟨_, rfl⟩
        have h := h x4_11 ex4_11
        refine lv_iinc (v := x4_11) (lv' := [(4, .int x4_11), (2, .int x2_10), (0, .ref (g.1 24)), (1, .int f1), (3, .int v3)]) hx hb dX0_putLast_59 hl (k := 4) rfl (by rw [ex4_11]; rfl) (by decide) rfl (fun ls hl => ?_)
        refine lv_goto (tgt := 7) hx hb dX0_putLast_62 (by decide) ?_
        exact ih x2_10 v3 x4_11 M_9 _ _ _ hW (lv_sub hl [2, 3, 1, 4, 0] rfl) h

def wX0_putLast (Q : Int32 → pd_M → Prop) (a1 : Int32) (M : pd_M) : Prop := (∃ k_7 : Nat, lpX0_putLast_7 (fun x2_13 M_12 => (vp_in ((M_12.1 24 1) - 1) 7 ∧ ∀ M_15 : pd_M, M_15 = sI M_12 36 ((M_12.1 24 1) - 1).toNatClampNeg a1 → Q x2_13 M_15)) a1 k_7 0 0 0 M)

set_option maxRecDepth 100000 in
set_option maxHeartbeats 4000000 in
theorem mX0_putLast {l : Launch} {D : va_G} {g : pd_G} {t : Nat} {X : va_W} {Q : Int32 → pd_M → Prop} {a1 : Int32} {M : pd_M} {sz : Nat} (h : wX0_putLast Q a1 M) : Met l yX0_putLast (Cond.code yX0_putLast cX0_putLast 5 (Option.some FieldType.int) :: TB) rX0_putLast (pd_Pre D g t M X sz [.ref (g.1 24), .int a1]) (pd_Qi D g M X sz Q) 0 0 (va_A (pd_WL g M ++ X) sz) := by
  refine pd_met (by decide) (Nat.le_of_ble_eq_true rfl) ?_
  intro p e s m below meth c A ls C hA hW hl
  have C : pd_C p m c cX0_putLast 5 s _ RX0 meth (Option.some FieldType.int) := C
  have hx := C.1.1
  have hb := C.1.2.1
  have hown := C.1.2.2.2.1
  have hts := C.1.2.2.2.2
  have hl : lv_has ls 5 [(0, .ref (g.1 24)), (1, .int a1)] := hl
  refine lv_iconst (v := 0) hx hb dX0_putLast_0 (by decide) ?_
  refine lv_istore_n (lv' := [(2, .int 0), (0, .ref (g.1 24)), (1, .int a1)]) hx hb dX0_putLast_1 rfl hl (by decide) rfl (fun ls hl => ?_)
  refine lv_iconst (v := 0) hx hb dX0_putLast_2 (by decide) ?_
  refine lv_istore_n (lv' := [(3, .int 0), (2, .int 0), (0, .ref (g.1 24)), (1, .int a1)]) hx hb dX0_putLast_3 rfl hl (by decide) rfl (fun ls hl => ?_)
  refine lv_iconst (v := 0) hx hb dX0_putLast_4 (by decide) ?_
  refine lv_istore (lv' := [(4, .int 0), (3, .int 0), (2, .int 0), (0, .ref (g.1 24)), (1, .int a1)]) hx hb dX0_putLast_5 hl (by decide) rfl (fun ls hl => ?_)
  obtain ⟨k_7, h⟩ := h
  refine stX0_putLast_7 C hA (fun x2_13 M_12 H locs ls hW hl h => ?_) k_7 0 0 0 M _ _ _ hW (lv_sub hl [3, 4, 2, 1, 0] rfl) h
  refine lv_aload_n hx hb dX0_putLast_65 rfl (lv_at hl 0 rfl) ?_
  refine gf_X0_30 C hW dX0_putLast_66 ?_
  refine lv_aload_n hx hb dX0_putLast_69 rfl (lv_at hl 0 rfl) ?_
  refine gf_X0_9 C hW dX0_putLast_70 ?_
  refine lv_iconst (v := 1) hx hb dX0_putLast_73 (by decide) ?_
  refine lv_isub hx hb dX0_putLast_74 ?_
  refine lv_iload_n hx hb dX0_putLast_75 rfl (lv_at hl 1 rfl) ?_
  have hi_14 := h.1
  have h := h.2
  refine pd_iast C hW kd_36 hi_14 dX0_putLast_76 (fun M_15 H locs eM_15 hW => ?_)
  have h := h M_15 eM_15
  refine lv_iload_n hx hb dX0_putLast_77 rfl (lv_at hl 2 rfl) ?_
  exact pd_iret C hA hW h dX0_putLast_78

theorem dd_X0_putLast : yX0_putLast.cls ≠ "java/lang/invoke/MethodHandle" ∧ yX0_putLast.cls ≠ "java/lang/invoke/VarHandle" ∧ (parseMethodDescriptor yX0_putLast.desc).map (fun d => d.parameters.length) = some 1 := by decide +kernel
theorem cl_X8_120 {p : Program} {l : Launch} {e : Env} {R : Room} {s : State} {m : MethodId} {args : Array Value} {below : List Frame} {meth : Method} {c : Code} {H : Heap} {locs : List Loc} {cells slots : Nat} {QQ : State → Prop} {cc : ByteArray} {pc : Nat} {ls : Array Slot} {rest : List Value} {D : va_G} {g : pd_G} {t : Nat} {M : pd_M} {X : va_W} {A : Nat → Prop} {nL : Nat} {ret : Option FieldType} {Qc : Int32 → pd_M → Prop} {a1 : Int32} (C : pd_C p m c cc nL s args RX8 meth ret) (hW : pd_W D g t M X A s H locs) (h : wX0_putLast Qc a1 M) (hR : rX0_putLast.frames + 1 ≤ R.frames ∧ 8 + (5 + 11) + rX0_putLast.locals ≤ R.locals) (hcs : cells ≤ R.cells ∧ slots ≤ R.slots) (hls : ls.size = nL) (hw8 : (rest.map fun v => v.category).sum ≤ 8) (hdg : decode cc pc = .ok (.invokevirtual 120, 3))
    (kk : ∀ (r : Int32) (M1 : pd_M) (H1 : Heap) (locs1 : List Loc), Qc r M1 → pd_W D g t M1 X A s H1 locs1 → W p l e R s m args below meth c H1 locs1 cells slots QQ (F0 m (pc + 3) ls (.int r :: rest))) : W p l e R s m args below meth c H locs cells slots QQ (F0 m pc ls (.int a1 :: .ref (g.1 24) :: rest)) :=
  pd_callVi (As := [.int a1]) C hW (mX0_putLast h) kd_24 rfl mM_X8_120 mO_yX0_putLast mV_yX0_putLast mI_X0 mC_yX0_putLast dd_X0_putLast ⟨rfl, rfl⟩ hR hcs hls rfl hw8 hdg kk
abbrev rX0_countCards : Room := { frames := 0, cells := 0, slots := 0, locals := 0 }
def lpX0_countCards_14 (K : Int32 → pd_M → Prop) (f2 : Int32) : Nat → Int32 → Int32 → pd_M → Prop
  | 0, _, _, _ => False
  | n + 1, v1, v3, M => ((4 ≤ v3 → K v1 M) ∧ (¬ 4 ≤ v3 → (vp_in f2 7 ∧ (vp_in v3 4 ∧ ∀ x1_5 : Int32, x1_5 = (v1 + (M.1 (29 + f2.toNatClampNeg) v3.toNatClampNeg)) → ∀ x3_6 : Int32, x3_6 = v3 + 1 → lpX0_countCards_14 K f2 n x1_5 x3_6 M))))

set_option maxRecDepth 100000 in
set_option maxHeartbeats 4000000 in
theorem stX0_countCards_14 {p : Program} {l : Launch} {e : Env} {s : State} {m : MethodId} {args : Array Value} {below : List Frame} {meth : Method} {c : Code} {D : va_G} {g : pd_G} {t : Nat} {M0 : pd_M} {X : va_W} {A : Nat → Prop} {sz : Nat} {Q : Int32 → pd_M → Prop} (C : pd_C p m c cX0_countCards 4 s args RX0 meth (Option.some FieldType.int)) (hA : A = va_A (pd_WL g M0 ++ X) sz) {K : Int32 → pd_M → Prop} {f2 : Int32}  (hK : ∀ (p1 : Int32) (M : pd_M) (H : Heap) (locs : List Loc) (ls : Array Slot), pd_W D g t M X A s H locs → lv_has ls 4 [(0, .ref (g.1 24)), (1, .int p1), (2, .int f2)] → K p1 M → W p l e rX0_countCards s m args below meth c H locs 0 0 (MQ below (pd_Qi D g M0 X sz Q) args s 0 0 (va_A (pd_WL g M0 ++ X) sz)) (F0 m 36 ls [])) :
    ∀ (n : Nat) (v1 : Int32) (v3 : Int32) (M : pd_M) (H : Heap) (locs : List Loc) (ls : Array Slot), pd_W D g t M X A s H locs → lv_has ls 4 [(0, .ref (g.1 24)), (1, .int v1), (2, .int f2), (3, .int v3)] → lpX0_countCards_14 K f2 n v1 v3 M → W p l e rX0_countCards s m args below meth c H locs 0 0 (MQ below (pd_Qi D g M0 X sz Q) args s 0 0 (va_A (pd_WL g M0 ++ X) sz)) (F0 m 14 ls []) := by
  have hx := C.1.1
  have hb := C.1.2.1
  have hown := C.1.2.2.2.1
  have hts := C.1.2.2.2.2
  intro n
  induction n with
  | zero => intro v1 v3 M H locs ls hW hl h; exact h.elim
  | succ n ih =>
    intro v1 v3 M H locs ls hW hl h
    refine lv_iload_n hx hb dX0_countCards_14 rfl (lv_at hl 3 rfl) ?_
    refine lv_iconst (v := 4) hx hb dX0_countCards_15 (by decide) ?_
    refine lv_icmp_ge (tgt := 36) hx hb dX0_countCards_16 (by decide) (fun c_2 => ?_) (fun c_2 => ?_)
    · have h := h.1 c_2
      exact hK v1 M _ _ _ hW (lv_sub hl [0, 1, 2] rfl) h
    · have h := h.2 c_2
      refine lv_iload_n hx hb dX0_countCards_19 rfl (lv_at hl 1 rfl) ?_
      refine lv_aload_n hx hb dX0_countCards_20 rfl (lv_at hl 0 rfl) ?_
      refine gf_X0_27 C hW dX0_countCards_21 ?_
      refine lv_iload_n hx hb dX0_countCards_24 rfl (lv_at hl 2 rfl) ?_
      have hi_3 := h.1
      have h := h.2
      refine pd_aald C hW kd_28 hi_3 dX0_countCards_25 ?_
      refine lv_iload_n hx hb dX0_countCards_26 rfl (lv_at hl 3 rfl) ?_
      have hi_4 := h.1
      have h := h.2
      refine pd_iald C hW (pd_k29 _ (pd_lt hi_3)) hi_4 dX0_countCards_27 ?_
      refine lv_iadd hx hb dX0_countCards_28 ?_
      refine lv_topi (fun x1_5 ex1_5 => ?_)
      have h := h x1_5 ex1_5
      refine lv_istore_n (lv' := [(1, .int x1_5), (0, .ref (g.1 24)), (2, .int f2), (3, .int v3)]) hx hb dX0_countCards_29 rfl hl (by decide) rfl (fun ls hl => ?_)
      obtain ⟨x3_6, ex3_6⟩ : ∃ y : Int32, y = v3 + 1 := ⟨_, rfl⟩
      have h := h x3_6 ex3_6
      refine lv_iinc (v := x3_6) (lv' := [(3, .int x3_6), (1, .int x1_5), (0, .ref (g.1 24)), (2, .int f2)]) hx hb dX0_countCards_30 hl (k := 3) rfl (by rw [ex3_6]; rfl) (by decide) rfl (fun ls hl => ?_)
      refine lv_goto (tgt := 14) hx hb dX0_countCards_33 (by decide) ?_
      exact ih x1_5 x3_6 M _ _ _ hW (lv_sub hl [2, 1, 3, 0] rfl) h

def lpX0_countCards_4 (K : Int32 → pd_M → Prop) : Nat → Int32 → Int32 → pd_M → Prop
  | 0, _, _, _ => False
  | n + 1, v1, v2, M => (((M.1 24 1) ≤ v2 → K v1 M) ∧ (¬ (M.1 24 1) ≤ v2 → (∃ k_14 : Nat, lpX0_countCards_14 (fun x1_8 M_7 => ∀ x2_9 : Int32, x2_9 = v2 + 1 → lpX0_countCards_4 K n x1_8 x2_9 M_7) v2 k_14 v1 0 M)))

set_option maxRecDepth 100000 in
set_option maxHeartbeats 4000000 in
theorem stX0_countCards_4 {p : Program} {l : Launch} {e : Env} {s : State} {m : MethodId} {args : Array Value} {below : List Frame} {meth : Method} {c : Code} {D : va_G} {g : pd_G} {t : Nat} {M0 : pd_M} {X : va_W} {A : Nat → Prop} {sz : Nat} {Q : Int32 → pd_M → Prop} (C : pd_C p m c cX0_countCards 4 s args RX0 meth (Option.some FieldType.int)) (hA : A = va_A (pd_WL g M0 ++ X) sz) {K : Int32 → pd_M → Prop}  (hK : ∀ (p1 : Int32) (M : pd_M) (H : Heap) (locs : List Loc) (ls : Array Slot), pd_W D g t M X A s H locs → lv_has ls 4 [(1, .int p1)] → K p1 M → W p l e rX0_countCards s m args below meth c H locs 0 0 (MQ below (pd_Qi D g M0 X sz Q) args s 0 0 (va_A (pd_WL g M0 ++ X) sz)) (F0 m 42 ls [])) :
    ∀ (n : Nat) (v1 : Int32) (v2 : Int32) (M : pd_M) (H : Heap) (locs : List Loc) (ls : Array Slot), pd_W D g t M X A s H locs → lv_has ls 4 [(0, .ref (g.1 24)), (1, .int v1), (2, .int v2)] → lpX0_countCards_4 K n v1 v2 M → W p l e rX0_countCards s m args below meth c H locs 0 0 (MQ below (pd_Qi D g M0 X sz Q) args s 0 0 (va_A (pd_WL g M0 ++ X) sz)) (F0 m 4 ls []) := by
  have hx := C.1.1
  have hb := C.1.2.1
  have hown := C.1.2.2.2.1
  have hts := C.1.2.2.2.2
  intro n
  induction n with
  | zero => intro v1 v2 M H locs ls hW hl h; exact h.elim
  | succ n ih =>
    intro v1 v2 M H locs ls hW hl h
    refine lv_iload_n hx hb dX0_countCards_4 rfl (lv_at hl 2 rfl) ?_
    refine lv_aload_n hx hb dX0_countCards_5 rfl (lv_at hl 0 rfl) ?_
    refine gf_X0_9 C hW dX0_countCards_6 ?_
    refine lv_icmp_ge (tgt := 42) hx hb dX0_countCards_9 (by decide) (fun c_1 => ?_) (fun c_1 => ?_)
    · have h := h.1 c_1
      exact hK v1 M _ _ _ hW (lv_sub hl [1] rfl) h
    · have h := h.2 c_1
      refine lv_iconst (v := 0) hx hb dX0_countCards_12 (by decide) ?_
      refine lv_istore_n (lv' := [(3, .int 0), (0, .ref (g.1 24)), (1, .int v1), (2, .int v2)]) hx hb dX0_countCards_13 rfl hl (by decide) rfl (fun ls hl => ?_)
      obtain ⟨k_14, h⟩ := h
      refine stX0_countCards_14 C hA (fun x1_8 M_7 H locs ls hW hl h => ?_) k_14 v1 0 M _ _ _ hW (lv_sub hl [1, 2, 3, 0] rfl) h
      obtain ⟨x2_9, ex2_9⟩ : ∃ y : Int32, y = v2 + 1 := ⟨_, rfl⟩
      have h := h x2_9 ex2_9
      refine lv_iinc (v := x2_9) (lv' := [(2, .int x2_9), (0, .ref (g.1 24)), (1, .int x1_8)]) hx hb dX0_countCards_36 hl (k := 2) rfl (by rw [ex2_9]; rfl) (by decide) rfl (fun ls hl => ?_)
      refine lv_goto (tgt := 4) hx hb dX0_countCards_39 (by decide) ?_
      exact ih x1_8 x2_9 M_7 _ _ _ hW (lv_sub hl [1, 2, 0] rfl) h

def wX0_countCards (Q : Int32 → pd_M → Prop) (M : pd_M) : Prop := (∃ k_4 : Nat, lpX0_countCards_4 (fun x1_11 M_10 => Q x1_11 M_10) k_4 0 0 M)

set_option maxRecDepth 100000 in
set_option maxHeartbeats 4000000 in
theorem mX0_countCards {l : Launch} {D : va_G} {g : pd_G} {t : Nat} {X : va_W} {Q : Int32 → pd_M → Prop} {M : pd_M} {sz : Nat} (h : wX0_countCards Q M) : Met l yX0_countCards (Cond.code yX0_countCards cX0_countCards 4 (Option.some FieldType.int) :: TB) rX0_countCards (pd_Pre D g t M X sz [.ref (g.1 24)]) (pd_Qi D g M X sz Q) 0 0 (va_A (pd_WL g M ++ X) sz) := by
  refine pd_met (by decide) (Nat.le_of_ble_eq_true rfl) ?_
  intro p e s m below meth c A ls C hA hW hl
  have C : pd_C p m c cX0_countCards 4 s _ RX0 meth (Option.some FieldType.int) := C
  have hx := C.1.1
  have hb := C.1.2.1
  have hown := C.1.2.2.2.1
  have hts := C.1.2.2.2.2
  have hl : lv_has ls 4 [(0, .ref (g.1 24))] := hl
  refine lv_iconst (v := 0) hx hb dX0_countCards_0 (by decide) ?_
  refine lv_istore_n (lv' := [(1, .int 0), (0, .ref (g.1 24))]) hx hb dX0_countCards_1 rfl hl (by decide) rfl (fun ls hl => ?_)
  refine lv_iconst (v := 0) hx hb dX0_countCards_2 (by decide) ?_
  refine lv_istore_n (lv' := [(2, .int 0), (1, .int 0), (0, .ref (g.1 24))]) hx hb dX0_countCards_3 rfl hl (by decide) rfl (fun ls hl => ?_)
  obtain ⟨k_4, h⟩ := h
  refine stX0_countCards_4 C hA (fun x1_11 M_10 H locs ls hW hl h => ?_) k_4 0 0 M _ _ _ hW (lv_sub hl [2, 1, 0] rfl) h
  refine lv_iload_n hx hb dX0_countCards_42 rfl (lv_at hl 0 rfl) ?_
  exact pd_iret C hA hW h dX0_countCards_43

theorem dd_X0_countCards : yX0_countCards.cls ≠ "java/lang/invoke/MethodHandle" ∧ yX0_countCards.cls ≠ "java/lang/invoke/VarHandle" ∧ (parseMethodDescriptor yX0_countCards.desc).map (fun d => d.parameters.length) = some 0 := by decide +kernel
theorem cl_X8_193 {p : Program} {l : Launch} {e : Env} {R : Room} {s : State} {m : MethodId} {args : Array Value} {below : List Frame} {meth : Method} {c : Code} {H : Heap} {locs : List Loc} {cells slots : Nat} {QQ : State → Prop} {cc : ByteArray} {pc : Nat} {ls : Array Slot} {rest : List Value} {D : va_G} {g : pd_G} {t : Nat} {M : pd_M} {X : va_W} {A : Nat → Prop} {nL : Nat} {ret : Option FieldType} {Qc : Int32 → pd_M → Prop} (C : pd_C p m c cc nL s args RX8 meth ret) (hW : pd_W D g t M X A s H locs) (h : wX0_countCards Qc M) (hR : rX0_countCards.frames + 1 ≤ R.frames ∧ 8 + (4 + 11) + rX0_countCards.locals ≤ R.locals) (hcs : cells ≤ R.cells ∧ slots ≤ R.slots) (hls : ls.size = nL) (hw8 : (rest.map fun v => v.category).sum ≤ 8) (hdg : decode cc pc = .ok (.invokevirtual 193, 3))
    (kk : ∀ (r : Int32) (M1 : pd_M) (H1 : Heap) (locs1 : List Loc), Qc r M1 → pd_W D g t M1 X A s H1 locs1 → W p l e R s m args below meth c H1 locs1 cells slots QQ (F0 m (pc + 3) ls (.int r :: rest))) : W p l e R s m args below meth c H locs cells slots QQ (F0 m pc ls (.ref (g.1 24) :: rest)) :=
  pd_callVi (As := []) C hW (mX0_countCards h) kd_24 rfl mM_X8_193 mO_yX0_countCards mV_yX0_countCards mI_X0 mC_yX0_countCards dd_X0_countCards ⟨rfl, rfl⟩ hR hcs hls rfl hw8 hdg kk
