abbrev rX5_add : Room := { frames := 0, cells := 0, slots := 0, locals := 0 }
def wX5_add (Q : Int32 → pd_M → Prop) (a1 : Int32) (a2 : Int32) (a3 : Int32) (a4 : Int32) (a5 : Int32) (a6 : Int32) (M : pd_M) : Prop := (((M.1 60 0) < 20 → (vp_in (M.1 60 0) 20 ∧ ∀ M_3 : pd_M, M_3 = sI M (62 + (M.1 60 0).toNatClampNeg) (0 : Int32).toNatClampNeg a1 → (vp_in (M_3.1 60 0) 20 ∧ ∀ M_5 : pd_M, M_5 = sI M_3 (62 + (M_3.1 60 0).toNatClampNeg) (1 : Int32).toNatClampNeg a2 → (vp_in (M_5.1 60 0) 20 ∧ ∀ M_7 : pd_M, M_7 = sI M_5 (62 + (M_5.1 60 0).toNatClampNeg) (2 : Int32).toNatClampNeg a3 → (vp_in (M_7.1 60 0) 20 ∧ ∀ M_9 : pd_M, M_9 = sI M_7 (62 + (M_7.1 60 0).toNatClampNeg) (3 : Int32).toNatClampNeg a4 → (vp_in (M_9.1 60 0) 20 ∧ ∀ M_11 : pd_M, M_11 = sI M_9 (62 + (M_9.1 60 0).toNatClampNeg) (4 : Int32).toNatClampNeg a5 → (vp_in (M_11.1 60 0) 20 ∧ ∀ M_13 : pd_M, M_13 = sI M_11 (62 + (M_11.1 60 0).toNatClampNeg) (5 : Int32).toNatClampNeg a6 → ∀ M_14 : pd_M, M_14 = sI M_13 60 0 ((M_13.1 60 0) + 1) → Q ((M_14.1 60 0) - 1) M_14))))))) ∧ (¬ (M.1 60 0) < 20 → Q (-2) M))

set_option maxRecDepth 100000 in
set_option maxHeartbeats 4000000 in
theorem mX5_add {l : Launch} {D : va_G} {g : pd_G} {t : Nat} {X : va_W} {Q : Int32 → pd_M → Prop} {a1 : Int32} {a2 : Int32} {a3 : Int32} {a4 : Int32} {a5 : Int32} {a6 : Int32} {M : pd_M} {sz : Nat} (h : wX5_add Q a1 a2 a3 a4 a5 a6 M) : Met l yX5_add (Cond.code yX5_add cX5_add 7 (Option.some FieldType.int) :: TB) rX5_add (pd_Pre D g t M X sz [.ref (g.1 60), .int a1, .int a2, .int a3, .int a4, .int a5, .int a6]) (pd_Qi D g M X sz Q) 0 0 (va_A (pd_WL g M ++ X) sz) := by
  refine pd_met (by decide) (Nat.le_of_ble_eq_true rfl) ?_
  intro p e s m below meth c A ls C hA hW hl
  have C : pd_C p m c cX5_add 7 s _ RX5 meth (Option.some FieldType.int) := C
  have hx := C.1.1
  have hb := C.1.2.1
  have hown := C.1.2.2.2.1
  have hts := C.1.2.2.2.2
  have hl : lv_has ls 7 [(0, .ref (g.1 60)), (1, .int a1), (2, .int a2), (3, .int a3), (4, .int a4), (5, .int a5), (6, .int a6)] := hl
  refine lv_aload_n hx hb dX5_add_0 rfl (lv_at hl 0 rfl) ?_
  refine gf_X5_9 C hW dX5_add_1 ?_
  refine lv_bipush (v := 20) hx hb dX5_add_4 (by decide) ?_
  refine lv_icmp_lt (tgt := 12) hx hb dX5_add_6 (by decide) (fun c_1 => ?_) (fun c_1 => ?_)
  · have h := h.1 c_1
    refine lv_aload_n hx hb dX5_add_12 rfl (lv_at hl 0 rfl) ?_
    refine gf_X5_17 C hW dX5_add_13 ?_
    refine lv_aload_n hx hb dX5_add_16 rfl (lv_at hl 0 rfl) ?_
    refine gf_X5_9 C hW dX5_add_17 ?_
    have hi_2 := h.1
    have h := h.2
    refine pd_aald C hW kd_61 hi_2 dX5_add_20 ?_
    refine lv_iconst (v := 0) hx hb dX5_add_21 (by decide) ?_
    refine lv_iload_n hx hb dX5_add_22 rfl (lv_at hl 1 rfl) ?_
    refine pd_iast C hW (pd_k62 _ (pd_lt hi_2)) (by unfold vp_in; decide) dX5_add_23 (fun M_3 H locs eM_3 hW => ?_)
    have h := h M_3 eM_3
    refine lv_aload_n hx hb dX5_add_24 rfl (lv_at hl 0 rfl) ?_
    refine gf_X5_17 C hW dX5_add_25 ?_
    refine lv_aload_n hx hb dX5_add_28 rfl (lv_at hl 0 rfl) ?_
    refine gf_X5_9 C hW dX5_add_29 ?_
    have hi_4 := h.1
    have h := h.2
    refine pd_aald C hW kd_61 hi_4 dX5_add_32 ?_
    refine lv_iconst (v := 1) hx hb dX5_add_33 (by decide) ?_
    refine lv_iload_n hx hb dX5_add_34 rfl (lv_at hl 2 rfl) ?_
    refine pd_iast C hW (pd_k62 _ (pd_lt hi_4)) (by unfold vp_in; decide) dX5_add_35 (fun M_5 H locs eM_5 hW => ?_)
    have h := h M_5 eM_5
    refine lv_aload_n hx hb dX5_add_36 rfl (lv_at hl 0 rfl) ?_
    refine gf_X5_17 C hW dX5_add_37 ?_
    refine lv_aload_n hx hb dX5_add_40 rfl (lv_at hl 0 rfl) ?_
    refine gf_X5_9 C hW dX5_add_41 ?_
    have hi_6 := h.1
    have h := h.2
    refine pd_aald C hW kd_61 hi_6 dX5_add_44 ?_
    refine lv_iconst (v := 2) hx hb dX5_add_45 (by decide) ?_
    refine lv_iload_n hx hb dX5_add_46 rfl (lv_at hl 3 rfl) ?_
    refine pd_iast C hW (pd_k62 _ (pd_lt hi_6)) (by unfold vp_in; decide) dX5_add_47 (fun M_7 H locs eM_7 hW => ?_)
    have h := h M_7 eM_7
    refine lv_aload_n hx hb dX5_add_48 rfl (lv_at hl 0 rfl) ?_
    refine gf_X5_17 C hW dX5_add_49 ?_
    refine lv_aload_n hx hb dX5_add_52 rfl (lv_at hl 0 rfl) ?_
    refine gf_X5_9 C hW dX5_add_53 ?_
    have hi_8 := h.1
    have h := h.2
    refine pd_aald C hW kd_61 hi_8 dX5_add_56 ?_
    refine lv_iconst (v := 3) hx hb dX5_add_57 (by decide) ?_
    refine lv_iload hx hb dX5_add_58 (lv_at hl 4 rfl) ?_
    refine pd_iast C hW (pd_k62 _ (pd_lt hi_8)) (by unfold vp_in; decide) dX5_add_60 (fun M_9 H locs eM_9 hW => ?_)
    have h := h M_9 eM_9
    refine lv_aload_n hx hb dX5_add_61 rfl (lv_at hl 0 rfl) ?_
    refine gf_X5_17 C hW dX5_add_62 ?_
    refine lv_aload_n hx hb dX5_add_65 rfl (lv_at hl 0 rfl) ?_
    refine gf_X5_9 C hW dX5_add_66 ?_
    have hi_10 := h.1
    have h := h.2
    refine pd_aald C hW kd_61 hi_10 dX5_add_69 ?_
    refine lv_iconst (v := 4) hx hb dX5_add_70 (by decide) ?_
    refine lv_iload hx hb dX5_add_71 (lv_at hl 5 rfl) ?_
    refine pd_iast C hW (pd_k62 _ (pd_lt hi_10)) (by unfold vp_in; decide) dX5_add_73 (fun M_11 H locs eM_11 hW => ?_)
    have h := h M_11 eM_11
    refine lv_aload_n hx hb dX5_add_74 rfl (lv_at hl 0 rfl) ?_
    refine gf_X5_17 C hW dX5_add_75 ?_
    refine lv_aload_n hx hb dX5_add_78 rfl (lv_at hl 0 rfl) ?_
    refine gf_X5_9 C hW dX5_add_79 ?_
    have hi_12 := h.1
    have h := h.2
    refine pd_aald C hW kd_61 hi_12 dX5_add_82 ?_
    refine lv_iconst (v := 5) hx hb dX5_add_83 (by decide) ?_
    refine lv_iload hx hb dX5_add_84 (lv_at hl 6 rfl) ?_
    refine pd_iast C hW (pd_k62 _ (pd_lt hi_12)) (by unfold vp_in; decide) dX5_add_86 (fun M_13 H locs eM_13 hW => ?_)
    have h := h M_13 eM_13
    refine lv_aload_n hx hb dX5_add_87 rfl (lv_at hl 0 rfl) ?_
    refine lv_dup hx hb dX5_add_88 rfl ?_
    refine gf_X5_9 C hW dX5_add_89 ?_
    refine lv_iconst (v := 1) hx hb dX5_add_92 (by decide) ?_
    refine lv_iadd hx hb dX5_add_93 ?_
    refine pf_X5_9 C hW dX5_add_94 (fun M_14 H locs eM_14 hW => ?_)
    have h := h M_14 eM_14
    refine lv_aload_n hx hb dX5_add_97 rfl (lv_at hl 0 rfl) ?_
    refine gf_X5_9 C hW dX5_add_98 ?_
    refine lv_iconst (v := 1) hx hb dX5_add_101 (by decide) ?_
    refine lv_isub hx hb dX5_add_102 ?_
    exact pd_iret C hA hW h dX5_add_103
  · have h := h.2 c_1
    refine lv_bipush (v := (-2)) hx hb dX5_add_9 (by decide) ?_
    exact pd_iret C hA hW h dX5_add_11

theorem dd_X5_add : yX5_add.cls ≠ "java/lang/invoke/MethodHandle" ∧ yX5_add.cls ≠ "java/lang/invoke/VarHandle" ∧ (parseMethodDescriptor yX5_add.desc).map (fun d => d.parameters.length) = some 6 := by decide +kernel
theorem cl_X8_170 {p : Program} {l : Launch} {e : Env} {R : Room} {s : State} {m : MethodId} {args : Array Value} {below : List Frame} {meth : Method} {c : Code} {H : Heap} {locs : List Loc} {cells slots : Nat} {QQ : State → Prop} {cc : ByteArray} {pc : Nat} {ls : Array Slot} {rest : List Value} {D : va_G} {g : pd_G} {t : Nat} {M : pd_M} {X : va_W} {A : Nat → Prop} {nL : Nat} {ret : Option FieldType} {Qc : Int32 → pd_M → Prop} {a1 : Int32} {a2 : Int32} {a3 : Int32} {a4 : Int32} {a5 : Int32} {a6 : Int32} (C : pd_C p m c cc nL s args RX8 meth ret) (hW : pd_W D g t M X A s H locs) (h : wX5_add Qc a1 a2 a3 a4 a5 a6 M) (hR : rX5_add.frames + 1 ≤ R.frames ∧ 8 + (7 + 11) + rX5_add.locals ≤ R.locals) (hcs : cells ≤ R.cells ∧ slots ≤ R.slots) (hls : ls.size = nL) (hw8 : (rest.map fun v => v.category).sum ≤ 8) (hdg : decode cc pc = .ok (.invokevirtual 170, 3))
    (kk : ∀ (r : Int32) (M1 : pd_M) (H1 : Heap) (locs1 : List Loc), Qc r M1 → pd_W D g t M1 X A s H1 locs1 → W p l e R s m args below meth c H1 locs1 cells slots QQ (F0 m (pc + 3) ls (.int r :: rest))) : W p l e R s m args below meth c H locs cells slots QQ (F0 m pc ls (.int a6 :: .int a5 :: .int a4 :: .int a3 :: .int a2 :: .int a1 :: .ref (g.1 60) :: rest)) :=
  pd_callVi (As := [.int a1, .int a2, .int a3, .int a4, .int a5, .int a6]) C hW (mX5_add h) kd_60 rfl mM_X8_170 mO_yX5_add mV_yX5_add mI_X5 mC_yX5_add dd_X5_add ⟨rfl, rfl⟩ hR hcs hls rfl hw8 hdg kk
abbrev rX5_judge : Room := { frames := 0, cells := 0, slots := 0, locals := 0 }
def wX5_judge (Q : Int32 → pd_M → Prop) (a0 : Int32) (a1 : Int32) (M : pd_M) : Prop := ((¬ a0 = 0 → Q 0 M) ∧ (a0 = 0 → ((¬ a1 = 0 → ((¬ a1 = 1 → Q 2 M) ∧ (a1 = 1 → Q 1 M))) ∧ (a1 = 0 → Q 0 M))))

set_option maxRecDepth 100000 in
set_option maxHeartbeats 4000000 in
theorem mX5_judge {l : Launch} {D : va_G} {g : pd_G} {t : Nat} {X : va_W} {Q : Int32 → pd_M → Prop} {a0 : Int32} {a1 : Int32} {M : pd_M} {sz : Nat} (h : wX5_judge Q a0 a1 M) : Met l yX5_judge (Cond.code yX5_judge cX5_judge 2 (Option.some FieldType.int) :: TB) rX5_judge (pd_Pre D g t M X sz [.int a0, .int a1]) (pd_Qi D g M X sz Q) 0 0 (va_A (pd_WL g M ++ X) sz) := by
  refine pd_met (by decide) (Nat.le_of_ble_eq_true rfl) ?_
  intro p e s m below meth c A ls C hA hW hl
  have C : pd_C p m c cX5_judge 2 s _ RX5 meth (Option.some FieldType.int) := C
  have hx := C.1.1
  have hb := C.1.2.1
  have hown := C.1.2.2.2.1
  have hts := C.1.2.2.2.2
  have hl : lv_has ls 2 [(0, .int a0), (1, .int a1)] := hl
  refine lv_iload_n hx hb dX5_judge_0 rfl (lv_at hl 0 rfl) ?_
  refine lv_if_ne (tgt := 8) hx hb dX5_judge_1 (by decide) (fun c_1 => ?_) (fun c_1 => ?_)
  · have h := h.1 c_1
    refine lv_iconst (v := 0) hx hb dX5_judge_8 (by decide) ?_
    exact pd_iret C hA hW h dX5_judge_9
  · have h := h.2 c_1
    refine lv_iload_n hx hb dX5_judge_4 rfl (lv_at hl 1 rfl) ?_
    refine lv_if_ne (tgt := 10) hx hb dX5_judge_5 (by decide) (fun c_2 => ?_) (fun c_2 => ?_)
    · have h := h.1 c_2
      refine lv_iload_n hx hb dX5_judge_10 rfl (lv_at hl 1 rfl) ?_
      refine lv_iconst (v := 1) hx hb dX5_judge_11 (by decide) ?_
      refine lv_icmp_ne (tgt := 19) hx hb dX5_judge_12 (by decide) (fun c_3 => ?_) (fun c_3 => ?_)
      · have h := h.1 c_3
        refine lv_iconst (v := 2) hx hb dX5_judge_19 (by decide) ?_
        exact pd_iret C hA hW h dX5_judge_20
      · have h := h.2 c_3
        refine lv_iconst (v := 1) hx hb dX5_judge_15 (by decide) ?_
        refine lv_goto (tgt := 20) hx hb dX5_judge_16 (by decide) ?_
        exact pd_iret C hA hW h dX5_judge_20
    · have h := h.2 c_2
      refine lv_iconst (v := 0) hx hb dX5_judge_8 (by decide) ?_
      exact pd_iret C hA hW h dX5_judge_9

theorem dd_X5_judge : yX5_judge.cls ≠ "java/lang/invoke/MethodHandle" ∧ yX5_judge.cls ≠ "java/lang/invoke/VarHandle" ∧ (parseMethodDescriptor yX5_judge.desc).map (fun d => d.parameters.length) = some 2 := by decide +kernel
theorem cl_X8_167 {p : Program} {l : Launch} {e : Env} {R : Room} {s : State} {m : MethodId} {args : Array Value} {below : List Frame} {meth : Method} {c : Code} {H : Heap} {locs : List Loc} {cells slots : Nat} {QQ : State → Prop} {cc : ByteArray} {pc : Nat} {ls : Array Slot} {rest : List Value} {D : va_G} {g : pd_G} {t : Nat} {M : pd_M} {X : va_W} {A : Nat → Prop} {nL : Nat} {ret : Option FieldType} {Qc : Int32 → pd_M → Prop} {a0 : Int32} {a1 : Int32} (C : pd_C p m c cc nL s args RX8 meth ret) (hW : pd_W D g t M X A s H locs) (h : wX5_judge Qc a0 a1 M) (hR : rX5_judge.frames + 1 ≤ R.frames ∧ 8 + (2 + 11) + rX5_judge.locals ≤ R.locals) (hcs : cells ≤ R.cells ∧ slots ≤ R.slots) (hls : ls.size = nL) (hw8 : (rest.map fun v => v.category).sum ≤ 8) (hdg : decode cc pc = .ok (.invokestatic 167, 3))
    (kk : ∀ (r : Int32) (M1 : pd_M) (H1 : Heap) (locs1 : List Loc), Qc r M1 → pd_W D g t M1 X A s H1 locs1 → W p l e R s m args below meth c H1 locs1 cells slots QQ (F0 m (pc + 3) ls (.int r :: rest))) : W p l e R s m args below meth c H locs cells slots QQ (F0 m pc ls (.int a1 :: .int a0 :: rest)) :=
  pd_callSi (As := [.int a0, .int a1]) C hW (mX5_judge h) mM_X8_167 mS_yX5_judge mI_X5 mC_yX5_judge dd_X5_judge ⟨rfl, rfl⟩ hR hcs hls rfl hw8 hdg kk
abbrev rX5_countState : Room := { frames := 0, cells := 0, slots := 0, locals := 0 }
def lpX5_countState_4 (K : Int32 → pd_M → Prop) (f1 : Int32) : Nat → Int32 → Int32 → pd_M → Prop
  | 0, _, _, _ => False
  | n + 1, v2, v3, M => (((M.1 60 0) ≤ v3 → K v2 M) ∧ (¬ (M.1 60 0) ≤ v3 → (vp_in v3 20 ∧ ((¬ (M.1 (62 + v3.toNatClampNeg) (5 : Int32).toNatClampNeg) = f1 → ∀ x3_4 : Int32, x3_4 = v3 + 1 → lpX5_countState_4 K f1 n v2 x3_4 M) ∧ ((M.1 (62 + v3.toNatClampNeg) (5 : Int32).toNatClampNeg) = f1 → ∀ x2_5 : Int32, x2_5 = v2 + 1 → ∀ x3_6 : Int32, x3_6 = v3 + 1 → lpX5_countState_4 K f1 n x2_5 x3_6 M)))))

set_option maxRecDepth 100000 in
set_option maxHeartbeats 4000000 in
theorem stX5_countState_4 {p : Program} {l : Launch} {e : Env} {s : State} {m : MethodId} {args : Array Value} {below : List Frame} {meth : Method} {c : Code} {D : va_G} {g : pd_G} {t : Nat} {M0 : pd_M} {X : va_W} {A : Nat → Prop} {sz : Nat} {Q : Int32 → pd_M → Prop} (C : pd_C p m c cX5_countState 4 s args RX5 meth (Option.some FieldType.int)) (hA : A = va_A (pd_WL g M0 ++ X) sz) {K : Int32 → pd_M → Prop} {f1 : Int32}  (hK : ∀ (p2 : Int32) (M : pd_M) (H : Heap) (locs : List Loc) (ls : Array Slot), pd_W D g t M X A s H locs → lv_has ls 4 [(2, .int p2)] → K p2 M → W p l e rX5_countState s m args below meth c H locs 0 0 (MQ below (pd_Qi D g M0 X sz Q) args s 0 0 (va_A (pd_WL g M0 ++ X) sz)) (F0 m 33 ls [])) :
    ∀ (n : Nat) (v2 : Int32) (v3 : Int32) (M : pd_M) (H : Heap) (locs : List Loc) (ls : Array Slot), pd_W D g t M X A s H locs → lv_has ls 4 [(0, .ref (g.1 60)), (1, .int f1), (2, .int v2), (3, .int v3)] → lpX5_countState_4 K f1 n v2 v3 M → W p l e rX5_countState s m args below meth c H locs 0 0 (MQ below (pd_Qi D g M0 X sz Q) args s 0 0 (va_A (pd_WL g M0 ++ X) sz)) (F0 m 4 ls []) := by
  have hx := C.1.1
  have hb := C.1.2.1
  have hown := C.1.2.2.2.1
  have hts := C.1.2.2.2.2
  intro n
  induction n with
  | zero => intro v2 v3 M H locs ls hW hl h; exact h.elim
  | succ n ih =>
    intro v2 v3 M H locs ls hW hl h
    refine lv_iload_n hx hb dX5_countState_4 rfl (lv_at hl 3 rfl) ?_
    refine lv_aload_n hx hb dX5_countState_5 rfl (lv_at hl 0 rfl) ?_
    refine gf_X5_9 C hW dX5_countState_6 ?_
    refine lv_icmp_ge (tgt := 33) hx hb dX5_countState_9 (by decide) (fun c_1 => ?_) (fun c_1 => ?_)
    · have h := h.1 c_1
      exact hK v2 M _ _ _ hW (lv_sub hl [2] rfl) h
    · have h := h.2 c_1
      refine lv_aload_n hx hb dX5_countState_12 rfl (lv_at hl 0 rfl) ?_
      refine gf_X5_17 C hW dX5_countState_13 ?_
      refine lv_iload_n hx hb dX5_countState_16 rfl (lv_at hl 3 rfl) ?_
      have hi_2 := h.1
      have h := h.2
      refine pd_aald C hW kd_61 hi_2 dX5_countState_17 ?_
      refine lv_iconst (v := 5) hx hb dX5_countState_18 (by decide) ?_
      refine pd_iald C hW (pd_k62 _ (pd_lt hi_2)) (by unfold vp_in; decide) dX5_countState_19 ?_
      refine lv_iload_n hx hb dX5_countState_20 rfl (lv_at hl 1 rfl) ?_
      refine lv_icmp_ne (tgt := 27) hx hb dX5_countState_21 (by decide) (fun c_3 => ?_) (fun c_3 => ?_)
      · have h := h.1 c_3
        obtain ⟨x3_4, ex3_4⟩ : ∃ y : Int32, y = v3 + 1 := ⟨_, rfl⟩
        have h := h x3_4 ex3_4
        refine lv_iinc (v := x3_4) (lv' := [(3, .int x3_4), (0, .ref (g.1 60)), (1, .int f1), (2, .int v2)]) hx hb dX5_countState_27 hl (k := 3) rfl (by rw [ex3_4]; rfl) (by decide) rfl (fun ls hl => ?_)
        refine lv_goto (tgt := 4) hx hb dX5_countState_30 (by decide) ?_
        exact ih v2 x3_4 M _ _ _ hW (lv_sub hl [1, 2, 3, 0] rfl) h
      · have h := h.2 c_3
        obtain ⟨x2_5, ex2_5⟩ : ∃ y : Int32, y = v2 + 1 := ⟨_, rfl⟩
        have h := h x2_5 ex2_5
        refine lv_iinc (v := x2_5) (lv' := [(2, .int x2_5), (0, .ref (g.1 60)), (1, .int f1), (3, .int v3)]) hx hb dX5_countState_24 hl (k := 2) rfl (by rw [ex2_5]; rfl) (by decide) rfl (fun ls hl => ?_)
        obtain ⟨x3_6, ex3_6⟩ : ∃ y : Int32, y = v3 + 1 := ⟨_, rfl⟩
        have h := h x3_6 ex3_6
        refine lv_iinc (v := x3_6) (lv' := [(3, .int x3_6), (2, .int x2_5), (0, .ref (g.1 60)), (1, .int f1)]) hx hb dX5_countState_27 hl (k := 3) rfl (by rw [ex3_6]; rfl) (by decide) rfl (fun ls hl => ?_)
        refine lv_goto (tgt := 4) hx hb dX5_countState_30 (by decide) ?_
        exact ih x2_5 x3_6 M _ _ _ hW (lv_sub hl [2, 3, 1, 0] rfl) h

def wX5_countState (Q : Int32 → pd_M → Prop) (a1 : Int32) (M : pd_M) : Prop := (∃ k_4 : Nat, lpX5_countState_4 (fun x2_8 M_7 => Q x2_8 M_7) a1 k_4 0 0 M)

set_option maxRecDepth 100000 in
set_option maxHeartbeats 4000000 in
theorem mX5_countState {l : Launch} {D : va_G} {g : pd_G} {t : Nat} {X : va_W} {Q : Int32 → pd_M → Prop} {a1 : Int32} {M : pd_M} {sz : Nat} (h : wX5_countState Q a1 M) : Met l yX5_countState (Cond.code yX5_countState cX5_countState 4 (Option.some FieldType.int) :: TB) rX5_countState (pd_Pre D g t M X sz [.ref (g.1 60), .int a1]) (pd_Qi D g M X sz Q) 0 0 (va_A (pd_WL g M ++ X) sz) := by
  refine pd_met (by decide) (Nat.le_of_ble_eq_true rfl) ?_
  intro p e s m below meth c A ls C hA hW hl
  have C : pd_C p m c cX5_countState 4 s _ RX5 meth (Option.some FieldType.int) := C
  have hx := C.1.1
  have hb := C.1.2.1
  have hown := C.1.2.2.2.1
  have hts := C.1.2.2.2.2
  have hl : lv_has ls 4 [(0, .ref (g.1 60)), (1, .int a1)] := hl
  refine lv_iconst (v := 0) hx hb dX5_countState_0 (by decide) ?_
  refine lv_istore_n (lv' := [(2, .int 0), (0, .ref (g.1 60)), (1, .int a1)]) hx hb dX5_countState_1 rfl hl (by decide) rfl (fun ls hl => ?_)
  refine lv_iconst (v := 0) hx hb dX5_countState_2 (by decide) ?_
  refine lv_istore_n (lv' := [(3, .int 0), (2, .int 0), (0, .ref (g.1 60)), (1, .int a1)]) hx hb dX5_countState_3 rfl hl (by decide) rfl (fun ls hl => ?_)
  obtain ⟨k_4, h⟩ := h
  refine stX5_countState_4 C hA (fun x2_8 M_7 H locs ls hW hl h => ?_) k_4 0 0 M _ _ _ hW (lv_sub hl [2, 3, 1, 0] rfl) h
  refine lv_iload_n hx hb dX5_countState_33 rfl (lv_at hl 0 rfl) ?_
  exact pd_iret C hA hW h dX5_countState_34

theorem dd_X5_countState : yX5_countState.cls ≠ "java/lang/invoke/MethodHandle" ∧ yX5_countState.cls ≠ "java/lang/invoke/VarHandle" ∧ (parseMethodDescriptor yX5_countState.desc).map (fun d => d.parameters.length) = some 1 := by decide +kernel
theorem cl_X8_187 {p : Program} {l : Launch} {e : Env} {R : Room} {s : State} {m : MethodId} {args : Array Value} {below : List Frame} {meth : Method} {c : Code} {H : Heap} {locs : List Loc} {cells slots : Nat} {QQ : State → Prop} {cc : ByteArray} {pc : Nat} {ls : Array Slot} {rest : List Value} {D : va_G} {g : pd_G} {t : Nat} {M : pd_M} {X : va_W} {A : Nat → Prop} {nL : Nat} {ret : Option FieldType} {Qc : Int32 → pd_M → Prop} {a1 : Int32} (C : pd_C p m c cc nL s args RX8 meth ret) (hW : pd_W D g t M X A s H locs) (h : wX5_countState Qc a1 M) (hR : rX5_countState.frames + 1 ≤ R.frames ∧ 8 + (4 + 11) + rX5_countState.locals ≤ R.locals) (hcs : cells ≤ R.cells ∧ slots ≤ R.slots) (hls : ls.size = nL) (hw8 : (rest.map fun v => v.category).sum ≤ 8) (hdg : decode cc pc = .ok (.invokevirtual 187, 3))
    (kk : ∀ (r : Int32) (M1 : pd_M) (H1 : Heap) (locs1 : List Loc), Qc r M1 → pd_W D g t M1 X A s H1 locs1 → W p l e R s m args below meth c H1 locs1 cells slots QQ (F0 m (pc + 3) ls (.int r :: rest))) : W p l e R s m args below meth c H locs cells slots QQ (F0 m pc ls (.int a1 :: .ref (g.1 60) :: rest)) :=
  pd_callVi (As := [.int a1]) C hW (mX5_countState h) kd_60 rfl mM_X8_187 mO_yX5_countState mV_yX5_countState mI_X5 mC_yX5_countState dd_X5_countState ⟨rfl, rfl⟩ hR hcs hls rfl hw8 hdg kk
abbrev rX5_isSameZoneAndHour : Room := { frames := 0, cells := 0, slots := 0, locals := 0 }
def wX5_isSameZoneAndHour (Q : Int32 → pd_M → Prop) (a1 : Int32) (a2 : Int32) (M : pd_M) : Prop := (vp_in a1 20 ∧ (vp_in a2 20 ∧ ((¬ (M.1 (62 + a1.toNatClampNeg) (4 : Int32).toNatClampNeg) = (M.1 (62 + a2.toNatClampNeg) (4 : Int32).toNatClampNeg) → Q 0 M) ∧ ((M.1 (62 + a1.toNatClampNeg) (4 : Int32).toNatClampNeg) = (M.1 (62 + a2.toNatClampNeg) (4 : Int32).toNatClampNeg) → (vp_in a1 20 ∧ (vp_in a2 20 ∧ ((¬ (M.1 (62 + a1.toNatClampNeg) (2 : Int32).toNatClampNeg) = (M.1 (62 + a2.toNatClampNeg) (2 : Int32).toNatClampNeg) → Q 0 M) ∧ ((M.1 (62 + a1.toNatClampNeg) (2 : Int32).toNatClampNeg) = (M.1 (62 + a2.toNatClampNeg) (2 : Int32).toNatClampNeg) → Q 1 M))))))))

set_option maxRecDepth 100000 in
set_option maxHeartbeats 4000000 in
theorem mX5_isSameZoneAndHour {l : Launch} {D : va_G} {g : pd_G} {t : Nat} {X : va_W} {Q : Int32 → pd_M → Prop} {a1 : Int32} {a2 : Int32} {M : pd_M} {sz : Nat} (h : wX5_isSameZoneAndHour Q a1 a2 M) : Met l yX5_isSameZoneAndHour (Cond.code yX5_isSameZoneAndHour cX5_isSameZoneAndHour 3 (Option.some FieldType.boolean) :: TB) rX5_isSameZoneAndHour (pd_Pre D g t M X sz [.ref (g.1 60), .int a1, .int a2]) (pd_Qi D g M X sz Q) 0 0 (va_A (pd_WL g M ++ X) sz) := by
  refine pd_met (by decide) (Nat.le_of_ble_eq_true rfl) ?_
  intro p e s m below meth c A ls C hA hW hl
  have C : pd_C p m c cX5_isSameZoneAndHour 3 s _ RX5 meth (Option.some FieldType.boolean) := C
  have hx := C.1.1
  have hb := C.1.2.1
  have hown := C.1.2.2.2.1
  have hts := C.1.2.2.2.2
  have hl : lv_has ls 3 [(0, .ref (g.1 60)), (1, .int a1), (2, .int a2)] := hl
  refine lv_aload_n hx hb dX5_isSameZoneAndHour_0 rfl (lv_at hl 0 rfl) ?_
  refine gf_X5_17 C hW dX5_isSameZoneAndHour_1 ?_
  refine lv_iload_n hx hb dX5_isSameZoneAndHour_4 rfl (lv_at hl 1 rfl) ?_
  have hi_1 := h.1
  have h := h.2
  refine pd_aald C hW kd_61 hi_1 dX5_isSameZoneAndHour_5 ?_
  refine lv_iconst (v := 4) hx hb dX5_isSameZoneAndHour_6 (by decide) ?_
  refine pd_iald C hW (pd_k62 _ (pd_lt hi_1)) (by unfold vp_in; decide) dX5_isSameZoneAndHour_7 ?_
  refine lv_aload_n hx hb dX5_isSameZoneAndHour_8 rfl (lv_at hl 0 rfl) ?_
  refine gf_X5_17 C hW dX5_isSameZoneAndHour_9 ?_
  refine lv_iload_n hx hb dX5_isSameZoneAndHour_12 rfl (lv_at hl 2 rfl) ?_
  have hi_2 := h.1
  have h := h.2
  refine pd_aald C hW kd_61 hi_2 dX5_isSameZoneAndHour_13 ?_
  refine lv_iconst (v := 4) hx hb dX5_isSameZoneAndHour_14 (by decide) ?_
  refine pd_iald C hW (pd_k62 _ (pd_lt hi_2)) (by unfold vp_in; decide) dX5_isSameZoneAndHour_15 ?_
  refine lv_icmp_ne (tgt := 42) hx hb dX5_isSameZoneAndHour_16 (by decide) (fun c_3 => ?_) (fun c_3 => ?_)
  · have h := h.1 c_3
    refine lv_iconst (v := 0) hx hb dX5_isSameZoneAndHour_42 (by decide) ?_
    exact pd_zret C hA hW rfl h dX5_isSameZoneAndHour_43
  · have h := h.2 c_3
    refine lv_aload_n hx hb dX5_isSameZoneAndHour_19 rfl (lv_at hl 0 rfl) ?_
    refine gf_X5_17 C hW dX5_isSameZoneAndHour_20 ?_
    refine lv_iload_n hx hb dX5_isSameZoneAndHour_23 rfl (lv_at hl 1 rfl) ?_
    have hi_4 := h.1
    have h := h.2
    refine pd_aald C hW kd_61 hi_4 dX5_isSameZoneAndHour_24 ?_
    refine lv_iconst (v := 2) hx hb dX5_isSameZoneAndHour_25 (by decide) ?_
    refine pd_iald C hW (pd_k62 _ (pd_lt hi_4)) (by unfold vp_in; decide) dX5_isSameZoneAndHour_26 ?_
    refine lv_aload_n hx hb dX5_isSameZoneAndHour_27 rfl (lv_at hl 0 rfl) ?_
    refine gf_X5_17 C hW dX5_isSameZoneAndHour_28 ?_
    refine lv_iload_n hx hb dX5_isSameZoneAndHour_31 rfl (lv_at hl 2 rfl) ?_
    have hi_5 := h.1
    have h := h.2
    refine pd_aald C hW kd_61 hi_5 dX5_isSameZoneAndHour_32 ?_
    refine lv_iconst (v := 2) hx hb dX5_isSameZoneAndHour_33 (by decide) ?_
    refine pd_iald C hW (pd_k62 _ (pd_lt hi_5)) (by unfold vp_in; decide) dX5_isSameZoneAndHour_34 ?_
    refine lv_icmp_ne (tgt := 42) hx hb dX5_isSameZoneAndHour_35 (by decide) (fun c_6 => ?_) (fun c_6 => ?_)
    · have h := h.1 c_6
      refine lv_iconst (v := 0) hx hb dX5_isSameZoneAndHour_42 (by decide) ?_
      exact pd_zret C hA hW rfl h dX5_isSameZoneAndHour_43
    · have h := h.2 c_6
      refine lv_iconst (v := 1) hx hb dX5_isSameZoneAndHour_38 (by decide) ?_
      refine lv_goto (tgt := 43) hx hb dX5_isSameZoneAndHour_39 (by decide) ?_
      exact pd_zret C hA hW rfl h dX5_isSameZoneAndHour_43

theorem dd_X5_isSameZoneAndHour : yX5_isSameZoneAndHour.cls ≠ "java/lang/invoke/MethodHandle" ∧ yX5_isSameZoneAndHour.cls ≠ "java/lang/invoke/VarHandle" ∧ (parseMethodDescriptor yX5_isSameZoneAndHour.desc).map (fun d => d.parameters.length) = some 2 := by decide +kernel
theorem cl_X5_20 {p : Program} {l : Launch} {e : Env} {R : Room} {s : State} {m : MethodId} {args : Array Value} {below : List Frame} {meth : Method} {c : Code} {H : Heap} {locs : List Loc} {cells slots : Nat} {QQ : State → Prop} {cc : ByteArray} {pc : Nat} {ls : Array Slot} {rest : List Value} {D : va_G} {g : pd_G} {t : Nat} {M : pd_M} {X : va_W} {A : Nat → Prop} {nL : Nat} {ret : Option FieldType} {Qc : Int32 → pd_M → Prop} {a1 : Int32} {a2 : Int32} (C : pd_C p m c cc nL s args RX5 meth ret) (hW : pd_W D g t M X A s H locs) (h : wX5_isSameZoneAndHour Qc a1 a2 M) (hR : rX5_isSameZoneAndHour.frames + 1 ≤ R.frames ∧ 8 + (3 + 11) + rX5_isSameZoneAndHour.locals ≤ R.locals) (hcs : cells ≤ R.cells ∧ slots ≤ R.slots) (hls : ls.size = nL) (hw8 : (rest.map fun v => v.category).sum ≤ 8) (hdg : decode cc pc = .ok (.invokevirtual 20, 3))
    (kk : ∀ (r : Int32) (M1 : pd_M) (H1 : Heap) (locs1 : List Loc), Qc r M1 → pd_W D g t M1 X A s H1 locs1 → W p l e R s m args below meth c H1 locs1 cells slots QQ (F0 m (pc + 3) ls (.int r :: rest))) : W p l e R s m args below meth c H locs cells slots QQ (F0 m pc ls (.int a2 :: .int a1 :: .ref (g.1 60) :: rest)) :=
  pd_callVi (As := [.int a1, .int a2]) C hW (mX5_isSameZoneAndHour h) kd_60 rfl mM_X5_20 mO_yX5_isSameZoneAndHour mV_yX5_isSameZoneAndHour mI_X5 mC_yX5_isSameZoneAndHour dd_X5_isSameZoneAndHour ⟨rfl, rfl⟩ hR hcs hls rfl hw8 hdg kk
abbrev rX5_countLikes : Room := { frames := 1, cells := 0, slots := 0, locals := 22 }
def lpX5_countLikes_5 (K : Int32 → pd_M → Prop) (f1 : Int32) (f2 : Int32) : Nat → Int32 → Int32 → pd_M → Prop
  | 0, _, _, _ => False
  | n + 1, v3, v4, M => (((M.1 60 0) ≤ v4 → K v3 M) ∧ (¬ (M.1 60 0) ≤ v4 → ((v4 = f1 → ∀ x4_3 : Int32, x4_3 = v4 + 1 → lpX5_countLikes_5 K f1 f2 n v3 x4_3 M) ∧ (¬ v4 = f1 → (vp_in v4 20 ∧ ((¬ (M.1 (62 + v4.toNatClampNeg) (3 : Int32).toNatClampNeg) = f2 → ∀ x4_6 : Int32, x4_6 = v4 + 1 → lpX5_countLikes_5 K f1 f2 n v3 x4_6 M) ∧ ((M.1 (62 + v4.toNatClampNeg) (3 : Int32).toNatClampNeg) = f2 → wX5_isSameZoneAndHour (fun r_8 M_7 => ((r_8 = 0 → ∀ x4_10 : Int32, x4_10 = v4 + 1 → lpX5_countLikes_5 K f1 f2 n v3 x4_10 M_7) ∧ (¬ r_8 = 0 → ∀ x3_11 : Int32, x3_11 = v3 + 1 → ∀ x4_12 : Int32, x4_12 = v4 + 1 → lpX5_countLikes_5 K f1 f2 n x3_11 x4_12 M_7))) f1 v4 M)))))))

set_option maxRecDepth 100000 in
set_option maxHeartbeats 4000000 in
theorem stX5_countLikes_5 {p : Program} {l : Launch} {e : Env} {s : State} {m : MethodId} {args : Array Value} {below : List Frame} {meth : Method} {c : Code} {D : va_G} {g : pd_G} {t : Nat} {M0 : pd_M} {X : va_W} {A : Nat → Prop} {sz : Nat} {Q : Int32 → pd_M → Prop} (C : pd_C p m c cX5_countLikes 5 s args RX5 meth (Option.some FieldType.int)) (hA : A = va_A (pd_WL g M0 ++ X) sz) {K : Int32 → pd_M → Prop} {f1 : Int32} {f2 : Int32}  (hK : ∀ (p3 : Int32) (M : pd_M) (H : Heap) (locs : List Loc) (ls : Array Slot), pd_W D g t M X A s H locs → lv_has ls 5 [(3, .int p3)] → K p3 M → W p l e rX5_countLikes s m args below meth c H locs 0 0 (MQ below (pd_Qi D g M0 X sz Q) args s 0 0 (va_A (pd_WL g M0 ++ X) sz)) (F0 m 52 ls [])) :
    ∀ (n : Nat) (v3 : Int32) (v4 : Int32) (M : pd_M) (H : Heap) (locs : List Loc) (ls : Array Slot), pd_W D g t M X A s H locs → lv_has ls 5 [(0, .ref (g.1 60)), (1, .int f1), (2, .int f2), (3, .int v3), (4, .int v4)] → lpX5_countLikes_5 K f1 f2 n v3 v4 M → W p l e rX5_countLikes s m args below meth c H locs 0 0 (MQ below (pd_Qi D g M0 X sz Q) args s 0 0 (va_A (pd_WL g M0 ++ X) sz)) (F0 m 5 ls []) := by
  have hx := C.1.1
  have hb := C.1.2.1
  have hown := C.1.2.2.2.1
  have hts := C.1.2.2.2.2
  intro n
  induction n with
  | zero => intro v3 v4 M H locs ls hW hl h; exact h.elim
  | succ n ih =>
    intro v3 v4 M H locs ls hW hl h
    refine lv_iload hx hb dX5_countLikes_5 (lv_at hl 4 rfl) ?_
    refine lv_aload_n hx hb dX5_countLikes_7 rfl (lv_at hl 0 rfl) ?_
    refine gf_X5_9 C hW dX5_countLikes_8 ?_
    refine lv_icmp_ge (tgt := 52) hx hb dX5_countLikes_11 (by decide) (fun c_1 => ?_) (fun c_1 => ?_)
    · have h := h.1 c_1
      exact hK v3 M _ _ _ hW (lv_sub hl [3] rfl) h
    · have h := h.2 c_1
      refine lv_iload hx hb dX5_countLikes_14 (lv_at hl 4 rfl) ?_
      refine lv_iload_n hx hb dX5_countLikes_16 rfl (lv_at hl 1 rfl) ?_
      refine lv_icmp_eq (tgt := 46) hx hb dX5_countLikes_17 (by decide) (fun c_2 => ?_) (fun c_2 => ?_)
      · have h := h.1 c_2
        obtain ⟨x4_3, ex4_3⟩ : ∃ y : Int32, y = v4 + 1 := ⟨_, rfl⟩
        have h := h x4_3 ex4_3
        refine lv_iinc (v := x4_3) (lv' := [(4, .int x4_3), (0, .ref (g.1 60)), (1, .int f1), (2, .int f2), (3, .int v3)]) hx hb dX5_countLikes_46 hl (k := 4) rfl (by rw [ex4_3]; rfl) (by decide) rfl (fun ls hl => ?_)
        refine lv_goto (tgt := 5) hx hb dX5_countLikes_49 (by decide) ?_
        exact ih v3 x4_3 M _ _ _ hW (lv_sub hl [1, 2, 3, 4, 0] rfl) h
      · have h := h.2 c_2
        refine lv_aload_n hx hb dX5_countLikes_20 rfl (lv_at hl 0 rfl) ?_
        refine gf_X5_17 C hW dX5_countLikes_21 ?_
        refine lv_iload hx hb dX5_countLikes_24 (lv_at hl 4 rfl) ?_
        have hi_4 := h.1
        have h := h.2
        refine pd_aald C hW kd_61 hi_4 dX5_countLikes_26 ?_
        refine lv_iconst (v := 3) hx hb dX5_countLikes_27 (by decide) ?_
        refine pd_iald C hW (pd_k62 _ (pd_lt hi_4)) (by unfold vp_in; decide) dX5_countLikes_28 ?_
        refine lv_iload_n hx hb dX5_countLikes_29 rfl (lv_at hl 2 rfl) ?_
        refine lv_icmp_ne (tgt := 46) hx hb dX5_countLikes_30 (by decide) (fun c_5 => ?_) (fun c_5 => ?_)
        · have h := h.1 c_5
          obtain ⟨x4_6, ex4_6⟩ : ∃ y : Int32, y = v4 + 1 := ⟨_, rfl⟩
          have h := h x4_6 ex4_6
          refine lv_iinc (v := x4_6) (lv' := [(4, .int x4_6), (0, .ref (g.1 60)), (1, .int f1), (2, .int f2), (3, .int v3)]) hx hb dX5_countLikes_46 hl (k := 4) rfl (by rw [ex4_6]; rfl) (by decide) rfl (fun ls hl => ?_)
          refine lv_goto (tgt := 5) hx hb dX5_countLikes_49 (by decide) ?_
          exact ih v3 x4_6 M _ _ _ hW (lv_sub hl [1, 2, 3, 4, 0] rfl) h
        · have h := h.2 c_5
          refine lv_aload_n hx hb dX5_countLikes_33 rfl (lv_at hl 0 rfl) ?_
          refine lv_iload_n hx hb dX5_countLikes_34 rfl (lv_at hl 1 rfl) ?_
          refine lv_iload hx hb dX5_countLikes_35 (lv_at hl 4 rfl) ?_
          refine cl_X5_20 C hW h ⟨by decide, by decide⟩ ⟨Nat.zero_le _, Nat.zero_le _⟩ hl.1 (Nat.le_of_ble_eq_true rfl) dX5_countLikes_37 (fun r_8 M_7 H locs h hW => ?_)
          refine lv_if_eq (tgt := 46) hx hb dX5_countLikes_40 (by decide) (fun c_9 => ?_) (fun c_9 => ?_)
          · have h := h.1 c_9
            obtain ⟨x4_10, ex4_10⟩ : ∃ y : Int32, y = v4 + 1 := ⟨_, rfl⟩
            have h := h x4_10 ex4_10
            refine lv_iinc (v := x4_10) (lv' := [(4, .int x4_10), (0, .ref (g.1 60)), (1, .int f1), (2, .int f2), (3, .int v3)]) hx hb dX5_countLikes_46 hl (k := 4) rfl (by rw [ex4_10]; rfl) (by decide) rfl (fun ls hl => ?_)
            refine lv_goto (tgt := 5) hx hb dX5_countLikes_49 (by decide) ?_
            exact ih v3 x4_10 M_7 _ _ _ hW (lv_sub hl [1, 2, 3, 4, 0] rfl) h
          · have h := h.2 c_9
            obtain ⟨x3_11, ex3_11⟩ : ∃ y : Int32, y = v3 + 1 := ⟨_, rfl⟩
            have h := h x3_11 ex3_11
            refine lv_iinc (v := x3_11) (lv' := [(3, .int x3_11), (0, .ref (g.1 60)), (1, .int f1), (2, .int f2), (4, .int v4)]) hx hb dX5_countLikes_43 hl (k := 3) rfl (by rw [ex3_11]; rfl) (by decide) rfl (fun ls hl => ?_)
            obtain ⟨x4_12, ex4_12⟩ : ∃ y : Int32, y = v4 + 1 := ⟨_, rfl⟩
            have h := h x4_12 ex4_12
            refine lv_iinc (v := x4_12) (lv' := [(4, .int x4_12), (3, .int x3_11), (0, .ref (g.1 60)), (1, .int f1), (2, .int f2)]) hx hb dX5_countLikes_46 hl (k := 4) rfl (by rw [ex4_12]; rfl) (by decide) rfl (fun ls hl => ?_)
            refine lv_goto (tgt := 5) hx hb dX5_countLikes_49 (by decide) ?_
            exact ih x3_11 x4_12 M_7 _ _ _ hW (lv_sub hl [2, 3, 4, 1, 0] rfl) h

def wX5_countLikes (Q : Int32 → pd_M → Prop) (a1 : Int32) (a2 : Int32) (M : pd_M) : Prop := (∃ k_5 : Nat, lpX5_countLikes_5 (fun x3_14 M_13 => Q x3_14 M_13) a1 a2 k_5 0 0 M)

set_option maxRecDepth 100000 in
set_option maxHeartbeats 4000000 in
theorem mX5_countLikes {l : Launch} {D : va_G} {g : pd_G} {t : Nat} {X : va_W} {Q : Int32 → pd_M → Prop} {a1 : Int32} {a2 : Int32} {M : pd_M} {sz : Nat} (h : wX5_countLikes Q a1 a2 M) : Met l yX5_countLikes (Cond.code yX5_countLikes cX5_countLikes 5 (Option.some FieldType.int) :: TB) rX5_countLikes (pd_Pre D g t M X sz [.ref (g.1 60), .int a1, .int a2]) (pd_Qi D g M X sz Q) 0 0 (va_A (pd_WL g M ++ X) sz) := by
  refine pd_met (by decide) (Nat.le_of_ble_eq_true rfl) ?_
  intro p e s m below meth c A ls C hA hW hl
  have C : pd_C p m c cX5_countLikes 5 s _ RX5 meth (Option.some FieldType.int) := C
  have hx := C.1.1
  have hb := C.1.2.1
  have hown := C.1.2.2.2.1
  have hts := C.1.2.2.2.2
  have hl : lv_has ls 5 [(0, .ref (g.1 60)), (1, .int a1), (2, .int a2)] := hl
  refine lv_iconst (v := 0) hx hb dX5_countLikes_0 (by decide) ?_
  refine lv_istore_n (lv' := [(3, .int 0), (0, .ref (g.1 60)), (1, .int a1), (2, .int a2)]) hx hb dX5_countLikes_1 rfl hl (by decide) rfl (fun ls hl => ?_)
  refine lv_iconst (v := 0) hx hb dX5_countLikes_2 (by decide) ?_
  refine lv_istore (lv' := [(4, .int 0), (3, .int 0), (0, .ref (g.1 60)), (1, .int a1), (2, .int a2)]) hx hb dX5_countLikes_3 hl (by decide) rfl (fun ls hl => ?_)
  obtain ⟨k_5, h⟩ := h
  refine stX5_countLikes_5 C hA (fun x3_14 M_13 H locs ls hW hl h => ?_) k_5 0 0 M _ _ _ hW (lv_sub hl [2, 3, 4, 1, 0] rfl) h
  refine lv_iload_n hx hb dX5_countLikes_52 rfl (lv_at hl 0 rfl) ?_
  exact pd_iret C hA hW h dX5_countLikes_53

theorem dd_X5_countLikes : yX5_countLikes.cls ≠ "java/lang/invoke/MethodHandle" ∧ yX5_countLikes.cls ≠ "java/lang/invoke/VarHandle" ∧ (parseMethodDescriptor yX5_countLikes.desc).map (fun d => d.parameters.length) = some 2 := by decide +kernel
theorem cl_X5_24 {p : Program} {l : Launch} {e : Env} {R : Room} {s : State} {m : MethodId} {args : Array Value} {below : List Frame} {meth : Method} {c : Code} {H : Heap} {locs : List Loc} {cells slots : Nat} {QQ : State → Prop} {cc : ByteArray} {pc : Nat} {ls : Array Slot} {rest : List Value} {D : va_G} {g : pd_G} {t : Nat} {M : pd_M} {X : va_W} {A : Nat → Prop} {nL : Nat} {ret : Option FieldType} {Qc : Int32 → pd_M → Prop} {a1 : Int32} {a2 : Int32} (C : pd_C p m c cc nL s args RX5 meth ret) (hW : pd_W D g t M X A s H locs) (h : wX5_countLikes Qc a1 a2 M) (hR : rX5_countLikes.frames + 1 ≤ R.frames ∧ 8 + (5 + 11) + rX5_countLikes.locals ≤ R.locals) (hcs : cells ≤ R.cells ∧ slots ≤ R.slots) (hls : ls.size = nL) (hw8 : (rest.map fun v => v.category).sum ≤ 8) (hdg : decode cc pc = .ok (.invokevirtual 24, 3))
    (kk : ∀ (r : Int32) (M1 : pd_M) (H1 : Heap) (locs1 : List Loc), Qc r M1 → pd_W D g t M1 X A s H1 locs1 → W p l e R s m args below meth c H1 locs1 cells slots QQ (F0 m (pc + 3) ls (.int r :: rest))) : W p l e R s m args below meth c H locs cells slots QQ (F0 m pc ls (.int a2 :: .int a1 :: .ref (g.1 60) :: rest)) :=
  pd_callVi (As := [.int a1, .int a2]) C hW (mX5_countLikes h) kd_60 rfl mM_X5_24 mO_yX5_countLikes mV_yX5_countLikes mI_X5 mC_yX5_countLikes dd_X5_countLikes ⟨rfl, rfl⟩ hR hcs hls rfl hw8 hdg kk
theorem cl_X8_182 {p : Program} {l : Launch} {e : Env} {R : Room} {s : State} {m : MethodId} {args : Array Value} {below : List Frame} {meth : Method} {c : Code} {H : Heap} {locs : List Loc} {cells slots : Nat} {QQ : State → Prop} {cc : ByteArray} {pc : Nat} {ls : Array Slot} {rest : List Value} {D : va_G} {g : pd_G} {t : Nat} {M : pd_M} {X : va_W} {A : Nat → Prop} {nL : Nat} {ret : Option FieldType} {Qc : Int32 → pd_M → Prop} {a1 : Int32} {a2 : Int32} (C : pd_C p m c cc nL s args RX8 meth ret) (hW : pd_W D g t M X A s H locs) (h : wX5_countLikes Qc a1 a2 M) (hR : rX5_countLikes.frames + 1 ≤ R.frames ∧ 8 + (5 + 11) + rX5_countLikes.locals ≤ R.locals) (hcs : cells ≤ R.cells ∧ slots ≤ R.slots) (hls : ls.size = nL) (hw8 : (rest.map fun v => v.category).sum ≤ 8) (hdg : decode cc pc = .ok (.invokevirtual 182, 3))
    (kk : ∀ (r : Int32) (M1 : pd_M) (H1 : Heap) (locs1 : List Loc), Qc r M1 → pd_W D g t M1 X A s H1 locs1 → W p l e R s m args below meth c H1 locs1 cells slots QQ (F0 m (pc + 3) ls (.int r :: rest))) : W p l e R s m args below meth c H locs cells slots QQ (F0 m pc ls (.int a2 :: .int a1 :: .ref (g.1 60) :: rest)) :=
  pd_callVi (As := [.int a1, .int a2]) C hW (mX5_countLikes h) kd_60 rfl mM_X8_182 mO_yX5_countLikes mV_yX5_countLikes mI_X5 mC_yX5_countLikes dd_X5_countLikes ⟨rfl, rfl⟩ hR hcs hls rfl hw8 hdg kk
abbrev rX5_stateByLikes : Room := { frames := 2, cells := 0, slots := 0, locals := 46 }
def wX5_stateByLikes (Q : Int32 → pd_M → Prop) (a1 : Int32) (M : pd_M) : Prop := (vp_in a1 20 ∧ (((M.1 (62 + a1.toNatClampNeg) (5 : Int32).toNatClampNeg) = 2 → wX5_countLikes (fun r_4 M_3 => wX5_countLikes (fun r_6 M_5 => ((¬ r_4 = r_6 → ((r_4 ≤ r_6 → Q 0 M_5) ∧ (¬ r_4 ≤ r_6 → Q 1 M_5))) ∧ (r_4 = r_6 → Q 2 M_5))) a1 0 M_3) a1 1 M) ∧ (¬ (M.1 (62 + a1.toNatClampNeg) (5 : Int32).toNatClampNeg) = 2 → (vp_in a1 20 ∧ Q (M.1 (62 + a1.toNatClampNeg) (5 : Int32).toNatClampNeg) M))))

set_option maxRecDepth 100000 in
set_option maxHeartbeats 4000000 in
theorem mX5_stateByLikes {l : Launch} {D : va_G} {g : pd_G} {t : Nat} {X : va_W} {Q : Int32 → pd_M → Prop} {a1 : Int32} {M : pd_M} {sz : Nat} (h : wX5_stateByLikes Q a1 M) : Met l yX5_stateByLikes (Cond.code yX5_stateByLikes cX5_stateByLikes 4 (Option.some FieldType.int) :: TB) rX5_stateByLikes (pd_Pre D g t M X sz [.ref (g.1 60), .int a1]) (pd_Qi D g M X sz Q) 0 0 (va_A (pd_WL g M ++ X) sz) := by
  refine pd_met (by decide) (Nat.le_of_ble_eq_true rfl) ?_
  intro p e s m below meth c A ls C hA hW hl
  have C : pd_C p m c cX5_stateByLikes 4 s _ RX5 meth (Option.some FieldType.int) := C
  have hx := C.1.1
  have hb := C.1.2.1
  have hown := C.1.2.2.2.1
  have hts := C.1.2.2.2.2
  have hl : lv_has ls 4 [(0, .ref (g.1 60)), (1, .int a1)] := hl
  refine lv_aload_n hx hb dX5_stateByLikes_0 rfl (lv_at hl 0 rfl) ?_
  refine gf_X5_17 C hW dX5_stateByLikes_1 ?_
  refine lv_iload_n hx hb dX5_stateByLikes_4 rfl (lv_at hl 1 rfl) ?_
  have hi_1 := h.1
  have h := h.2
  refine pd_aald C hW kd_61 hi_1 dX5_stateByLikes_5 ?_
  refine lv_iconst (v := 5) hx hb dX5_stateByLikes_6 (by decide) ?_
  refine pd_iald C hW (pd_k62 _ (pd_lt hi_1)) (by unfold vp_in; decide) dX5_stateByLikes_7 ?_
  refine lv_iconst (v := 2) hx hb dX5_stateByLikes_8 (by decide) ?_
  refine lv_icmp_eq (tgt := 21) hx hb dX5_stateByLikes_9 (by decide) (fun c_2 => ?_) (fun c_2 => ?_)
  · have h := h.1 c_2
    refine lv_aload_n hx hb dX5_stateByLikes_21 rfl (lv_at hl 0 rfl) ?_
    refine lv_iload_n hx hb dX5_stateByLikes_22 rfl (lv_at hl 1 rfl) ?_
    refine lv_iconst (v := 1) hx hb dX5_stateByLikes_23 (by decide) ?_
    refine cl_X5_24 C hW h ⟨by decide, by decide⟩ ⟨Nat.zero_le _, Nat.zero_le _⟩ hl.1 (Nat.le_of_ble_eq_true rfl) dX5_stateByLikes_24 (fun r_4 M_3 H locs h hW => ?_)
    refine lv_istore_n (lv' := [(2, .int r_4), (0, .ref (g.1 60)), (1, .int a1)]) hx hb dX5_stateByLikes_27 rfl hl (by decide) rfl (fun ls hl => ?_)
    refine lv_aload_n hx hb dX5_stateByLikes_28 rfl (lv_at hl 1 rfl) ?_
    refine lv_iload_n hx hb dX5_stateByLikes_29 rfl (lv_at hl 2 rfl) ?_
    refine lv_iconst (v := 0) hx hb dX5_stateByLikes_30 (by decide) ?_
    refine cl_X5_24 C hW h ⟨by decide, by decide⟩ ⟨Nat.zero_le _, Nat.zero_le _⟩ hl.1 (Nat.le_of_ble_eq_true rfl) dX5_stateByLikes_31 (fun r_6 M_5 H locs h hW => ?_)
    refine lv_istore_n (lv' := [(3, .int r_6), (2, .int r_4), (0, .ref (g.1 60)), (1, .int a1)]) hx hb dX5_stateByLikes_34 rfl hl (by decide) rfl (fun ls hl => ?_)
    refine lv_iload_n hx hb dX5_stateByLikes_35 rfl (lv_at hl 1 rfl) ?_
    refine lv_iload_n hx hb dX5_stateByLikes_36 rfl (lv_at hl 0 rfl) ?_
    refine lv_icmp_ne (tgt := 42) hx hb dX5_stateByLikes_37 (by decide) (fun c_7 => ?_) (fun c_7 => ?_)
    · have h := h.1 c_7
      refine lv_iload_n hx hb dX5_stateByLikes_42 rfl (lv_at hl 1 rfl) ?_
      refine lv_iload_n hx hb dX5_stateByLikes_43 rfl (lv_at hl 0 rfl) ?_
      refine lv_icmp_le (tgt := 51) hx hb dX5_stateByLikes_44 (by decide) (fun c_8 => ?_) (fun c_8 => ?_)
      · have h := h.1 c_8
        refine lv_iconst (v := 0) hx hb dX5_stateByLikes_51 (by decide) ?_
        exact pd_iret C hA hW h dX5_stateByLikes_52
      · have h := h.2 c_8
        refine lv_iconst (v := 1) hx hb dX5_stateByLikes_47 (by decide) ?_
        refine lv_goto (tgt := 52) hx hb dX5_stateByLikes_48 (by decide) ?_
        exact pd_iret C hA hW h dX5_stateByLikes_52
    · have h := h.2 c_7
      refine lv_iconst (v := 2) hx hb dX5_stateByLikes_40 (by decide) ?_
      exact pd_iret C hA hW h dX5_stateByLikes_41
  · have h := h.2 c_2
    refine lv_aload_n hx hb dX5_stateByLikes_12 rfl (lv_at hl 0 rfl) ?_
    refine gf_X5_17 C hW dX5_stateByLikes_13 ?_
    refine lv_iload_n hx hb dX5_stateByLikes_16 rfl (lv_at hl 1 rfl) ?_
    have hi_9 := h.1
    have h := h.2
    refine pd_aald C hW kd_61 hi_9 dX5_stateByLikes_17 ?_
    refine lv_iconst (v := 5) hx hb dX5_stateByLikes_18 (by decide) ?_
    refine pd_iald C hW (pd_k62 _ (pd_lt hi_9)) (by unfold vp_in; decide) dX5_stateByLikes_19 ?_
    exact pd_iret C hA hW h dX5_stateByLikes_20

theorem dd_X5_stateByLikes : yX5_stateByLikes.cls ≠ "java/lang/invoke/MethodHandle" ∧ yX5_stateByLikes.cls ≠ "java/lang/invoke/VarHandle" ∧ (parseMethodDescriptor yX5_stateByLikes.desc).map (fun d => d.parameters.length) = some 1 := by decide +kernel
theorem cl_X8_179 {p : Program} {l : Launch} {e : Env} {R : Room} {s : State} {m : MethodId} {args : Array Value} {below : List Frame} {meth : Method} {c : Code} {H : Heap} {locs : List Loc} {cells slots : Nat} {QQ : State → Prop} {cc : ByteArray} {pc : Nat} {ls : Array Slot} {rest : List Value} {D : va_G} {g : pd_G} {t : Nat} {M : pd_M} {X : va_W} {A : Nat → Prop} {nL : Nat} {ret : Option FieldType} {Qc : Int32 → pd_M → Prop} {a1 : Int32} (C : pd_C p m c cc nL s args RX8 meth ret) (hW : pd_W D g t M X A s H locs) (h : wX5_stateByLikes Qc a1 M) (hR : rX5_stateByLikes.frames + 1 ≤ R.frames ∧ 8 + (4 + 11) + rX5_stateByLikes.locals ≤ R.locals) (hcs : cells ≤ R.cells ∧ slots ≤ R.slots) (hls : ls.size = nL) (hw8 : (rest.map fun v => v.category).sum ≤ 8) (hdg : decode cc pc = .ok (.invokevirtual 179, 3))
    (kk : ∀ (r : Int32) (M1 : pd_M) (H1 : Heap) (locs1 : List Loc), Qc r M1 → pd_W D g t M1 X A s H1 locs1 → W p l e R s m args below meth c H1 locs1 cells slots QQ (F0 m (pc + 3) ls (.int r :: rest))) : W p l e R s m args below meth c H locs cells slots QQ (F0 m pc ls (.int a1 :: .ref (g.1 60) :: rest)) :=
  pd_callVi (As := [.int a1]) C hW (mX5_stateByLikes h) kd_60 rfl mM_X8_179 mO_yX5_stateByLikes mV_yX5_stateByLikes mI_X5 mC_yX5_stateByLikes dd_X5_stateByLikes ⟨rfl, rfl⟩ hR hcs hls rfl hw8 hdg kk
