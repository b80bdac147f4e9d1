abbrev rX9_gain : Room := { frames := 2, cells := 0, slots := 0, locals := 43 }
def wX9_gain (Q : Int32 → pd_M → Prop) (a1 : Int32) (a2 : Int32) (M : pd_M) : Prop := wX9_isStreet (fun r_2 M_1 => ((r_2 = 0 → Q (-1) M_1) ∧ (¬ r_2 = 0 → wX9_in (fun r_5 M_4 => ((¬ r_5 = 0 → (vp_in a1 5 ∧ ∀ x3_8 : Int32, x3_8 = (M_4.1 87 a1.toNatClampNeg) → (vp_in a1 5 ∧ ∀ M_10 : pd_M, M_10 = sI M_4 87 a1.toNatClampNeg a2 → Q x3_8 M_10))) ∧ (r_5 = 0 → Q (-1) M_4))) a2 0 99 M_1))) a1 M

set_option maxRecDepth 100000 in
set_option maxHeartbeats 4000000 in
theorem mX9_gain {l : Launch} {D : va_G} {g : pd_G} {t : Nat} {X : va_W} {Q : Int32 → pd_M → Prop} {a1 : Int32} {a2 : Int32} {M : pd_M} {sz : Nat} (h : wX9_gain Q a1 a2 M) : Met l yX9_gain (Cond.code yX9_gain cX9_gain 4 (Option.some FieldType.int) :: TB) rX9_gain (pd_Pre D g t M X sz [.ref (g.1 82), .int a1, .int a2]) (pd_Qi D g M X sz Q) 0 0 (va_A (pd_WL g M ++ X) sz) := by
  refine pd_met (by decide) (Nat.le_of_ble_eq_true rfl) ?_
  intro p e s m below meth c A ls C hA hW hl
  have C : pd_C p m c cX9_gain 4 s _ RX9 meth (Option.some FieldType.int) := C
  have hx := C.1.1
  have hb := C.1.2.1
  have hown := C.1.2.2.2.1
  have hts := C.1.2.2.2.2
  have hl : lv_has ls 4 [(0, .ref (g.1 82)), (1, .int a1), (2, .int a2)] := hl
  refine lv_aload_n hx hb dX9_gain_0 rfl (lv_at hl 0 rfl) ?_
  refine lv_iload_n hx hb dX9_gain_1 rfl (lv_at hl 1 rfl) ?_
  refine cl_X9_101 C hW h ⟨by decide, by decide⟩ ⟨Nat.zero_le _, Nat.zero_le _⟩ hl.1 (Nat.le_of_ble_eq_true rfl) dX9_gain_2 (fun r_2 M_1 H locs h hW => ?_)
  refine lv_if_eq (tgt := 18) hx hb dX9_gain_5 (by decide) (fun c_3 => ?_) (fun c_3 => ?_)
  · have h := h.1 c_3
    refine lv_iconst (v := (-1)) hx hb dX9_gain_18 (by decide) ?_
    exact pd_iret C hA hW h dX9_gain_19
  · have h := h.2 c_3
    refine lv_iload_n hx hb dX9_gain_8 rfl (lv_at hl 2 rfl) ?_
    refine lv_iconst (v := 0) hx hb dX9_gain_9 (by decide) ?_
    refine lv_bipush (v := 99) hx hb dX9_gain_10 (by decide) ?_
    refine cl_X9_90 C hW h ⟨by decide, by decide⟩ ⟨Nat.zero_le _, Nat.zero_le _⟩ hl.1 (Nat.le_of_ble_eq_true rfl) dX9_gain_12 (fun r_5 M_4 H locs h hW => ?_)
    refine lv_if_ne (tgt := 20) hx hb dX9_gain_15 (by decide) (fun c_6 => ?_) (fun c_6 => ?_)
    · have h := h.1 c_6
      refine lv_aload_n hx hb dX9_gain_20 rfl (lv_at hl 0 rfl) ?_
      refine gf_X9_22 C hW dX9_gain_21 ?_
      refine lv_iload_n hx hb dX9_gain_24 rfl (lv_at hl 1 rfl) ?_
      have hi_7 := h.1
      have h := h.2
      refine pd_iald C hW kd_87 hi_7 dX9_gain_25 ?_
      refine lv_topi (fun x3_8 ex3_8 => ?_)
      have h := h x3_8 ex3_8
      refine lv_istore_n (lv' := [(3, .int x3_8), (0, .ref (g.1 82)), (1, .int a1), (2, .int a2)]) hx hb dX9_gain_26 rfl hl (by decide) rfl (fun ls hl => ?_)
      refine lv_aload_n hx hb dX9_gain_27 rfl (lv_at hl 1 rfl) ?_
      refine gf_X9_22 C hW dX9_gain_28 ?_
      refine lv_iload_n hx hb dX9_gain_31 rfl (lv_at hl 2 rfl) ?_
      refine lv_iload_n hx hb dX9_gain_32 rfl (lv_at hl 3 rfl) ?_
      have hi_9 := h.1
      have h := h.2
      refine pd_iast C hW kd_87 hi_9 dX9_gain_33 (fun M_10 H locs eM_10 hW => ?_)
      have h := h M_10 eM_10
      refine lv_iload_n hx hb dX9_gain_34 rfl (lv_at hl 0 rfl) ?_
      exact pd_iret C hA hW h dX9_gain_35
    · have h := h.2 c_6
      refine lv_iconst (v := (-1)) hx hb dX9_gain_18 (by decide) ?_
      exact pd_iret C hA hW h dX9_gain_19

theorem dd_X9_gain : yX9_gain.cls ≠ "java/lang/invoke/MethodHandle" ∧ yX9_gain.cls ≠ "java/lang/invoke/VarHandle" ∧ (parseMethodDescriptor yX9_gain.desc).map (fun d => d.parameters.length) = some 2 := by decide +kernel
theorem cl_L_86 {p : Program} {l : Launch} {e : Env} {R : Room} {s : State} {m : MethodId} {args : Array Value} {below : List Frame} {meth : Method} {c : Code} {H : Heap} {locs : List Loc} {cells slots : Nat} {QQ : State → Prop} {cc : ByteArray} {pc : Nat} {ls : Array Slot} {rest : List Value} {D : va_G} {g : pd_G} {t : Nat} {M : pd_M} {X : va_W} {A : Nat → Prop} {nL : Nat} {ret : Option FieldType} {Qc : Int32 → pd_M → Prop} {a1 : Int32} {a2 : Int32} (C : pd_C p m c cc nL s args RL meth ret) (hW : pd_W D g t M X A s H locs) (h : wX9_gain Qc a1 a2 M) (hR : rX9_gain.frames + 1 ≤ R.frames ∧ 8 + (4 + 11) + rX9_gain.locals ≤ R.locals) (hcs : cells ≤ R.cells ∧ slots ≤ R.slots) (hls : ls.size = nL) (hw8 : (rest.map fun v => v.category).sum ≤ 8) (hdg : decode cc pc = .ok (.invokevirtual 86, 3))
    (kk : ∀ (r : Int32) (M1 : pd_M) (H1 : Heap) (locs1 : List Loc), Qc r M1 → pd_W D g t M1 X A s H1 locs1 → W p l e R s m args below meth c H1 locs1 cells slots QQ (F0 m (pc + 3) ls (.int r :: rest))) : W p l e R s m args below meth c H locs cells slots QQ (F0 m pc ls (.int a2 :: .int a1 :: .ref (g.1 82) :: rest)) :=
  pd_callVi (As := [.int a1, .int a2]) C hW (mX9_gain h) kd_82 rfl mM_L_86 mO_yX9_gain mV_yX9_gain mI_X9 mC_yX9_gain dd_X9_gain ⟨rfl, rfl⟩ hR hcs hls rfl hw8 hdg kk
abbrev rX9_fine : Room := { frames := 1, cells := 0, slots := 0, locals := 22 }
def wX9_fine (Q : Int32 → pd_M → Prop) (a1 : Int32) (M : pd_M) : Prop := wX9_in (fun r_2 M_1 => ((¬ r_2 = 0 → ∀ x2_4 : Int32, x2_4 = (M_1.1 82 16) → ∀ M_5 : pd_M, M_5 = sI M_1 82 16 a1 → Q x2_4 M_5) ∧ (r_2 = 0 → Q (-1) M_1))) a1 1 500 M

set_option maxRecDepth 100000 in
set_option maxHeartbeats 4000000 in
theorem mX9_fine {l : Launch} {D : va_G} {g : pd_G} {t : Nat} {X : va_W} {Q : Int32 → pd_M → Prop} {a1 : Int32} {M : pd_M} {sz : Nat} (h : wX9_fine Q a1 M) : Met l yX9_fine (Cond.code yX9_fine cX9_fine 3 (Option.some FieldType.int) :: TB) rX9_fine (pd_Pre D g t M X sz [.ref (g.1 82), .int a1]) (pd_Qi D g M X sz Q) 0 0 (va_A (pd_WL g M ++ X) sz) := by
  refine pd_met (by decide) (Nat.le_of_ble_eq_true rfl) ?_
  intro p e s m below meth c A ls C hA hW hl
  have C : pd_C p m c cX9_fine 3 s _ RX9 meth (Option.some FieldType.int) := C
  have hx := C.1.1
  have hb := C.1.2.1
  have hown := C.1.2.2.2.1
  have hts := C.1.2.2.2.2
  have hl : lv_has ls 3 [(0, .ref (g.1 82)), (1, .int a1)] := hl
  refine lv_iload_n hx hb dX9_fine_0 rfl (lv_at hl 1 rfl) ?_
  refine lv_iconst (v := 1) hx hb dX9_fine_1 (by decide) ?_
  refine lv_sipush (v := 500) hx hb dX9_fine_2 (by decide) ?_
  refine cl_X9_90 C hW h ⟨by decide, by decide⟩ ⟨Nat.zero_le _, Nat.zero_le _⟩ hl.1 (Nat.le_of_ble_eq_true rfl) dX9_fine_5 (fun r_2 M_1 H locs h hW => ?_)
  refine lv_if_ne (tgt := 13) hx hb dX9_fine_8 (by decide) (fun c_3 => ?_) (fun c_3 => ?_)
  · have h := h.1 c_3
    refine lv_aload_n hx hb dX9_fine_13 rfl (lv_at hl 0 rfl) ?_
    refine gf_X9_53 C hW dX9_fine_14 ?_
    refine lv_topi (fun x2_4 ex2_4 => ?_)
    have h := h x2_4 ex2_4
    refine lv_istore_n (lv' := [(2, .int x2_4), (0, .ref (g.1 82)), (1, .int a1)]) hx hb dX9_fine_17 rfl hl (by decide) rfl (fun ls hl => ?_)
    refine lv_aload_n hx hb dX9_fine_18 rfl (lv_at hl 1 rfl) ?_
    refine lv_iload_n hx hb dX9_fine_19 rfl (lv_at hl 2 rfl) ?_
    refine pf_X9_53 C hW dX9_fine_20 (fun M_5 H locs eM_5 hW => ?_)
    have h := h M_5 eM_5
    refine lv_iload_n hx hb dX9_fine_23 rfl (lv_at hl 0 rfl) ?_
    exact pd_iret C hA hW h dX9_fine_24
  · have h := h.2 c_3
    refine lv_iconst (v := (-1)) hx hb dX9_fine_11 (by decide) ?_
    exact pd_iret C hA hW h dX9_fine_12

theorem dd_X9_fine : yX9_fine.cls ≠ "java/lang/invoke/MethodHandle" ∧ yX9_fine.cls ≠ "java/lang/invoke/VarHandle" ∧ (parseMethodDescriptor yX9_fine.desc).map (fun d => d.parameters.length) = some 1 := by decide +kernel
theorem cl_L_90 {p : Program} {l : Launch} {e : Env} {R : Room} {s : State} {m : MethodId} {args : Array Value} {below : List Frame} {meth : Method} {c : Code} {H : Heap} {locs : List Loc} {cells slots : Nat} {QQ : State → Prop} {cc : ByteArray} {pc : Nat} {ls : Array Slot} {rest : List Value} {D : va_G} {g : pd_G} {t : Nat} {M : pd_M} {X : va_W} {A : Nat → Prop} {nL : Nat} {ret : Option FieldType} {Qc : Int32 → pd_M → Prop} {a1 : Int32} (C : pd_C p m c cc nL s args RL meth ret) (hW : pd_W D g t M X A s H locs) (h : wX9_fine Qc a1 M) (hR : rX9_fine.frames + 1 ≤ R.frames ∧ 8 + (3 + 11) + rX9_fine.locals ≤ R.locals) (hcs : cells ≤ R.cells ∧ slots ≤ R.slots) (hls : ls.size = nL) (hw8 : (rest.map fun v => v.category).sum ≤ 8) (hdg : decode cc pc = .ok (.invokevirtual 90, 3))
    (kk : ∀ (r : Int32) (M1 : pd_M) (H1 : Heap) (locs1 : List Loc), Qc r M1 → pd_W D g t M1 X A s H1 locs1 → W p l e R s m args below meth c H1 locs1 cells slots QQ (F0 m (pc + 3) ls (.int r :: rest))) : W p l e R s m args below meth c H locs cells slots QQ (F0 m pc ls (.int a1 :: .ref (g.1 82) :: rest)) :=
  pd_callVi (As := [.int a1]) C hW (mX9_fine h) kd_82 rfl mM_L_90 mO_yX9_fine mV_yX9_fine mI_X9 mC_yX9_fine dd_X9_fine ⟨rfl, rfl⟩ hR hcs hls rfl hw8 hdg kk
abbrev rX9_findStake : Room := { frames := 0, cells := 0, slots := 0, locals := 0 }
def lpX9_findStake_33 (K : Int32 → Int32 → pd_M → Prop) (f1 : Int32) : Nat → Int32 → Int32 → Int32 → pd_M → Prop
  | 0, _, _, _, _ => False
  | n + 1, v2, v3, v4, M => (((M.1 82 0) ≤ v4 → K v2 v3 M) ∧ (¬ (M.1 82 0) ≤ v4 → ((¬ ((f1 >>> (v4 &&& 31)) &&& 1) = 1 → ∀ x2_7 : Int32, x2_7 = (v2 + 0) → ∀ x3_8 : Int32, x3_8 = (v3 + ((f1 >>> (v4 &&& 31)) &&& 1)) → ∀ x4_9 : Int32, x4_9 = v4 + 1 → lpX9_findStake_33 K f1 n x2_7 x3_8 x4_9 M) ∧ (((f1 >>> (v4 &&& 31)) &&& 1) = 1 → (vp_in v4 5 ∧ ∀ x2_11 : Int32, x2_11 = (v2 + (M.1 87 v4.toNatClampNeg)) → ∀ x3_12 : Int32, x3_12 = (v3 + ((f1 >>> (v4 &&& 31)) &&& 1)) → ∀ x4_13 : Int32, x4_13 = v4 + 1 → lpX9_findStake_33 K f1 n x2_11 x3_12 x4_13 M)))))

set_option maxRecDepth 100000 in
set_option maxHeartbeats 4000000 in
theorem stX9_findStake_33 {p : Program} {l : Launch} {e : Env} {s : State} {m : MethodId} {args : Array Value} {below : List Frame} {meth : Method} {c : Code} {D : va_G} {g : pd_G} {t : Nat} {M0 : pd_M} {X : va_W} {A : Nat → Prop} {sz : Nat} {Q : pd_M → Prop} (C : pd_C p m c cX9_findStake 5 s args RX9 meth (Option.none : Option FieldType)) (hA : A = va_A (pd_WL g M0 ++ X) sz) {K : Int32 → Int32 → pd_M → Prop} {f1 : Int32}  (hK : ∀ (p2 : Int32) (p3 : Int32) (M : pd_M) (H : Heap) (locs : List Loc) (ls : Array Slot), pd_W D g t M X A s H locs → lv_has ls 5 [(0, .ref (g.1 82)), (1, .int f1), (2, .int p2), (3, .int p3)] → K p2 p3 M → W p l e rX9_findStake s m args below meth c H locs 0 0 (MQ below (pd_Qv D g M0 X sz Q) args s 0 0 (va_A (pd_WL g M0 ++ X) sz)) (F0 m 81 ls [])) :
    ∀ (n : Nat) (v2 : Int32) (v3 : Int32) (v4 : Int32) (M : pd_M) (H : Heap) (locs : List Loc) (ls : Array Slot), pd_W D g t M X A s H locs → lv_has ls 5 [(0, .ref (g.1 82)), (1, .int f1), (2, .int v2), (3, .int v3), (4, .int v4)] → lpX9_findStake_33 K f1 n v2 v3 v4 M → W p l e rX9_findStake s m args below meth c H locs 0 0 (MQ below (pd_Qv D g M0 X sz Q) args s 0 0 (va_A (pd_WL g M0 ++ X) sz)) (F0 m 33 ls []) := by
  have hx := C.1.1
  have hb := C.1.2.1
  have hown := C.1.2.2.2.1
  have hts := C.1.2.2.2.2
  intro n
  induction n with
  | zero => intro v2 v3 v4 M H locs ls hW hl h; exact h.elim
  | succ n ih =>
    intro v2 v3 v4 M H locs ls hW hl h
    refine lv_iload hx hb dX9_findStake_33 (lv_at hl 4 rfl) ?_
    refine lv_aload_n hx hb dX9_findStake_35 rfl (lv_at hl 0 rfl) ?_
    refine gf_X9_87 C hW dX9_findStake_36 ?_
    refine lv_icmp_ge (tgt := 81) hx hb dX9_findStake_39 (by decide) (fun c_5 => ?_) (fun c_5 => ?_)
    · have h := h.1 c_5
      exact hK v2 v3 M _ _ _ hW (lv_sub hl [0, 1, 2, 3] rfl) h
    · have h := h.2 c_5
      refine lv_iload_n hx hb dX9_findStake_42 rfl (lv_at hl 2 rfl) ?_
      refine lv_iload_n hx hb dX9_findStake_43 rfl (lv_at hl 1 rfl) ?_
      refine lv_iload hx hb dX9_findStake_44 (lv_at hl 4 rfl) ?_
      refine lv_ishr hx hb dX9_findStake_46 ?_
      refine lv_iconst (v := 1) hx hb dX9_findStake_47 (by decide) ?_
      refine lv_iand hx hb dX9_findStake_48 ?_
      refine lv_iconst (v := 1) hx hb dX9_findStake_49 (by decide) ?_
      refine lv_icmp_ne (tgt := 63) hx hb dX9_findStake_50 (by decide) (fun c_6 => ?_) (fun c_6 => ?_)
      · have h := h.1 c_6
        refine lv_iconst (v := 0) hx hb dX9_findStake_63 (by decide) ?_
        refine lv_iadd hx hb dX9_findStake_64 ?_
        refine lv_topi (fun x2_7 ex2_7 => ?_)
        have h := h x2_7 ex2_7
        refine lv_istore_n (lv' := [(2, .int x2_7), (0, .ref (g.1 82)), (1, .int f1), (3, .int v3), (4, .int v4)]) hx hb dX9_findStake_65 rfl hl (by decide) rfl (fun ls hl => ?_)
        refine lv_iload_n hx hb dX9_findStake_66 rfl (lv_at hl 3 rfl) ?_
        refine lv_iload_n hx hb dX9_findStake_67 rfl (lv_at hl 2 rfl) ?_
        refine lv_iload hx hb dX9_findStake_68 (lv_at hl 4 rfl) ?_
        refine lv_ishr hx hb dX9_findStake_70 ?_
        refine lv_iconst (v := 1) hx hb dX9_findStake_71 (by decide) ?_
        refine lv_iand hx hb dX9_findStake_72 ?_
        refine lv_iadd hx hb dX9_findStake_73 ?_
        refine lv_topi (fun x3_8 ex3_8 => ?_)
        have h := h x3_8 ex3_8
        refine lv_istore_n (lv' := [(3, .int x3_8), (2, .int x2_7), (0, .ref (g.1 82)), (1, .int f1), (4, .int v4)]) hx hb dX9_findStake_74 rfl hl (by decide) rfl (fun ls hl => ?_)
        obtain ⟨x4_9, ex4_9⟩ : ∃ y : Int32, y = v4 + 1 := ⟨_, rfl⟩
        have h := h x4_9 ex4_9
        refine lv_iinc (v := x4_9) (lv' := [(4, .int x4_9), (3, .int x3_8), (2, .int x2_7), (0, .ref (g.1 82)), (1, .int f1)]) hx hb dX9_findStake_75 hl (k := 4) rfl (by rw [ex4_9]; rfl) (by decide) rfl (fun ls hl => ?_)
        refine lv_goto (tgt := 33) hx hb dX9_findStake_78 (by decide) ?_
        exact ih x2_7 x3_8 x4_9 M _ _ _ hW (lv_sub hl [3, 4, 2, 1, 0] rfl) h
      · have h := h.2 c_6
        refine lv_aload_n hx hb dX9_findStake_53 rfl (lv_at hl 0 rfl) ?_
        refine gf_X9_22 C hW dX9_findStake_54 ?_
        refine lv_iload hx hb dX9_findStake_57 (lv_at hl 4 rfl) ?_
        have hi_10 := h.1
        have h := h.2
        refine pd_iald C hW kd_87 hi_10 dX9_findStake_59 ?_
        refine lv_goto (tgt := 64) hx hb dX9_findStake_60 (by decide) ?_
        refine lv_iadd hx hb dX9_findStake_64 ?_
        refine lv_topi (fun x2_11 ex2_11 => ?_)
        have h := h x2_11 ex2_11
        refine lv_istore_n (lv' := [(2, .int x2_11), (0, .ref (g.1 82)), (1, .int f1), (3, .int v3), (4, .int v4)]) hx hb dX9_findStake_65 rfl hl (by decide) rfl (fun ls hl => ?_)
        refine lv_iload_n hx hb dX9_findStake_66 rfl (lv_at hl 3 rfl) ?_
        refine lv_iload_n hx hb dX9_findStake_67 rfl (lv_at hl 2 rfl) ?_
        refine lv_iload hx hb dX9_findStake_68 (lv_at hl 4 rfl) ?_
        refine lv_ishr hx hb dX9_findStake_70 ?_
        refine lv_iconst (v := 1) hx hb dX9_findStake_71 (by decide) ?_
        refine lv_iand hx hb dX9_findStake_72 ?_
        refine lv_iadd hx hb dX9_findStake_73 ?_
        refine lv_topi (fun x3_12 ex3_12 => ?_)
        have h := h x3_12 ex3_12
        refine lv_istore_n (lv' := [(3, .int x3_12), (2, .int x2_11), (0, .ref (g.1 82)), (1, .int f1), (4, .int v4)]) hx hb dX9_findStake_74 rfl hl (by decide) rfl (fun ls hl => ?_)
        obtain ⟨x4_13, ex4_13⟩ : ∃ y : Int32, y = v4 + 1 := ⟨_, rfl⟩
        have h := h x4_13 ex4_13
        refine lv_iinc (v := x4_13) (lv' := [(4, .int x4_13), (3, .int x3_12), (2, .int x2_11), (0, .ref (g.1 82)), (1, .int f1)]) hx hb dX9_findStake_75 hl (k := 4) rfl (by rw [ex4_13]; rfl) (by decide) rfl (fun ls hl => ?_)
        refine lv_goto (tgt := 33) hx hb dX9_findStake_78 (by decide) ?_
        exact ih x2_11 x3_12 x4_13 M _ _ _ hW (lv_sub hl [3, 4, 2, 1, 0] rfl) h

def lpX9_findStake_12 (K : pd_M → Prop) : Nat → Int32 → pd_M → Prop
  | 0, _, _ => False
  | n + 1, v1, M => ((((1 : Int32) <<< ((M.1 82 0) &&& 31)) ≤ v1 → K M) ∧ (¬ ((1 : Int32) <<< ((M.1 82 0) &&& 31)) ≤ v1 → ∀ x2_4 : Int32, x2_4 = (-(M.1 82 16)) → (∃ k_33 : Nat, lpX9_findStake_33 (fun x2_15 x3_16 M_14 => (((x2_15 * (M_14.1 82 29)) ≤ ((M_14.1 82 28) * x3_16) → ∀ x1_18 : Int32, x1_18 = v1 + 1 → lpX9_findStake_12 K n x1_18 M_14) ∧ (¬ (x2_15 * (M_14.1 82 29)) ≤ ((M_14.1 82 28) * x3_16) → ∀ M_19 : pd_M, M_19 = sI M_14 82 28 x2_15 → ∀ M_20 : pd_M, M_20 = sI M_19 82 29 x3_16 → ∀ x1_21 : Int32, x1_21 = v1 + 1 → lpX9_findStake_12 K n x1_21 M_20))) v1 k_33 x2_4 0 0 M)))

set_option maxRecDepth 100000 in
set_option maxHeartbeats 4000000 in
theorem stX9_findStake_12 {p : Program} {l : Launch} {e : Env} {s : State} {m : MethodId} {args : Array Value} {below : List Frame} {meth : Method} {c : Code} {D : va_G} {g : pd_G} {t : Nat} {M0 : pd_M} {X : va_W} {A : Nat → Prop} {sz : Nat} {Q : pd_M → Prop} (C : pd_C p m c cX9_findStake 5 s args RX9 meth (Option.none : Option FieldType)) (hA : A = va_A (pd_WL g M0 ++ X) sz) {K : pd_M → Prop}  (hK : ∀  (M : pd_M) (H : Heap) (locs : List Loc) (ls : Array Slot), pd_W D g t M X A s H locs → lv_has ls 5 [] → K  M → W p l e rX9_findStake s m args below meth c H locs 0 0 (MQ below (pd_Qv D g M0 X sz Q) args s 0 0 (va_A (pd_WL g M0 ++ X) sz)) (F0 m 112 ls [])) :
    ∀ (n : Nat) (v1 : Int32) (M : pd_M) (H : Heap) (locs : List Loc) (ls : Array Slot), pd_W D g t M X A s H locs → lv_has ls 5 [(0, .ref (g.1 82)), (1, .int v1)] → lpX9_findStake_12 K n v1 M → W p l e rX9_findStake s m args below meth c H locs 0 0 (MQ below (pd_Qv D g M0 X sz Q) args s 0 0 (va_A (pd_WL g M0 ++ X) sz)) (F0 m 12 ls []) := by
  have hx := C.1.1
  have hb := C.1.2.1
  have hown := C.1.2.2.2.1
  have hts := C.1.2.2.2.2
  intro n
  induction n with
  | zero => intro v1 M H locs ls hW hl h; exact h.elim
  | succ n ih =>
    intro v1 M H locs ls hW hl h
    refine lv_iload_n hx hb dX9_findStake_12 rfl (lv_at hl 1 rfl) ?_
    refine lv_iconst (v := 1) hx hb dX9_findStake_13 (by decide) ?_
    refine lv_aload_n hx hb dX9_findStake_14 rfl (lv_at hl 0 rfl) ?_
    refine gf_X9_87 C hW dX9_findStake_15 ?_
    refine lv_ishl hx hb dX9_findStake_18 ?_
    refine lv_icmp_ge (tgt := 112) hx hb dX9_findStake_19 (by decide) (fun c_3 => ?_) (fun c_3 => ?_)
    · have h := h.1 c_3
      exact hK M _ _ _ hW (lv_sub hl [] rfl) h
    · have h := h.2 c_3
      refine lv_aload_n hx hb dX9_findStake_22 rfl (lv_at hl 0 rfl) ?_
      refine gf_X9_53 C hW dX9_findStake_23 ?_
      refine lv_ineg hx hb dX9_findStake_26 ?_
      refine lv_topi (fun x2_4 ex2_4 => ?_)
      have h := h x2_4 ex2_4
      refine lv_istore_n (lv' := [(2, .int x2_4), (0, .ref (g.1 82)), (1, .int v1)]) hx hb dX9_findStake_27 rfl hl (by decide) rfl (fun ls hl => ?_)
      refine lv_iconst (v := 0) hx hb dX9_findStake_28 (by decide) ?_
      refine lv_istore_n (lv' := [(3, .int 0), (2, .int x2_4), (0, .ref (g.1 82)), (1, .int v1)]) hx hb dX9_findStake_29 rfl hl (by decide) rfl (fun ls hl => ?_)
      refine lv_iconst (v := 0) hx hb dX9_findStake_30 (by decide) ?_
      refine lv_istore (lv' := [(4, .int 0), (3, .int 0), (2, .int x2_4), (0, .ref (g.1 82)), (1, .int v1)]) hx hb dX9_findStake_31 hl (by decide) rfl (fun ls hl => ?_)
      obtain ⟨k_33, h⟩ := h
      refine stX9_findStake_33 C hA (fun x2_15 x3_16 M_14 H locs ls hW hl h => ?_) k_33 x2_4 0 0 M _ _ _ hW (lv_sub hl [3, 4, 2, 1, 0] rfl) h
      refine lv_iload_n hx hb dX9_findStake_81 rfl (lv_at hl 2 rfl) ?_
      refine lv_aload_n hx hb dX9_findStake_82 rfl (lv_at hl 0 rfl) ?_
      refine gf_X9_160 C hW dX9_findStake_83 ?_
      refine lv_imul hx hb dX9_findStake_86 ?_
      refine lv_aload_n hx hb dX9_findStake_87 rfl (lv_at hl 0 rfl) ?_
      refine gf_X9_157 C hW dX9_findStake_88 ?_
      refine lv_iload_n hx hb dX9_findStake_91 rfl (lv_at hl 3 rfl) ?_
      refine lv_imul hx hb dX9_findStake_92 ?_
      refine lv_icmp_le (tgt := 106) hx hb dX9_findStake_93 (by decide) (fun c_17 => ?_) (fun c_17 => ?_)
      · have h := h.1 c_17
        obtain ⟨x1_18, ex1_18⟩ : ∃ y : Int32, y = v1 + 1 := ⟨_, rfl⟩
        have h := h x1_18 ex1_18
        refine lv_iinc (v := x1_18) (lv' := [(1, .int x1_18), (0, .ref (g.1 82)), (2, .int x2_15), (3, .int x3_16)]) hx hb dX9_findStake_106 hl (k := 1) rfl (by rw [ex1_18]; rfl) (by decide) rfl (fun ls hl => ?_)
        refine lv_goto (tgt := 12) hx hb dX9_findStake_109 (by decide) ?_
        exact ih x1_18 M_14 _ _ _ hW (lv_sub hl [1, 0] rfl) h
      · have h := h.2 c_17
        refine lv_aload_n hx hb dX9_findStake_96 rfl (lv_at hl 0 rfl) ?_
        refine lv_iload_n hx hb dX9_findStake_97 rfl (lv_at hl 2 rfl) ?_
        refine pf_X9_157 C hW dX9_findStake_98 (fun M_19 H locs eM_19 hW => ?_)
        have h := h M_19 eM_19
        refine lv_aload_n hx hb dX9_findStake_101 rfl (lv_at hl 0 rfl) ?_
        refine lv_iload_n hx hb dX9_findStake_102 rfl (lv_at hl 3 rfl) ?_
        refine pf_X9_160 C hW dX9_findStake_103 (fun M_20 H locs eM_20 hW => ?_)
        have h := h M_20 eM_20
        obtain ⟨x1_21, ex1_21⟩ : ∃ y : Int32, y = v1 + 1 := ⟨_, rfl⟩
        have h := h x1_21 ex1_21
        refine lv_iinc (v := x1_21) (lv' := [(1, .int x1_21), (0, .ref (g.1 82)), (2, .int x2_15), (3, .int x3_16)]) hx hb dX9_findStake_106 hl (k := 1) rfl (by rw [ex1_21]; rfl) (by decide) rfl (fun ls hl => ?_)
        refine lv_goto (tgt := 12) hx hb dX9_findStake_109 (by decide) ?_
        exact ih x1_21 M_20 _ _ _ hW (lv_sub hl [1, 0] rfl) h

def wX9_findStake (Q : pd_M → Prop) (M : pd_M) : Prop := ∀ M_1 : pd_M, M_1 = sI M 82 28 0 → ∀ M_2 : pd_M, M_2 = sI M_1 82 29 1 → (∃ k_12 : Nat, lpX9_findStake_12 (fun M_22 => Q M_22) k_12 1 M_2)

set_option maxRecDepth 100000 in
set_option maxHeartbeats 4000000 in
theorem mX9_findStake {l : Launch} {D : va_G} {g : pd_G} {t : Nat} {X : va_W} {Q : pd_M → Prop} {M : pd_M} {sz : Nat} (h : wX9_findStake Q M) : Met l yX9_findStake (Cond.code yX9_findStake cX9_findStake 5 (Option.none : Option FieldType) :: TB) rX9_findStake (pd_Pre D g t M X sz [.ref (g.1 82)]) (pd_Qv D g M X sz Q) 0 0 (va_A (pd_WL g M ++ X) sz) := by
  refine pd_met (by decide) (Nat.le_of_ble_eq_true rfl) ?_
  intro p e s m below meth c A ls C hA hW hl
  have C : pd_C p m c cX9_findStake 5 s _ RX9 meth (Option.none : Option FieldType) := C
  have hx := C.1.1
  have hb := C.1.2.1
  have hown := C.1.2.2.2.1
  have hts := C.1.2.2.2.2
  have hl : lv_has ls 5 [(0, .ref (g.1 82))] := hl
  refine lv_aload_n hx hb dX9_findStake_0 rfl (lv_at hl 0 rfl) ?_
  refine lv_iconst (v := 0) hx hb dX9_findStake_1 (by decide) ?_
  refine pf_X9_157 C hW dX9_findStake_2 (fun M_1 H locs eM_1 hW => ?_)
  have h := h M_1 eM_1
  refine lv_aload_n hx hb dX9_findStake_5 rfl (lv_at hl 0 rfl) ?_
  refine lv_iconst (v := 1) hx hb dX9_findStake_6 (by decide) ?_
  refine pf_X9_160 C hW dX9_findStake_7 (fun M_2 H locs eM_2 hW => ?_)
  have h := h M_2 eM_2
  refine lv_iconst (v := 1) hx hb dX9_findStake_10 (by decide) ?_
  refine lv_istore_n (lv' := [(1, .int 1), (0, .ref (g.1 82))]) hx hb dX9_findStake_11 rfl hl (by decide) rfl (fun ls hl => ?_)
  obtain ⟨k_12, h⟩ := h
  refine stX9_findStake_12 C hA (fun M_22 H locs ls hW hl h => ?_) k_12 1 M_2 _ _ _ hW (lv_sub hl [1, 0] rfl) h
  exact pd_vret C hA hW h dX9_findStake_112

theorem dd_X9_findStake : yX9_findStake.cls ≠ "java/lang/invoke/MethodHandle" ∧ yX9_findStake.cls ≠ "java/lang/invoke/VarHandle" ∧ (parseMethodDescriptor yX9_findStake.desc).map (fun d => d.parameters.length) = some 0 := by decide +kernel
theorem cl_X9_166 {p : Program} {l : Launch} {e : Env} {R : Room} {s : State} {m : MethodId} {args : Array Value} {below : List Frame} {meth : Method} {c : Code} {H : Heap} {locs : List Loc} {cells slots : Nat} {QQ : State → Prop} {cc : ByteArray} {pc : Nat} {ls : Array Slot} {rest : List Value} {D : va_G} {g : pd_G} {t : Nat} {M : pd_M} {X : va_W} {A : Nat → Prop} {nL : Nat} {ret : Option FieldType} {Qc : pd_M → Prop} (C : pd_C p m c cc nL s args RX9 meth ret) (hW : pd_W D g t M X A s H locs) (h : wX9_findStake Qc M) (hR : rX9_findStake.frames + 1 ≤ R.frames ∧ 8 + (5 + 11) + rX9_findStake.locals ≤ R.locals) (hcs : cells ≤ R.cells ∧ slots ≤ R.slots) (hls : ls.size = nL) (hw8 : (rest.map fun v => v.category).sum ≤ 8) (hdg : decode cc pc = .ok (.invokevirtual 166, 3))
    (kk : ∀ (M1 : pd_M) (H1 : Heap) (locs1 : List Loc), Qc M1 → pd_W D g t M1 X A s H1 locs1 → W p l e R s m args below meth c H1 locs1 cells slots QQ (F0 m (pc + 3) ls rest)) : W p l e R s m args below meth c H locs cells slots QQ (F0 m pc ls (.ref (g.1 82) :: rest)) :=
  pd_callVv (As := []) C hW (mX9_findStake h) kd_82 rfl mM_X9_166 mO_yX9_findStake mV_yX9_findStake mI_X9 mC_yX9_findStake dd_X9_findStake ⟨rfl, rfl⟩ hR hcs hls rfl hw8 hdg kk
abbrev rX9_common : Room := { frames := 0, cells := 0, slots := 0, locals := 0 }
def lpX9_common_4 (K : Int32 → pd_M → Prop) : Nat → Int32 → Int32 → pd_M → Prop
  | 0, _, _, _ => False
  | n + 1, v2, v3, M => ((v3 = 0 → K v2 M) ∧ (¬ v3 = 0 → ¬ v3 = 0 ∧ ∀ x4_2 : Int32, x4_2 = (v2 - v2 / v3 * v3) → lpX9_common_4 K n v3 x4_2 M))

set_option maxRecDepth 100000 in
set_option maxHeartbeats 4000000 in
theorem stX9_common_4 {p : Program} {l : Launch} {e : Env} {s : State} {m : MethodId} {args : Array Value} {below : List Frame} {meth : Method} {c : Code} {D : va_G} {g : pd_G} {t : Nat} {M0 : pd_M} {X : va_W} {A : Nat → Prop} {sz : Nat} {Q : Int32 → pd_M → Prop} (C : pd_C p m c cX9_common 5 s args RX9 meth (Option.some FieldType.int)) (hA : A = va_A (pd_WL g M0 ++ X) sz) {K : Int32 → pd_M → Prop}  (hK : ∀ (p2 : Int32) (M : pd_M) (H : Heap) (locs : List Loc) (ls : Array Slot), pd_W D g t M X A s H locs → lv_has ls 5 [(2, .int p2)] → K p2 M → W p l e rX9_common s m args below meth c H locs 0 0 (MQ below (pd_Qi D g M0 X sz Q) args s 0 0 (va_A (pd_WL g M0 ++ X) sz)) (F0 m 21 ls [])) :
    ∀ (n : Nat) (v2 : Int32) (v3 : Int32) (M : pd_M) (H : Heap) (locs : List Loc) (ls : Array Slot), pd_W D g t M X A s H locs → lv_has ls 5 [(2, .int v2), (3, .int v3)] → lpX9_common_4 K n v2 v3 M → W p l e rX9_common s m args below meth c H locs 0 0 (MQ below (pd_Qi D g M0 X sz Q) args s 0 0 (va_A (pd_WL g M0 ++ X) sz)) (F0 m 4 ls []) := by
  have hx := C.1.1
  have hb := C.1.2.1
  have hown := C.1.2.2.2.1
  have hts := C.1.2.2.2.2
  intro n
  induction n with
  | zero => intro v2 v3 M H locs ls hW hl h; exact h.elim
  | succ n ih =>
    intro v2 v3 M H locs ls hW hl h
    refine lv_iload_n hx hb dX9_common_4 rfl (lv_at hl 1 rfl) ?_
    refine lv_if_eq (tgt := 21) hx hb dX9_common_5 (by decide) (fun c_1 => ?_) (fun c_1 => ?_)
    · have h := h.1 c_1
      exact hK v2 M _ _ _ hW (lv_sub hl [0] rfl) h
    · have h := h.2 c_1
      refine lv_iload_n hx hb dX9_common_8 rfl (lv_at hl 0 rfl) ?_
      refine lv_iload_n hx hb dX9_common_9 rfl (lv_at hl 1 rfl) ?_
      refine lv_irem hx hb dX9_common_10 h.1 ?_
      have h := h.2
      refine lv_topi (fun x4_2 ex4_2 => ?_)
      have h := h x4_2 ex4_2
      refine lv_istore (lv' := [(4, .int x4_2), (2, .int v2), (3, .int v3)]) hx hb dX9_common_11 hl (by decide) rfl (fun ls hl => ?_)
      refine lv_iload_n hx hb dX9_common_13 rfl (lv_at hl 2 rfl) ?_
      refine lv_istore_n (lv' := [(2, .int v3), (4, .int x4_2), (3, .int v3)]) hx hb dX9_common_14 rfl hl (by decide) rfl (fun ls hl => ?_)
      refine lv_iload hx hb dX9_common_15 (lv_at hl 1 rfl) ?_
      refine lv_istore_n (lv' := [(3, .int x4_2), (2, .int v3), (4, .int x4_2)]) hx hb dX9_common_17 rfl hl (by decide) rfl (fun ls hl => ?_)
      refine lv_goto (tgt := 4) hx hb dX9_common_18 (by decide) ?_
      exact ih v3 x4_2 M _ _ _ hW (lv_sub hl [1, 0] rfl) h

def wX9_common (Q : Int32 → pd_M → Prop) (a0 : Int32) (a1 : Int32) (M : pd_M) : Prop := (∃ k_4 : Nat, lpX9_common_4 (fun x2_4 M_3 => Q x2_4 M_3) k_4 a0 a1 M)

set_option maxRecDepth 100000 in
set_option maxHeartbeats 4000000 in
theorem mX9_common {l : Launch} {D : va_G} {g : pd_G} {t : Nat} {X : va_W} {Q : Int32 → pd_M → Prop} {a0 : Int32} {a1 : Int32} {M : pd_M} {sz : Nat} (h : wX9_common Q a0 a1 M) : Met l yX9_common (Cond.code yX9_common cX9_common 5 (Option.some FieldType.int) :: TB) rX9_common (pd_Pre D g t M X sz [.int a0, .int a1]) (pd_Qi D g M X sz Q) 0 0 (va_A (pd_WL g M ++ X) sz) := by
  refine pd_met (by decide) (Nat.le_of_ble_eq_true rfl) ?_
  intro p e s m below meth c A ls C hA hW hl
  have C : pd_C p m c cX9_common 5 s _ RX9 meth (Option.some FieldType.int) := C
  have hx := C.1.1
  have hb := C.1.2.1
  have hown := C.1.2.2.2.1
  have hts := C.1.2.2.2.2
  have hl : lv_has ls 5 [(0, .int a0), (1, .int a1)] := hl
  refine lv_iload_n hx hb dX9_common_0 rfl (lv_at hl 0 rfl) ?_
  refine lv_istore_n (lv' := [(2, .int a0), (0, .int a0), (1, .int a1)]) hx hb dX9_common_1 rfl hl (by decide) rfl (fun ls hl => ?_)
  refine lv_iload_n hx hb dX9_common_2 rfl (lv_at hl 2 rfl) ?_
  refine lv_istore_n (lv' := [(3, .int a1), (2, .int a0), (0, .int a0), (1, .int a1)]) hx hb dX9_common_3 rfl hl (by decide) rfl (fun ls hl => ?_)
  obtain ⟨k_4, h⟩ := h
  refine stX9_common_4 C hA (fun x2_4 M_3 H locs ls hW hl h => ?_) k_4 a0 a1 M _ _ _ hW (lv_sub hl [1, 0] rfl) h
  refine lv_iload_n hx hb dX9_common_21 rfl (lv_at hl 0 rfl) ?_
  exact pd_iret C hA hW h dX9_common_22

theorem dd_X9_common : yX9_common.cls ≠ "java/lang/invoke/MethodHandle" ∧ yX9_common.cls ≠ "java/lang/invoke/VarHandle" ∧ (parseMethodDescriptor yX9_common.desc).map (fun d => d.parameters.length) = some 2 := by decide +kernel
theorem cl_X9_163 {p : Program} {l : Launch} {e : Env} {R : Room} {s : State} {m : MethodId} {args : Array Value} {below : List Frame} {meth : Method} {c : Code} {H : Heap} {locs : List Loc} {cells slots : Nat} {QQ : State → Prop} {cc : ByteArray} {pc : Nat} {ls : Array Slot} {rest : List Value} {D : va_G} {g : pd_G} {t : Nat} {M : pd_M} {X : va_W} {A : Nat → Prop} {nL : Nat} {ret : Option FieldType} {Qc : Int32 → pd_M → Prop} {a0 : Int32} {a1 : Int32} (C : pd_C p m c cc nL s args RX9 meth ret) (hW : pd_W D g t M X A s H locs) (h : wX9_common Qc a0 a1 M) (hR : rX9_common.frames + 1 ≤ R.frames ∧ 8 + (5 + 11) + rX9_common.locals ≤ R.locals) (hcs : cells ≤ R.cells ∧ slots ≤ R.slots) (hls : ls.size = nL) (hw8 : (rest.map fun v => v.category).sum ≤ 8) (hdg : decode cc pc = .ok (.invokestatic 163, 3))
    (kk : ∀ (r : Int32) (M1 : pd_M) (H1 : Heap) (locs1 : List Loc), Qc r M1 → pd_W D g t M1 X A s H1 locs1 → W p l e R s m args below meth c H1 locs1 cells slots QQ (F0 m (pc + 3) ls (.int r :: rest))) : W p l e R s m args below meth c H locs cells slots QQ (F0 m pc ls (.int a1 :: .int a0 :: rest)) :=
  pd_callSi (As := [.int a0, .int a1]) C hW (mX9_common h) mM_X9_163 mS_yX9_common mI_X9 mC_yX9_common dd_X9_common ⟨rfl, rfl⟩ hR hcs hls rfl hw8 hdg kk
abbrev rX9_part : Room := { frames := 1, cells := 0, slots := 0, locals := 24 }
def wX9_part (Q : Int32 → pd_M → Prop) (a0 : Int32) (a1 : Int32) (a2 : Int32) (M : pd_M) : Prop := ((0 < a0 → ((¬ a2 = 0 → wX9_common (fun r_4 M_3 => ¬ r_4 = 0 ∧ Q (a1 / r_4) M_3) a0 a1 M) ∧ (a2 = 0 → wX9_common (fun r_6 M_5 => ¬ r_6 = 0 ∧ Q (a0 / r_6) M_5) a0 a1 M))) ∧ (¬ 0 < a0 → Q a2 M))

set_option maxRecDepth 100000 in
set_option maxHeartbeats 4000000 in
theorem mX9_part {l : Launch} {D : va_G} {g : pd_G} {t : Nat} {X : va_W} {Q : Int32 → pd_M → Prop} {a0 : Int32} {a1 : Int32} {a2 : Int32} {M : pd_M} {sz : Nat} (h : wX9_part Q a0 a1 a2 M) : Met l yX9_part (Cond.code yX9_part cX9_part 3 (Option.some FieldType.int) :: TB) rX9_part (pd_Pre D g t M X sz [.int a0, .int a1, .int a2]) (pd_Qi D g M X sz Q) 0 0 (va_A (pd_WL g M ++ X) sz) := by
  refine pd_met (by decide) (Nat.le_of_ble_eq_true rfl) ?_
  intro p e s m below meth c A ls C hA hW hl
  have C : pd_C p m c cX9_part 3 s _ RX9 meth (Option.some FieldType.int) := C
  have hx := C.1.1
  have hb := C.1.2.1
  have hown := C.1.2.2.2.1
  have hts := C.1.2.2.2.2
  have hl : lv_has ls 3 [(0, .int a0), (1, .int a1), (2, .int a2)] := hl
  refine lv_iload_n hx hb dX9_part_0 rfl (lv_at hl 0 rfl) ?_
  refine lv_if_gt (tgt := 6) hx hb dX9_part_1 (by decide) (fun c_1 => ?_) (fun c_1 => ?_)
  · have h := h.1 c_1
    refine lv_iload_n hx hb dX9_part_6 rfl (lv_at hl 2 rfl) ?_
    refine lv_if_ne (tgt := 14) hx hb dX9_part_7 (by decide) (fun c_2 => ?_) (fun c_2 => ?_)
    · have h := h.1 c_2
      refine lv_iload_n hx hb dX9_part_14 rfl (lv_at hl 1 rfl) ?_
      refine lv_iload_n hx hb dX9_part_15 rfl (lv_at hl 0 rfl) ?_
      refine lv_iload_n hx hb dX9_part_16 rfl (lv_at hl 1 rfl) ?_
      refine cl_X9_163 C hW h ⟨by decide, by decide⟩ ⟨Nat.zero_le _, Nat.zero_le _⟩ hl.1 (Nat.le_of_ble_eq_true rfl) dX9_part_17 (fun r_4 M_3 H locs h hW => ?_)
      refine lv_idiv hx hb dX9_part_20 h.1 ?_
      have h := h.2
      exact pd_iret C hA hW h dX9_part_21
    · have h := h.2 c_2
      refine lv_iload_n hx hb dX9_part_10 rfl (lv_at hl 0 rfl) ?_
      refine lv_goto (tgt := 15) hx hb dX9_part_11 (by decide) ?_
      refine lv_iload_n hx hb dX9_part_15 rfl (lv_at hl 0 rfl) ?_
      refine lv_iload_n hx hb dX9_part_16 rfl (lv_at hl 1 rfl) ?_
      refine cl_X9_163 C hW h ⟨by decide, by decide⟩ ⟨Nat.zero_le _, Nat.zero_le _⟩ hl.1 (Nat.le_of_ble_eq_true rfl) dX9_part_17 (fun r_6 M_5 H locs h hW => ?_)
      refine lv_idiv hx hb dX9_part_20 h.1 ?_
      have h := h.2
      exact pd_iret C hA hW h dX9_part_21
  · have h := h.2 c_1
    refine lv_iload_n hx hb dX9_part_4 rfl (lv_at hl 2 rfl) ?_
    exact pd_iret C hA hW h dX9_part_5

theorem dd_X9_part : yX9_part.cls ≠ "java/lang/invoke/MethodHandle" ∧ yX9_part.cls ≠ "java/lang/invoke/VarHandle" ∧ (parseMethodDescriptor yX9_part.desc).map (fun d => d.parameters.length) = some 3 := by decide +kernel
theorem cl_X9_169 {p : Program} {l : Launch} {e : Env} {R : Room} {s : State} {m : MethodId} {args : Array Value} {below : List Frame} {meth : Method} {c : Code} {H : Heap} {locs : List Loc} {cells slots : Nat} {QQ : State → Prop} {cc : ByteArray} {pc : Nat} {ls : Array Slot} {rest : List Value} {D : va_G} {g : pd_G} {t : Nat} {M : pd_M} {X : va_W} {A : Nat → Prop} {nL : Nat} {ret : Option FieldType} {Qc : Int32 → pd_M → Prop} {a0 : Int32} {a1 : Int32} {a2 : Int32} (C : pd_C p m c cc nL s args RX9 meth ret) (hW : pd_W D g t M X A s H locs) (h : wX9_part Qc a0 a1 a2 M) (hR : rX9_part.frames + 1 ≤ R.frames ∧ 8 + (3 + 11) + rX9_part.locals ≤ R.locals) (hcs : cells ≤ R.cells ∧ slots ≤ R.slots) (hls : ls.size = nL) (hw8 : (rest.map fun v => v.category).sum ≤ 8) (hdg : decode cc pc = .ok (.invokestatic 169, 3))
    (kk : ∀ (r : Int32) (M1 : pd_M) (H1 : Heap) (locs1 : List Loc), Qc r M1 → pd_W D g t M1 X A s H1 locs1 → W p l e R s m args below meth c H1 locs1 cells slots QQ (F0 m (pc + 3) ls (.int r :: rest))) : W p l e R s m args below meth c H locs cells slots QQ (F0 m pc ls (.int a2 :: .int a1 :: .int a0 :: rest)) :=
  pd_callSi (As := [.int a0, .int a1, .int a2]) C hW (mX9_part h) mM_X9_169 mS_yX9_part mI_X9 mC_yX9_part dd_X9_part ⟨rfl, rfl⟩ hR hcs hls rfl hw8 hdg kk
abbrev rX9_turn : Room := { frames := 2, cells := 0, slots := 0, locals := 46 }
def wX9_turn (Q : Int32 → pd_M → Prop) (a1 : Int32) (a2 : Int32) (M : pd_M) : Prop := wX9_isStreet (fun r_2 M_1 => ((r_2 = 0 → Q (-1) M_1) ∧ (¬ r_2 = 0 → wX9_in (fun r_5 M_4 => ((¬ r_5 = 0 → wX9_findStake (fun M_7 => (vp_in a1 5 ∧ wX9_part (fun r_10 M_9 => Q r_10 M_9) (((M_7.1 87 a1.toNatClampNeg) * (M_7.1 82 29)) - (M_7.1 82 28)) ((M_7.1 82 29) * (M_7.1 82 16)) a2 M_7)) M_4) ∧ (r_5 = 0 → Q (-1) M_4))) a2 0 1 M_1))) a1 M

set_option maxRecDepth 100000 in
set_option maxHeartbeats 4000000 in
theorem mX9_turn {l : Launch} {D : va_G} {g : pd_G} {t : Nat} {X : va_W} {Q : Int32 → pd_M → Prop} {a1 : Int32} {a2 : Int32} {M : pd_M} {sz : Nat} (h : wX9_turn Q a1 a2 M) : Met l yX9_turn (Cond.code yX9_turn cX9_turn 3 (Option.some FieldType.int) :: TB) rX9_turn (pd_Pre D g t M X sz [.ref (g.1 82), .int a1, .int a2]) (pd_Qi D g M X sz Q) 0 0 (va_A (pd_WL g M ++ X) sz) := by
  refine pd_met (by decide) (Nat.le_of_ble_eq_true rfl) ?_
  intro p e s m below meth c A ls C hA hW hl
  have C : pd_C p m c cX9_turn 3 s _ RX9 meth (Option.some FieldType.int) := C
  have hx := C.1.1
  have hb := C.1.2.1
  have hown := C.1.2.2.2.1
  have hts := C.1.2.2.2.2
  have hl : lv_has ls 3 [(0, .ref (g.1 82)), (1, .int a1), (2, .int a2)] := hl
  refine lv_aload_n hx hb dX9_turn_0 rfl (lv_at hl 0 rfl) ?_
  refine lv_iload_n hx hb dX9_turn_1 rfl (lv_at hl 1 rfl) ?_
  refine cl_X9_101 C hW h ⟨by decide, by decide⟩ ⟨Nat.zero_le _, Nat.zero_le _⟩ hl.1 (Nat.le_of_ble_eq_true rfl) dX9_turn_2 (fun r_2 M_1 H locs h hW => ?_)
  refine lv_if_eq (tgt := 17) hx hb dX9_turn_5 (by decide) (fun c_3 => ?_) (fun c_3 => ?_)
  · have h := h.1 c_3
    refine lv_iconst (v := (-1)) hx hb dX9_turn_17 (by decide) ?_
    exact pd_iret C hA hW h dX9_turn_18
  · have h := h.2 c_3
    refine lv_iload_n hx hb dX9_turn_8 rfl (lv_at hl 2 rfl) ?_
    refine lv_iconst (v := 0) hx hb dX9_turn_9 (by decide) ?_
    refine lv_iconst (v := 1) hx hb dX9_turn_10 (by decide) ?_
    refine cl_X9_90 C hW h ⟨by decide, by decide⟩ ⟨Nat.zero_le _, Nat.zero_le _⟩ hl.1 (Nat.le_of_ble_eq_true rfl) dX9_turn_11 (fun r_5 M_4 H locs h hW => ?_)
    refine lv_if_ne (tgt := 19) hx hb dX9_turn_14 (by decide) (fun c_6 => ?_) (fun c_6 => ?_)
    · have h := h.1 c_6
      refine lv_aload_n hx hb dX9_turn_19 rfl (lv_at hl 0 rfl) ?_
      refine cl_X9_166 C hW h ⟨by decide, by decide⟩ ⟨Nat.zero_le _, Nat.zero_le _⟩ hl.1 (by decide) dX9_turn_20 (fun M_7 H locs h hW => ?_)
      refine lv_aload_n hx hb dX9_turn_23 rfl (lv_at hl 0 rfl) ?_
      refine gf_X9_22 C hW dX9_turn_24 ?_
      refine lv_iload_n hx hb dX9_turn_27 rfl (lv_at hl 1 rfl) ?_
      have hi_8 := h.1
      have h := h.2
      refine pd_iald C hW kd_87 hi_8 dX9_turn_28 ?_
      refine lv_aload_n hx hb dX9_turn_29 rfl (lv_at hl 0 rfl) ?_
      refine gf_X9_160 C hW dX9_turn_30 ?_
      refine lv_imul hx hb dX9_turn_33 ?_
      refine lv_aload_n hx hb dX9_turn_34 rfl (lv_at hl 0 rfl) ?_
      refine gf_X9_157 C hW dX9_turn_35 ?_
      refine lv_isub hx hb dX9_turn_38 ?_
      refine lv_aload_n hx hb dX9_turn_39 rfl (lv_at hl 0 rfl) ?_
      refine gf_X9_160 C hW dX9_turn_40 ?_
      refine lv_aload_n hx hb dX9_turn_43 rfl (lv_at hl 0 rfl) ?_
      refine gf_X9_53 C hW dX9_turn_44 ?_
      refine lv_imul hx hb dX9_turn_47 ?_
      refine lv_iload_n hx hb dX9_turn_48 rfl (lv_at hl 2 rfl) ?_
      refine cl_X9_169 C hW h ⟨by decide, by decide⟩ ⟨Nat.zero_le _, Nat.zero_le _⟩ hl.1 (Nat.le_of_ble_eq_true rfl) dX9_turn_49 (fun r_10 M_9 H locs h hW => ?_)
      exact pd_iret C hA hW h dX9_turn_52
    · have h := h.2 c_6
      refine lv_iconst (v := (-1)) hx hb dX9_turn_17 (by decide) ?_
      exact pd_iret C hA hW h dX9_turn_18

theorem dd_X9_turn : yX9_turn.cls ≠ "java/lang/invoke/MethodHandle" ∧ yX9_turn.cls ≠ "java/lang/invoke/VarHandle" ∧ (parseMethodDescriptor yX9_turn.desc).map (fun d => d.parameters.length) = some 2 := by decide +kernel
theorem cl_L_94 {p : Program} {l : Launch} {e : Env} {R : Room} {s : State} {m : MethodId} {args : Array Value} {below : List Frame} {meth : Method} {c : Code} {H : Heap} {locs : List Loc} {cells slots : Nat} {QQ : State → Prop} {cc : ByteArray} {pc : Nat} {ls : Array Slot} {rest : List Value} {D : va_G} {g : pd_G} {t : Nat} {M : pd_M} {X : va_W} {A : Nat → Prop} {nL : Nat} {ret : Option FieldType} {Qc : Int32 → pd_M → Prop} {a1 : Int32} {a2 : Int32} (C : pd_C p m c cc nL s args RL meth ret) (hW : pd_W D g t M X A s H locs) (h : wX9_turn Qc a1 a2 M) (hR : rX9_turn.frames + 1 ≤ R.frames ∧ 8 + (3 + 11) + rX9_turn.locals ≤ R.locals) (hcs : cells ≤ R.cells ∧ slots ≤ R.slots) (hls : ls.size = nL) (hw8 : (rest.map fun v => v.category).sum ≤ 8) (hdg : decode cc pc = .ok (.invokevirtual 94, 3))
    (kk : ∀ (r : Int32) (M1 : pd_M) (H1 : Heap) (locs1 : List Loc), Qc r M1 → pd_W D g t M1 X A s H1 locs1 → W p l e R s m args below meth c H1 locs1 cells slots QQ (F0 m (pc + 3) ls (.int r :: rest))) : W p l e R s m args below meth c H locs cells slots QQ (F0 m pc ls (.int a2 :: .int a1 :: .ref (g.1 82) :: rest)) :=
  pd_callVi (As := [.int a1, .int a2]) C hW (mX9_turn h) kd_82 rfl mM_L_94 mO_yX9_turn mV_yX9_turn mI_X9 mC_yX9_turn dd_X9_turn ⟨rfl, rfl⟩ hR hcs hls rfl hw8 hdg kk
abbrev rX9_stake : Room := { frames := 2, cells := 0, slots := 0, locals := 46 }
def wX9_stake (Q : Int32 → pd_M → Prop) (a1 : Int32) (M : pd_M) : Prop := wX9_in (fun r_2 M_1 => ((¬ r_2 = 0 → wX9_findStake (fun M_4 => wX9_part (fun r_6 M_5 => Q r_6 M_5) (M_4.1 82 28) (M_4.1 82 29) a1 M_4) M_1) ∧ (r_2 = 0 → Q (-1) M_1))) a1 0 1 M

set_option maxRecDepth 100000 in
set_option maxHeartbeats 4000000 in
theorem mX9_stake {l : Launch} {D : va_G} {g : pd_G} {t : Nat} {X : va_W} {Q : Int32 → pd_M → Prop} {a1 : Int32} {M : pd_M} {sz : Nat} (h : wX9_stake Q a1 M) : Met l yX9_stake (Cond.code yX9_stake cX9_stake 2 (Option.some FieldType.int) :: TB) rX9_stake (pd_Pre D g t M X sz [.ref (g.1 82), .int a1]) (pd_Qi D g M X sz Q) 0 0 (va_A (pd_WL g M ++ X) sz) := by
  refine pd_met (by decide) (Nat.le_of_ble_eq_true rfl) ?_
  intro p e s m below meth c A ls C hA hW hl
  have C : pd_C p m c cX9_stake 2 s _ RX9 meth (Option.some FieldType.int) := C
  have hx := C.1.1
  have hb := C.1.2.1
  have hown := C.1.2.2.2.1
  have hts := C.1.2.2.2.2
  have hl : lv_has ls 2 [(0, .ref (g.1 82)), (1, .int a1)] := hl
  refine lv_iload_n hx hb dX9_stake_0 rfl (lv_at hl 1 rfl) ?_
  refine lv_iconst (v := 0) hx hb dX9_stake_1 (by decide) ?_
  refine lv_iconst (v := 1) hx hb dX9_stake_2 (by decide) ?_
  refine cl_X9_90 C hW h ⟨by decide, by decide⟩ ⟨Nat.zero_le _, Nat.zero_le _⟩ hl.1 (Nat.le_of_ble_eq_true rfl) dX9_stake_3 (fun r_2 M_1 H locs h hW => ?_)
  refine lv_if_ne (tgt := 11) hx hb dX9_stake_6 (by decide) (fun c_3 => ?_) (fun c_3 => ?_)
  · have h := h.1 c_3
    refine lv_aload_n hx hb dX9_stake_11 rfl (lv_at hl 0 rfl) ?_
    refine cl_X9_166 C hW h ⟨by decide, by decide⟩ ⟨Nat.zero_le _, Nat.zero_le _⟩ hl.1 (by decide) dX9_stake_12 (fun M_4 H locs h hW => ?_)
    refine lv_aload_n hx hb dX9_stake_15 rfl (lv_at hl 0 rfl) ?_
    refine gf_X9_157 C hW dX9_stake_16 ?_
    refine lv_aload_n hx hb dX9_stake_19 rfl (lv_at hl 0 rfl) ?_
    refine gf_X9_160 C hW dX9_stake_20 ?_
    refine lv_iload_n hx hb dX9_stake_23 rfl (lv_at hl 1 rfl) ?_
    refine cl_X9_169 C hW h ⟨by decide, by decide⟩ ⟨Nat.zero_le _, Nat.zero_le _⟩ hl.1 (Nat.le_of_ble_eq_true rfl) dX9_stake_24 (fun r_6 M_5 H locs h hW => ?_)
    exact pd_iret C hA hW h dX9_stake_27
  · have h := h.2 c_3
    refine lv_iconst (v := (-1)) hx hb dX9_stake_9 (by decide) ?_
    exact pd_iret C hA hW h dX9_stake_10

theorem dd_X9_stake : yX9_stake.cls ≠ "java/lang/invoke/MethodHandle" ∧ yX9_stake.cls ≠ "java/lang/invoke/VarHandle" ∧ (parseMethodDescriptor yX9_stake.desc).map (fun d => d.parameters.length) = some 1 := by decide +kernel
theorem cl_L_98 {p : Program} {l : Launch} {e : Env} {R : Room} {s : State} {m : MethodId} {args : Array Value} {below : List Frame} {meth : Method} {c : Code} {H : Heap} {locs : List Loc} {cells slots : Nat} {QQ : State → Prop} {cc : ByteArray} {pc : Nat} {ls : Array Slot} {rest : List Value} {D : va_G} {g : pd_G} {t : Nat} {M : pd_M} {X : va_W} {A : Nat → Prop} {nL : Nat} {ret : Option FieldType} {Qc : Int32 → pd_M → Prop} {a1 : Int32} (C : pd_C p m c cc nL s args RL meth ret) (hW : pd_W D g t M X A s H locs) (h : wX9_stake Qc a1 M) (hR : rX9_stake.frames + 1 ≤ R.frames ∧ 8 + (2 + 11) + rX9_stake.locals ≤ R.locals) (hcs : cells ≤ R.cells ∧ slots ≤ R.slots) (hls : ls.size = nL) (hw8 : (rest.map fun v => v.category).sum ≤ 8) (hdg : decode cc pc = .ok (.invokevirtual 98, 3))
    (kk : ∀ (r : Int32) (M1 : pd_M) (H1 : Heap) (locs1 : List Loc), Qc r M1 → pd_W D g t M1 X A s H1 locs1 → W p l e R s m args below meth c H1 locs1 cells slots QQ (F0 m (pc + 3) ls (.int r :: rest))) : W p l e R s m args below meth c H locs cells slots QQ (F0 m pc ls (.int a1 :: .ref (g.1 82) :: rest)) :=
  pd_callVi (As := [.int a1]) C hW (mX9_stake h) kd_82 rfl mM_L_98 mO_yX9_stake mV_yX9_stake mI_X9 mC_yX9_stake dd_X9_stake ⟨rfl, rfl⟩ hR hcs hls rfl hw8 hdg kk
abbrev rX9_ticket : Room := { frames := 2, cells := 0, slots := 0, locals := 48 }
def wX9_ticket (Q : Int32 → pd_M → Prop) (a1 : Int32) (a2 : Int32) (a3 : Int32) (a4 : Int32) (M : pd_M) : Prop := wX9_isCar (fun r_2 M_1 => ((r_2 = 0 → Q (-1) M_1) ∧ (¬ r_2 = 0 → wX9_isStreet (fun r_5 M_4 => ((r_5 = 0 → Q (-1) M_4) ∧ (¬ r_5 = 0 → wX9_isHour (fun r_8 M_7 => ((r_8 = 0 → Q (-1) M_7) ∧ (¬ r_8 = 0 → wX9_in (fun r_11 M_10 => ((¬ r_11 = 0 → ((¬ (M_10.1 82 17) = 20 → (vp_in (M_10.1 82 17) 20 ∧ ∀ M_15 : pd_M, M_15 = sI M_10 97 (M_10.1 82 17).toNatClampNeg a1 → (vp_in (M_15.1 82 17) 20 ∧ ∀ M_17 : pd_M, M_17 = sI M_15 98 (M_15.1 82 17).toNatClampNeg a2 → (vp_in (M_17.1 82 17) 20 ∧ ∀ M_19 : pd_M, M_19 = sI M_17 99 (M_17.1 82 17).toNatClampNeg a3 → (vp_in (M_19.1 82 17) 20 ∧ ∀ M_21 : pd_M, M_21 = sI M_19 100 (M_19.1 82 17).toNatClampNeg a4 → (vp_in a2 5 ∧ (vp_in (M_21.1 82 17) 20 ∧ ∀ M_24 : pd_M, M_24 = sI M_21 101 (M_21.1 82 17).toNatClampNeg (M_21.1 83 a2.toNatClampNeg) → (vp_in a2 5 ∧ wX9_mayIn (fun r_27 M_26 => (vp_in (M_24.1 82 17) 20 ∧ ∀ M_29 : pd_M, M_29 = sI M_26 102 (M_24.1 82 17).toNatClampNeg r_27 → ∀ M_30 : pd_M, M_30 = sI M_29 82 17 ((M_29.1 82 17) + 1) → Q ((M_30.1 82 17) - 1) M_30)) a1 (M_24.1 83 a2.toNatClampNeg) a3 M_24)))))))) ∧ ((M_10.1 82 17) = 20 → Q (-2) M_10))) ∧ (r_11 = 0 → Q (-1) M_10))) a4 0 2 M_7))) a3 M_4))) a2 M_1))) a1 M

set_option maxRecDepth 100000 in
set_option maxHeartbeats 4000000 in
theorem mX9_ticket {l : Launch} {D : va_G} {g : pd_G} {t : Nat} {X : va_W} {Q : Int32 → pd_M → Prop} {a1 : Int32} {a2 : Int32} {a3 : Int32} {a4 : Int32} {M : pd_M} {sz : Nat} (h : wX9_ticket Q a1 a2 a3 a4 M) : Met l yX9_ticket (Cond.code yX9_ticket cX9_ticket 5 (Option.some FieldType.int) :: TB) rX9_ticket (pd_Pre D g t M X sz [.ref (g.1 82), .int a1, .int a2, .int a3, .int a4]) (pd_Qi D g M X sz Q) 0 0 (va_A (pd_WL g M ++ X) sz) := by
  refine pd_met (by decide) (Nat.le_of_ble_eq_true rfl) ?_
  intro p e s m below meth c A ls C hA hW hl
  have C : pd_C p m c cX9_ticket 5 s _ RX9 meth (Option.some FieldType.int) := C
  have hx := C.1.1
  have hb := C.1.2.1
  have hown := C.1.2.2.2.1
  have hts := C.1.2.2.2.2
  have hl : lv_has ls 5 [(0, .ref (g.1 82)), (1, .int a1), (2, .int a2), (3, .int a3), (4, .int a4)] := hl
  refine lv_aload_n hx hb dX9_ticket_0 rfl (lv_at hl 0 rfl) ?_
  refine lv_iload_n hx hb dX9_ticket_1 rfl (lv_at hl 1 rfl) ?_
  refine cl_X9_117 C hW h ⟨by decide, by decide⟩ ⟨Nat.zero_le _, Nat.zero_le _⟩ hl.1 (Nat.le_of_ble_eq_true rfl) dX9_ticket_2 (fun r_2 M_1 H locs h hW => ?_)
  refine lv_if_eq (tgt := 33) hx hb dX9_ticket_5 (by decide) (fun c_3 => ?_) (fun c_3 => ?_)
  · have h := h.1 c_3
    refine lv_iconst (v := (-1)) hx hb dX9_ticket_33 (by decide) ?_
    exact pd_iret C hA hW h dX9_ticket_34
  · have h := h.2 c_3
    refine lv_aload_n hx hb dX9_ticket_8 rfl (lv_at hl 0 rfl) ?_
    refine lv_iload_n hx hb dX9_ticket_9 rfl (lv_at hl 2 rfl) ?_
    refine cl_X9_101 C hW h ⟨by decide, by decide⟩ ⟨Nat.zero_le _, Nat.zero_le _⟩ hl.1 (Nat.le_of_ble_eq_true rfl) dX9_ticket_10 (fun r_5 M_4 H locs h hW => ?_)
    refine lv_if_eq (tgt := 33) hx hb dX9_ticket_13 (by decide) (fun c_6 => ?_) (fun c_6 => ?_)
    · have h := h.1 c_6
      refine lv_iconst (v := (-1)) hx hb dX9_ticket_33 (by decide) ?_
      exact pd_iret C hA hW h dX9_ticket_34
    · have h := h.2 c_6
      refine lv_iload_n hx hb dX9_ticket_16 rfl (lv_at hl 3 rfl) ?_
      refine cl_X9_107 C hW h ⟨by decide, by decide⟩ ⟨Nat.zero_le _, Nat.zero_le _⟩ hl.1 (Nat.le_of_ble_eq_true rfl) dX9_ticket_17 (fun r_8 M_7 H locs h hW => ?_)
      refine lv_if_eq (tgt := 33) hx hb dX9_ticket_20 (by decide) (fun c_9 => ?_) (fun c_9 => ?_)
      · have h := h.1 c_9
        refine lv_iconst (v := (-1)) hx hb dX9_ticket_33 (by decide) ?_
        exact pd_iret C hA hW h dX9_ticket_34
      · have h := h.2 c_9
        refine lv_iload hx hb dX9_ticket_23 (lv_at hl 4 rfl) ?_
        refine lv_iconst (v := 0) hx hb dX9_ticket_25 (by decide) ?_
        refine lv_iconst (v := 2) hx hb dX9_ticket_26 (by decide) ?_
        refine cl_X9_90 C hW h ⟨by decide, by decide⟩ ⟨Nat.zero_le _, Nat.zero_le _⟩ hl.1 (Nat.le_of_ble_eq_true rfl) dX9_ticket_27 (fun r_11 M_10 H locs h hW => ?_)
        refine lv_if_ne (tgt := 35) hx hb dX9_ticket_30 (by decide) (fun c_12 => ?_) (fun c_12 => ?_)
        · have h := h.1 c_12
          refine lv_aload_n hx hb dX9_ticket_35 rfl (lv_at hl 0 rfl) ?_
          refine gf_X9_172 C hW dX9_ticket_36 ?_
          refine lv_bipush (v := 20) hx hb dX9_ticket_39 (by decide) ?_
          refine lv_icmp_ne (tgt := 47) hx hb dX9_ticket_41 (by decide) (fun c_13 => ?_) (fun c_13 => ?_)
          · have h := h.1 c_13
            refine lv_aload_n hx hb dX9_ticket_47 rfl (lv_at hl 0 rfl) ?_
            refine gf_X9_57 C hW dX9_ticket_48 ?_
            refine lv_aload_n hx hb dX9_ticket_51 rfl (lv_at hl 0 rfl) ?_
            refine gf_X9_172 C hW dX9_ticket_52 ?_
            refine lv_iload_n hx hb dX9_ticket_55 rfl (lv_at hl 1 rfl) ?_
            have hi_14 := h.1
            have h := h.2
            refine pd_iast C hW kd_97 hi_14 dX9_ticket_56 (fun M_15 H locs eM_15 hW => ?_)
            have h := h M_15 eM_15
            refine lv_aload_n hx hb dX9_ticket_57 rfl (lv_at hl 0 rfl) ?_
            refine gf_X9_60 C hW dX9_ticket_58 ?_
            refine lv_aload_n hx hb dX9_ticket_61 rfl (lv_at hl 0 rfl) ?_
            refine gf_X9_172 C hW dX9_ticket_62 ?_
            refine lv_iload_n hx hb dX9_ticket_65 rfl (lv_at hl 2 rfl) ?_
            have hi_16 := h.1
            have h := h.2
            refine pd_iast C hW kd_98 hi_16 dX9_ticket_66 (fun M_17 H locs eM_17 hW => ?_)
            have h := h M_17 eM_17
            refine lv_aload_n hx hb dX9_ticket_67 rfl (lv_at hl 0 rfl) ?_
            refine gf_X9_63 C hW dX9_ticket_68 ?_
            refine lv_aload_n hx hb dX9_ticket_71 rfl (lv_at hl 0 rfl) ?_
            refine gf_X9_172 C hW dX9_ticket_72 ?_
            refine lv_iload_n hx hb dX9_ticket_75 rfl (lv_at hl 3 rfl) ?_
            have hi_18 := h.1
            have h := h.2
            refine pd_iast C hW kd_99 hi_18 dX9_ticket_76 (fun M_19 H locs eM_19 hW => ?_)
            have h := h M_19 eM_19
            refine lv_aload_n hx hb dX9_ticket_77 rfl (lv_at hl 0 rfl) ?_
            refine gf_X9_66 C hW dX9_ticket_78 ?_
            refine lv_aload_n hx hb dX9_ticket_81 rfl (lv_at hl 0 rfl) ?_
            refine gf_X9_172 C hW dX9_ticket_82 ?_
            refine lv_iload hx hb dX9_ticket_85 (lv_at hl 4 rfl) ?_
            have hi_20 := h.1
            have h := h.2
            refine pd_iast C hW kd_100 hi_20 dX9_ticket_87 (fun M_21 H locs eM_21 hW => ?_)
            have h := h M_21 eM_21
            refine lv_aload_n hx hb dX9_ticket_88 rfl (lv_at hl 0 rfl) ?_
            refine gf_X9_69 C hW dX9_ticket_89 ?_
            refine lv_aload_n hx hb dX9_ticket_92 rfl (lv_at hl 0 rfl) ?_
            refine gf_X9_172 C hW dX9_ticket_93 ?_
            refine lv_aload_n hx hb dX9_ticket_96 rfl (lv_at hl 0 rfl) ?_
            refine gf_X9_7 C hW dX9_ticket_97 ?_
            refine lv_iload_n hx hb dX9_ticket_100 rfl (lv_at hl 2 rfl) ?_
            have hi_22 := h.1
            have h := h.2
            refine pd_iald C hW kd_83 hi_22 dX9_ticket_101 ?_
            have hi_23 := h.1
            have h := h.2
            refine pd_iast C hW kd_101 hi_23 dX9_ticket_102 (fun M_24 H locs eM_24 hW => ?_)
            have h := h M_24 eM_24
            refine lv_aload_n hx hb dX9_ticket_103 rfl (lv_at hl 0 rfl) ?_
            refine gf_X9_72 C hW dX9_ticket_104 ?_
            refine lv_aload_n hx hb dX9_ticket_107 rfl (lv_at hl 0 rfl) ?_
            refine gf_X9_172 C hW dX9_ticket_108 ?_
            refine lv_aload_n hx hb dX9_ticket_111 rfl (lv_at hl 0 rfl) ?_
            refine lv_iload_n hx hb dX9_ticket_112 rfl (lv_at hl 1 rfl) ?_
            refine lv_aload_n hx hb dX9_ticket_113 rfl (lv_at hl 0 rfl) ?_
            refine gf_X9_7 C hW dX9_ticket_114 ?_
            refine lv_iload_n hx hb dX9_ticket_117 rfl (lv_at hl 2 rfl) ?_
            have hi_25 := h.1
            have h := h.2
            refine pd_iald C hW kd_83 hi_25 dX9_ticket_118 ?_
            refine lv_iload_n hx hb dX9_ticket_119 rfl (lv_at hl 3 rfl) ?_
            refine cl_X9_123 C hW h ⟨by decide, by decide⟩ ⟨Nat.zero_le _, Nat.zero_le _⟩ hl.1 (Nat.le_of_ble_eq_true rfl) dX9_ticket_120 (fun r_27 M_26 H locs h hW => ?_)
            have hi_28 := h.1
            have h := h.2
            refine pd_iast C hW kd_102 hi_28 dX9_ticket_123 (fun M_29 H locs eM_29 hW => ?_)
            have h := h M_29 eM_29
            refine lv_aload_n hx hb dX9_ticket_124 rfl (lv_at hl 0 rfl) ?_
            refine lv_dup hx hb dX9_ticket_125 rfl ?_
            refine gf_X9_172 C hW dX9_ticket_126 ?_
            refine lv_iconst (v := 1) hx hb dX9_ticket_129 (by decide) ?_
            refine lv_iadd hx hb dX9_ticket_130 ?_
            refine pf_X9_172 C hW dX9_ticket_131 (fun M_30 H locs eM_30 hW => ?_)
            have h := h M_30 eM_30
            refine lv_aload_n hx hb dX9_ticket_134 rfl (lv_at hl 0 rfl) ?_
            refine gf_X9_172 C hW dX9_ticket_135 ?_
            refine lv_iconst (v := 1) hx hb dX9_ticket_138 (by decide) ?_
            refine lv_isub hx hb dX9_ticket_139 ?_
            exact pd_iret C hA hW h dX9_ticket_140
          · have h := h.2 c_13
            refine lv_bipush (v := (-2)) hx hb dX9_ticket_44 (by decide) ?_
            exact pd_iret C hA hW h dX9_ticket_46
        · have h := h.2 c_12
          refine lv_iconst (v := (-1)) hx hb dX9_ticket_33 (by decide) ?_
          exact pd_iret C hA hW h dX9_ticket_34

theorem dd_X9_ticket : yX9_ticket.cls ≠ "java/lang/invoke/MethodHandle" ∧ yX9_ticket.cls ≠ "java/lang/invoke/VarHandle" ∧ (parseMethodDescriptor yX9_ticket.desc).map (fun d => d.parameters.length) = some 4 := by decide +kernel
theorem cl_L_102 {p : Program} {l : Launch} {e : Env} {R : Room} {s : State} {m : MethodId} {args : Array Value} {below : List Frame} {meth : Method} {c : Code} {H : Heap} {locs : List Loc} {cells slots : Nat} {QQ : State → Prop} {cc : ByteArray} {pc : Nat} {ls : Array Slot} {rest : List Value} {D : va_G} {g : pd_G} {t : Nat} {M : pd_M} {X : va_W} {A : Nat → Prop} {nL : Nat} {ret : Option FieldType} {Qc : Int32 → pd_M → Prop} {a1 : Int32} {a2 : Int32} {a3 : Int32} {a4 : Int32} (C : pd_C p m c cc nL s args RL meth ret) (hW : pd_W D g t M X A s H locs) (h : wX9_ticket Qc a1 a2 a3 a4 M) (hR : rX9_ticket.frames + 1 ≤ R.frames ∧ 8 + (5 + 11) + rX9_ticket.locals ≤ R.locals) (hcs : cells ≤ R.cells ∧ slots ≤ R.slots) (hls : ls.size = nL) (hw8 : (rest.map fun v => v.category).sum ≤ 8) (hdg : decode cc pc = .ok (.invokevirtual 102, 3))
    (kk : ∀ (r : Int32) (M1 : pd_M) (H1 : Heap) (locs1 : List Loc), Qc r M1 → pd_W D g t M1 X A s H1 locs1 → W p l e R s m args below meth c H1 locs1 cells slots QQ (F0 m (pc + 3) ls (.int r :: rest))) : W p l e R s m args below meth c H locs cells slots QQ (F0 m pc ls (.int a4 :: .int a3 :: .int a2 :: .int a1 :: .ref (g.1 82) :: rest)) :=
  pd_callVi (As := [.int a1, .int a2, .int a3, .int a4]) C hW (mX9_ticket h) kd_82 rfl mM_L_102 mO_yX9_ticket mV_yX9_ticket mI_X9 mC_yX9_ticket dd_X9_ticket ⟨rfl, rfl⟩ hR hcs hls rfl hw8 hdg kk
abbrev rX9_judged : Room := { frames := 0, cells := 0, slots := 0, locals := 0 }
def wX9_judged (Q : Int32 → pd_M → Prop) (a1 : Int32) (M : pd_M) : Prop := (vp_in a1 20 ∧ ((0 < (M.1 102 a1.toNatClampNeg) → Q 0 M) ∧ (¬ 0 < (M.1 102 a1.toNatClampNeg) → (vp_in a1 20 ∧ ((¬ (M.1 100 a1.toNatClampNeg) = 0 → (vp_in a1 20 ∧ ((¬ (M.1 100 a1.toNatClampNeg) = 1 → Q 2 M) ∧ ((M.1 100 a1.toNatClampNeg) = 1 → Q 1 M)))) ∧ ((M.1 100 a1.toNatClampNeg) = 0 → Q 0 M))))))

set_option maxRecDepth 100000 in
set_option maxHeartbeats 4000000 in
theorem mX9_judged {l : Launch} {D : va_G} {g : pd_G} {t : Nat} {X : va_W} {Q : Int32 → pd_M → Prop} {a1 : Int32} {M : pd_M} {sz : Nat} (h : wX9_judged Q a1 M) : Met l yX9_judged (Cond.code yX9_judged cX9_judged 2 (Option.some FieldType.int) :: TB) rX9_judged (pd_Pre D g t M X sz [.ref (g.1 82), .int a1]) (pd_Qi D g M X sz Q) 0 0 (va_A (pd_WL g M ++ X) sz) := by
  refine pd_met (by decide) (Nat.le_of_ble_eq_true rfl) ?_
  intro p e s m below meth c A ls C hA hW hl
  have C : pd_C p m c cX9_judged 2 s _ RX9 meth (Option.some FieldType.int) := C
  have hx := C.1.1
  have hb := C.1.2.1
  have hown := C.1.2.2.2.1
  have hts := C.1.2.2.2.2
  have hl : lv_has ls 2 [(0, .ref (g.1 82)), (1, .int a1)] := hl
  refine lv_aload_n hx hb dX9_judged_0 rfl (lv_at hl 0 rfl) ?_
  refine gf_X9_72 C hW dX9_judged_1 ?_
  refine lv_iload_n hx hb dX9_judged_4 rfl (lv_at hl 1 rfl) ?_
  have hi_1 := h.1
  have h := h.2
  refine pd_iald C hW kd_102 hi_1 dX9_judged_5 ?_
  refine lv_if_gt (tgt := 18) hx hb dX9_judged_6 (by decide) (fun c_2 => ?_) (fun c_2 => ?_)
  · have h := h.1 c_2
    refine lv_iconst (v := 0) hx hb dX9_judged_18 (by decide) ?_
    refine lv_goto (tgt := 37) hx hb dX9_judged_19 (by decide) ?_
    exact pd_iret C hA hW h dX9_judged_37
  · have h := h.2 c_2
    refine lv_aload_n hx hb dX9_judged_9 rfl (lv_at hl 0 rfl) ?_
    refine gf_X9_66 C hW dX9_judged_10 ?_
    refine lv_iload_n hx hb dX9_judged_13 rfl (lv_at hl 1 rfl) ?_
    have hi_3 := h.1
    have h := h.2
    refine pd_iald C hW kd_100 hi_3 dX9_judged_14 ?_
    refine lv_if_ne (tgt := 22) hx hb dX9_judged_15 (by decide) (fun c_4 => ?_) (fun c_4 => ?_)
    · have h := h.1 c_4
      refine lv_aload_n hx hb dX9_judged_22 rfl (lv_at hl 0 rfl) ?_
      refine gf_X9_66 C hW dX9_judged_23 ?_
      refine lv_iload_n hx hb dX9_judged_26 rfl (lv_at hl 1 rfl) ?_
      have hi_5 := h.1
      have h := h.2
      refine pd_iald C hW kd_100 hi_5 dX9_judged_27 ?_
      refine lv_iconst (v := 1) hx hb dX9_judged_28 (by decide) ?_
      refine lv_icmp_ne (tgt := 36) hx hb dX9_judged_29 (by decide) (fun c_6 => ?_) (fun c_6 => ?_)
      · have h := h.1 c_6
        refine lv_iconst (v := 2) hx hb dX9_judged_36 (by decide) ?_
        exact pd_iret C hA hW h dX9_judged_37
      · have h := h.2 c_6
        refine lv_iconst (v := 1) hx hb dX9_judged_32 (by decide) ?_
        refine lv_goto (tgt := 37) hx hb dX9_judged_33 (by decide) ?_
        exact pd_iret C hA hW h dX9_judged_37
    · have h := h.2 c_4
      refine lv_iconst (v := 0) hx hb dX9_judged_18 (by decide) ?_
      refine lv_goto (tgt := 37) hx hb dX9_judged_19 (by decide) ?_
      exact pd_iret C hA hW h dX9_judged_37

theorem dd_X9_judged : yX9_judged.cls ≠ "java/lang/invoke/MethodHandle" ∧ yX9_judged.cls ≠ "java/lang/invoke/VarHandle" ∧ (parseMethodDescriptor yX9_judged.desc).map (fun d => d.parameters.length) = some 1 := by decide +kernel
theorem cl_X9_175 {p : Program} {l : Launch} {e : Env} {R : Room} {s : State} {m : MethodId} {args : Array Value} {below : List Frame} {meth : Method} {c : Code} {H : Heap} {locs : List Loc} {cells slots : Nat} {QQ : State → Prop} {cc : ByteArray} {pc : Nat} {ls : Array Slot} {rest : List Value} {D : va_G} {g : pd_G} {t : Nat} {M : pd_M} {X : va_W} {A : Nat → Prop} {nL : Nat} {ret : Option FieldType} {Qc : Int32 → pd_M → Prop} {a1 : Int32} (C : pd_C p m c cc nL s args RX9 meth ret) (hW : pd_W D g t M X A s H locs) (h : wX9_judged Qc a1 M) (hR : rX9_judged.frames + 1 ≤ R.frames ∧ 8 + (2 + 11) + rX9_judged.locals ≤ R.locals) (hcs : cells ≤ R.cells ∧ slots ≤ R.slots) (hls : ls.size = nL) (hw8 : (rest.map fun v => v.category).sum ≤ 8) (hdg : decode cc pc = .ok (.invokevirtual 175, 3))
    (kk : ∀ (r : Int32) (M1 : pd_M) (H1 : Heap) (locs1 : List Loc), Qc r M1 → pd_W D g t M1 X A s H1 locs1 → W p l e R s m args below meth c H1 locs1 cells slots QQ (F0 m (pc + 3) ls (.int r :: rest))) : W p l e R s m args below meth c H locs cells slots QQ (F0 m pc ls (.int a1 :: .ref (g.1 82) :: rest)) :=
  pd_callVi (As := [.int a1]) C hW (mX9_judged h) kd_82 rfl mM_X9_175 mO_yX9_judged mV_yX9_judged mI_X9 mC_yX9_judged dd_X9_judged ⟨rfl, rfl⟩ hR hcs hls rfl hw8 hdg kk
abbrev rX9_likes : Room := { frames := 0, cells := 0, slots := 0, locals := 0 }
def lpX9_likes_5 (K : Int32 → pd_M → Prop) (f1 : Int32) (f2 : Int32) : Nat → Int32 → Int32 → pd_M → Prop
  | 0, _, _, _ => False
  | n + 1, v3, v4, M => (((M.1 82 17) ≤ v4 → K v3 M) ∧ (¬ (M.1 82 17) ≤ v4 → ((v4 = f1 → ∀ x3_3 : Int32, x3_3 = (v3 + 0) → ∀ x4_4 : Int32, x4_4 = v4 + 1 → lpX9_likes_5 K f1 f2 n x3_3 x4_4 M) ∧ (¬ v4 = f1 → (vp_in v4 20 ∧ (vp_in f1 20 ∧ ((¬ (M.1 101 v4.toNatClampNeg) = (M.1 101 f1.toNatClampNeg) → ∀ x3_8 : Int32, x3_8 = (v3 + 0) → ∀ x4_9 : Int32, x4_9 = v4 + 1 → lpX9_likes_5 K f1 f2 n x3_8 x4_9 M) ∧ ((M.1 101 v4.toNatClampNeg) = (M.1 101 f1.toNatClampNeg) → (vp_in v4 20 ∧ (vp_in f1 20 ∧ ((¬ (M.1 99 v4.toNatClampNeg) = (M.1 99 f1.toNatClampNeg) → ∀ x3_13 : Int32, x3_13 = (v3 + 0) → ∀ x4_14 : Int32, x4_14 = v4 + 1 → lpX9_likes_5 K f1 f2 n x3_13 x4_14 M) ∧ ((M.1 99 v4.toNatClampNeg) = (M.1 99 f1.toNatClampNeg) → (vp_in v4 20 ∧ ((¬ (M.1 100 v4.toNatClampNeg) = f2 → ∀ x3_17 : Int32, x3_17 = (v3 + 0) → ∀ x4_18 : Int32, x4_18 = v4 + 1 → lpX9_likes_5 K f1 f2 n x3_17 x4_18 M) ∧ ((M.1 100 v4.toNatClampNeg) = f2 → ∀ x3_19 : Int32, x3_19 = (v3 + 1) → ∀ x4_20 : Int32, x4_20 = v4 + 1 → lpX9_likes_5 K f1 f2 n x3_19 x4_20 M)))))))))))))))

set_option maxRecDepth 100000 in
set_option maxHeartbeats 4000000 in
theorem stX9_likes_5 {p : Program} {l : Launch} {e : Env} {s : State} {m : MethodId} {args : Array Value} {below : List Frame} {meth : Method} {c : Code} {D : va_G} {g : pd_G} {t : Nat} {M0 : pd_M} {X : va_W} {A : Nat → Prop} {sz : Nat} {Q : Int32 → pd_M → Prop} (C : pd_C p m c cX9_likes 5 s args RX9 meth (Option.some FieldType.int)) (hA : A = va_A (pd_WL g M0 ++ X) sz) {K : Int32 → pd_M → Prop} {f1 : Int32} {f2 : Int32}  (hK : ∀ (p3 : Int32) (M : pd_M) (H : Heap) (locs : List Loc) (ls : Array Slot), pd_W D g t M X A s H locs → lv_has ls 5 [(3, .int p3)] → K p3 M → W p l e rX9_likes s m args below meth c H locs 0 0 (MQ below (pd_Qi D g M0 X sz Q) args s 0 0 (va_A (pd_WL g M0 ++ X) sz)) (F0 m 77 ls [])) :
    ∀ (n : Nat) (v3 : Int32) (v4 : Int32) (M : pd_M) (H : Heap) (locs : List Loc) (ls : Array Slot), pd_W D g t M X A s H locs → lv_has ls 5 [(0, .ref (g.1 82)), (1, .int f1), (2, .int f2), (3, .int v3), (4, .int v4)] → lpX9_likes_5 K f1 f2 n v3 v4 M → W p l e rX9_likes s m args below meth c H locs 0 0 (MQ below (pd_Qi D g M0 X sz Q) args s 0 0 (va_A (pd_WL g M0 ++ X) sz)) (F0 m 5 ls []) := by
  have hx := C.1.1
  have hb := C.1.2.1
  have hown := C.1.2.2.2.1
  have hts := C.1.2.2.2.2
  intro n
  induction n with
  | zero => intro v3 v4 M H locs ls hW hl h; exact h.elim
  | succ n ih =>
    intro v3 v4 M H locs ls hW hl h
    refine lv_iload hx hb dX9_likes_5 (lv_at hl 4 rfl) ?_
    refine lv_aload_n hx hb dX9_likes_7 rfl (lv_at hl 0 rfl) ?_
    refine gf_X9_172 C hW dX9_likes_8 ?_
    refine lv_icmp_ge (tgt := 77) hx hb dX9_likes_11 (by decide) (fun c_1 => ?_) (fun c_1 => ?_)
    · have h := h.1 c_1
      exact hK v3 M _ _ _ hW (lv_sub hl [3] rfl) h
    · have h := h.2 c_1
      refine lv_iload_n hx hb dX9_likes_14 rfl (lv_at hl 3 rfl) ?_
      refine lv_iload hx hb dX9_likes_15 (lv_at hl 4 rfl) ?_
      refine lv_iload_n hx hb dX9_likes_17 rfl (lv_at hl 1 rfl) ?_
      refine lv_icmp_eq (tgt := 68) hx hb dX9_likes_18 (by decide) (fun c_2 => ?_) (fun c_2 => ?_)
      · have h := h.1 c_2
        refine lv_iconst (v := 0) hx hb dX9_likes_68 (by decide) ?_
        refine lv_iadd hx hb dX9_likes_69 ?_
        refine lv_topi (fun x3_3 ex3_3 => ?_)
        have h := h x3_3 ex3_3
        refine lv_istore_n (lv' := [(3, .int x3_3), (0, .ref (g.1 82)), (1, .int f1), (2, .int f2), (4, .int v4)]) hx hb dX9_likes_70 rfl hl (by decide) rfl (fun ls hl => ?_)
        obtain ⟨x4_4, ex4_4⟩ : ∃ y : Int32, y = v4 + 1 := ⟨_, rfl⟩
        have h := h x4_4 ex4_4
        refine lv_iinc (v := x4_4) (lv' := [(4, .int x4_4), (3, .int x3_3), (0, .ref (g.1 82)), (1, .int f1), (2, .int f2)]) hx hb dX9_likes_71 hl (k := 4) rfl (by rw [ex4_4]; rfl) (by decide) rfl (fun ls hl => ?_)
        refine lv_goto (tgt := 5) hx hb dX9_likes_74 (by decide) ?_
        exact ih x3_3 x4_4 M _ _ _ hW (lv_sub hl [2, 3, 4, 1, 0] rfl) h
      · have h := h.2 c_2
        refine lv_aload_n hx hb dX9_likes_21 rfl (lv_at hl 0 rfl) ?_
        refine gf_X9_69 C hW dX9_likes_22 ?_
        refine lv_iload hx hb dX9_likes_25 (lv_at hl 4 rfl) ?_
        have hi_5 := h.1
        have h := h.2
        refine pd_iald C hW kd_101 hi_5 dX9_likes_27 ?_
        refine lv_aload_n hx hb dX9_likes_28 rfl (lv_at hl 0 rfl) ?_
        refine gf_X9_69 C hW dX9_likes_29 ?_
        refine lv_iload_n hx hb dX9_likes_32 rfl (lv_at hl 1 rfl) ?_
        have hi_6 := h.1
        have h := h.2
        refine pd_iald C hW kd_101 hi_6 dX9_likes_33 ?_
        refine lv_icmp_ne (tgt := 68) hx hb dX9_likes_34 (by decide) (fun c_7 => ?_) (fun c_7 => ?_)
        · have h := h.1 c_7
          refine lv_iconst (v := 0) hx hb dX9_likes_68 (by decide) ?_
          refine lv_iadd hx hb dX9_likes_69 ?_
          refine lv_topi (fun x3_8 ex3_8 => ?_)
          have h := h x3_8 ex3_8
          refine lv_istore_n (lv' := [(3, .int x3_8), (0, .ref (g.1 82)), (1, .int f1), (2, .int f2), (4, .int v4)]) hx hb dX9_likes_70 rfl hl (by decide) rfl (fun ls hl => ?_)
          obtain ⟨x4_9, ex4_9⟩ : ∃ y : Int32, y = v4 + 1 := ⟨_, rfl⟩
          have h := h x4_9 ex4_9
          refine lv_iinc (v := x4_9) (lv' := [(4, .int x4_9), (3, .int x3_8), (0, .ref (g.1 82)), (1, .int f1), (2, .int f2)]) hx hb dX9_likes_71 hl (k := 4) rfl (by rw [ex4_9]; rfl) (by decide) rfl (fun ls hl => ?_)
          refine lv_goto (tgt := 5) hx hb dX9_likes_74 (by decide) ?_
          exact ih x3_8 x4_9 M _ _ _ hW (lv_sub hl [2, 3, 4, 1, 0] rfl) h
        · have h := h.2 c_7
          refine lv_aload_n hx hb dX9_likes_37 rfl (lv_at hl 0 rfl) ?_
          refine gf_X9_63 C hW dX9_likes_38 ?_
          refine lv_iload hx hb dX9_likes_41 (lv_at hl 4 rfl) ?_
          have hi_10 := h.1
          have h := h.2
          refine pd_iald C hW kd_99 hi_10 dX9_likes_43 ?_
          refine lv_aload_n hx hb dX9_likes_44 rfl (lv_at hl 0 rfl) ?_
          refine gf_X9_63 C hW dX9_likes_45 ?_
          refine lv_iload_n hx hb dX9_likes_48 rfl (lv_at hl 1 rfl) ?_
          have hi_11 := h.1
          have h := h.2
          refine pd_iald C hW kd_99 hi_11 dX9_likes_49 ?_
          refine lv_icmp_ne (tgt := 68) hx hb dX9_likes_50 (by decide) (fun c_12 => ?_) (fun c_12 => ?_)
          · have h := h.1 c_12
            refine lv_iconst (v := 0) hx hb dX9_likes_68 (by decide) ?_
            refine lv_iadd hx hb dX9_likes_69 ?_
            refine lv_topi (fun x3_13 ex3_13 => ?_)
            have h := h x3_13 ex3_13
            refine lv_istore_n (lv' := [(3, .int x3_13), (0, .ref (g.1 82)), (1, .int f1), (2, .int f2), (4, .int v4)]) hx hb dX9_likes_70 rfl hl (by decide) rfl (fun ls hl => ?_)
            obtain ⟨x4_14, ex4_14⟩ : ∃ y : Int32, y = v4 + 1 := ⟨_, rfl⟩
            have h := h x4_14 ex4_14
            refine lv_iinc (v := x4_14) (lv' := [(4, .int x4_14), (3, .int x3_13), (0, .ref (g.1 82)), (1, .int f1), (2, .int f2)]) hx hb dX9_likes_71 hl (k := 4) rfl (by rw [ex4_14]; rfl) (by decide) rfl (fun ls hl => ?_)
            refine lv_goto (tgt := 5) hx hb dX9_likes_74 (by decide) ?_
            exact ih x3_13 x4_14 M _ _ _ hW (lv_sub hl [2, 3, 4, 1, 0] rfl) h
          · have h := h.2 c_12
            refine lv_aload_n hx hb dX9_likes_53 rfl (lv_at hl 0 rfl) ?_
            refine gf_X9_66 C hW dX9_likes_54 ?_
            refine lv_iload hx hb dX9_likes_57 (lv_at hl 4 rfl) ?_
            have hi_15 := h.1
            have h := h.2
            refine pd_iald C hW kd_100 hi_15 dX9_likes_59 ?_
            refine lv_iload_n hx hb dX9_likes_60 rfl (lv_at hl 2 rfl) ?_
            refine lv_icmp_ne (tgt := 68) hx hb dX9_likes_61 (by decide) (fun c_16 => ?_) (fun c_16 => ?_)
            · have h := h.1 c_16
              refine lv_iconst (v := 0) hx hb dX9_likes_68 (by decide) ?_
              refine lv_iadd hx hb dX9_likes_69 ?_
              refine lv_topi (fun x3_17 ex3_17 => ?_)
              have h := h x3_17 ex3_17
              refine lv_istore_n (lv' := [(3, .int x3_17), (0, .ref (g.1 82)), (1, .int f1), (2, .int f2), (4, .int v4)]) hx hb dX9_likes_70 rfl hl (by decide) rfl (fun ls hl => ?_)
              obtain ⟨x4_18, ex4_18⟩ : ∃ y : Int32, y = v4 + 1 := ⟨_, rfl⟩
              have h := h x4_18 ex4_18
              refine lv_iinc (v := x4_18) (lv' := [(4, .int x4_18), (3, .int x3_17), (0, .ref (g.1 82)), (1, .int f1), (2, .int f2)]) hx hb dX9_likes_71 hl (k := 4) rfl (by rw [ex4_18]; rfl) (by decide) rfl (fun ls hl => ?_)
              refine lv_goto (tgt := 5) hx hb dX9_likes_74 (by decide) ?_
              exact ih x3_17 x4_18 M _ _ _ hW (lv_sub hl [2, 3, 4, 1, 0] rfl) h
            · have h := h.2 c_16
              refine lv_iconst (v := 1) hx hb dX9_likes_64 (by decide) ?_
              refine lv_goto (tgt := 69) hx hb dX9_likes_65 (by decide) ?_
              refine lv_iadd hx hb dX9_likes_69 ?_
              refine lv_topi (fun x3_19 ex3_19 => ?_)
              have h := h x3_19 ex3_19
              refine lv_istore_n (lv' := [(3, .int x3_19), (0, .ref (g.1 82)), (1, .int f1), (2, .int f2), (4, .int v4)]) hx hb dX9_likes_70 rfl hl (by decide) rfl (fun ls hl => ?_)
              obtain ⟨x4_20, ex4_20⟩ : ∃ y : Int32, y = v4 + 1 := ⟨_, rfl⟩
              have h := h x4_20 ex4_20
              refine lv_iinc (v := x4_20) (lv' := [(4, .int x4_20), (3, .int x3_19), (0, .ref (g.1 82)), (1, .int f1), (2, .int f2)]) hx hb dX9_likes_71 hl (k := 4) rfl (by rw [ex4_20]; rfl) (by decide) rfl (fun ls hl => ?_)
              refine lv_goto (tgt := 5) hx hb dX9_likes_74 (by decide) ?_
              exact ih x3_19 x4_20 M _ _ _ hW (lv_sub hl [2, 3, 4, 1, 0] rfl) h

def wX9_likes (Q : Int32 → pd_M → Prop) (a1 : Int32) (a2 : Int32) (M : pd_M) : Prop := (∃ k_5 : Nat, lpX9_likes_5 (fun x3_22 M_21 => Q x3_22 M_21) a1 a2 k_5 0 0 M)

set_option maxRecDepth 100000 in
set_option maxHeartbeats 4000000 in
theorem mX9_likes {l : Launch} {D : va_G} {g : pd_G} {t : Nat} {X : va_W} {Q : Int32 → pd_M → Prop} {a1 : Int32} {a2 : Int32} {M : pd_M} {sz : Nat} (h : wX9_likes Q a1 a2 M) : Met l yX9_likes (Cond.code yX9_likes cX9_likes 5 (Option.some FieldType.int) :: TB) rX9_likes (pd_Pre D g t M X sz [.ref (g.1 82), .int a1, .int a2]) (pd_Qi D g M X sz Q) 0 0 (va_A (pd_WL g M ++ X) sz) := by
  refine pd_met (by decide) (Nat.le_of_ble_eq_true rfl) ?_
  intro p e s m below meth c A ls C hA hW hl
  have C : pd_C p m c cX9_likes 5 s _ RX9 meth (Option.some FieldType.int) := C
  have hx := C.1.1
  have hb := C.1.2.1
  have hown := C.1.2.2.2.1
  have hts := C.1.2.2.2.2
  have hl : lv_has ls 5 [(0, .ref (g.1 82)), (1, .int a1), (2, .int a2)] := hl
  refine lv_iconst (v := 0) hx hb dX9_likes_0 (by decide) ?_
  refine lv_istore_n (lv' := [(3, .int 0), (0, .ref (g.1 82)), (1, .int a1), (2, .int a2)]) hx hb dX9_likes_1 rfl hl (by decide) rfl (fun ls hl => ?_)
  refine lv_iconst (v := 0) hx hb dX9_likes_2 (by decide) ?_
  refine lv_istore (lv' := [(4, .int 0), (3, .int 0), (0, .ref (g.1 82)), (1, .int a1), (2, .int a2)]) hx hb dX9_likes_3 hl (by decide) rfl (fun ls hl => ?_)
  obtain ⟨k_5, h⟩ := h
  refine stX9_likes_5 C hA (fun x3_22 M_21 H locs ls hW hl h => ?_) k_5 0 0 M _ _ _ hW (lv_sub hl [2, 3, 4, 1, 0] rfl) h
  refine lv_iload_n hx hb dX9_likes_77 rfl (lv_at hl 0 rfl) ?_
  exact pd_iret C hA hW h dX9_likes_78

theorem dd_X9_likes : yX9_likes.cls ≠ "java/lang/invoke/MethodHandle" ∧ yX9_likes.cls ≠ "java/lang/invoke/VarHandle" ∧ (parseMethodDescriptor yX9_likes.desc).map (fun d => d.parameters.length) = some 2 := by decide +kernel
theorem cl_X9_178 {p : Program} {l : Launch} {e : Env} {R : Room} {s : State} {m : MethodId} {args : Array Value} {below : List Frame} {meth : Method} {c : Code} {H : Heap} {locs : List Loc} {cells slots : Nat} {QQ : State → Prop} {cc : ByteArray} {pc : Nat} {ls : Array Slot} {rest : List Value} {D : va_G} {g : pd_G} {t : Nat} {M : pd_M} {X : va_W} {A : Nat → Prop} {nL : Nat} {ret : Option FieldType} {Qc : Int32 → pd_M → Prop} {a1 : Int32} {a2 : Int32} (C : pd_C p m c cc nL s args RX9 meth ret) (hW : pd_W D g t M X A s H locs) (h : wX9_likes Qc a1 a2 M) (hR : rX9_likes.frames + 1 ≤ R.frames ∧ 8 + (5 + 11) + rX9_likes.locals ≤ R.locals) (hcs : cells ≤ R.cells ∧ slots ≤ R.slots) (hls : ls.size = nL) (hw8 : (rest.map fun v => v.category).sum ≤ 8) (hdg : decode cc pc = .ok (.invokevirtual 178, 3))
    (kk : ∀ (r : Int32) (M1 : pd_M) (H1 : Heap) (locs1 : List Loc), Qc r M1 → pd_W D g t M1 X A s H1 locs1 → W p l e R s m args below meth c H1 locs1 cells slots QQ (F0 m (pc + 3) ls (.int r :: rest))) : W p l e R s m args below meth c H locs cells slots QQ (F0 m pc ls (.int a2 :: .int a1 :: .ref (g.1 82) :: rest)) :=
  pd_callVi (As := [.int a1, .int a2]) C hW (mX9_likes h) kd_82 rfl mM_X9_178 mO_yX9_likes mV_yX9_likes mI_X9 mC_yX9_likes dd_X9_likes ⟨rfl, rfl⟩ hR hcs hls rfl hw8 hdg kk
abbrev rX9_byLikes : Room := { frames := 1, cells := 0, slots := 0, locals := 24 }
def wX9_byLikes (Q : Int32 → pd_M → Prop) (a1 : Int32) (M : pd_M) : Prop := wX9_judged (fun r_2 M_1 => ((r_2 = 2 → wX9_likes (fun r_5 M_4 => wX9_likes (fun r_7 M_6 => ((r_5 ≤ r_7 → ((r_7 ≤ r_5 → Q 2 M_6) ∧ (¬ r_7 ≤ r_5 → Q 0 M_6))) ∧ (¬ r_5 ≤ r_7 → Q 1 M_6))) a1 0 M_4) a1 1 M_1) ∧ (¬ r_2 = 2 → wX9_judged (fun r_11 M_10 => Q r_11 M_10) a1 M_1))) a1 M

set_option maxRecDepth 100000 in
set_option maxHeartbeats 4000000 in
theorem mX9_byLikes {l : Launch} {D : va_G} {g : pd_G} {t : Nat} {X : va_W} {Q : Int32 → pd_M → Prop} {a1 : Int32} {M : pd_M} {sz : Nat} (h : wX9_byLikes Q a1 M) : Met l yX9_byLikes (Cond.code yX9_byLikes cX9_byLikes 4 (Option.some FieldType.int) :: TB) rX9_byLikes (pd_Pre D g t M X sz [.ref (g.1 82), .int a1]) (pd_Qi D g M X sz Q) 0 0 (va_A (pd_WL g M ++ X) sz) := by
  refine pd_met (by decide) (Nat.le_of_ble_eq_true rfl) ?_
  intro p e s m below meth c A ls C hA hW hl
  have C : pd_C p m c cX9_byLikes 4 s _ RX9 meth (Option.some FieldType.int) := C
  have hx := C.1.1
  have hb := C.1.2.1
  have hown := C.1.2.2.2.1
  have hts := C.1.2.2.2.2
  have hl : lv_has ls 4 [(0, .ref (g.1 82)), (1, .int a1)] := hl
  refine lv_aload_n hx hb dX9_byLikes_0 rfl (lv_at hl 0 rfl) ?_
  refine lv_iload_n hx hb dX9_byLikes_1 rfl (lv_at hl 1 rfl) ?_
  refine cl_X9_175 C hW h ⟨by decide, by decide⟩ ⟨Nat.zero_le _, Nat.zero_le _⟩ hl.1 (Nat.le_of_ble_eq_true rfl) dX9_byLikes_2 (fun r_2 M_1 H locs h hW => ?_)
  refine lv_iconst (v := 2) hx hb dX9_byLikes_5 (by decide) ?_
  refine lv_icmp_eq (tgt := 15) hx hb dX9_byLikes_6 (by decide) (fun c_3 => ?_) (fun c_3 => ?_)
  · have h := h.1 c_3
    refine lv_aload_n hx hb dX9_byLikes_15 rfl (lv_at hl 0 rfl) ?_
    refine lv_iload_n hx hb dX9_byLikes_16 rfl (lv_at hl 1 rfl) ?_
    refine lv_iconst (v := 1) hx hb dX9_byLikes_17 (by decide) ?_
    refine cl_X9_178 C hW h ⟨by decide, by decide⟩ ⟨Nat.zero_le _, Nat.zero_le _⟩ hl.1 (Nat.le_of_ble_eq_true rfl) dX9_byLikes_18 (fun r_5 M_4 H locs h hW => ?_)
    refine lv_istore_n (lv' := [(2, .int r_5), (0, .ref (g.1 82)), (1, .int a1)]) hx hb dX9_byLikes_21 rfl hl (by decide) rfl (fun ls hl => ?_)
    refine lv_aload_n hx hb dX9_byLikes_22 rfl (lv_at hl 1 rfl) ?_
    refine lv_iload_n hx hb dX9_byLikes_23 rfl (lv_at hl 2 rfl) ?_
    refine lv_iconst (v := 0) hx hb dX9_byLikes_24 (by decide) ?_
    refine cl_X9_178 C hW h ⟨by decide, by decide⟩ ⟨Nat.zero_le _, Nat.zero_le _⟩ hl.1 (Nat.le_of_ble_eq_true rfl) dX9_byLikes_25 (fun r_7 M_6 H locs h hW => ?_)
    refine lv_istore_n (lv' := [(3, .int r_7), (2, .int r_5), (0, .ref (g.1 82)), (1, .int a1)]) hx hb dX9_byLikes_28 rfl hl (by decide) rfl (fun ls hl => ?_)
    refine lv_iload_n hx hb dX9_byLikes_29 rfl (lv_at hl 1 rfl) ?_
    refine lv_iload_n hx hb dX9_byLikes_30 rfl (lv_at hl 0 rfl) ?_
    refine lv_icmp_le (tgt := 38) hx hb dX9_byLikes_31 (by decide) (fun c_8 => ?_) (fun c_8 => ?_)
    · have h := h.1 c_8
      refine lv_iload_n hx hb dX9_byLikes_38 rfl (lv_at hl 1 rfl) ?_
      refine lv_iload_n hx hb dX9_byLikes_39 rfl (lv_at hl 0 rfl) ?_
      refine lv_icmp_ge (tgt := 47) hx hb dX9_byLikes_40 (by decide) (fun c_9 => ?_) (fun c_9 => ?_)
      · have h := h.1 c_9
        refine lv_iconst (v := 2) hx hb dX9_byLikes_47 (by decide) ?_
        exact pd_iret C hA hW h dX9_byLikes_48
      · have h := h.2 c_9
        refine lv_iconst (v := 0) hx hb dX9_byLikes_43 (by decide) ?_
        refine lv_goto (tgt := 48) hx hb dX9_byLikes_44 (by decide) ?_
        exact pd_iret C hA hW h dX9_byLikes_48
    · have h := h.2 c_8
      refine lv_iconst (v := 1) hx hb dX9_byLikes_34 (by decide) ?_
      refine lv_goto (tgt := 48) hx hb dX9_byLikes_35 (by decide) ?_
      exact pd_iret C hA hW h dX9_byLikes_48
  · have h := h.2 c_3
    refine lv_aload_n hx hb dX9_byLikes_9 rfl (lv_at hl 0 rfl) ?_
    refine lv_iload_n hx hb dX9_byLikes_10 rfl (lv_at hl 1 rfl) ?_
    refine cl_X9_175 C hW h ⟨by decide, by decide⟩ ⟨Nat.zero_le _, Nat.zero_le _⟩ hl.1 (Nat.le_of_ble_eq_true rfl) dX9_byLikes_11 (fun r_11 M_10 H locs h hW => ?_)
    exact pd_iret C hA hW h dX9_byLikes_14

theorem dd_X9_byLikes : yX9_byLikes.cls ≠ "java/lang/invoke/MethodHandle" ∧ yX9_byLikes.cls ≠ "java/lang/invoke/VarHandle" ∧ (parseMethodDescriptor yX9_byLikes.desc).map (fun d => d.parameters.length) = some 1 := by decide +kernel
theorem cl_X9_181 {p : Program} {l : Launch} {e : Env} {R : Room} {s : State} {m : MethodId} {args : Array Value} {below : List Frame} {meth : Method} {c : Code} {H : Heap} {locs : List Loc} {cells slots : Nat} {QQ : State → Prop} {cc : ByteArray} {pc : Nat} {ls : Array Slot} {rest : List Value} {D : va_G} {g : pd_G} {t : Nat} {M : pd_M} {X : va_W} {A : Nat → Prop} {nL : Nat} {ret : Option FieldType} {Qc : Int32 → pd_M → Prop} {a1 : Int32} (C : pd_C p m c cc nL s args RX9 meth ret) (hW : pd_W D g t M X A s H locs) (h : wX9_byLikes Qc a1 M) (hR : rX9_byLikes.frames + 1 ≤ R.frames ∧ 8 + (4 + 11) + rX9_byLikes.locals ≤ R.locals) (hcs : cells ≤ R.cells ∧ slots ≤ R.slots) (hls : ls.size = nL) (hw8 : (rest.map fun v => v.category).sum ≤ 8) (hdg : decode cc pc = .ok (.invokevirtual 181, 3))
    (kk : ∀ (r : Int32) (M1 : pd_M) (H1 : Heap) (locs1 : List Loc), Qc r M1 → pd_W D g t M1 X A s H1 locs1 → W p l e R s m args below meth c H1 locs1 cells slots QQ (F0 m (pc + 3) ls (.int r :: rest))) : W p l e R s m args below meth c H locs cells slots QQ (F0 m pc ls (.int a1 :: .ref (g.1 82) :: rest)) :=
  pd_callVi (As := [.int a1]) C hW (mX9_byLikes h) kd_82 rfl mM_X9_181 mO_yX9_byLikes mV_yX9_byLikes mI_X9 mC_yX9_byLikes dd_X9_byLikes ⟨rfl, rfl⟩ hR hcs hls rfl hw8 hdg kk
abbrev rX9_of : Room := { frames := 2, cells := 0, slots := 0, locals := 47 }
def wX9_of (Q : Int32 → pd_M → Prop) (a1 : Int32) (a2 : Int32) (M : pd_M) : Prop := wX9_in (fun r_2 M_1 => ((¬ r_2 = 0 → ((a2 = 0 → (vp_in a1 20 ∧ Q (M_1.1 97 a1.toNatClampNeg) M_1)) ∧ (¬ a2 = 0 → ((a2 = 1 → (vp_in a1 20 ∧ Q (M_1.1 98 a1.toNatClampNeg) M_1)) ∧ (¬ a2 = 1 → ((a2 = 2 → (vp_in a1 20 ∧ Q (M_1.1 99 a1.toNatClampNeg) M_1)) ∧ (¬ a2 = 2 → ((a2 = 3 → (vp_in a1 20 ∧ Q (M_1.1 100 a1.toNatClampNeg) M_1)) ∧ (¬ a2 = 3 → ((a2 = 4 → (vp_in a1 20 ∧ Q (M_1.1 101 a1.toNatClampNeg) M_1)) ∧ (¬ a2 = 4 → ((a2 = 5 → wX9_judged (fun r_16 M_15 => Q r_16 M_15) a1 M_1) ∧ (¬ a2 = 5 → ((a2 = 6 → wX9_byLikes (fun r_19 M_18 => Q r_19 M_18) a1 M_1) ∧ (¬ a2 = 6 → ((a2 = 7 → wX9_likes (fun r_22 M_21 => wX9_likes (fun r_24 M_23 => Q (r_22 + r_24) M_23) a1 1 M_21) a1 0 M_1) ∧ (¬ a2 = 7 → Q (-1) M_1))))))))))))))))) ∧ (r_2 = 0 → Q (-1) M_1))) a1 0 ((M.1 82 17) - 1) M

set_option maxRecDepth 100000 in
set_option maxHeartbeats 4000000 in
theorem mX9_of {l : Launch} {D : va_G} {g : pd_G} {t : Nat} {X : va_W} {Q : Int32 → pd_M → Prop} {a1 : Int32} {a2 : Int32} {M : pd_M} {sz : Nat} (h : wX9_of Q a1 a2 M) : Met l yX9_of (Cond.code yX9_of cX9_of 3 (Option.some FieldType.int) :: TB) rX9_of (pd_Pre D g t M X sz [.ref (g.1 82), .int a1, .int a2]) (pd_Qi D g M X sz Q) 0 0 (va_A (pd_WL g M ++ X) sz) := by
  refine pd_met (by decide) (Nat.le_of_ble_eq_true rfl) ?_
  intro p e s m below meth c A ls C hA hW hl
  have C : pd_C p m c cX9_of 3 s _ RX9 meth (Option.some FieldType.int) := C
  have hx := C.1.1
  have hb := C.1.2.1
  have hown := C.1.2.2.2.1
  have hts := C.1.2.2.2.2
  have hl : lv_has ls 3 [(0, .ref (g.1 82)), (1, .int a1), (2, .int a2)] := hl
  refine lv_iload_n hx hb dX9_of_0 rfl (lv_at hl 1 rfl) ?_
  refine lv_iconst (v := 0) hx hb dX9_of_1 (by decide) ?_
  refine lv_aload_n hx hb dX9_of_2 rfl (lv_at hl 0 rfl) ?_
  refine gf_X9_172 C hW dX9_of_3 ?_
  refine lv_iconst (v := 1) hx hb dX9_of_6 (by decide) ?_
  refine lv_isub hx hb dX9_of_7 ?_
  refine cl_X9_90 C hW h ⟨by decide, by decide⟩ ⟨Nat.zero_le _, Nat.zero_le _⟩ hl.1 (Nat.le_of_ble_eq_true rfl) dX9_of_8 (fun r_2 M_1 H locs h hW => ?_)
  refine lv_if_ne (tgt := 16) hx hb dX9_of_11 (by decide) (fun c_3 => ?_) (fun c_3 => ?_)
  · have h := h.1 c_3
    refine lv_iload_n hx hb dX9_of_16 rfl (lv_at hl 2 rfl) ?_
    by_cases c_4 : a2 = 0
    · have h := h.1 c_4
      refine lv_tableIn (off := 47) (tgt := 64) hx hb dX9_of_17 (by rw [c_4]; decide) (by rw [c_4]; decide) (by rw [c_4]; rfl) (by decide) ?_
      refine lv_aload_n hx hb dX9_of_64 rfl (lv_at hl 0 rfl) ?_
      refine gf_X9_57 C hW dX9_of_65 ?_
      refine lv_iload_n hx hb dX9_of_68 rfl (lv_at hl 1 rfl) ?_
      have hi_5 := h.1
      have h := h.2
      refine pd_iald C hW kd_97 hi_5 dX9_of_69 ?_
      exact pd_iret C hA hW h dX9_of_70
    have h := h.2 c_4
    by_cases c_6 : a2 = 1
    · have h := h.1 c_6
      refine lv_tableIn (off := 54) (tgt := 71) hx hb dX9_of_17 (by rw [c_6]; decide) (by rw [c_6]; decide) (by rw [c_6]; rfl) (by decide) ?_
      refine lv_aload_n hx hb dX9_of_71 rfl (lv_at hl 0 rfl) ?_
      refine gf_X9_60 C hW dX9_of_72 ?_
      refine lv_iload_n hx hb dX9_of_75 rfl (lv_at hl 1 rfl) ?_
      have hi_7 := h.1
      have h := h.2
      refine pd_iald C hW kd_98 hi_7 dX9_of_76 ?_
      exact pd_iret C hA hW h dX9_of_77
    have h := h.2 c_6
    by_cases c_8 : a2 = 2
    · have h := h.1 c_8
      refine lv_tableIn (off := 61) (tgt := 78) hx hb dX9_of_17 (by rw [c_8]; decide) (by rw [c_8]; decide) (by rw [c_8]; rfl) (by decide) ?_
      refine lv_aload_n hx hb dX9_of_78 rfl (lv_at hl 0 rfl) ?_
      refine gf_X9_63 C hW dX9_of_79 ?_
      refine lv_iload_n hx hb dX9_of_82 rfl (lv_at hl 1 rfl) ?_
      have hi_9 := h.1
      have h := h.2
      refine pd_iald C hW kd_99 hi_9 dX9_of_83 ?_
      exact pd_iret C hA hW h dX9_of_84
    have h := h.2 c_8
    by_cases c_10 : a2 = 3
    · have h := h.1 c_10
      refine lv_tableIn (off := 68) (tgt := 85) hx hb dX9_of_17 (by rw [c_10]; decide) (by rw [c_10]; decide) (by rw [c_10]; rfl) (by decide) ?_
      refine lv_aload_n hx hb dX9_of_85 rfl (lv_at hl 0 rfl) ?_
      refine gf_X9_66 C hW dX9_of_86 ?_
      refine lv_iload_n hx hb dX9_of_89 rfl (lv_at hl 1 rfl) ?_
      have hi_11 := h.1
      have h := h.2
      refine pd_iald C hW kd_100 hi_11 dX9_of_90 ?_
      exact pd_iret C hA hW h dX9_of_91
    have h := h.2 c_10
    by_cases c_12 : a2 = 4
    · have h := h.1 c_12
      refine lv_tableIn (off := 75) (tgt := 92) hx hb dX9_of_17 (by rw [c_12]; decide) (by rw [c_12]; decide) (by rw [c_12]; rfl) (by decide) ?_
      refine lv_aload_n hx hb dX9_of_92 rfl (lv_at hl 0 rfl) ?_
      refine gf_X9_69 C hW dX9_of_93 ?_
      refine lv_iload_n hx hb dX9_of_96 rfl (lv_at hl 1 rfl) ?_
      have hi_13 := h.1
      have h := h.2
      refine pd_iald C hW kd_101 hi_13 dX9_of_97 ?_
      exact pd_iret C hA hW h dX9_of_98
    have h := h.2 c_12
    by_cases c_14 : a2 = 5
    · have h := h.1 c_14
      refine lv_tableIn (off := 82) (tgt := 99) hx hb dX9_of_17 (by rw [c_14]; decide) (by rw [c_14]; decide) (by rw [c_14]; rfl) (by decide) ?_
      refine lv_aload_n hx hb dX9_of_99 rfl (lv_at hl 0 rfl) ?_
      refine lv_iload_n hx hb dX9_of_100 rfl (lv_at hl 1 rfl) ?_
      refine cl_X9_175 C hW h ⟨by decide, by decide⟩ ⟨Nat.zero_le _, Nat.zero_le _⟩ hl.1 (Nat.le_of_ble_eq_true rfl) dX9_of_101 (fun r_16 M_15 H locs h hW => ?_)
      exact pd_iret C hA hW h dX9_of_104
    have h := h.2 c_14
    by_cases c_17 : a2 = 6
    · have h := h.1 c_17
      refine lv_tableIn (off := 88) (tgt := 105) hx hb dX9_of_17 (by rw [c_17]; decide) (by rw [c_17]; decide) (by rw [c_17]; rfl) (by decide) ?_
      refine lv_aload_n hx hb dX9_of_105 rfl (lv_at hl 0 rfl) ?_
      refine lv_iload_n hx hb dX9_of_106 rfl (lv_at hl 1 rfl) ?_
      refine cl_X9_181 C hW h ⟨by decide, by decide⟩ ⟨Nat.zero_le _, Nat.zero_le _⟩ hl.1 (Nat.le_of_ble_eq_true rfl) dX9_of_107 (fun r_19 M_18 H locs h hW => ?_)
      exact pd_iret C hA hW h dX9_of_110
    have h := h.2 c_17
    by_cases c_20 : a2 = 7
    · have h := h.1 c_20
      refine lv_tableIn (off := 94) (tgt := 111) hx hb dX9_of_17 (by rw [c_20]; decide) (by rw [c_20]; decide) (by rw [c_20]; rfl) (by decide) ?_
      refine lv_aload_n hx hb dX9_of_111 rfl (lv_at hl 0 rfl) ?_
      refine lv_iload_n hx hb dX9_of_112 rfl (lv_at hl 1 rfl) ?_
      refine lv_iconst (v := 0) hx hb dX9_of_113 (by decide) ?_
      refine cl_X9_178 C hW h ⟨by decide, by decide⟩ ⟨Nat.zero_le _, Nat.zero_le _⟩ hl.1 (Nat.le_of_ble_eq_true rfl) dX9_of_114 (fun r_22 M_21 H locs h hW => ?_)
      refine lv_aload_n hx hb dX9_of_117 rfl (lv_at hl 0 rfl) ?_
      refine lv_iload_n hx hb dX9_of_118 rfl (lv_at hl 1 rfl) ?_
      refine lv_iconst (v := 1) hx hb dX9_of_119 (by decide) ?_
      refine cl_X9_178 C hW h ⟨by decide, by decide⟩ ⟨Nat.zero_le _, Nat.zero_le _⟩ hl.1 (Nat.le_of_ble_eq_true rfl) dX9_of_120 (fun r_24 M_23 H locs h hW => ?_)
      refine lv_iadd hx hb dX9_of_123 ?_
      exact pd_iret C hA hW h dX9_of_124
    have h := h.2 c_20
    refine lv_tableOut (tgt := 125) hx hb dX9_of_17 (pd_sw7 c_4 c_6 c_8 c_10 c_12 c_14 c_17 c_20) (by decide) ?_
    refine lv_iconst (v := (-1)) hx hb dX9_of_125 (by decide) ?_
    exact pd_iret C hA hW h dX9_of_126
  · have h := h.2 c_3
    refine lv_iconst (v := (-1)) hx hb dX9_of_14 (by decide) ?_
    exact pd_iret C hA hW h dX9_of_15

theorem dd_X9_of : yX9_of.cls ≠ "java/lang/invoke/MethodHandle" ∧ yX9_of.cls ≠ "java/lang/invoke/VarHandle" ∧ (parseMethodDescriptor yX9_of.desc).map (fun d => d.parameters.length) = some 2 := by decide +kernel
theorem cl_L_106 {p : Program} {l : Launch} {e : Env} {R : Room} {s : State} {m : MethodId} {args : Array Value} {below : List Frame} {meth : Method} {c : Code} {H : Heap} {locs : List Loc} {cells slots : Nat} {QQ : State → Prop} {cc : ByteArray} {pc : Nat} {ls : Array Slot} {rest : List Value} {D : va_G} {g : pd_G} {t : Nat} {M : pd_M} {X : va_W} {A : Nat → Prop} {nL : Nat} {ret : Option FieldType} {Qc : Int32 → pd_M → Prop} {a1 : Int32} {a2 : Int32} (C : pd_C p m c cc nL s args RL meth ret) (hW : pd_W D g t M X A s H locs) (h : wX9_of Qc a1 a2 M) (hR : rX9_of.frames + 1 ≤ R.frames ∧ 8 + (3 + 11) + rX9_of.locals ≤ R.locals) (hcs : cells ≤ R.cells ∧ slots ≤ R.slots) (hls : ls.size = nL) (hw8 : (rest.map fun v => v.category).sum ≤ 8) (hdg : decode cc pc = .ok (.invokevirtual 106, 3))
    (kk : ∀ (r : Int32) (M1 : pd_M) (H1 : Heap) (locs1 : List Loc), Qc r M1 → pd_W D g t M1 X A s H1 locs1 → W p l e R s m args below meth c H1 locs1 cells slots QQ (F0 m (pc + 3) ls (.int r :: rest))) : W p l e R s m args below meth c H locs cells slots QQ (F0 m pc ls (.int a2 :: .int a1 :: .ref (g.1 82) :: rest)) :=
  pd_callVi (As := [.int a1, .int a2]) C hW (mX9_of h) kd_82 rfl mM_L_106 mO_yX9_of mV_yX9_of mI_X9 mC_yX9_of dd_X9_of ⟨rfl, rfl⟩ hR hcs hls rfl hw8 hdg kk
abbrev rX9_ticketsThat : Room := { frames := 1, cells := 0, slots := 0, locals := 21 }
def lpX9_ticketsThat_4 (K : Int32 → pd_M → Prop) (f1 : Int32) : Nat → Int32 → Int32 → pd_M → Prop
  | 0, _, _, _ => False
  | n + 1, v2, v3, M => (((M.1 82 17) ≤ v3 → K v2 M) ∧ (¬ (M.1 82 17) ≤ v3 → wX9_judged (fun r_3 M_2 => ((¬ r_3 = f1 → ∀ x2_5 : Int32, x2_5 = (v2 + 0) → ∀ x3_6 : Int32, x3_6 = v3 + 1 → lpX9_ticketsThat_4 K f1 n x2_5 x3_6 M_2) ∧ (r_3 = f1 → ∀ x2_7 : Int32, x2_7 = (v2 + 1) → ∀ x3_8 : Int32, x3_8 = v3 + 1 → lpX9_ticketsThat_4 K f1 n x2_7 x3_8 M_2))) v3 M))

set_option maxRecDepth 100000 in
set_option maxHeartbeats 4000000 in
theorem stX9_ticketsThat_4 {p : Program} {l : Launch} {e : Env} {s : State} {m : MethodId} {args : Array Value} {below : List Frame} {meth : Method} {c : Code} {D : va_G} {g : pd_G} {t : Nat} {M0 : pd_M} {X : va_W} {A : Nat → Prop} {sz : Nat} {Q : Int32 → pd_M → Prop} (C : pd_C p m c cX9_ticketsThat 4 s args RX9 meth (Option.some FieldType.int)) (hA : A = va_A (pd_WL g M0 ++ X) sz) {K : Int32 → pd_M → Prop} {f1 : Int32}  (hK : ∀ (p2 : Int32) (M : pd_M) (H : Heap) (locs : List Loc) (ls : Array Slot), pd_W D g t M X A s H locs → lv_has ls 4 [(2, .int p2)] → K p2 M → W p l e rX9_ticketsThat s m args below meth c H locs 0 0 (MQ below (pd_Qi D g M0 X sz Q) args s 0 0 (va_A (pd_WL g M0 ++ X) sz)) (F0 m 35 ls [])) :
    ∀ (n : Nat) (v2 : Int32) (v3 : Int32) (M : pd_M) (H : Heap) (locs : List Loc) (ls : Array Slot), pd_W D g t M X A s H locs → lv_has ls 4 [(0, .ref (g.1 82)), (1, .int f1), (2, .int v2), (3, .int v3)] → lpX9_ticketsThat_4 K f1 n v2 v3 M → W p l e rX9_ticketsThat s m args below meth c H locs 0 0 (MQ below (pd_Qi D g M0 X sz Q) args s 0 0 (va_A (pd_WL g M0 ++ X) sz)) (F0 m 4 ls []) := by
  have hx := C.1.1
  have hb := C.1.2.1
  have hown := C.1.2.2.2.1
  have hts := C.1.2.2.2.2
  intro n
  induction n with
  | zero => intro v2 v3 M H locs ls hW hl h; exact h.elim
  | succ n ih =>
    intro v2 v3 M H locs ls hW hl h
    refine lv_iload_n hx hb dX9_ticketsThat_4 rfl (lv_at hl 3 rfl) ?_
    refine lv_aload_n hx hb dX9_ticketsThat_5 rfl (lv_at hl 0 rfl) ?_
    refine gf_X9_172 C hW dX9_ticketsThat_6 ?_
    refine lv_icmp_ge (tgt := 35) hx hb dX9_ticketsThat_9 (by decide) (fun c_1 => ?_) (fun c_1 => ?_)
    · have h := h.1 c_1
      exact hK v2 M _ _ _ hW (lv_sub hl [2] rfl) h
    · have h := h.2 c_1
      refine lv_iload_n hx hb dX9_ticketsThat_12 rfl (lv_at hl 2 rfl) ?_
      refine lv_aload_n hx hb dX9_ticketsThat_13 rfl (lv_at hl 0 rfl) ?_
      refine lv_iload_n hx hb dX9_ticketsThat_14 rfl (lv_at hl 3 rfl) ?_
      refine cl_X9_175 C hW h ⟨by decide, by decide⟩ ⟨Nat.zero_le _, Nat.zero_le _⟩ hl.1 (Nat.le_of_ble_eq_true rfl) dX9_ticketsThat_15 (fun r_3 M_2 H locs h hW => ?_)
      refine lv_iload_n hx hb dX9_ticketsThat_18 rfl (lv_at hl 1 rfl) ?_
      refine lv_icmp_ne (tgt := 26) hx hb dX9_ticketsThat_19 (by decide) (fun c_4 => ?_) (fun c_4 => ?_)
      · have h := h.1 c_4
        refine lv_iconst (v := 0) hx hb dX9_ticketsThat_26 (by decide) ?_
        refine lv_iadd hx hb dX9_ticketsThat_27 ?_
        refine lv_topi (fun x2_5 ex2_5 => ?_)
        have h := h x2_5 ex2_5
        refine lv_istore_n (lv' := [(2, .int x2_5), (0, .ref (g.1 82)), (1, .int f1), (3, .int v3)]) hx hb dX9_ticketsThat_28 rfl hl (by decide) rfl (fun ls hl => ?_)
        obtain ⟨x3_6, ex3_6⟩ : ∃ y : Int32, y = v3 + 1 := ⟨_, rfl⟩
        have h := h x3_6 ex3_6
        refine lv_iinc (v := x3_6) (lv' := [(3, .int x3_6), (2, .int x2_5), (0, .ref (g.1 82)), (1, .int f1)]) hx hb dX9_ticketsThat_29 hl (k := 3) rfl (by rw [ex3_6]; rfl) (by decide) rfl (fun ls hl => ?_)
        refine lv_goto (tgt := 4) hx hb dX9_ticketsThat_32 (by decide) ?_
        exact ih x2_5 x3_6 M_2 _ _ _ hW (lv_sub hl [2, 3, 1, 0] rfl) h
      · have h := h.2 c_4
        refine lv_iconst (v := 1) hx hb dX9_ticketsThat_22 (by decide) ?_
        refine lv_goto (tgt := 27) hx hb dX9_ticketsThat_23 (by decide) ?_
        refine lv_iadd hx hb dX9_ticketsThat_27 ?_
        refine lv_topi (fun x2_7 ex2_7 => ?_)
        have h := h x2_7 ex2_7
        refine lv_istore_n (lv' := [(2, .int x2_7), (0, .ref (g.1 82)), (1, .int f1), (3, .int v3)]) hx hb dX9_ticketsThat_28 rfl hl (by decide) rfl (fun ls hl => ?_)
        obtain ⟨x3_8, ex3_8⟩ : ∃ y : Int32, y = v3 + 1 := ⟨_, rfl⟩
        have h := h x3_8 ex3_8
        refine lv_iinc (v := x3_8) (lv' := [(3, .int x3_8), (2, .int x2_7), (0, .ref (g.1 82)), (1, .int f1)]) hx hb dX9_ticketsThat_29 hl (k := 3) rfl (by rw [ex3_8]; rfl) (by decide) rfl (fun ls hl => ?_)
        refine lv_goto (tgt := 4) hx hb dX9_ticketsThat_32 (by decide) ?_
        exact ih x2_7 x3_8 M_2 _ _ _ hW (lv_sub hl [2, 3, 1, 0] rfl) h

def wX9_ticketsThat (Q : Int32 → pd_M → Prop) (a1 : Int32) (M : pd_M) : Prop := (∃ k_4 : Nat, lpX9_ticketsThat_4 (fun x2_10 M_9 => Q x2_10 M_9) a1 k_4 0 0 M)

set_option maxRecDepth 100000 in
set_option maxHeartbeats 4000000 in
theorem mX9_ticketsThat {l : Launch} {D : va_G} {g : pd_G} {t : Nat} {X : va_W} {Q : Int32 → pd_M → Prop} {a1 : Int32} {M : pd_M} {sz : Nat} (h : wX9_ticketsThat Q a1 M) : Met l yX9_ticketsThat (Cond.code yX9_ticketsThat cX9_ticketsThat 4 (Option.some FieldType.int) :: TB) rX9_ticketsThat (pd_Pre D g t M X sz [.ref (g.1 82), .int a1]) (pd_Qi D g M X sz Q) 0 0 (va_A (pd_WL g M ++ X) sz) := by
  refine pd_met (by decide) (Nat.le_of_ble_eq_true rfl) ?_
  intro p e s m below meth c A ls C hA hW hl
  have C : pd_C p m c cX9_ticketsThat 4 s _ RX9 meth (Option.some FieldType.int) := C
  have hx := C.1.1
  have hb := C.1.2.1
  have hown := C.1.2.2.2.1
  have hts := C.1.2.2.2.2
  have hl : lv_has ls 4 [(0, .ref (g.1 82)), (1, .int a1)] := hl
  refine lv_iconst (v := 0) hx hb dX9_ticketsThat_0 (by decide) ?_
  refine lv_istore_n (lv' := [(2, .int 0), (0, .ref (g.1 82)), (1, .int a1)]) hx hb dX9_ticketsThat_1 rfl hl (by decide) rfl (fun ls hl => ?_)
  refine lv_iconst (v := 0) hx hb dX9_ticketsThat_2 (by decide) ?_
  refine lv_istore_n (lv' := [(3, .int 0), (2, .int 0), (0, .ref (g.1 82)), (1, .int a1)]) hx hb dX9_ticketsThat_3 rfl hl (by decide) rfl (fun ls hl => ?_)
  obtain ⟨k_4, h⟩ := h
  refine stX9_ticketsThat_4 C hA (fun x2_10 M_9 H locs ls hW hl h => ?_) k_4 0 0 M _ _ _ hW (lv_sub hl [2, 3, 1, 0] rfl) h
  refine lv_iload_n hx hb dX9_ticketsThat_35 rfl (lv_at hl 0 rfl) ?_
  exact pd_iret C hA hW h dX9_ticketsThat_36

theorem dd_X9_ticketsThat : yX9_ticketsThat.cls ≠ "java/lang/invoke/MethodHandle" ∧ yX9_ticketsThat.cls ≠ "java/lang/invoke/VarHandle" ∧ (parseMethodDescriptor yX9_ticketsThat.desc).map (fun d => d.parameters.length) = some 1 := by decide +kernel
theorem cl_X9_184 {p : Program} {l : Launch} {e : Env} {R : Room} {s : State} {m : MethodId} {args : Array Value} {below : List Frame} {meth : Method} {c : Code} {H : Heap} {locs : List Loc} {cells slots : Nat} {QQ : State → Prop} {cc : ByteArray} {pc : Nat} {ls : Array Slot} {rest : List Value} {D : va_G} {g : pd_G} {t : Nat} {M : pd_M} {X : va_W} {A : Nat → Prop} {nL : Nat} {ret : Option FieldType} {Qc : Int32 → pd_M → Prop} {a1 : Int32} (C : pd_C p m c cc nL s args RX9 meth ret) (hW : pd_W D g t M X A s H locs) (h : wX9_ticketsThat Qc a1 M) (hR : rX9_ticketsThat.frames + 1 ≤ R.frames ∧ 8 + (4 + 11) + rX9_ticketsThat.locals ≤ R.locals) (hcs : cells ≤ R.cells ∧ slots ≤ R.slots) (hls : ls.size = nL) (hw8 : (rest.map fun v => v.category).sum ≤ 8) (hdg : decode cc pc = .ok (.invokevirtual 184, 3))
    (kk : ∀ (r : Int32) (M1 : pd_M) (H1 : Heap) (locs1 : List Loc), Qc r M1 → pd_W D g t M1 X A s H1 locs1 → W p l e R s m args below meth c H1 locs1 cells slots QQ (F0 m (pc + 3) ls (.int r :: rest))) : W p l e R s m args below meth c H locs cells slots QQ (F0 m pc ls (.int a1 :: .ref (g.1 82) :: rest)) :=
  pd_callVi (As := [.int a1]) C hW (mX9_ticketsThat h) kd_82 rfl mM_X9_184 mO_yX9_ticketsThat mV_yX9_ticketsThat mI_X9 mC_yX9_ticketsThat dd_X9_ticketsThat ⟨rfl, rfl⟩ hR hcs hls rfl hw8 hdg kk
abbrev rX9_allBays : Room := { frames := 0, cells := 0, slots := 0, locals := 0 }
def lpX9_allBays_4 (K : Int32 → pd_M → Prop) : Nat → Int32 → Int32 → pd_M → Prop
  | 0, _, _, _ => False
  | n + 1, v1, v2, M => (((M.1 82 0) ≤ v2 → K v1 M) ∧ (¬ (M.1 82 0) ≤ v2 → (vp_in v2 5 ∧ ∀ x1_3 : Int32, x1_3 = (v1 + (M.1 84 v2.toNatClampNeg)) → ∀ x2_4 : Int32, x2_4 = v2 + 1 → lpX9_allBays_4 K n x1_3 x2_4 M)))

set_option maxRecDepth 100000 in
set_option maxHeartbeats 4000000 in
theorem stX9_allBays_4 {p : Program} {l : Launch} {e : Env} {s : State} {m : MethodId} {args : Array Value} {below : List Frame} {meth : Method} {c : Code} {D : va_G} {g : pd_G} {t : Nat} {M0 : pd_M} {X : va_W} {A : Nat → Prop} {sz : Nat} {Q : Int32 → pd_M → Prop} (C : pd_C p m c cX9_allBays 3 s args RX9 meth (Option.some FieldType.int)) (hA : A = va_A (pd_WL g M0 ++ X) sz) {K : Int32 → pd_M → Prop}  (hK : ∀ (p1 : Int32) (M : pd_M) (H : Heap) (locs : List Loc) (ls : Array Slot), pd_W D g t M X A s H locs → lv_has ls 3 [(1, .int p1)] → K p1 M → W p l e rX9_allBays s m args below meth c H locs 0 0 (MQ below (pd_Qi D g M0 X sz Q) args s 0 0 (va_A (pd_WL g M0 ++ X) sz)) (F0 m 27 ls [])) :
    ∀ (n : Nat) (v1 : Int32) (v2 : Int32) (M : pd_M) (H : Heap) (locs : List Loc) (ls : Array Slot), pd_W D g t M X A s H locs → lv_has ls 3 [(0, .ref (g.1 82)), (1, .int v1), (2, .int v2)] → lpX9_allBays_4 K n v1 v2 M → W p l e rX9_allBays s m args below meth c H locs 0 0 (MQ below (pd_Qi D g M0 X sz Q) args s 0 0 (va_A (pd_WL g M0 ++ X) sz)) (F0 m 4 ls []) := by
  have hx := C.1.1
  have hb := C.1.2.1
  have hown := C.1.2.2.2.1
  have hts := C.1.2.2.2.2
  intro n
  induction n with
  | zero => intro v1 v2 M H locs ls hW hl h; exact h.elim
  | succ n ih =>
    intro v1 v2 M H locs ls hW hl h
    refine lv_iload_n hx hb dX9_allBays_4 rfl (lv_at hl 2 rfl) ?_
    refine lv_aload_n hx hb dX9_allBays_5 rfl (lv_at hl 0 rfl) ?_
    refine gf_X9_87 C hW dX9_allBays_6 ?_
    refine lv_icmp_ge (tgt := 27) hx hb dX9_allBays_9 (by decide) (fun c_1 => ?_) (fun c_1 => ?_)
    · have h := h.1 c_1
      exact hK v1 M _ _ _ hW (lv_sub hl [1] rfl) h
    · have h := h.2 c_1
      refine lv_iload_n hx hb dX9_allBays_12 rfl (lv_at hl 1 rfl) ?_
      refine lv_aload_n hx hb dX9_allBays_13 rfl (lv_at hl 0 rfl) ?_
      refine gf_X9_13 C hW dX9_allBays_14 ?_
      refine lv_iload_n hx hb dX9_allBays_17 rfl (lv_at hl 2 rfl) ?_
      have hi_2 := h.1
      have h := h.2
      refine pd_iald C hW kd_84 hi_2 dX9_allBays_18 ?_
      refine lv_iadd hx hb dX9_allBays_19 ?_
      refine lv_topi (fun x1_3 ex1_3 => ?_)
      have h := h x1_3 ex1_3
      refine lv_istore_n (lv' := [(1, .int x1_3), (0, .ref (g.1 82)), (2, .int v2)]) hx hb dX9_allBays_20 rfl hl (by decide) rfl (fun ls hl => ?_)
      obtain ⟨x2_4, ex2_4⟩ : ∃ y : Int32, y = v2 + 1 := ⟨_, rfl⟩
      have h := h x2_4 ex2_4
      refine lv_iinc (v := x2_4) (lv' := [(2, .int x2_4), (1, .int x1_3), (0, .ref (g.1 82))]) hx hb dX9_allBays_21 hl (k := 2) rfl (by rw [ex2_4]; rfl) (by decide) rfl (fun ls hl => ?_)
      refine lv_goto (tgt := 4) hx hb dX9_allBays_24 (by decide) ?_
      exact ih x1_3 x2_4 M _ _ _ hW (lv_sub hl [2, 1, 0] rfl) h

def wX9_allBays (Q : Int32 → pd_M → Prop) (M : pd_M) : Prop := (∃ k_4 : Nat, lpX9_allBays_4 (fun x1_6 M_5 => Q x1_6 M_5) k_4 0 0 M)

set_option maxRecDepth 100000 in
set_option maxHeartbeats 4000000 in
theorem mX9_allBays {l : Launch} {D : va_G} {g : pd_G} {t : Nat} {X : va_W} {Q : Int32 → pd_M → Prop} {M : pd_M} {sz : Nat} (h : wX9_allBays Q M) : Met l yX9_allBays (Cond.code yX9_allBays cX9_allBays 3 (Option.some FieldType.int) :: TB) rX9_allBays (pd_Pre D g t M X sz [.ref (g.1 82)]) (pd_Qi D g M X sz Q) 0 0 (va_A (pd_WL g M ++ X) sz) := by
  refine pd_met (by decide) (Nat.le_of_ble_eq_true rfl) ?_
  intro p e s m below meth c A ls C hA hW hl
  have C : pd_C p m c cX9_allBays 3 s _ RX9 meth (Option.some FieldType.int) := C
  have hx := C.1.1
  have hb := C.1.2.1
  have hown := C.1.2.2.2.1
  have hts := C.1.2.2.2.2
  have hl : lv_has ls 3 [(0, .ref (g.1 82))] := hl
  refine lv_iconst (v := 0) hx hb dX9_allBays_0 (by decide) ?_
  refine lv_istore_n (lv' := [(1, .int 0), (0, .ref (g.1 82))]) hx hb dX9_allBays_1 rfl hl (by decide) rfl (fun ls hl => ?_)
  refine lv_iconst (v := 0) hx hb dX9_allBays_2 (by decide) ?_
  refine lv_istore_n (lv' := [(2, .int 0), (1, .int 0), (0, .ref (g.1 82))]) hx hb dX9_allBays_3 rfl hl (by decide) rfl (fun ls hl => ?_)
  obtain ⟨k_4, h⟩ := h
  refine stX9_allBays_4 C hA (fun x1_6 M_5 H locs ls hW hl h => ?_) k_4 0 0 M _ _ _ hW (lv_sub hl [2, 1, 0] rfl) h
  refine lv_iload_n hx hb dX9_allBays_27 rfl (lv_at hl 0 rfl) ?_
  exact pd_iret C hA hW h dX9_allBays_28

theorem dd_X9_allBays : yX9_allBays.cls ≠ "java/lang/invoke/MethodHandle" ∧ yX9_allBays.cls ≠ "java/lang/invoke/VarHandle" ∧ (parseMethodDescriptor yX9_allBays.desc).map (fun d => d.parameters.length) = some 0 := by decide +kernel
theorem cl_X9_187 {p : Program} {l : Launch} {e : Env} {R : Room} {s : State} {m : MethodId} {args : Array Value} {below : List Frame} {meth : Method} {c : Code} {H : Heap} {locs : List Loc} {cells slots : Nat} {QQ : State → Prop} {cc : ByteArray} {pc : Nat} {ls : Array Slot} {rest : List Value} {D : va_G} {g : pd_G} {t : Nat} {M : pd_M} {X : va_W} {A : Nat → Prop} {nL : Nat} {ret : Option FieldType} {Qc : Int32 → pd_M → Prop} (C : pd_C p m c cc nL s args RX9 meth ret) (hW : pd_W D g t M X A s H locs) (h : wX9_allBays Qc M) (hR : rX9_allBays.frames + 1 ≤ R.frames ∧ 8 + (3 + 11) + rX9_allBays.locals ≤ R.locals) (hcs : cells ≤ R.cells ∧ slots ≤ R.slots) (hls : ls.size = nL) (hw8 : (rest.map fun v => v.category).sum ≤ 8) (hdg : decode cc pc = .ok (.invokevirtual 187, 3))
    (kk : ∀ (r : Int32) (M1 : pd_M) (H1 : Heap) (locs1 : List Loc), Qc r M1 → pd_W D g t M1 X A s H1 locs1 → W p l e R s m args below meth c H1 locs1 cells slots QQ (F0 m (pc + 3) ls (.int r :: rest))) : W p l e R s m args below meth c H locs cells slots QQ (F0 m pc ls (.ref (g.1 82) :: rest)) :=
  pd_callVi (As := []) C hW (mX9_allBays h) kd_82 rfl mM_X9_187 mO_yX9_allBays mV_yX9_allBays mI_X9 mC_yX9_allBays dd_X9_allBays ⟨rfl, rfl⟩ hR hcs hls rfl hw8 hdg kk
abbrev rX9_allCards : Room := { frames := 0, cells := 0, slots := 0, locals := 0 }
def lpX9_allCards_4 (K : Int32 → pd_M → Prop) : Nat → Int32 → Int32 → pd_M → Prop
  | 0, _, _, _ => False
  | n + 1, v1, v2, M => (((4 * (M.1 82 6)) ≤ v2 → K v1 M) ∧ (¬ (4 * (M.1 82 6)) ≤ v2 → (vp_in v2 28 ∧ ∀ x1_3 : Int32, x1_3 = (v1 + (M.1 90 v2.toNatClampNeg)) → ∀ x2_4 : Int32, x2_4 = v2 + 1 → lpX9_allCards_4 K n x1_3 x2_4 M)))

set_option maxRecDepth 100000 in
set_option maxHeartbeats 4000000 in
theorem stX9_allCards_4 {p : Program} {l : Launch} {e : Env} {s : State} {m : MethodId} {args : Array Value} {below : List Frame} {meth : Method} {c : Code} {D : va_G} {g : pd_G} {t : Nat} {M0 : pd_M} {X : va_W} {A : Nat → Prop} {sz : Nat} {Q : Int32 → pd_M → Prop} (C : pd_C p m c cX9_allCards 3 s args RX9 meth (Option.some FieldType.int)) (hA : A = va_A (pd_WL g M0 ++ X) sz) {K : Int32 → pd_M → Prop}  (hK : ∀ (p1 : Int32) (M : pd_M) (H : Heap) (locs : List Loc) (ls : Array Slot), pd_W D g t M X A s H locs → lv_has ls 3 [(1, .int p1)] → K p1 M → W p l e rX9_allCards s m args below meth c H locs 0 0 (MQ below (pd_Qi D g M0 X sz Q) args s 0 0 (va_A (pd_WL g M0 ++ X) sz)) (F0 m 29 ls [])) :
    ∀ (n : Nat) (v1 : Int32) (v2 : Int32) (M : pd_M) (H : Heap) (locs : List Loc) (ls : Array Slot), pd_W D g t M X A s H locs → lv_has ls 3 [(0, .ref (g.1 82)), (1, .int v1), (2, .int v2)] → lpX9_allCards_4 K n v1 v2 M → W p l e rX9_allCards s m args below meth c H locs 0 0 (MQ below (pd_Qi D g M0 X sz Q) args s 0 0 (va_A (pd_WL g M0 ++ X) sz)) (F0 m 4 ls []) := by
  have hx := C.1.1
  have hb := C.1.2.1
  have hown := C.1.2.2.2.1
  have hts := C.1.2.2.2.2
  intro n
  induction n with
  | zero => intro v1 v2 M H locs ls hW hl h; exact h.elim
  | succ n ih =>
    intro v1 v2 M H locs ls hW hl h
    refine lv_iload_n hx hb dX9_allCards_4 rfl (lv_at hl 2 rfl) ?_
    refine lv_iconst (v := 4) hx hb dX9_allCards_5 (by decide) ?_
    refine lv_aload_n hx hb dX9_allCards_6 rfl (lv_at hl 0 rfl) ?_
    refine gf_X9_94 C hW dX9_allCards_7 ?_
    refine lv_imul hx hb dX9_allCards_10 ?_
    refine lv_icmp_ge (tgt := 29) hx hb dX9_allCards_11 (by decide) (fun c_1 => ?_) (fun c_1 => ?_)
    · have h := h.1 c_1
      exact hK v1 M _ _ _ hW (lv_sub hl [1] rfl) h
    · have h := h.2 c_1
      refine lv_iload_n hx hb dX9_allCards_14 rfl (lv_at hl 1 rfl) ?_
      refine lv_aload_n hx hb dX9_allCards_15 rfl (lv_at hl 0 rfl) ?_
      refine gf_X9_32 C hW dX9_allCards_16 ?_
      refine lv_iload_n hx hb dX9_allCards_19 rfl (lv_at hl 2 rfl) ?_
      have hi_2 := h.1
      have h := h.2
      refine pd_iald C hW kd_90 hi_2 dX9_allCards_20 ?_
      refine lv_iadd hx hb dX9_allCards_21 ?_
      refine lv_topi (fun x1_3 ex1_3 => ?_)
      have h := h x1_3 ex1_3
      refine lv_istore_n (lv' := [(1, .int x1_3), (0, .ref (g.1 82)), (2, .int v2)]) hx hb dX9_allCards_22 rfl hl (by decide) rfl (fun ls hl => ?_)
      obtain ⟨x2_4, ex2_4⟩ : ∃ y : Int32, y = v2 + 1 := ⟨_, rfl⟩
      have h := h x2_4 ex2_4
      refine lv_iinc (v := x2_4) (lv' := [(2, .int x2_4), (1, .int x1_3), (0, .ref (g.1 82))]) hx hb dX9_allCards_23 hl (k := 2) rfl (by rw [ex2_4]; rfl) (by decide) rfl (fun ls hl => ?_)
      refine lv_goto (tgt := 4) hx hb dX9_allCards_26 (by decide) ?_
      exact ih x1_3 x2_4 M _ _ _ hW (lv_sub hl [2, 1, 0] rfl) h

def wX9_allCards (Q : Int32 → pd_M → Prop) (M : pd_M) : Prop := (∃ k_4 : Nat, lpX9_allCards_4 (fun x1_6 M_5 => Q x1_6 M_5) k_4 0 0 M)

set_option maxRecDepth 100000 in
set_option maxHeartbeats 4000000 in
theorem mX9_allCards {l : Launch} {D : va_G} {g : pd_G} {t : Nat} {X : va_W} {Q : Int32 → pd_M → Prop} {M : pd_M} {sz : Nat} (h : wX9_allCards Q M) : Met l yX9_allCards (Cond.code yX9_allCards cX9_allCards 3 (Option.some FieldType.int) :: TB) rX9_allCards (pd_Pre D g t M X sz [.ref (g.1 82)]) (pd_Qi D g M X sz Q) 0 0 (va_A (pd_WL g M ++ X) sz) := by
  refine pd_met (by decide) (Nat.le_of_ble_eq_true rfl) ?_
  intro p e s m below meth c A ls C hA hW hl
  have C : pd_C p m c cX9_allCards 3 s _ RX9 meth (Option.some FieldType.int) := C
  have hx := C.1.1
  have hb := C.1.2.1
  have hown := C.1.2.2.2.1
  have hts := C.1.2.2.2.2
  have hl : lv_has ls 3 [(0, .ref (g.1 82))] := hl
  refine lv_iconst (v := 0) hx hb dX9_allCards_0 (by decide) ?_
  refine lv_istore_n (lv' := [(1, .int 0), (0, .ref (g.1 82))]) hx hb dX9_allCards_1 rfl hl (by decide) rfl (fun ls hl => ?_)
  refine lv_iconst (v := 0) hx hb dX9_allCards_2 (by decide) ?_
  refine lv_istore_n (lv' := [(2, .int 0), (1, .int 0), (0, .ref (g.1 82))]) hx hb dX9_allCards_3 rfl hl (by decide) rfl (fun ls hl => ?_)
  obtain ⟨k_4, h⟩ := h
  refine stX9_allCards_4 C hA (fun x1_6 M_5 H locs ls hW hl h => ?_) k_4 0 0 M _ _ _ hW (lv_sub hl [2, 1, 0] rfl) h
  refine lv_iload_n hx hb dX9_allCards_29 rfl (lv_at hl 0 rfl) ?_
  exact pd_iret C hA hW h dX9_allCards_30

theorem dd_X9_allCards : yX9_allCards.cls ≠ "java/lang/invoke/MethodHandle" ∧ yX9_allCards.cls ≠ "java/lang/invoke/VarHandle" ∧ (parseMethodDescriptor yX9_allCards.desc).map (fun d => d.parameters.length) = some 0 := by decide +kernel
theorem cl_X9_191 {p : Program} {l : Launch} {e : Env} {R : Room} {s : State} {m : MethodId} {args : Array Value} {below : List Frame} {meth : Method} {c : Code} {H : Heap} {locs : List Loc} {cells slots : Nat} {QQ : State → Prop} {cc : ByteArray} {pc : Nat} {ls : Array Slot} {rest : List Value} {D : va_G} {g : pd_G} {t : Nat} {M : pd_M} {X : va_W} {A : Nat → Prop} {nL : Nat} {ret : Option FieldType} {Qc : Int32 → pd_M → Prop} (C : pd_C p m c cc nL s args RX9 meth ret) (hW : pd_W D g t M X A s H locs) (h : wX9_allCards Qc M) (hR : rX9_allCards.frames + 1 ≤ R.frames ∧ 8 + (3 + 11) + rX9_allCards.locals ≤ R.locals) (hcs : cells ≤ R.cells ∧ slots ≤ R.slots) (hls : ls.size = nL) (hw8 : (rest.map fun v => v.category).sum ≤ 8) (hdg : decode cc pc = .ok (.invokevirtual 191, 3))
    (kk : ∀ (r : Int32) (M1 : pd_M) (H1 : Heap) (locs1 : List Loc), Qc r M1 → pd_W D g t M1 X A s H1 locs1 → W p l e R s m args below meth c H1 locs1 cells slots QQ (F0 m (pc + 3) ls (.int r :: rest))) : W p l e R s m args below meth c H locs cells slots QQ (F0 m pc ls (.ref (g.1 82) :: rest)) :=
  pd_callVi (As := []) C hW (mX9_allCards h) kd_82 rfl mM_X9_191 mO_yX9_allCards mV_yX9_allCards mI_X9 mC_yX9_allCards dd_X9_allCards ⟨rfl, rfl⟩ hR hcs hls rfl hw8 hdg kk
abbrev rX9_many : Room := { frames := 2, cells := 0, slots := 0, locals := 44 }
def wX9_many (Q : Int32 → pd_M → Prop) (a1 : Int32) (M : pd_M) : Prop := ((a1 = 0 → Q (M.1 82 0) M) ∧ (¬ a1 = 0 → ((a1 = 1 → Q (M.1 82 6) M) ∧ (¬ a1 = 1 → ((a1 = 2 → Q (M.1 82 17) M) ∧ (¬ a1 = 2 → ((a1 = 3 → wX9_ticketsThat (fun r_6 M_5 => Q r_6 M_5) 1 M) ∧ (¬ a1 = 3 → ((a1 = 4 → wX9_ticketsThat (fun r_9 M_8 => Q r_9 M_8) 0 M) ∧ (¬ a1 = 4 → ((a1 = 5 → wX9_ticketsThat (fun r_12 M_11 => Q r_12 M_11) 2 M) ∧ (¬ a1 = 5 → ((a1 = 6 → wX9_allBays (fun r_15 M_14 => Q r_15 M_14) M) ∧ (¬ a1 = 6 → ((a1 = 7 → wX9_allCards (fun r_18 M_17 => Q r_18 M_17) M) ∧ (¬ a1 = 7 → Q (-1) M))))))))))))))))

set_option maxRecDepth 100000 in
set_option maxHeartbeats 4000000 in
theorem mX9_many {l : Launch} {D : va_G} {g : pd_G} {t : Nat} {X : va_W} {Q : Int32 → pd_M → Prop} {a1 : Int32} {M : pd_M} {sz : Nat} (h : wX9_many Q a1 M) : Met l yX9_many (Cond.code yX9_many cX9_many 2 (Option.some FieldType.int) :: TB) rX9_many (pd_Pre D g t M X sz [.ref (g.1 82), .int a1]) (pd_Qi D g M X sz Q) 0 0 (va_A (pd_WL g M ++ X) sz) := by
  refine pd_met (by decide) (Nat.le_of_ble_eq_true rfl) ?_
  intro p e s m below meth c A ls C hA hW hl
  have C : pd_C p m c cX9_many 2 s _ RX9 meth (Option.some FieldType.int) := C
  have hx := C.1.1
  have hb := C.1.2.1
  have hown := C.1.2.2.2.1
  have hts := C.1.2.2.2.2
  have hl : lv_has ls 2 [(0, .ref (g.1 82)), (1, .int a1)] := hl
  refine lv_iload_n hx hb dX9_many_0 rfl (lv_at hl 1 rfl) ?_
  by_cases c_1 : a1 = 0
  · have h := h.1 c_1
    refine lv_tableIn (off := 47) (tgt := 48) hx hb dX9_many_1 (by rw [c_1]; decide) (by rw [c_1]; decide) (by rw [c_1]; rfl) (by decide) ?_
    refine lv_aload_n hx hb dX9_many_48 rfl (lv_at hl 0 rfl) ?_
    refine gf_X9_87 C hW dX9_many_49 ?_
    exact pd_iret C hA hW h dX9_many_52
  have h := h.2 c_1
  by_cases c_2 : a1 = 1
  · have h := h.1 c_2
    refine lv_tableIn (off := 52) (tgt := 53) hx hb dX9_many_1 (by rw [c_2]; decide) (by rw [c_2]; decide) (by rw [c_2]; rfl) (by decide) ?_
    refine lv_aload_n hx hb dX9_many_53 rfl (lv_at hl 0 rfl) ?_
    refine gf_X9_94 C hW dX9_many_54 ?_
    exact pd_iret C hA hW h dX9_many_57
  have h := h.2 c_2
  by_cases c_3 : a1 = 2
  · have h := h.1 c_3
    refine lv_tableIn (off := 57) (tgt := 58) hx hb dX9_many_1 (by rw [c_3]; decide) (by rw [c_3]; decide) (by rw [c_3]; rfl) (by decide) ?_
    refine lv_aload_n hx hb dX9_many_58 rfl (lv_at hl 0 rfl) ?_
    refine gf_X9_172 C hW dX9_many_59 ?_
    exact pd_iret C hA hW h dX9_many_62
  have h := h.2 c_3
  by_cases c_4 : a1 = 3
  · have h := h.1 c_4
    refine lv_tableIn (off := 62) (tgt := 63) hx hb dX9_many_1 (by rw [c_4]; decide) (by rw [c_4]; decide) (by rw [c_4]; rfl) (by decide) ?_
    refine lv_aload_n hx hb dX9_many_63 rfl (lv_at hl 0 rfl) ?_
    refine lv_iconst (v := 1) hx hb dX9_many_64 (by decide) ?_
    refine cl_X9_184 C hW h ⟨by decide, by decide⟩ ⟨Nat.zero_le _, Nat.zero_le _⟩ hl.1 (Nat.le_of_ble_eq_true rfl) dX9_many_65 (fun r_6 M_5 H locs h hW => ?_)
    exact pd_iret C hA hW h dX9_many_68
  have h := h.2 c_4
  by_cases c_7 : a1 = 4
  · have h := h.1 c_7
    refine lv_tableIn (off := 68) (tgt := 69) hx hb dX9_many_1 (by rw [c_7]; decide) (by rw [c_7]; decide) (by rw [c_7]; rfl) (by decide) ?_
    refine lv_aload_n hx hb dX9_many_69 rfl (lv_at hl 0 rfl) ?_
    refine lv_iconst (v := 0) hx hb dX9_many_70 (by decide) ?_
    refine cl_X9_184 C hW h ⟨by decide, by decide⟩ ⟨Nat.zero_le _, Nat.zero_le _⟩ hl.1 (Nat.le_of_ble_eq_true rfl) dX9_many_71 (fun r_9 M_8 H locs h hW => ?_)
    exact pd_iret C hA hW h dX9_many_74
  have h := h.2 c_7
  by_cases c_10 : a1 = 5
  · have h := h.1 c_10
    refine lv_tableIn (off := 74) (tgt := 75) hx hb dX9_many_1 (by rw [c_10]; decide) (by rw [c_10]; decide) (by rw [c_10]; rfl) (by decide) ?_
    refine lv_aload_n hx hb dX9_many_75 rfl (lv_at hl 0 rfl) ?_
    refine lv_iconst (v := 2) hx hb dX9_many_76 (by decide) ?_
    refine cl_X9_184 C hW h ⟨by decide, by decide⟩ ⟨Nat.zero_le _, Nat.zero_le _⟩ hl.1 (Nat.le_of_ble_eq_true rfl) dX9_many_77 (fun r_12 M_11 H locs h hW => ?_)
    exact pd_iret C hA hW h dX9_many_80
  have h := h.2 c_10
  by_cases c_13 : a1 = 6
  · have h := h.1 c_13
    refine lv_tableIn (off := 80) (tgt := 81) hx hb dX9_many_1 (by rw [c_13]; decide) (by rw [c_13]; decide) (by rw [c_13]; rfl) (by decide) ?_
    refine lv_aload_n hx hb dX9_many_81 rfl (lv_at hl 0 rfl) ?_
    refine cl_X9_187 C hW h ⟨by decide, by decide⟩ ⟨Nat.zero_le _, Nat.zero_le _⟩ hl.1 (Nat.le_of_ble_eq_true rfl) dX9_many_82 (fun r_15 M_14 H locs h hW => ?_)
    exact pd_iret C hA hW h dX9_many_85
  have h := h.2 c_13
  by_cases c_16 : a1 = 7
  · have h := h.1 c_16
    refine lv_tableIn (off := 85) (tgt := 86) hx hb dX9_many_1 (by rw [c_16]; decide) (by rw [c_16]; decide) (by rw [c_16]; rfl) (by decide) ?_
    refine lv_aload_n hx hb dX9_many_86 rfl (lv_at hl 0 rfl) ?_
    refine cl_X9_191 C hW h ⟨by decide, by decide⟩ ⟨Nat.zero_le _, Nat.zero_le _⟩ hl.1 (Nat.le_of_ble_eq_true rfl) dX9_many_87 (fun r_18 M_17 H locs h hW => ?_)
    exact pd_iret C hA hW h dX9_many_90
  have h := h.2 c_16
  refine lv_tableOut (tgt := 91) hx hb dX9_many_1 (pd_sw7 c_1 c_2 c_3 c_4 c_7 c_10 c_13 c_16) (by decide) ?_
  refine lv_iconst (v := (-1)) hx hb dX9_many_91 (by decide) ?_
  exact pd_iret C hA hW h dX9_many_92

theorem dd_X9_many : yX9_many.cls ≠ "java/lang/invoke/MethodHandle" ∧ yX9_many.cls ≠ "java/lang/invoke/VarHandle" ∧ (parseMethodDescriptor yX9_many.desc).map (fun d => d.parameters.length) = some 1 := by decide +kernel
theorem cl_L_110 {p : Program} {l : Launch} {e : Env} {R : Room} {s : State} {m : MethodId} {args : Array Value} {below : List Frame} {meth : Method} {c : Code} {H : Heap} {locs : List Loc} {cells slots : Nat} {QQ : State → Prop} {cc : ByteArray} {pc : Nat} {ls : Array Slot} {rest : List Value} {D : va_G} {g : pd_G} {t : Nat} {M : pd_M} {X : va_W} {A : Nat → Prop} {nL : Nat} {ret : Option FieldType} {Qc : Int32 → pd_M → Prop} {a1 : Int32} (C : pd_C p m c cc nL s args RL meth ret) (hW : pd_W D g t M X A s H locs) (h : wX9_many Qc a1 M) (hR : rX9_many.frames + 1 ≤ R.frames ∧ 8 + (2 + 11) + rX9_many.locals ≤ R.locals) (hcs : cells ≤ R.cells ∧ slots ≤ R.slots) (hls : ls.size = nL) (hw8 : (rest.map fun v => v.category).sum ≤ 8) (hdg : decode cc pc = .ok (.invokevirtual 110, 3))
    (kk : ∀ (r : Int32) (M1 : pd_M) (H1 : Heap) (locs1 : List Loc), Qc r M1 → pd_W D g t M1 X A s H1 locs1 → W p l e R s m args below meth c H1 locs1 cells slots QQ (F0 m (pc + 3) ls (.int r :: rest))) : W p l e R s m args below meth c H locs cells slots QQ (F0 m pc ls (.int a1 :: .ref (g.1 82) :: rest)) :=
  pd_callVi (As := [.int a1]) C hW (mX9_many h) kd_82 rfl mM_L_110 mO_yX9_many mV_yX9_many mI_X9 mC_yX9_many dd_X9_many ⟨rfl, rfl⟩ hR hcs hls rfl hw8 hdg kk
