abbrev rX4_add : Room := { frames := 0, cells := 0, slots := 0, locals := 0 }
def wX4_add (Q : Int32 → pd_M → Prop) (a1 : Int32) (a2 : Int32) (M : pd_M) : Prop := (((M.1 8 0) < 5 → (vp_in (M.1 8 0) 5 ∧ ∀ M_3 : pd_M, M_3 = sI M 9 (M.1 8 0).toNatClampNeg a1 → (vp_in (M_3.1 8 0) 5 ∧ ∀ M_5 : pd_M, M_5 = sI M_3 10 (M_3.1 8 0).toNatClampNeg a2 → ∀ M_6 : pd_M, M_6 = sI M_5 8 0 ((M_5.1 8 0) + 1) → Q ((M_6.1 8 0) - 1) M_6))) ∧ (¬ (M.1 8 0) < 5 → Q (-2) M))

set_option maxRecDepth 100000 in
set_option maxHeartbeats 4000000 in
theorem mX4_add {l : Launch} {D : va_G} {g : pd_G} {t : Nat} {X : va_W} {Q : Int32 → pd_M → Prop} {a1 : Int32} {a2 : Int32} {M : pd_M} {sz : Nat} (h : wX4_add Q a1 a2 M) : Met l yX4_add (Cond.code yX4_add cX4_add 3 (Option.some FieldType.int) :: TB) rX4_add (pd_Pre D g t M X sz [.ref (g.1 8), .int a1, .int a2]) (pd_Qi D g M X sz Q) 0 0 (va_A (pd_WL g M ++ X) sz) := by
  refine pd_met (by decide) (Nat.le_of_ble_eq_true rfl) ?_
  intro p e s m below meth c A ls C hA hW hl
  have C : pd_C p m c cX4_add 3 s _ RX4 meth (Option.some FieldType.int) := C
  have hx := C.1.1
  have hb := C.1.2.1
  have hown := C.1.2.2.2.1
  have hts := C.1.2.2.2.2
  have hl : lv_has ls 3 [(0, .ref (g.1 8)), (1, .int a1), (2, .int a2)] := hl
  refine lv_aload_n hx hb dX4_add_0 rfl (lv_at hl 0 rfl) ?_
  refine gf_X4_9 C hW dX4_add_1 ?_
  refine lv_iconst (v := 5) hx hb dX4_add_4 (by decide) ?_
  refine lv_icmp_lt (tgt := 11) hx hb dX4_add_5 (by decide) (fun c_1 => ?_) (fun c_1 => ?_)
  · have h := h.1 c_1
    refine lv_aload_n hx hb dX4_add_11 rfl (lv_at hl 0 rfl) ?_
    refine gf_X4_15 C hW dX4_add_12 ?_
    refine lv_aload_n hx hb dX4_add_15 rfl (lv_at hl 0 rfl) ?_
    refine gf_X4_9 C hW dX4_add_16 ?_
    refine lv_iload_n hx hb dX4_add_19 rfl (lv_at hl 1 rfl) ?_
    have hi_2 := h.1
    have h := h.2
    refine pd_iast C hW kd_9 hi_2 dX4_add_20 (fun M_3 H locs eM_3 hW => ?_)
    have h := h M_3 eM_3
    refine lv_aload_n hx hb dX4_add_21 rfl (lv_at hl 0 rfl) ?_
    refine gf_X4_19 C hW dX4_add_22 ?_
    refine lv_aload_n hx hb dX4_add_25 rfl (lv_at hl 0 rfl) ?_
    refine gf_X4_9 C hW dX4_add_26 ?_
    refine lv_iload_n hx hb dX4_add_29 rfl (lv_at hl 2 rfl) ?_
    have hi_4 := h.1
    have h := h.2
    refine pd_iast C hW kd_10 hi_4 dX4_add_30 (fun M_5 H locs eM_5 hW => ?_)
    have h := h M_5 eM_5
    refine lv_aload_n hx hb dX4_add_31 rfl (lv_at hl 0 rfl) ?_
    refine lv_dup hx hb dX4_add_32 rfl ?_
    refine gf_X4_9 C hW dX4_add_33 ?_
    refine lv_iconst (v := 1) hx hb dX4_add_36 (by decide) ?_
    refine lv_iadd hx hb dX4_add_37 ?_
    refine pf_X4_9 C hW dX4_add_38 (fun M_6 H locs eM_6 hW => ?_)
    have h := h M_6 eM_6
    refine lv_aload_n hx hb dX4_add_41 rfl (lv_at hl 0 rfl) ?_
    refine gf_X4_9 C hW dX4_add_42 ?_
    refine lv_iconst (v := 1) hx hb dX4_add_45 (by decide) ?_
    refine lv_isub hx hb dX4_add_46 ?_
    exact pd_iret C hA hW h dX4_add_47
  · have h := h.2 c_1
    refine lv_bipush (v := (-2)) hx hb dX4_add_8 (by decide) ?_
    exact pd_iret C hA hW h dX4_add_10

theorem dd_X4_add : yX4_add.cls ≠ "java/lang/invoke/MethodHandle" ∧ yX4_add.cls ≠ "java/lang/invoke/VarHandle" ∧ (parseMethodDescriptor yX4_add.desc).map (fun d => d.parameters.length) = some 2 := by decide +kernel
theorem cl_X8_65 {p : Program} {l : Launch} {e : Env} {R : Room} {s : State} {m : MethodId} {args : Array Value} {below : List Frame} {meth : Method} {c : Code} {H : Heap} {locs : List Loc} {cells slots : Nat} {QQ : State → Prop} {cc : ByteArray} {pc : Nat} {ls : Array Slot} {rest : List Value} {D : va_G} {g : pd_G} {t : Nat} {M : pd_M} {X : va_W} {A : Nat → Prop} {nL : Nat} {ret : Option FieldType} {Qc : Int32 → pd_M → Prop} {a1 : Int32} {a2 : Int32} (C : pd_C p m c cc nL s args RX8 meth ret) (hW : pd_W D g t M X A s H locs) (h : wX4_add Qc a1 a2 M) (hR : rX4_add.frames + 1 ≤ R.frames ∧ 8 + (3 + 11) + rX4_add.locals ≤ R.locals) (hcs : cells ≤ R.cells ∧ slots ≤ R.slots) (hls : ls.size = nL) (hw8 : (rest.map fun v => v.category).sum ≤ 8) (hdg : decode cc pc = .ok (.invokevirtual 65, 3))
    (kk : ∀ (r : Int32) (M1 : pd_M) (H1 : Heap) (locs1 : List Loc), Qc r M1 → pd_W D g t M1 X A s H1 locs1 → W p l e R s m args below meth c H1 locs1 cells slots QQ (F0 m (pc + 3) ls (.int r :: rest))) : W p l e R s m args below meth c H locs cells slots QQ (F0 m pc ls (.int a2 :: .int a1 :: .ref (g.1 8) :: rest)) :=
  pd_callVi (As := [.int a1, .int a2]) C hW (mX4_add h) kd_8 rfl mM_X8_65 mO_yX4_add mV_yX4_add mI_X4 mC_yX4_add dd_X4_add ⟨rfl, rfl⟩ hR hcs hls rfl hw8 hdg kk
abbrev rX4_countBays : Room := { frames := 0, cells := 0, slots := 0, locals := 0 }
def lpX4_countBays_4 (K : Int32 → pd_M → Prop) : Nat → Int32 → Int32 → pd_M → Prop
  | 0, _, _, _ => False
  | n + 1, v1, v2, M => (((M.1 8 0) ≤ v2 → K v1 M) ∧ (¬ (M.1 8 0) ≤ v2 → (vp_in v2 5 ∧ ∀ x1_3 : Int32, x1_3 = (v1 + (M.1 10 v2.toNatClampNeg)) → ∀ x2_4 : Int32, x2_4 = v2 + 1 → lpX4_countBays_4 K n x1_3 x2_4 M)))

set_option maxRecDepth 100000 in
set_option maxHeartbeats 4000000 in
theorem stX4_countBays_4 {p : Program} {l : Launch} {e : Env} {s : State} {m : MethodId} {args : Array Value} {below : List Frame} {meth : Method} {c : Code} {D : va_G} {g : pd_G} {t : Nat} {M0 : pd_M} {X : va_W} {A : Nat → Prop} {sz : Nat} {Q : Int32 → pd_M → Prop} (C : pd_C p m c cX4_countBays 3 s args RX4 meth (Option.some FieldType.int)) (hA : A = va_A (pd_WL g M0 ++ X) sz) {K : Int32 → pd_M → Prop}  (hK : ∀ (p1 : Int32) (M : pd_M) (H : Heap) (locs : List Loc) (ls : Array Slot), pd_W D g t M X A s H locs → lv_has ls 3 [(1, .int p1)] → K p1 M → W p l e rX4_countBays s m args below meth c H locs 0 0 (MQ below (pd_Qi D g M0 X sz Q) args s 0 0 (va_A (pd_WL g M0 ++ X) sz)) (F0 m 27 ls [])) :
    ∀ (n : Nat) (v1 : Int32) (v2 : Int32) (M : pd_M) (H : Heap) (locs : List Loc) (ls : Array Slot), pd_W D g t M X A s H locs → lv_has ls 3 [(0, .ref (g.1 8)), (1, .int v1), (2, .int v2)] → lpX4_countBays_4 K n v1 v2 M → W p l e rX4_countBays s m args below meth c H locs 0 0 (MQ below (pd_Qi D g M0 X sz Q) args s 0 0 (va_A (pd_WL g M0 ++ X) sz)) (F0 m 4 ls []) := by
  have hx := C.1.1
  have hb := C.1.2.1
  have hown := C.1.2.2.2.1
  have hts := C.1.2.2.2.2
  intro n
  induction n with
  | zero => intro v1 v2 M H locs ls hW hl h; exact h.elim
  | succ n ih =>
    intro v1 v2 M H locs ls hW hl h
    refine lv_iload_n hx hb dX4_countBays_4 rfl (lv_at hl 2 rfl) ?_
    refine lv_aload_n hx hb dX4_countBays_5 rfl (lv_at hl 0 rfl) ?_
    refine gf_X4_9 C hW dX4_countBays_6 ?_
    refine lv_icmp_ge (tgt := 27) hx hb dX4_countBays_9 (by decide) (fun c_1 => ?_) (fun c_1 => ?_)
    · have h := h.1 c_1
      exact hK v1 M _ _ _ hW (lv_sub hl [1] rfl) h
    · have h := h.2 c_1
      refine lv_iload_n hx hb dX4_countBays_12 rfl (lv_at hl 1 rfl) ?_
      refine lv_aload_n hx hb dX4_countBays_13 rfl (lv_at hl 0 rfl) ?_
      refine gf_X4_19 C hW dX4_countBays_14 ?_
      refine lv_iload_n hx hb dX4_countBays_17 rfl (lv_at hl 2 rfl) ?_
      have hi_2 := h.1
      have h := h.2
      refine pd_iald C hW kd_10 hi_2 dX4_countBays_18 ?_
      refine lv_iadd hx hb dX4_countBays_19 ?_
      refine lv_topi (fun x1_3 ex1_3 => ?_)
      have h := h x1_3 ex1_3
      refine lv_istore_n (lv' := [(1, .int x1_3), (0, .ref (g.1 8)), (2, .int v2)]) hx hb dX4_countBays_20 rfl hl (by decide) rfl (fun ls hl => ?_)
      obtain ⟨x2_4, ex2_4⟩ : ∃ y : Int32, y = v2 + 1 := ⟨_, rfl⟩
      have h := h x2_4 ex2_4
      refine lv_iinc (v := x2_4) (lv' := [(2, .int x2_4), (1, .int x1_3), (0, .ref (g.1 8))]) hx hb dX4_countBays_21 hl (k := 2) rfl (by rw [ex2_4]; rfl) (by decide) rfl (fun ls hl => ?_)
      refine lv_goto (tgt := 4) hx hb dX4_countBays_24 (by decide) ?_
      exact ih x1_3 x2_4 M _ _ _ hW (lv_sub hl [2, 1, 0] rfl) h

def wX4_countBays (Q : Int32 → pd_M → Prop) (M : pd_M) : Prop := (∃ k_4 : Nat, lpX4_countBays_4 (fun x1_6 M_5 => Q x1_6 M_5) k_4 0 0 M)

set_option maxRecDepth 100000 in
set_option maxHeartbeats 4000000 in
theorem mX4_countBays {l : Launch} {D : va_G} {g : pd_G} {t : Nat} {X : va_W} {Q : Int32 → pd_M → Prop} {M : pd_M} {sz : Nat} (h : wX4_countBays Q M) : Met l yX4_countBays (Cond.code yX4_countBays cX4_countBays 3 (Option.some FieldType.int) :: TB) rX4_countBays (pd_Pre D g t M X sz [.ref (g.1 8)]) (pd_Qi D g M X sz Q) 0 0 (va_A (pd_WL g M ++ X) sz) := by
  refine pd_met (by decide) (Nat.le_of_ble_eq_true rfl) ?_
  intro p e s m below meth c A ls C hA hW hl
  have C : pd_C p m c cX4_countBays 3 s _ RX4 meth (Option.some FieldType.int) := C
  have hx := C.1.1
  have hb := C.1.2.1
  have hown := C.1.2.2.2.1
  have hts := C.1.2.2.2.2
  have hl : lv_has ls 3 [(0, .ref (g.1 8))] := hl
  refine lv_iconst (v := 0) hx hb dX4_countBays_0 (by decide) ?_
  refine lv_istore_n (lv' := [(1, .int 0), (0, .ref (g.1 8))]) hx hb dX4_countBays_1 rfl hl (by decide) rfl (fun ls hl => ?_)
  refine lv_iconst (v := 0) hx hb dX4_countBays_2 (by decide) ?_
  refine lv_istore_n (lv' := [(2, .int 0), (1, .int 0), (0, .ref (g.1 8))]) hx hb dX4_countBays_3 rfl hl (by decide) rfl (fun ls hl => ?_)
  obtain ⟨k_4, h⟩ := h
  refine stX4_countBays_4 C hA (fun x1_6 M_5 H locs ls hW hl h => ?_) k_4 0 0 M _ _ _ hW (lv_sub hl [2, 1, 0] rfl) h
  refine lv_iload_n hx hb dX4_countBays_27 rfl (lv_at hl 0 rfl) ?_
  exact pd_iret C hA hW h dX4_countBays_28

theorem dd_X4_countBays : yX4_countBays.cls ≠ "java/lang/invoke/MethodHandle" ∧ yX4_countBays.cls ≠ "java/lang/invoke/VarHandle" ∧ (parseMethodDescriptor yX4_countBays.desc).map (fun d => d.parameters.length) = some 0 := by decide +kernel
theorem cl_X8_190 {p : Program} {l : Launch} {e : Env} {R : Room} {s : State} {m : MethodId} {args : Array Value} {below : List Frame} {meth : Method} {c : Code} {H : Heap} {locs : List Loc} {cells slots : Nat} {QQ : State → Prop} {cc : ByteArray} {pc : Nat} {ls : Array Slot} {rest : List Value} {D : va_G} {g : pd_G} {t : Nat} {M : pd_M} {X : va_W} {A : Nat → Prop} {nL : Nat} {ret : Option FieldType} {Qc : Int32 → pd_M → Prop} (C : pd_C p m c cc nL s args RX8 meth ret) (hW : pd_W D g t M X A s H locs) (h : wX4_countBays Qc M) (hR : rX4_countBays.frames + 1 ≤ R.frames ∧ 8 + (3 + 11) + rX4_countBays.locals ≤ R.locals) (hcs : cells ≤ R.cells ∧ slots ≤ R.slots) (hls : ls.size = nL) (hw8 : (rest.map fun v => v.category).sum ≤ 8) (hdg : decode cc pc = .ok (.invokevirtual 190, 3))
    (kk : ∀ (r : Int32) (M1 : pd_M) (H1 : Heap) (locs1 : List Loc), Qc r M1 → pd_W D g t M1 X A s H1 locs1 → W p l e R s m args below meth c H1 locs1 cells slots QQ (F0 m (pc + 3) ls (.int r :: rest))) : W p l e R s m args below meth c H locs cells slots QQ (F0 m pc ls (.ref (g.1 8) :: rest)) :=
  pd_callVi (As := []) C hW (mX4_countBays h) kd_8 rfl mM_X8_190 mO_yX4_countBays mV_yX4_countBays mI_X4 mC_yX4_countBays dd_X4_countBays ⟨rfl, rfl⟩ hR hcs hls rfl hw8 hdg kk
