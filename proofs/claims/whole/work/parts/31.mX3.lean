abbrev rX3_commonDivisor : Room := { frames := 0, cells := 0, slots := 0, locals := 0 }
def lpX3_commonDivisor_7 (K : Int32 → pd_M → Prop) : Nat → Int32 → Int32 → Int32 → pd_M → Prop
  | 0, _, _, _, _ => False
  | n + 1, v2, v3, v4, M => ((64 ≤ v4 → K v2 M) ∧ (¬ 64 ≤ v4 → ((v3 = 0 → K v2 M) ∧ (¬ v3 = 0 → ¬ v3 = 0 ∧ ∀ x5_3 : Int32, x5_3 = (v2 - v2 / v3 * v3) → ∀ x4_4 : Int32, x4_4 = v4 + 1 → lpX3_commonDivisor_7 K n v3 x5_3 x4_4 M))))

set_option maxRecDepth 100000 in
set_option maxHeartbeats 4000000 in
theorem stX3_commonDivisor_7 {p : Program} {l : Launch} {e : Env} {s : State} {m : MethodId} {args : Array Value} {below : List Frame} {meth : Method} {c : Code} {D : va_G} {g : pd_G} {t : Nat} {M0 : pd_M} {X : va_W} {A : Nat → Prop} {sz : Nat} {Q : Int32 → pd_M → Prop} (C : pd_C p m c cX3_commonDivisor 6 s args RX3 meth (Option.some FieldType.int)) (hA : A = va_A (pd_WL g M0 ++ X) sz) {K : Int32 → pd_M → Prop}  (hK : ∀ (p2 : Int32) (M : pd_M) (H : Heap) (locs : List Loc) (ls : Array Slot), pd_W D g t M X A s H locs → lv_has ls 6 [(2, .int p2)] → K p2 M → W p l e rX3_commonDivisor s m args below meth c H locs 0 0 (MQ below (pd_Qi D g M0 X sz Q) args s 0 0 (va_A (pd_WL g M0 ++ X) sz)) (F0 m 34 ls [])) :
    ∀ (n : Nat) (v2 : Int32) (v3 : Int32) (v4 : Int32) (M : pd_M) (H : Heap) (locs : List Loc) (ls : Array Slot), pd_W D g t M X A s H locs → lv_has ls 6 [(2, .int v2), (3, .int v3), (4, .int v4)] → lpX3_commonDivisor_7 K n v2 v3 v4 M → W p l e rX3_commonDivisor s m args below meth c H locs 0 0 (MQ below (pd_Qi D g M0 X sz Q) args s 0 0 (va_A (pd_WL g M0 ++ X) sz)) (F0 m 7 ls []) := by
  have hx := C.1.1
  have hb := C.1.2.1
  have hown := C.1.2.2.2.1
  have hts := C.1.2.2.2.2
  intro n
  induction n with
  | zero => intro v2 v3 v4 M H locs ls hW hl h; exact h.elim
  | succ n ih =>
    intro v2 v3 v4 M H locs ls hW hl h
    refine lv_iload hx hb dX3_commonDivisor_7 (lv_at hl 2 rfl) ?_
    refine lv_bipush (v := 64) hx hb dX3_commonDivisor_9 (by decide) ?_
    refine lv_icmp_ge (tgt := 34) hx hb dX3_commonDivisor_11 (by decide) (fun c_1 => ?_) (fun c_1 => ?_)
    · have h := h.1 c_1
      exact hK v2 M _ _ _ hW (lv_sub hl [0] rfl) h
    · have h := h.2 c_1
      refine lv_iload_n hx hb dX3_commonDivisor_14 rfl (lv_at hl 1 rfl) ?_
      refine lv_if_eq (tgt := 34) hx hb dX3_commonDivisor_15 (by decide) (fun c_2 => ?_) (fun c_2 => ?_)
      · have h := h.1 c_2
        exact hK v2 M _ _ _ hW (lv_sub hl [0] rfl) h
      · have h := h.2 c_2
        refine lv_iload_n hx hb dX3_commonDivisor_18 rfl (lv_at hl 0 rfl) ?_
        refine lv_iload_n hx hb dX3_commonDivisor_19 rfl (lv_at hl 1 rfl) ?_
        refine lv_irem hx hb dX3_commonDivisor_20 h.1 ?_
        have h := h.2
        refine lv_topi (fun x5_3 ex5_3 => ?_)
        have h := h x5_3 ex5_3
        refine lv_istore (lv' := [(5, .int x5_3), (2, .int v2), (3, .int v3), (4, .int v4)]) hx hb dX3_commonDivisor_21 hl (by decide) rfl (fun ls hl => ?_)
        refine lv_iload_n hx hb dX3_commonDivisor_23 rfl (lv_at hl 2 rfl) ?_
        refine lv_istore_n (lv' := [(2, .int v3), (5, .int x5_3), (3, .int v3), (4, .int v4)]) hx hb dX3_commonDivisor_24 rfl hl (by decide) rfl (fun ls hl => ?_)
        refine lv_iload hx hb dX3_commonDivisor_25 (lv_at hl 1 rfl) ?_
        refine lv_istore_n (lv' := [(3, .int x5_3), (2, .int v3), (5, .int x5_3), (4, .int v4)]) hx hb dX3_commonDivisor_27 rfl hl (by decide) rfl (fun ls hl => ?_)
        obtain ⟨x4_4, ex4_4⟩ : ∃ y : Int32, y = v4 + 1 := ⟨_, rfl⟩
        have h := h x4_4 ex4_4
        refine lv_iinc (v := x4_4) (lv' := [(4, .int x4_4), (3, .int x5_3), (2, .int v3), (5, .int x5_3)]) hx hb dX3_commonDivisor_28 hl (k := 3) rfl (by rw [ex4_4]; rfl) (by decide) rfl (fun ls hl => ?_)
        refine lv_goto (tgt := 7) hx hb dX3_commonDivisor_31 (by decide) ?_
        exact ih v3 x5_3 x4_4 M _ _ _ hW (lv_sub hl [2, 1, 0] rfl) h

def wX3_commonDivisor (Q : Int32 → pd_M → Prop) (a0 : Int32) (a1 : Int32) (M : pd_M) : Prop := (∃ k_7 : Nat, lpX3_commonDivisor_7 (fun x2_6 M_5 => Q x2_6 M_5) k_7 a0 a1 0 M)

set_option maxRecDepth 100000 in
set_option maxHeartbeats 4000000 in
theorem mX3_commonDivisor {l : Launch} {D : va_G} {g : pd_G} {t : Nat} {X : va_W} {Q : Int32 → pd_M → Prop} {a0 : Int32} {a1 : Int32} {M : pd_M} {sz : Nat} (h : wX3_commonDivisor Q a0 a1 M) : Met l yX3_commonDivisor (Cond.code yX3_commonDivisor cX3_commonDivisor 6 (Option.some FieldType.int) :: TB) rX3_commonDivisor (pd_Pre D g t M X sz [.int a0, .int a1]) (pd_Qi D g M X sz Q) 0 0 (va_A (pd_WL g M ++ X) sz) := by
  refine pd_met (by decide) (Nat.le_of_ble_eq_true rfl) ?_
  intro p e s m below meth c A ls C hA hW hl
  have C : pd_C p m c cX3_commonDivisor 6 s _ RX3 meth (Option.some FieldType.int) := C
  have hx := C.1.1
  have hb := C.1.2.1
  have hown := C.1.2.2.2.1
  have hts := C.1.2.2.2.2
  have hl : lv_has ls 6 [(0, .int a0), (1, .int a1)] := hl
  refine lv_iload_n hx hb dX3_commonDivisor_0 rfl (lv_at hl 0 rfl) ?_
  refine lv_istore_n (lv' := [(2, .int a0), (0, .int a0), (1, .int a1)]) hx hb dX3_commonDivisor_1 rfl hl (by decide) rfl (fun ls hl => ?_)
  refine lv_iload_n hx hb dX3_commonDivisor_2 rfl (lv_at hl 2 rfl) ?_
  refine lv_istore_n (lv' := [(3, .int a1), (2, .int a0), (0, .int a0), (1, .int a1)]) hx hb dX3_commonDivisor_3 rfl hl (by decide) rfl (fun ls hl => ?_)
  refine lv_iconst (v := 0) hx hb dX3_commonDivisor_4 (by decide) ?_
  refine lv_istore (lv' := [(4, .int 0), (3, .int a1), (2, .int a0), (0, .int a0), (1, .int a1)]) hx hb dX3_commonDivisor_5 hl (by decide) rfl (fun ls hl => ?_)
  obtain ⟨k_7, h⟩ := h
  refine stX3_commonDivisor_7 C hA (fun x2_6 M_5 H locs ls hW hl h => ?_) k_7 a0 a1 0 M _ _ _ hW (lv_sub hl [2, 1, 0] rfl) h
  refine lv_iload_n hx hb dX3_commonDivisor_34 rfl (lv_at hl 0 rfl) ?_
  exact pd_iret C hA hW h dX3_commonDivisor_35

theorem dd_X3_commonDivisor : yX3_commonDivisor.cls ≠ "java/lang/invoke/MethodHandle" ∧ yX3_commonDivisor.cls ≠ "java/lang/invoke/VarHandle" ∧ (parseMethodDescriptor yX3_commonDivisor.desc).map (fun d => d.parameters.length) = some 2 := by decide +kernel
theorem cl_X3_7 {p : Program} {l : Launch} {e : Env} {R : Room} {s : State} {m : MethodId} {args : Array Value} {below : List Frame} {meth : Method} {c : Code} {H : Heap} {locs : List Loc} {cells slots : Nat} {QQ : State → Prop} {cc : ByteArray} {pc : Nat} {ls : Array Slot} {rest : List Value} {D : va_G} {g : pd_G} {t : Nat} {M : pd_M} {X : va_W} {A : Nat → Prop} {nL : Nat} {ret : Option FieldType} {Qc : Int32 → pd_M → Prop} {a0 : Int32} {a1 : Int32} (C : pd_C p m c cc nL s args RX3 meth ret) (hW : pd_W D g t M X A s H locs) (h : wX3_commonDivisor Qc a0 a1 M) (hR : rX3_commonDivisor.frames + 1 ≤ R.frames ∧ 8 + (6 + 11) + rX3_commonDivisor.locals ≤ R.locals) (hcs : cells ≤ R.cells ∧ slots ≤ R.slots) (hls : ls.size = nL) (hw8 : (rest.map fun v => v.category).sum ≤ 8) (hdg : decode cc pc = .ok (.invokestatic 7, 3))
    (kk : ∀ (r : Int32) (M1 : pd_M) (H1 : Heap) (locs1 : List Loc), Qc r M1 → pd_W D g t M1 X A s H1 locs1 → W p l e R s m args below meth c H1 locs1 cells slots QQ (F0 m (pc + 3) ls (.int r :: rest))) : W p l e R s m args below meth c H locs cells slots QQ (F0 m pc ls (.int a1 :: .int a0 :: rest)) :=
  pd_callSi (As := [.int a0, .int a1]) C hW (mX3_commonDivisor h) mM_X3_7 mS_yX3_commonDivisor mI_X3 mC_yX3_commonDivisor dd_X3_commonDivisor ⟨rfl, rfl⟩ hR hcs hls rfl hw8 hdg kk
abbrev rX3_isBelow : Room := { frames := 0, cells := 0, slots := 0, locals := 0 }
def wX3_isBelow (Q : Int32 → pd_M → Prop) (u w a1 a2 : Int32) (M : pd_M) : Prop := (((a1 * w) ≤ (u * a2) → Q 0 M) ∧ (¬ (a1 * w) ≤ (u * a2) → Q 1 M))
set_option maxRecDepth 100000 in
set_option maxHeartbeats 4000000 in
theorem mX3_isBelow {l : Launch} {D : va_G} {g : pd_G} {t : Nat} {X : va_W} {Q : Int32 → pd_M → Prop} {q i : Nat} {u w a1 a2 : Int32} {M : pd_M} {sz : Nat} (hX : X[i]? = some (pd_rc q u w)) (h : wX3_isBelow Q u w a1 a2 M) : Met l yX3_isBelow (Cond.code yX3_isBelow cX3_isBelow 3 (Option.some FieldType.boolean) :: TB) rX3_isBelow (pd_Pre D g t M X sz [.ref q, .int a1, .int a2]) (pd_Qi D g M X sz Q) 0 0 (va_A (pd_WL g M ++ X) sz) := by
  refine pd_met (by decide) (Nat.le_of_ble_eq_true rfl) ?_
  intro p e s m below meth c A ls C hA hW hl
  have C : pd_C p m c cX3_isBelow 3 s _ RX3 meth (Option.some FieldType.boolean) := C
  have hx := C.1.1
  have hb := C.1.2.1
  have hown := C.1.2.2.2.1
  have hts := C.1.2.2.2.2
  have hl : lv_has ls 3 [(0, .ref q), (1, .int a1), (2, .int a2)] := hl
  refine lv_aload_n hx hb dX3_isBelow_0 rfl (lv_at hl 0 rfl) ?_
  refine pd_getR C hW i hX 0 (by decide) mF_X3_13 rfl dX3_isBelow_1 ?_
  refine lv_iload_n hx hb dX3_isBelow_4 rfl (lv_at hl 2 rfl) ?_
  refine lv_imul hx hb dX3_isBelow_5 ?_
  refine lv_iload_n hx hb dX3_isBelow_6 rfl (lv_at hl 1 rfl) ?_
  refine lv_aload_n hx hb dX3_isBelow_7 rfl (lv_at hl 0 rfl) ?_
  refine pd_getR C hW i hX 1 (by decide) mF_X3_17 rfl dX3_isBelow_8 ?_
  refine lv_imul hx hb dX3_isBelow_11 ?_
  refine lv_icmp_ge (tgt := 19) hx hb dX3_isBelow_12 (by decide) (fun c_1 => ?_) (fun c_1 => ?_)
  · have h := h.1 c_1
    refine lv_iconst (v := 0) hx hb dX3_isBelow_19 (by decide) ?_
    exact pd_zret C hA hW rfl h dX3_isBelow_20
  · have h := h.2 c_1
    refine lv_iconst (v := 1) hx hb dX3_isBelow_15 (by decide) ?_
    refine lv_goto (tgt := 20) hx hb dX3_isBelow_16 (by decide) ?_
    exact pd_zret C hA hW rfl h dX3_isBelow_20
theorem dd_X3_isBelow : yX3_isBelow.cls ≠ "java/lang/invoke/MethodHandle" ∧ yX3_isBelow.cls ≠ "java/lang/invoke/VarHandle" ∧ (parseMethodDescriptor yX3_isBelow.desc).map (fun d => d.parameters.length) = some 2 := by decide +kernel
abbrev rX3_part : Room := { frames := 0, cells := 0, slots := 0, locals := 0 }
def wX3_part (Q : Int32 → pd_M → Prop) (u w a1 : Int32) (M : pd_M) : Prop := ((¬ a1 = 0 → Q w M) ∧ (a1 = 0 → Q u M))
set_option maxRecDepth 100000 in
set_option maxHeartbeats 4000000 in
theorem mX3_part {l : Launch} {D : va_G} {g : pd_G} {t : Nat} {X : va_W} {Q : Int32 → pd_M → Prop} {q i : Nat} {u w a1 : Int32} {M : pd_M} {sz : Nat} (hX : X[i]? = some (pd_rc q u w)) (h : wX3_part Q u w a1 M) : Met l yX3_part (Cond.code yX3_part cX3_part 2 (Option.some FieldType.int) :: TB) rX3_part (pd_Pre D g t M X sz [.ref q, .int a1]) (pd_Qi D g M X sz Q) 0 0 (va_A (pd_WL g M ++ X) sz) := by
  refine pd_met (by decide) (Nat.le_of_ble_eq_true rfl) ?_
  intro p e s m below meth c A ls C hA hW hl
  have C : pd_C p m c cX3_part 2 s _ RX3 meth (Option.some FieldType.int) := C
  have hx := C.1.1
  have hb := C.1.2.1
  have hown := C.1.2.2.2.1
  have hts := C.1.2.2.2.2
  have hl : lv_has ls 2 [(0, .ref q), (1, .int a1)] := hl
  refine lv_iload_n hx hb dX3_part_0 rfl (lv_at hl 1 rfl) ?_
  refine lv_if_ne (tgt := 11) hx hb dX3_part_1 (by decide) (fun c_1 => ?_) (fun c_1 => ?_)
  · have h := h.1 c_1
    refine lv_aload_n hx hb dX3_part_11 rfl (lv_at hl 0 rfl) ?_
    refine pd_getR C hW i hX 1 (by decide) mF_X3_17 rfl dX3_part_12 ?_
    exact pd_iret C hA hW h dX3_part_15
  · have h := h.2 c_1
    refine lv_aload_n hx hb dX3_part_4 rfl (lv_at hl 0 rfl) ?_
    refine pd_getR C hW i hX 0 (by decide) mF_X3_13 rfl dX3_part_5 ?_
    refine lv_goto (tgt := 15) hx hb dX3_part_8 (by decide) ?_
    exact pd_iret C hA hW h dX3_part_15
theorem dd_X3_part : yX3_part.cls ≠ "java/lang/invoke/MethodHandle" ∧ yX3_part.cls ≠ "java/lang/invoke/VarHandle" ∧ (parseMethodDescriptor yX3_part.desc).map (fun d => d.parameters.length) = some 1 := by decide +kernel
abbrev rX3_init : Room := { frames := 1, cells := 0, slots := 0, locals := 25 }
def wX3_init (Q : Int32 → Int32 → pd_M → Prop) (a1 a2 : Int32) (M : pd_M) : Prop := ((a1 ≤ 0 → (((0 : Int32) ≤ 0 → (((0 : Int32) ≤ 0 → Q 0 1 M) ∧ (¬ (0 : Int32) ≤ 0 → ¬ (0 : Int32) = 0 ∧ Q 0 (a2 / 0) M))) ∧ (¬ (0 : Int32) ≤ 0 → ¬ (0 : Int32) = 0 ∧ (((0 : Int32) ≤ 0 → Q (a1 / 0) 1 M) ∧ (¬ (0 : Int32) ≤ 0 → ¬ (0 : Int32) = 0 ∧ Q (a1 / 0) (a2 / 0) M))))) ∧ (¬ a1 ≤ 0 → ((a2 ≤ 0 → (((0 : Int32) ≤ 0 → (((0 : Int32) ≤ 0 → Q 0 1 M) ∧ (¬ (0 : Int32) ≤ 0 → ¬ (0 : Int32) = 0 ∧ Q 0 (a2 / 0) M))) ∧ (¬ (0 : Int32) ≤ 0 → ¬ (0 : Int32) = 0 ∧ (((0 : Int32) ≤ 0 → Q (a1 / 0) 1 M) ∧ (¬ (0 : Int32) ≤ 0 → ¬ (0 : Int32) = 0 ∧ Q (a1 / 0) (a2 / 0) M))))) ∧ (¬ a2 ≤ 0 → wX3_commonDivisor (fun r_10 M_9 => ((r_10 ≤ 0 → ((r_10 ≤ 0 → Q 0 1 M_9) ∧ (¬ r_10 ≤ 0 → ¬ r_10 = 0 ∧ Q 0 (a2 / r_10) M_9))) ∧ (¬ r_10 ≤ 0 → ¬ r_10 = 0 ∧ ((r_10 ≤ 0 → Q (a1 / r_10) 1 M_9) ∧ (¬ r_10 ≤ 0 → ¬ r_10 = 0 ∧ Q (a1 / r_10) (a2 / r_10) M_9))))) a1 a2 M))))
set_option maxRecDepth 100000 in
set_option maxHeartbeats 4000000 in
theorem mX3_init {l : Launch} {D : va_G} {g : pd_G} {t : Nat} {X : va_W} {Q : Int32 → Int32 → pd_M → Prop} {q : Nat} {a1 a2 : Int32} {M : pd_M} {sz : Nat} (h : wX3_init Q a1 a2 M) : Met l yX3_init (Cond.code yX3_init cX3_init 4 none :: TB) rX3_init (pd_Pre D g t M (X ++ [pd_rc q 0 0]) sz [.ref q, .int a1, .int a2]) (pd_Qn D g M X q sz Q) 0 0 (va_A (pd_WL g M ++ (X ++ [pd_rc q 0 0])) sz) := by
  refine pd_metN (by decide) (Nat.le_of_ble_eq_true rfl) ?_
  intro p e s m below meth c A ls hin C hA hW hl
  have C : pd_C p m c cX3_init 4 s _ RX3 meth none := C
  have hin : meth.name = "<init>" := hin
  have hx := C.1.1
  have hb := C.1.2.1
  have hown := C.1.2.2.2.1
  have hts := C.1.2.2.2.2
  have hl : lv_has ls 4 [(0, .ref q), (1, .int a1), (2, .int a2)] := hl
  refine lv_aload_n hx hb dX3_init_0 rfl (lv_at hl 0 rfl) ?_
  refine pd_objInit C hl.1 mM_X3_1 dX3_init_1 (Nat.le_of_ble_eq_true rfl) (by decide) (by decide) ?_
  refine lv_iload_n hx hb dX3_init_4 rfl (lv_at hl 1 rfl) ?_
  refine lv_if_le (tgt := 20) hx hb dX3_init_5 (by decide) (fun c_1 => ?_) (fun c_1 => ?_)
  · have h := h.1 c_1
    refine lv_iconst (v := 0) hx hb dX3_init_20 (by decide) ?_
    refine lv_istore_n (lv' := [(3, .int 0), (0, .ref q), (1, .int a1), (2, .int a2)]) hx hb dX3_init_21 rfl hl (by decide) rfl (fun ls hl => ?_)
    refine lv_aload_n hx hb dX3_init_22 rfl (lv_at hl 1 rfl) ?_
    refine lv_iload_n hx hb dX3_init_23 rfl (lv_at hl 0 rfl) ?_
    refine lv_if_le (tgt := 33) hx hb dX3_init_24 (by decide) (fun c_2 => ?_) (fun c_2 => ?_)
    · have h := h.1 c_2
      refine lv_iconst (v := 0) hx hb dX3_init_33 (by decide) ?_
      refine pd_putR C hin hW 0 (by decide) mF_X3_13 rfl rfl (by decide +kernel) rfl dX3_init_34 (fun H locs hW => ?_)
      refine lv_aload_n hx hb dX3_init_37 rfl (lv_at hl 1 rfl) ?_
      refine lv_iload_n hx hb dX3_init_38 rfl (lv_at hl 0 rfl) ?_
      refine lv_if_le (tgt := 48) hx hb dX3_init_39 (by decide) (fun c_3 => ?_) (fun c_3 => ?_)
      · have h := h.1 c_3
        refine lv_iconst (v := 1) hx hb dX3_init_48 (by decide) ?_
        refine pd_putR C hin hW 1 (by decide) mF_X3_17 rfl rfl (by decide +kernel) rfl dX3_init_49 (fun H locs hW => ?_)
        exact pd_nret C hA hW h dX3_init_52
      · have h := h.2 c_3
        refine lv_iload_n hx hb dX3_init_42 rfl (lv_at hl 3 rfl) ?_
        refine lv_iload_n hx hb dX3_init_43 rfl (lv_at hl 0 rfl) ?_
        refine lv_idiv hx hb dX3_init_44 h.1 ?_
        have h := h.2
        refine lv_goto (tgt := 49) hx hb dX3_init_45 (by decide) ?_
        refine pd_putR C hin hW 1 (by decide) mF_X3_17 rfl rfl (by decide +kernel) rfl dX3_init_49 (fun H locs hW => ?_)
        exact pd_nret C hA hW h dX3_init_52
    · have h := h.2 c_2
      refine lv_iload_n hx hb dX3_init_27 rfl (lv_at hl 2 rfl) ?_
      refine lv_iload_n hx hb dX3_init_28 rfl (lv_at hl 0 rfl) ?_
      refine lv_idiv hx hb dX3_init_29 h.1 ?_
      have h := h.2
      refine lv_goto (tgt := 34) hx hb dX3_init_30 (by decide) ?_
      refine pd_putR C hin hW 0 (by decide) mF_X3_13 rfl rfl (by decide +kernel) rfl dX3_init_34 (fun H locs hW => ?_)
      refine lv_aload_n hx hb dX3_init_37 rfl (lv_at hl 1 rfl) ?_
      refine lv_iload_n hx hb dX3_init_38 rfl (lv_at hl 0 rfl) ?_
      refine lv_if_le (tgt := 48) hx hb dX3_init_39 (by decide) (fun c_4 => ?_) (fun c_4 => ?_)
      · have h := h.1 c_4
        refine lv_iconst (v := 1) hx hb dX3_init_48 (by decide) ?_
        refine pd_putR C hin hW 1 (by decide) mF_X3_17 rfl rfl (by decide +kernel) rfl dX3_init_49 (fun H locs hW => ?_)
        exact pd_nret C hA hW h dX3_init_52
      · have h := h.2 c_4
        refine lv_iload_n hx hb dX3_init_42 rfl (lv_at hl 3 rfl) ?_
        refine lv_iload_n hx hb dX3_init_43 rfl (lv_at hl 0 rfl) ?_
        refine lv_idiv hx hb dX3_init_44 h.1 ?_
        have h := h.2
        refine lv_goto (tgt := 49) hx hb dX3_init_45 (by decide) ?_
        refine pd_putR C hin hW 1 (by decide) mF_X3_17 rfl rfl (by decide +kernel) rfl dX3_init_49 (fun H locs hW => ?_)
        exact pd_nret C hA hW h dX3_init_52
  · have h := h.2 c_1
    refine lv_iload_n hx hb dX3_init_8 rfl (lv_at hl 2 rfl) ?_
    refine lv_if_le (tgt := 20) hx hb dX3_init_9 (by decide) (fun c_5 => ?_) (fun c_5 => ?_)
    · have h := h.1 c_5
      refine lv_iconst (v := 0) hx hb dX3_init_20 (by decide) ?_
      refine lv_istore_n (lv' := [(3, .int 0), (0, .ref q), (1, .int a1), (2, .int a2)]) hx hb dX3_init_21 rfl hl (by decide) rfl (fun ls hl => ?_)
      refine lv_aload_n hx hb dX3_init_22 rfl (lv_at hl 1 rfl) ?_
      refine lv_iload_n hx hb dX3_init_23 rfl (lv_at hl 0 rfl) ?_
      refine lv_if_le (tgt := 33) hx hb dX3_init_24 (by decide) (fun c_6 => ?_) (fun c_6 => ?_)
      · have h := h.1 c_6
        refine lv_iconst (v := 0) hx hb dX3_init_33 (by decide) ?_
        refine pd_putR C hin hW 0 (by decide) mF_X3_13 rfl rfl (by decide +kernel) rfl dX3_init_34 (fun H locs hW => ?_)
        refine lv_aload_n hx hb dX3_init_37 rfl (lv_at hl 1 rfl) ?_
        refine lv_iload_n hx hb dX3_init_38 rfl (lv_at hl 0 rfl) ?_
        refine lv_if_le (tgt := 48) hx hb dX3_init_39 (by decide) (fun c_7 => ?_) (fun c_7 => ?_)
        · have h := h.1 c_7
          refine lv_iconst (v := 1) hx hb dX3_init_48 (by decide) ?_
          refine pd_putR C hin hW 1 (by decide) mF_X3_17 rfl rfl (by decide +kernel) rfl dX3_init_49 (fun H locs hW => ?_)
          exact pd_nret C hA hW h dX3_init_52
        · have h := h.2 c_7
          refine lv_iload_n hx hb dX3_init_42 rfl (lv_at hl 3 rfl) ?_
          refine lv_iload_n hx hb dX3_init_43 rfl (lv_at hl 0 rfl) ?_
          refine lv_idiv hx hb dX3_init_44 h.1 ?_
          have h := h.2
          refine lv_goto (tgt := 49) hx hb dX3_init_45 (by decide) ?_
          refine pd_putR C hin hW 1 (by decide) mF_X3_17 rfl rfl (by decide +kernel) rfl dX3_init_49 (fun H locs hW => ?_)
          exact pd_nret C hA hW h dX3_init_52
      · have h := h.2 c_6
        refine lv_iload_n hx hb dX3_init_27 rfl (lv_at hl 2 rfl) ?_
        refine lv_iload_n hx hb dX3_init_28 rfl (lv_at hl 0 rfl) ?_
        refine lv_idiv hx hb dX3_init_29 h.1 ?_
        have h := h.2
        refine lv_goto (tgt := 34) hx hb dX3_init_30 (by decide) ?_
        refine pd_putR C hin hW 0 (by decide) mF_X3_13 rfl rfl (by decide +kernel) rfl dX3_init_34 (fun H locs hW => ?_)
        refine lv_aload_n hx hb dX3_init_37 rfl (lv_at hl 1 rfl) ?_
        refine lv_iload_n hx hb dX3_init_38 rfl (lv_at hl 0 rfl) ?_
        refine lv_if_le (tgt := 48) hx hb dX3_init_39 (by decide) (fun c_8 => ?_) (fun c_8 => ?_)
        · have h := h.1 c_8
          refine lv_iconst (v := 1) hx hb dX3_init_48 (by decide) ?_
          refine pd_putR C hin hW 1 (by decide) mF_X3_17 rfl rfl (by decide +kernel) rfl dX3_init_49 (fun H locs hW => ?_)
          exact pd_nret C hA hW h dX3_init_52
        · have h := h.2 c_8
          refine lv_iload_n hx hb dX3_init_42 rfl (lv_at hl 3 rfl) ?_
          refine lv_iload_n hx hb dX3_init_43 rfl (lv_at hl 0 rfl) ?_
          refine lv_idiv hx hb dX3_init_44 h.1 ?_
          have h := h.2
          refine lv_goto (tgt := 49) hx hb dX3_init_45 (by decide) ?_
          refine pd_putR C hin hW 1 (by decide) mF_X3_17 rfl rfl (by decide +kernel) rfl dX3_init_49 (fun H locs hW => ?_)
          exact pd_nret C hA hW h dX3_init_52
    · have h := h.2 c_5
      refine lv_iload_n hx hb dX3_init_12 rfl (lv_at hl 1 rfl) ?_
      refine lv_iload_n hx hb dX3_init_13 rfl (lv_at hl 2 rfl) ?_
      refine cl_X3_7 C hW h ⟨by decide, by decide⟩ ⟨Nat.zero_le _, Nat.zero_le _⟩ hl.1 (Nat.le_of_ble_eq_true rfl) dX3_init_14 (fun r_10 M_9 H locs h hW => ?_)
      refine lv_goto (tgt := 21) hx hb dX3_init_17 (by decide) ?_
      refine lv_istore_n (lv' := [(3, .int r_10), (0, .ref q), (1, .int a1), (2, .int a2)]) hx hb dX3_init_21 rfl hl (by decide) rfl (fun ls hl => ?_)
      refine lv_aload_n hx hb dX3_init_22 rfl (lv_at hl 1 rfl) ?_
      refine lv_iload_n hx hb dX3_init_23 rfl (lv_at hl 0 rfl) ?_
      refine lv_if_le (tgt := 33) hx hb dX3_init_24 (by decide) (fun c_11 => ?_) (fun c_11 => ?_)
      · have h := h.1 c_11
        refine lv_iconst (v := 0) hx hb dX3_init_33 (by decide) ?_
        refine pd_putR C hin hW 0 (by decide) mF_X3_13 rfl rfl (by decide +kernel) rfl dX3_init_34 (fun H locs hW => ?_)
        refine lv_aload_n hx hb dX3_init_37 rfl (lv_at hl 1 rfl) ?_
        refine lv_iload_n hx hb dX3_init_38 rfl (lv_at hl 0 rfl) ?_
        refine lv_if_le (tgt := 48) hx hb dX3_init_39 (by decide) (fun c_12 => ?_) (fun c_12 => ?_)
        · have h := h.1 c_12
          refine lv_iconst (v := 1) hx hb dX3_init_48 (by decide) ?_
          refine pd_putR C hin hW 1 (by decide) mF_X3_17 rfl rfl (by decide +kernel) rfl dX3_init_49 (fun H locs hW => ?_)
          exact pd_nret C hA hW h dX3_init_52
        · have h := h.2 c_12
          refine lv_iload_n hx hb dX3_init_42 rfl (lv_at hl 3 rfl) ?_
          refine lv_iload_n hx hb dX3_init_43 rfl (lv_at hl 0 rfl) ?_
          refine lv_idiv hx hb dX3_init_44 h.1 ?_
          have h := h.2
          refine lv_goto (tgt := 49) hx hb dX3_init_45 (by decide) ?_
          refine pd_putR C hin hW 1 (by decide) mF_X3_17 rfl rfl (by decide +kernel) rfl dX3_init_49 (fun H locs hW => ?_)
          exact pd_nret C hA hW h dX3_init_52
      · have h := h.2 c_11
        refine lv_iload_n hx hb dX3_init_27 rfl (lv_at hl 2 rfl) ?_
        refine lv_iload_n hx hb dX3_init_28 rfl (lv_at hl 0 rfl) ?_
        refine lv_idiv hx hb dX3_init_29 h.1 ?_
        have h := h.2
        refine lv_goto (tgt := 34) hx hb dX3_init_30 (by decide) ?_
        refine pd_putR C hin hW 0 (by decide) mF_X3_13 rfl rfl (by decide +kernel) rfl dX3_init_34 (fun H locs hW => ?_)
        refine lv_aload_n hx hb dX3_init_37 rfl (lv_at hl 1 rfl) ?_
        refine lv_iload_n hx hb dX3_init_38 rfl (lv_at hl 0 rfl) ?_
        refine lv_if_le (tgt := 48) hx hb dX3_init_39 (by decide) (fun c_13 => ?_) (fun c_13 => ?_)
        · have h := h.1 c_13
          refine lv_iconst (v := 1) hx hb dX3_init_48 (by decide) ?_
          refine pd_putR C hin hW 1 (by decide) mF_X3_17 rfl rfl (by decide +kernel) rfl dX3_init_49 (fun H locs hW => ?_)
          exact pd_nret C hA hW h dX3_init_52
        · have h := h.2 c_13
          refine lv_iload_n hx hb dX3_init_42 rfl (lv_at hl 3 rfl) ?_
          refine lv_iload_n hx hb dX3_init_43 rfl (lv_at hl 0 rfl) ?_
          refine lv_idiv hx hb dX3_init_44 h.1 ?_
          have h := h.2
          refine lv_goto (tgt := 49) hx hb dX3_init_45 (by decide) ?_
          refine pd_putR C hin hW 1 (by decide) mF_X3_17 rfl rfl (by decide +kernel) rfl dX3_init_49 (fun H locs hW => ?_)
          exact pd_nret C hA hW h dX3_init_52
abbrev rX6_greatest : Room := { frames := 2, cells := 7, slots := 14, locals := 48 }
def lpX6_greatest_31 (K : Int32 → Int32 → pd_M → Prop) (f2 : Int32) : Nat → Int32 → Int32 → Int32 → pd_M → Prop
  | 0, _, _, _, _ => False
  | n + 1, v3, v4, v5, M => (((M.1 8 0) ≤ v5 → K v3 v4 M) ∧ (¬ (M.1 8 0) ≤ v5 → (vp_in v5 5 ∧ (vp_in f2 5 ∧ (((M.1 23 v5.toNatClampNeg) < (M.1 23 f2.toNatClampNeg) → ∀ x5_10 : Int32, x5_10 = v5 + 1 → lpX6_greatest_31 K f2 n v3 v4 x5_10 M) ∧ (¬ (M.1 23 v5.toNatClampNeg) < (M.1 23 f2.toNatClampNeg) → (vp_in v5 5 ∧ ∀ x3_12 : Int32, x3_12 = (v3 + (M.1 23 v5.toNatClampNeg)) → ∀ x4_13 : Int32, x4_13 = v4 + 1 → ∀ x5_14 : Int32, x5_14 = v5 + 1 → lpX6_greatest_31 K f2 n x3_12 x4_13 x5_14 M)))))))

set_option maxRecDepth 100000 in
set_option maxHeartbeats 4000000 in
theorem stX6_greatest_31 {p : Program} {l : Launch} {e : Env} {s : State} {m : MethodId} {args : Array Value} {below : List Frame} {meth : Method} {c : Code} {D : va_G} {g : pd_G} {t : Nat} {X : va_W} {A : Nat → Prop} {q1 cells slots : Nat} {QQ : State → Prop} (C : pd_C p m c cX6_greatest 6 s args RX6 meth (Option.some (FieldType.object "ParkDesk$Ratio"))) {K : Int32 → Int32 → pd_M → Prop} {f2 : Int32}  (hK : ∀ (p3 : Int32) (p4 : Int32) (M : pd_M) (H : Heap) (locs : List Loc) (ls : Array Slot), pd_W D g t M X A s H locs → lv_has ls 6 [(0, .ref (g.1 59)), (1, .ref q1), (2, .int f2), (3, .int p3), (4, .int p4)] → K p3 p4 M → W p l e rX6_greatest s m args below meth c H locs cells slots QQ (F0 m 87 ls [])) :
    ∀ (n : Nat) (v3 : Int32) (v4 : Int32) (v5 : Int32) (M : pd_M) (H : Heap) (locs : List Loc) (ls : Array Slot), pd_W D g t M X A s H locs → lv_has ls 6 [(0, .ref (g.1 59)), (1, .ref q1), (2, .int f2), (3, .int v3), (4, .int v4), (5, .int v5)] → lpX6_greatest_31 K f2 n v3 v4 v5 M → W p l e rX6_greatest s m args below meth c H locs cells slots QQ (F0 m 31 ls []) := by
  have hx := C.1.1
  have hb := C.1.2.1
  have hown := C.1.2.2.2.1
  have hts := C.1.2.2.2.2
  intro n
  induction n with
  | zero => intro v3 v4 v5 M H locs ls hW hl h; exact h.elim
  | succ n ih =>
    intro v3 v4 v5 M H locs ls hW hl h
    refine lv_iload hx hb dX6_greatest_31 (lv_at hl 5 rfl) ?_
    refine lv_aload_n hx hb dX6_greatest_33 rfl (lv_at hl 0 rfl) ?_
    refine gf_X6_15 C hW dX6_greatest_34 ?_
    refine gf_X6_24 C hW dX6_greatest_37 ?_
    refine lv_icmp_ge (tgt := 87) hx hb dX6_greatest_40 (by decide) (fun c_6 => ?_) (fun c_6 => ?_)
    · have h := h.1 c_6
      exact hK v3 v4 M _ _ _ hW (lv_sub hl [0, 1, 2, 3, 4] rfl) h
    · have h := h.2 c_6
      refine lv_aload_n hx hb dX6_greatest_43 rfl (lv_at hl 0 rfl) ?_
      refine gf_X6_15 C hW dX6_greatest_44 ?_
      refine gf_X6_29 C hW dX6_greatest_47 ?_
      refine lv_iload hx hb dX6_greatest_50 (lv_at hl 5 rfl) ?_
      have hi_7 := h.1
      have h := h.2
      refine pd_iald C hW kd_23 hi_7 dX6_greatest_52 ?_
      refine lv_aload_n hx hb dX6_greatest_53 rfl (lv_at hl 0 rfl) ?_
      refine gf_X6_15 C hW dX6_greatest_54 ?_
      refine gf_X6_29 C hW dX6_greatest_57 ?_
      refine lv_iload_n hx hb dX6_greatest_60 rfl (lv_at hl 2 rfl) ?_
      have hi_8 := h.1
      have h := h.2
      refine pd_iald C hW kd_23 hi_8 dX6_greatest_61 ?_
      refine lv_icmp_lt (tgt := 81) hx hb dX6_greatest_62 (by decide) (fun c_9 => ?_) (fun c_9 => ?_)
      · have h := h.1 c_9
        obtain ⟨x5_10, ex5_10⟩ : ∃ y : Int32, y = v5 + 1 := ⟨_, rfl⟩
        have h := h x5_10 ex5_10
        refine lv_iinc (v := x5_10) (lv' := [(5, .int x5_10), (0, .ref (g.1 59)), (1, .ref q1), (2, .int f2), (3, .int v3), (4, .int v4)]) hx hb dX6_greatest_81 hl (k := 5) rfl (by rw [ex5_10]; rfl) (by decide) rfl (fun ls hl => ?_)
        refine lv_goto (tgt := 31) hx hb dX6_greatest_84 (by decide) ?_
        exact ih v3 v4 x5_10 M _ _ _ hW (lv_sub hl [1, 2, 3, 4, 5, 0] rfl) h
      · have h := h.2 c_9
        refine lv_iload_n hx hb dX6_greatest_65 rfl (lv_at hl 3 rfl) ?_
        refine lv_aload_n hx hb dX6_greatest_66 rfl (lv_at hl 0 rfl) ?_
        refine gf_X6_15 C hW dX6_greatest_67 ?_
        refine gf_X6_29 C hW dX6_greatest_70 ?_
        refine lv_iload hx hb dX6_greatest_73 (lv_at hl 5 rfl) ?_
        have hi_11 := h.1
        have h := h.2
        refine pd_iald C hW kd_23 hi_11 dX6_greatest_75 ?_
        refine lv_iadd hx hb dX6_greatest_76 ?_
        refine lv_topi (fun x3_12 ex3_12 => ?_)
        have h := h x3_12 ex3_12
        refine lv_istore_n (lv' := [(3, .int x3_12), (0, .ref (g.1 59)), (1, .ref q1), (2, .int f2), (4, .int v4), (5, .int v5)]) hx hb dX6_greatest_77 rfl hl (by decide) rfl (fun ls hl => ?_)
        obtain ⟨x4_13, ex4_13⟩ : ∃ y : Int32, y = v4 + 1 := ⟨_, rfl⟩
        have h := h x4_13 ex4_13
        refine lv_iinc (v := x4_13) (lv' := [(4, .int x4_13), (3, .int x3_12), (0, .ref (g.1 59)), (1, .ref q1), (2, .int f2), (5, .int v5)]) hx hb dX6_greatest_78 hl (k := 4) rfl (by rw [ex4_13]; rfl) (by decide) rfl (fun ls hl => ?_)
        obtain ⟨x5_14, ex5_14⟩ : ∃ y : Int32, y = v5 + 1 := ⟨_, rfl⟩
        have h := h x5_14 ex5_14
        refine lv_iinc (v := x5_14) (lv' := [(5, .int x5_14), (4, .int x4_13), (3, .int x3_12), (0, .ref (g.1 59)), (1, .ref q1), (2, .int f2)]) hx hb dX6_greatest_81 hl (k := 5) rfl (by rw [ex5_14]; rfl) (by decide) rfl (fun ls hl => ?_)
        refine lv_goto (tgt := 31) hx hb dX6_greatest_84 (by decide) ?_
        exact ih x3_12 x4_13 x5_14 M _ _ _ hW (lv_sub hl [3, 4, 5, 2, 1, 0] rfl) h

def lpX6_greatest_12 (Q : Int32 → Int32 → pd_M → Prop) : Nat → Int32 → Int32 → Int32 → pd_M → Prop
  | 0, _, _, _, _ => False
  | n + 1, u1, w1, v2, M => (((M.1 8 0) ≤ v2 → Q u1 w1 M) ∧ (¬ (M.1 8 0) ≤ v2 → (∃ k_31 : Nat, lpX6_greatest_31 (fun x3_16 x4_17 M_15 => wX3_isBelow (fun r_18 M_19 => ((r_18 = 0 → ∀ x2_21 : Int32, x2_21 = v2 + 1 → lpX6_greatest_12 Q n u1 w1 x2_21 M_19) ∧ (¬ r_18 = 0 → wX3_init (fun u_23 w_24 M_25 => ∀ x2_26 : Int32, x2_26 = v2 + 1 → lpX6_greatest_12 Q n u_23 w_24 x2_26 M_25) (x3_16 - (M_19.1 59 1)) x4_17 M_19))) u1 w1 (x3_16 - (M_15.1 59 1)) x4_17 M_15) v2 k_31 0 0 0 M)))
set_option maxRecDepth 100000 in
set_option maxHeartbeats 4000000 in
theorem stX6_greatest_12 {p : Program} {l : Launch} {e : Env} {s : State} {m : MethodId} {args : Array Value} {below : List Frame} {meth : Method} {c : Code} {D : va_G} {g : pd_G} {t : Nat} {M0 : pd_M} {A : Nat → Prop} {sz : Nat} {Q : Int32 → Int32 → pd_M → Prop} (C : pd_C p m c cX6_greatest 6 s args RX6 meth (Option.some (FieldType.object "ParkDesk$Ratio"))) (hA : A = va_A (pd_WL g M0 ++ []) sz) :
    ∀ (n : Nat), n ≤ 6 → ∀ (q1 : Nat) (u1 w1 v2 : Int32) (M : pd_M) (H : Heap) (locs : List Loc) (ls : Array Slot), pd_W D g t M [pd_rc q1 u1 w1] A s H locs → lv_has ls 6 [(0, .ref (g.1 59)), (1, .ref q1), (2, .int v2)] → lpX6_greatest_12 Q n u1 w1 v2 M → W p l e rX6_greatest s m args below meth c H locs (7 - n) (14 - 2 * n) (MQ below (pd_Qr D g M0 sz Q) args s 7 14 (va_A (pd_WL g M0 ++ []) sz)) (F0 m 12 ls []) := by
  have hx := C.1.1
  have hb := C.1.2.1
  have hown := C.1.2.2.2.1
  have hts := C.1.2.2.2.2
  intro n
  induction n with
  | zero => intro hn q1 u1 w1 v2 M H locs ls hW hl h; exact h.elim
  | succ n ih =>
    intro hn q1 u1 w1 v2 M H locs ls hW hl h
    refine lv_iload_n hx hb dX6_greatest_12 rfl (lv_at hl 2 rfl) ?_
    refine lv_aload_n hx hb dX6_greatest_13 rfl (lv_at hl 0 rfl) ?_
    refine gf_X6_15 C hW dX6_greatest_14 ?_
    refine gf_X6_24 C hW dX6_greatest_17 ?_
    refine lv_icmp_ge (tgt := 124) hx hb dX6_greatest_20 (by decide) (fun c_5 => ?_) (fun c_5 => ?_)
    · have h := h.1 c_5
      refine lv_aload_n hx hb dX6_greatest_124 rfl (lv_at hl 1 rfl) ?_
      refine W.widen (k := 7) (n := 14) (by omega) (by omega) ?_
      exact pd_aret C hA hW h dX6_greatest_125
    · have h := h.2 c_5
      refine lv_iconst (v := 0) hx hb dX6_greatest_23 (by decide) ?_
      refine lv_istore_n (lv' := [(3, .int 0), (0, .ref (g.1 59)), (1, .ref q1), (2, .int v2)]) hx hb dX6_greatest_24 rfl hl (by decide) rfl (fun ls hl => ?_)
      refine lv_iconst (v := 0) hx hb dX6_greatest_25 (by decide) ?_
      refine lv_istore (lv' := [(4, .int 0), (3, .int 0), (0, .ref (g.1 59)), (1, .ref q1), (2, .int v2)]) hx hb dX6_greatest_26 hl (by decide) rfl (fun ls hl => ?_)
      refine lv_iconst (v := 0) hx hb dX6_greatest_28 (by decide) ?_
      refine lv_istore (lv' := [(5, .int 0), (4, .int 0), (3, .int 0), (0, .ref (g.1 59)), (1, .ref q1), (2, .int v2)]) hx hb dX6_greatest_29 hl (by decide) rfl (fun ls hl => ?_)
      obtain ⟨k_31, h⟩ := h
      refine stX6_greatest_31 C (fun x3_16 x4_17 M_15 H locs ls hW hl h => ?_) k_31 0 0 0 M _ _ _ hW (lv_sub hl [3, 4, 5, 2, 1, 0] rfl) h
      refine lv_aload_n hx hb dX6_greatest_87 rfl (lv_at hl 1 rfl) ?_
      refine lv_iload_n hx hb dX6_greatest_88 rfl (lv_at hl 3 rfl) ?_
      refine lv_aload_n hx hb dX6_greatest_89 rfl (lv_at hl 0 rfl) ?_
      refine gf_X6_9 C hW dX6_greatest_90 ?_
      refine lv_isub hx hb dX6_greatest_93 ?_
      refine lv_iload hx hb dX6_greatest_94 (lv_at hl 4 rfl) ?_
      refine pd_callRi (X := [pd_rc q1 u1 w1]) (As := [.int (x3_16 - (M_15.1 59 1)), .int x4_17]) (i := 0) C hW rfl (mX3_isBelow (i := 0) rfl h) rfl mM_X6_33 mO_yX3_isBelow mV_yX3_isBelow mI_X3 mC_yX3_isBelow dd_X3_isBelow ⟨rfl, rfl⟩ ⟨by decide, by decide⟩ ⟨by show _ ≤ 7; omega, by show _ ≤ 14; omega⟩ hl.1 rfl (Nat.le_of_ble_eq_true rfl) dX6_greatest_96 (fun r_18 M_19 H locs h hW => ?_)
      refine lv_if_eq (tgt := 118) hx hb dX6_greatest_99 (by decide) (fun c_20 => ?_) (fun c_20 => ?_)
      · have h := h.1 c_20
        obtain ⟨x2_21, ex2_21⟩ : ∃ y : Int32, y = v2 + 1 := ⟨_, rfl⟩
        have h := h x2_21 ex2_21
        refine lv_iinc (v := x2_21) (lv' := [(2, .int x2_21), (0, .ref (g.1 59)), (1, .ref q1), (3, .int x3_16), (4, .int x4_17)]) hx hb dX6_greatest_118 hl (k := 2) rfl (by rw [ex2_21]; rfl) (by decide) rfl (fun ls hl => ?_)
        refine lv_goto (tgt := 12) hx hb dX6_greatest_121 (by decide) ?_
        refine W.widen (k := 7 - n) (n := 14 - 2 * n) (by omega) (by omega) ?_
        exact ih (by omega) q1 u1 w1 x2_21 M_19 _ _ _ hW (lv_sub hl [1, 2, 0] rfl) h
      · have h := h.2 c_20
        refine pd_newR C hW mK_X6_19 (by show _ ≤ 7; omega) (by show _ ≤ 14; omega) dX6_greatest_102 (fun q_22 H hW => ?_)
        refine lv_dup hx hb dX6_greatest_105 rfl ?_
        refine lv_iload_n hx hb dX6_greatest_106 rfl (lv_at hl 3 rfl) ?_
        refine lv_aload_n hx hb dX6_greatest_107 rfl (lv_at hl 0 rfl) ?_
        refine gf_X6_9 C hW dX6_greatest_108 ?_
        refine lv_isub hx hb dX6_greatest_111 ?_
        refine lv_iload hx hb dX6_greatest_112 (lv_at hl 4 rfl) ?_
        refine pd_callN (X := [pd_rc q1 u1 w1]) C hW (mX3_init h) mM_X6_21 mC_yX3_init ⟨rfl, rfl⟩ ⟨by decide, by decide⟩ ⟨by show _ ≤ 7; omega, by show _ ≤ 14; omega⟩ hl.1 (Nat.le_of_ble_eq_true rfl) dX6_greatest_114 (fun u_23 w_24 M_25 H locs h hW => ?_)
        have hW : pd_W D g t M_25 [pd_rc q1 u1 w1, pd_rc q_22 u_23 w_24] A s H locs := hW
        refine lv_astore_n (lv' := [(1, .ref q_22), (0, .ref (g.1 59)), (2, .int v2), (3, .int x3_16), (4, .int x4_17)]) hx hb dX6_greatest_117 rfl hl (by decide) rfl (fun ls hl => ?_)
        have hW := pd_drop hW
        obtain ⟨x2_26, ex2_26⟩ : ∃ y : Int32, y = v2 + 1 := ⟨_, rfl⟩
        have h := h x2_26 ex2_26
        refine lv_iinc (v := x2_26) (lv' := [(2, .int x2_26), (1, .ref q_22), (0, .ref (g.1 59)), (3, .int x3_16), (4, .int x4_17)]) hx hb dX6_greatest_118 hl (k := 2) rfl (by rw [ex2_26]; rfl) (by decide) rfl (fun ls hl => ?_)
        refine lv_goto (tgt := 12) hx hb dX6_greatest_121 (by decide) ?_
        refine W.widen (k := 7 - n) (n := 14 - 2 * n) (by omega) (by omega) ?_
        exact ih (by omega) q_22 u_23 w_24 x2_26 M_25 _ _ _ hW (lv_sub hl [2, 1, 0] rfl) h
def wX6_greatest (Q : Int32 → Int32 → pd_M → Prop) (M : pd_M) : Prop := wX3_init (fun u_2 w_3 M_4 => (∃ k_12 : Nat, k_12 ≤ 6 ∧ lpX6_greatest_12 Q k_12 u_2 w_3 0 M_4)) 0 1 M
set_option maxRecDepth 100000 in
set_option maxHeartbeats 4000000 in
theorem mX6_greatest {l : Launch} {D : va_G} {g : pd_G} {t : Nat} {Q : Int32 → Int32 → pd_M → Prop} {M : pd_M} {sz : Nat} (h : wX6_greatest Q M) : Met l yX6_greatest (Cond.code yX6_greatest cX6_greatest 6 (Option.some (FieldType.object "ParkDesk$Ratio")) :: TB) rX6_greatest (pd_Pre D g t M [] sz [.ref (g.1 59)]) (pd_Qr D g M sz Q) 7 14 (va_A (pd_WL g M ++ []) sz) := by
  refine pd_met (by decide) (Nat.le_of_ble_eq_true rfl) ?_
  intro p e s m below meth c A ls C hA hW hl
  have C : pd_C p m c cX6_greatest 6 s _ RX6 meth (Option.some (FieldType.object "ParkDesk$Ratio")) := C
  have hx := C.1.1
  have hb := C.1.2.1
  have hown := C.1.2.2.2.1
  have hts := C.1.2.2.2.2
  have hl : lv_has ls 6 [(0, .ref (g.1 59))] := hl
  refine pd_newR C hW mK_X6_19 (by decide) (by decide) dX6_greatest_0 (fun q_1 H hW => ?_)
  refine lv_dup hx hb dX6_greatest_3 rfl ?_
  refine lv_iconst (v := 0) hx hb dX6_greatest_4 (by decide) ?_
  refine lv_iconst (v := 1) hx hb dX6_greatest_5 (by decide) ?_
  refine pd_callN (X := []) C hW (mX3_init h) mM_X6_21 mC_yX3_init ⟨rfl, rfl⟩ ⟨by decide, by decide⟩ ⟨by decide, by decide⟩ hl.1 (Nat.le_of_ble_eq_true rfl) dX6_greatest_6 (fun u_2 w_3 M_4 H locs h hW => ?_)
  have hW : pd_W D g t M_4 [pd_rc q_1 u_2 w_3] A s H locs := hW
  refine lv_astore_n (lv' := [(1, .ref q_1), (0, .ref (g.1 59))]) hx hb dX6_greatest_9 rfl hl (by decide) rfl (fun ls hl => ?_)
  refine lv_iconst (v := 0) hx hb dX6_greatest_10 (by decide) ?_
  refine lv_istore_n (lv' := [(2, .int 0), (1, .ref q_1), (0, .ref (g.1 59))]) hx hb dX6_greatest_11 rfl hl (by decide) rfl (fun ls hl => ?_)
  obtain ⟨k_12, hk_12, h⟩ := h
  refine W.widen (k := 7 - k_12) (n := 14 - 2 * k_12) (by omega) (by omega) ?_
  exact stX6_greatest_12 C hA k_12 hk_12 q_1 u_2 w_3 0 M_4 _ _ _ hW (lv_sub hl [2, 1, 0] rfl) h
theorem dd_X6_greatest : yX6_greatest.cls ≠ "java/lang/invoke/MethodHandle" ∧ yX6_greatest.cls ≠ "java/lang/invoke/VarHandle" ∧ (parseMethodDescriptor yX6_greatest.desc).map (fun d => d.parameters.length) = some 0 := by decide +kernel
abbrev rX6_chance : Room := { frames := 3, cells := 8, slots := 16, locals := 73 }
def wX6_chance (Q : Int32 → Int32 → pd_M → Prop) (a1 : Int32) (M : pd_M) : Prop := wX6_greatest (fun u_2 w_3 M_4 => (vp_in a1 5 ∧ wX3_init (fun u_7 w_8 M_9 => Q u_7 w_8 M_9) (((M_4.1 23 a1.toNatClampNeg) * w_3) - u_2) (w_3 * (M_4.1 59 1)) M_4)) M
set_option maxRecDepth 100000 in
set_option maxHeartbeats 4000000 in
theorem mX6_chance {l : Launch} {D : va_G} {g : pd_G} {t : Nat} {Q : Int32 → Int32 → pd_M → Prop} {a1 : Int32} {M : pd_M} {sz : Nat} (h : wX6_chance Q a1 M) : Met l yX6_chance (Cond.code yX6_chance cX6_chance 3 (Option.some (FieldType.object "ParkDesk$Ratio")) :: TB) rX6_chance (pd_Pre D g t M [] sz [.ref (g.1 59), .int a1]) (pd_Qr D g M sz Q) 8 16 (va_A (pd_WL g M ++ []) sz) := by
  refine pd_met (by decide) (Nat.le_of_ble_eq_true rfl) ?_
  intro p e s m below meth c A ls C hA hW hl
  have C : pd_C p m c cX6_chance 3 s _ RX6 meth (Option.some (FieldType.object "ParkDesk$Ratio")) := C
  have hx := C.1.1
  have hb := C.1.2.1
  have hown := C.1.2.2.2.1
  have hts := C.1.2.2.2.2
  have hl : lv_has ls 3 [(0, .ref (g.1 59)), (1, .int a1)] := hl
  refine lv_aload_n hx hb dX6_chance_0 rfl (lv_at hl 0 rfl) ?_
  refine pd_callQ (As := []) C hW (mX6_greatest h) kd_59 rfl mM_X6_37 mO_yX6_greatest mV_yX6_greatest mI_X6 mC_yX6_greatest dd_X6_greatest ⟨rfl, rfl⟩ ⟨by decide, by decide⟩ ⟨by decide, by decide⟩ hl.1 rfl (Nat.le_of_ble_eq_true rfl) dX6_chance_1 (fun q_1 u_2 w_3 M_4 H locs h hW => ?_)
  refine lv_astore_n (lv' := [(2, .ref q_1), (0, .ref (g.1 59)), (1, .int a1)]) hx hb dX6_chance_4 rfl hl (by decide) rfl (fun ls hl => ?_)
  refine pd_newR C hW mK_X6_19 (by decide) (by decide) dX6_chance_5 (fun q_5 H hW => ?_)
  refine lv_dup hx hb dX6_chance_8 rfl ?_
  refine lv_aload_n hx hb dX6_chance_9 rfl (lv_at hl 1 rfl) ?_
  refine gf_X6_15 C hW dX6_chance_10 ?_
  refine gf_X6_29 C hW dX6_chance_13 ?_
  refine lv_iload_n hx hb dX6_chance_16 rfl (lv_at hl 2 rfl) ?_
  have hi_6 := h.1
  have h := h.2
  refine pd_iald C hW kd_23 hi_6 dX6_chance_17 ?_
  refine lv_aload_n hx hb dX6_chance_18 rfl (lv_at hl 0 rfl) ?_
  refine pd_getR (X := [pd_rc q_1 u_2 w_3, pd_rc q_5 0 0]) C hW 0 rfl 1 (by decide) mF_X6_41 rfl dX6_chance_19 ?_
  refine lv_imul hx hb dX6_chance_22 ?_
  refine lv_aload_n hx hb dX6_chance_23 rfl (lv_at hl 0 rfl) ?_
  refine pd_getR (X := [pd_rc q_1 u_2 w_3, pd_rc q_5 0 0]) C hW 0 rfl 0 (by decide) mF_X6_44 rfl dX6_chance_24 ?_
  refine lv_isub hx hb dX6_chance_27 ?_
  refine lv_aload_n hx hb dX6_chance_28 rfl (lv_at hl 0 rfl) ?_
  refine pd_getR (X := [pd_rc q_1 u_2 w_3, pd_rc q_5 0 0]) C hW 0 rfl 1 (by decide) mF_X6_41 rfl dX6_chance_29 ?_
  refine lv_aload_n hx hb dX6_chance_32 rfl (lv_at hl 1 rfl) ?_
  refine gf_X6_9 C hW dX6_chance_33 ?_
  refine lv_imul hx hb dX6_chance_36 ?_
  refine pd_callN (X := [pd_rc q_1 u_2 w_3]) C hW (mX3_init h) mM_X6_21 mC_yX3_init ⟨rfl, rfl⟩ ⟨by decide, by decide⟩ ⟨by decide, by decide⟩ hl.1 (Nat.le_of_ble_eq_true rfl) dX6_chance_37 (fun u_7 w_8 M_9 H locs h hW => ?_)
  have hW : pd_W D g t M_9 [pd_rc q_1 u_2 w_3, pd_rc q_5 u_7 w_8] A s H locs := hW
  have hW := pd_drop hW
  exact pd_aret C hA hW h dX6_chance_40
theorem dd_X6_chance : yX6_chance.cls ≠ "java/lang/invoke/MethodHandle" ∧ yX6_chance.cls ≠ "java/lang/invoke/VarHandle" ∧ (parseMethodDescriptor yX6_chance.desc).map (fun d => d.parameters.length) = some 1 := by decide +kernel
abbrev rX8_turn : Room := { frames := 4, cells := 8, slots := 16, locals := 95 }
def wX8_turn (Q : Int32 → pd_M → Prop) (a1 a2 : Int32) (M : pd_M) : Prop := wX8_isStreet (fun r_2 M_1 => ((r_2 = 0 → Q (-1) M_1) ∧ (¬ r_2 = 0 → wX8_isUpTo (fun r_5 M_4 => ((¬ r_5 = 0 → wX6_chance (fun u_8 w_9 M_10 => wX3_part (fun r_11 M_12 => Q r_11 M_12) u_8 w_9 a2 M_10) a1 M_4) ∧ (r_5 = 0 → Q (-1) M_4))) a2 1 M_1))) a1 M
set_option maxRecDepth 100000 in
set_option maxHeartbeats 4000000 in
theorem mX8_turn {l : Launch} {D : va_G} {g : pd_G} {t : Nat} {Q : Int32 → pd_M → Prop} {a1 a2 : Int32} {M : pd_M} {sz : Nat} (h : wX8_turn Q a1 a2 M) : Met l yX8_turn (Cond.code yX8_turn cX8_turn 3 (Option.some FieldType.int) :: TB) rX8_turn (pd_Pre D g t M [] sz [.ref (g.1 0), .int a1, .int a2]) (pd_Qi D g M [] sz Q) 8 16 (va_A (pd_WL g M ++ []) sz) := by
  refine pd_met (by decide) (Nat.le_of_ble_eq_true rfl) ?_
  intro p e s m below meth c A ls C hA hW hl
  have C : pd_C p m c cX8_turn 3 s _ RX8 meth (Option.some FieldType.int) := C
  have hx := C.1.1
  have hb := C.1.2.1
  have hown := C.1.2.2.2.1
  have hts := C.1.2.2.2.2
  have hl : lv_has ls 3 [(0, .ref (g.1 0)), (1, .int a1), (2, .int a2)] := hl
  refine lv_aload_n hx hb dX8_turn_0 rfl (lv_at hl 0 rfl) ?_
  refine lv_iload_n hx hb dX8_turn_1 rfl (lv_at hl 1 rfl) ?_
  refine cl_X8_69 C hW h ⟨by decide, by decide⟩ ⟨Nat.zero_le _, Nat.zero_le _⟩ hl.1 (Nat.le_of_ble_eq_true rfl) dX8_turn_2 (fun r_2 M_1 H locs h hW => ?_)
  refine lv_if_eq (tgt := 16) hx hb dX8_turn_5 (by decide) (fun c_3 => ?_) (fun c_3 => ?_)
  · have h := h.1 c_3
    refine lv_iconst (v := (-1)) hx hb dX8_turn_16 (by decide) ?_
    have hW := pd_drop0 hW
    refine W.widen (k := 8) (n := 16) (by omega) (by omega) ?_
    exact pd_iret C hA hW h dX8_turn_17
  · have h := h.2 c_3
    refine lv_iload_n hx hb dX8_turn_8 rfl (lv_at hl 2 rfl) ?_
    refine lv_iconst (v := 1) hx hb dX8_turn_9 (by decide) ?_
    refine cl_X8_61 C hW h ⟨by decide, by decide⟩ ⟨Nat.zero_le _, Nat.zero_le _⟩ hl.1 (Nat.le_of_ble_eq_true rfl) dX8_turn_10 (fun r_5 M_4 H locs h hW => ?_)
    refine lv_if_ne (tgt := 18) hx hb dX8_turn_13 (by decide) (fun c_6 => ?_) (fun c_6 => ?_)
    · have h := h.1 c_6
      refine lv_aload_n hx hb dX8_turn_18 rfl (lv_at hl 0 rfl) ?_
      refine gf_X8_46 C hW dX8_turn_19 ?_
      refine lv_iload_n hx hb dX8_turn_22 rfl (lv_at hl 1 rfl) ?_
      refine pd_callQ (As := [.int a1]) C hW (mX6_chance h) kd_59 rfl mM_X8_151 mO_yX6_chance mV_yX6_chance mI_X6 mC_yX6_chance dd_X6_chance ⟨rfl, rfl⟩ ⟨by decide, by decide⟩ ⟨by decide, by decide⟩ hl.1 rfl (Nat.le_of_ble_eq_true rfl) dX8_turn_23 (fun q_7 u_8 w_9 M_10 H locs h hW => ?_)
      refine lv_iload_n hx hb dX8_turn_26 rfl (lv_at hl 2 rfl) ?_
      refine pd_callRi (X := [pd_rc q_7 u_8 w_9]) (As := [.int a2]) (i := 0) C hW rfl (mX3_part (i := 0) rfl h) rfl mM_X8_155 mO_yX3_part mV_yX3_part mI_X3 mC_yX3_part dd_X3_part ⟨rfl, rfl⟩ ⟨by decide, by decide⟩ ⟨by decide, by decide⟩ hl.1 rfl (Nat.le_of_ble_eq_true rfl) dX8_turn_27 (fun r_11 M_12 H locs h hW => ?_)
      have hW := pd_drop0 hW
      refine W.widen (k := 8) (n := 16) (by omega) (by omega) ?_
      exact pd_iret C hA hW h dX8_turn_30
    · have h := h.2 c_6
      refine lv_iconst (v := (-1)) hx hb dX8_turn_16 (by decide) ?_
      have hW := pd_drop0 hW
      refine W.widen (k := 8) (n := 16) (by omega) (by omega) ?_
      exact pd_iret C hA hW h dX8_turn_17
theorem dd_X8_turn : yX8_turn.cls ≠ "java/lang/invoke/MethodHandle" ∧ yX8_turn.cls ≠ "java/lang/invoke/VarHandle" ∧ (parseMethodDescriptor yX8_turn.desc).map (fun d => d.parameters.length) = some 2 := by decide +kernel
abbrev rX8_stake : Room := { frames := 3, cells := 8, slots := 16, locals := 73 }
def wX8_stake (Q : Int32 → pd_M → Prop) (a1 : Int32) (M : pd_M) : Prop := wX8_isUpTo (fun r_2 M_1 => ((r_2 = 0 → Q (-1) M_1) ∧ (¬ r_2 = 0 → wX6_greatest (fun u_5 w_6 M_7 => wX3_part (fun r_8 M_9 => Q r_8 M_9) u_5 w_6 a1 M_7) M_1))) a1 1 M
set_option maxRecDepth 100000 in
set_option maxHeartbeats 4000000 in
theorem mX8_stake {l : Launch} {D : va_G} {g : pd_G} {t : Nat} {Q : Int32 → pd_M → Prop} {a1 : Int32} {M : pd_M} {sz : Nat} (h : wX8_stake Q a1 M) : Met l yX8_stake (Cond.code yX8_stake cX8_stake 2 (Option.some FieldType.int) :: TB) rX8_stake (pd_Pre D g t M [] sz [.ref (g.1 0), .int a1]) (pd_Qi D g M [] sz Q) 8 16 (va_A (pd_WL g M ++ []) sz) := by
  refine pd_met (by decide) (Nat.le_of_ble_eq_true rfl) ?_
  intro p e s m below meth c A ls C hA hW hl
  have C : pd_C p m c cX8_stake 2 s _ RX8 meth (Option.some FieldType.int) := C
  have hx := C.1.1
  have hb := C.1.2.1
  have hown := C.1.2.2.2.1
  have hts := C.1.2.2.2.2
  have hl : lv_has ls 2 [(0, .ref (g.1 0)), (1, .int a1)] := hl
  refine lv_iload_n hx hb dX8_stake_0 rfl (lv_at hl 1 rfl) ?_
  refine lv_iconst (v := 1) hx hb dX8_stake_1 (by decide) ?_
  refine cl_X8_61 C hW h ⟨by decide, by decide⟩ ⟨Nat.zero_le _, Nat.zero_le _⟩ hl.1 (Nat.le_of_ble_eq_true rfl) dX8_stake_2 (fun r_2 M_1 H locs h hW => ?_)
  refine lv_if_eq (tgt := 22) hx hb dX8_stake_5 (by decide) (fun c_3 => ?_) (fun c_3 => ?_)
  · have h := h.1 c_3
    refine lv_iconst (v := (-1)) hx hb dX8_stake_22 (by decide) ?_
    have hW := pd_drop0 hW
    refine W.widen (k := 8) (n := 16) (by omega) (by omega) ?_
    exact pd_iret C hA hW h dX8_stake_23
  · have h := h.2 c_3
    refine lv_aload_n hx hb dX8_stake_8 rfl (lv_at hl 0 rfl) ?_
    refine gf_X8_46 C hW dX8_stake_9 ?_
    refine pd_callQ (As := []) C hW (mX6_greatest h) kd_59 rfl mM_X8_160 mO_yX6_greatest mV_yX6_greatest mI_X6 mC_yX6_greatest dd_X6_greatest ⟨rfl, rfl⟩ ⟨by decide, by decide⟩ ⟨by decide, by decide⟩ hl.1 rfl (Nat.le_of_ble_eq_true rfl) dX8_stake_12 (fun q_4 u_5 w_6 M_7 H locs h hW => ?_)
    refine lv_iload_n hx hb dX8_stake_15 rfl (lv_at hl 1 rfl) ?_
    refine pd_callRi (X := [pd_rc q_4 u_5 w_6]) (As := [.int a1]) (i := 0) C hW rfl (mX3_part (i := 0) rfl h) rfl mM_X8_155 mO_yX3_part mV_yX3_part mI_X3 mC_yX3_part dd_X3_part ⟨rfl, rfl⟩ ⟨by decide, by decide⟩ ⟨by decide, by decide⟩ hl.1 rfl (Nat.le_of_ble_eq_true rfl) dX8_stake_16 (fun r_8 M_9 H locs h hW => ?_)
    refine lv_goto (tgt := 23) hx hb dX8_stake_19 (by decide) ?_
    have hW := pd_drop0 hW
    refine W.widen (k := 8) (n := 16) (by omega) (by omega) ?_
    exact pd_iret C hA hW h dX8_stake_23
theorem dd_X8_stake : yX8_stake.cls ≠ "java/lang/invoke/MethodHandle" ∧ yX8_stake.cls ≠ "java/lang/invoke/VarHandle" ∧ (parseMethodDescriptor yX8_stake.desc).map (fun d => d.parameters.length) = some 1 := by decide +kernel
