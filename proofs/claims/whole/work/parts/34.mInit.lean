abbrev rX7_init : Room := { frames := 1, cells := 6, slots := 20, locals := 20 }

def wX7_init (Q : pd_M → Prop) (M : pd_M) : Prop := Q M
set_option maxRecDepth 100000 in
set_option maxHeartbeats 4000000 in
theorem mX7_init {l : Launch} {D : va_G} {h0 : Nat} {cy : Nat → ClassId} {F : Nat → List Value} {Q : pd_M → Prop} {M : pd_M} (h : wX7_init Q M) : Met l yX7_init (Cond.code yX7_init cX7_init 1 none :: TB) rX7_init (pc_Pre D h0 cy (va_up F 1 [.null, .null]) M 2 [.ref (h0 + 1)]) (pc_Qv D h0 cy (va_up F 1 [.ref (h0 + 2), .ref (h0 + 3)]) 8 Q) 6 20 (pc_A h0) := by
  refine pc_met (by decide) (Nat.le_of_ble_eq_true rfl) ?_
  intro p e s m below meth c A ls hin C hA hW hl
  have C : pd_C p m c cX7_init 1 s _ RX7 meth none := C
  have hin : meth.name = "<init>" := hin
  have hx := C.1.1
  have hb := C.1.2.1
  have hown := C.1.2.2.2.1
  have hts := C.1.2.2.2.2
  have hl : lv_has ls 1 [(0, .ref (h0 + 1))] := hl
  refine lv_aload_n hx hb dX7_init_0 rfl (lv_at hl 0 rfl) ?_
  refine pd_objInit C hl.1 mM_X7_3 dX7_init_1 (Nat.le_of_ble_eq_true rfl) (by decide) (by decide) ?_
  refine lv_aload_n hx hb dX7_init_4 rfl (lv_at hl 0 rfl) ?_
  refine lv_iconst (v := 4) hx hb dX7_init_5 (by decide) ?_
  refine pc_newaI C hW kd_2 (by decide) (by decide) (by decide) (by decide) (by decide) dX7_init_6 (fun H hW => ?_)
  have hW : pc_W D h0 cy (va_up F 1 [.null, .null]) M 3 A s H _ := hW
  refine pc_put (ty := .array .int) (F' := (va_up F 1 [.ref (h0 + 2), .null])) (vs := [.null, .null]) (vs' := [.ref (h0 + 2), .null]) C hin hW kd_1 (by decide) rfl inX7 tyX7_ok nmX7 0 (by decide) mF_X7_9 rfl (by decide +kernel) rfl rfl rfl rfl rfl (Nat.le_of_ble_eq_true rfl) (fun i hi => by simp [va_up, hi]) dX7_init_8 (fun H locs hW => ?_)
  refine lv_aload_n hx hb dX7_init_11 rfl (lv_at hl 0 rfl) ?_
  refine lv_iconst (v := 4) hx hb dX7_init_12 (by decide) ?_
  refine lv_iconst (v := 3) hx hb dX7_init_13 (by decide) ?_
  refine pc_mnaI C hW kd_3 pd_k4 (by decide) (by decide) (by decide) (by decide) (by decide) (by decide) mK_X7_15 (by decide) (by decide) dX7_init_14 (fun H locs hW => ?_)
  have hW : pc_W D h0 cy (va_up F 1 [.ref (h0 + 2), .null]) M 8 A s H _ := hW
  refine pc_put (ty := .array (.array .int)) (F' := (va_up F 1 [.ref (h0 + 2), .ref (h0 + 3)])) (vs := [.ref (h0 + 2), .null]) (vs' := [.ref (h0 + 2), .ref (h0 + 3)]) C hin hW kd_1 (by decide) rfl inX7 tyX7_ok nmX7 1 (by decide) mF_X7_17 rfl (by decide +kernel) rfl rfl rfl rfl rfl (Nat.le_of_ble_eq_true rfl) (fun i hi => by simp [va_up, hi]) dX7_init_18 (fun H locs hW => ?_)
  exact pc_vret C hA hW h dX7_init_21
theorem dd_X7_init : yX7_init.cls ≠ "java/lang/invoke/MethodHandle" ∧ yX7_init.cls ≠ "java/lang/invoke/VarHandle" ∧ (parseMethodDescriptor yX7_init.desc).map (fun d => d.parameters.length) = some 0 := by decide +kernel
abbrev rX4_init : Room := { frames := 1, cells := 15, slots := 85, locals := 20 }
def lpX4_init_60 (K : pd_M → Prop) (f1 : Int32) : Nat → Int32 → pd_M → Prop
  | 0, _, _ => False
  | n + 1, v2, M => ((5 ≤ v2 → K M) ∧ (¬ 5 ≤ v2 → (vp_in f1 5 ∧ ((¬ f1 = v2 → (vp_in v2 5 ∧ ∀ M_6 : pd_M, M_6 = sI M (18 + f1.toNatClampNeg) v2.toNatClampNeg 10 → ∀ x2_7 : Int32, x2_7 = v2 + 1 → lpX4_init_60 K f1 n x2_7 M_6)) ∧ (f1 = v2 → (vp_in v2 5 ∧ ∀ M_9 : pd_M, M_9 = sI M (18 + f1.toNatClampNeg) v2.toNatClampNeg 0 → ∀ x2_10 : Int32, x2_10 = v2 + 1 → lpX4_init_60 K f1 n x2_10 M_9))))))

set_option maxRecDepth 100000 in
set_option maxHeartbeats 4000000 in
theorem stX4_init_60 {p : Program} {l : Launch} {e : Env} {s : State} {m : MethodId} {args : Array Value} {below : List Frame} {meth : Method} {c : Code} {D : va_G} {h0 : Nat} {cy : Nat → ClassId} {F : Nat → List Value} {A : Nat → Prop} {QQ : State → Prop} (C : pd_C p m c cX4_init 3 s args RX4 meth none) (hF : F 8 = [.int 0, .ref (h0 + 9), .ref (h0 + 10), .ref (h0 + 11), .ref (h0 + 17), .ref (h0 + 23)]) {K : pd_M → Prop} {f1 : Int32}  (hK : ∀  (M : pd_M) (H : Heap) (locs : List Loc) (ls : Array Slot), pc_W D h0 cy F M 24 A s H locs → lv_has ls 3 [(0, .ref (h0 + 8)), (1, .int f1)] → K  M → W p l e rX4_init s m args below meth c H locs 15 85 QQ (F0 m 90 ls [])) :
    ∀ (n : Nat) (v2 : Int32) (M : pd_M) (H : Heap) (locs : List Loc) (ls : Array Slot), pc_W D h0 cy F M 24 A s H locs → lv_has ls 3 [(0, .ref (h0 + 8)), (1, .int f1), (2, .int v2)] → lpX4_init_60 K f1 n v2 M → W p l e rX4_init s m args below meth c H locs 15 85 QQ (F0 m 60 ls []) := by
  have hx := C.1.1
  have hb := C.1.2.1
  have hown := C.1.2.2.2.1
  have hts := C.1.2.2.2.2
  intro n
  induction n with
  | zero => intro v2 M H locs ls hW hl h; exact h.elim
  | succ n ih =>
    intro v2 M H locs ls hW hl h
    refine lv_iload_n hx hb dX4_init_60 rfl (lv_at hl 2 rfl) ?_
    refine lv_iconst (v := 5) hx hb dX4_init_61 (by decide) ?_
    refine lv_icmp_ge (tgt := 90) hx hb dX4_init_62 (by decide) (fun c_2 => ?_) (fun c_2 => ?_)
    · have h := h.1 c_2
      exact hK M _ _ _ hW (lv_sub hl [0, 1] rfl) h
    · have h := h.2 c_2
      refine lv_aload_n hx hb dX4_init_65 rfl (lv_at hl 0 rfl) ?_
      refine pc_get (vs := [.int 0, .ref (h0 + 9), .ref (h0 + 10), .ref (h0 + 11), .ref (h0 + 17), .ref (h0 + 23)]) C hW kd_8 (by decide) rfl inX4 4 (by decide) mF_X4_27 hF rfl dX4_init_66 ?_
      refine lv_iload_n hx hb dX4_init_69 rfl (lv_at hl 1 rfl) ?_
      have hi_3 := h.1
      have h := h.2
      refine pc_aald C hW kd_17 (by decide) hi_3 dX4_init_70 ?_
      refine lv_iload_n hx hb dX4_init_71 rfl (lv_at hl 2 rfl) ?_
      refine lv_iload_n hx hb dX4_init_72 rfl (lv_at hl 1 rfl) ?_
      refine lv_iload_n hx hb dX4_init_73 rfl (lv_at hl 2 rfl) ?_
      refine lv_icmp_ne (tgt := 81) hx hb dX4_init_74 (by decide) (fun c_4 => ?_) (fun c_4 => ?_)
      · have h := h.1 c_4
        refine lv_bipush (v := 10) hx hb dX4_init_81 (by decide) ?_
        have hi_5 := h.1
        have h := h.2
        refine pc_iast C hW (pd_k18 _ (pd_lt hi_3)) (Nat.lt_trans (Nat.add_lt_add_left (pd_lt hi_3) 18) (by decide)) hi_5 dX4_init_83 (fun M_6 H locs eM_6 hW => ?_)
        have h := h M_6 eM_6
        obtain ⟨x2_7, ex2_7⟩ : ∃ y : Int32, y = v2 + 1 := ⟨_, rfl⟩
        have h := h x2_7 ex2_7
        refine lv_iinc (v := x2_7) (lv' := [(2, .int x2_7), (0, .ref (h0 + 8)), (1, .int f1)]) hx hb dX4_init_84 hl (k := 2) rfl (by rw [ex2_7]; rfl) (by decide) rfl (fun ls hl => ?_)
        refine lv_goto (tgt := 60) hx hb dX4_init_87 (by decide) ?_
        exact ih x2_7 M_6 _ _ _ hW (lv_sub hl [1, 2, 0] rfl) h
      · have h := h.2 c_4
        refine lv_iconst (v := 0) hx hb dX4_init_77 (by decide) ?_
        refine lv_goto (tgt := 83) hx hb dX4_init_78 (by decide) ?_
        have hi_8 := h.1
        have h := h.2
        refine pc_iast C hW (pd_k18 _ (pd_lt hi_3)) (Nat.lt_trans (Nat.add_lt_add_left (pd_lt hi_3) 18) (by decide)) hi_8 dX4_init_83 (fun M_9 H locs eM_9 hW => ?_)
        have h := h M_9 eM_9
        obtain ⟨x2_10, ex2_10⟩ : ∃ y : Int32, y = v2 + 1 := ⟨_, rfl⟩
        have h := h x2_10 ex2_10
        refine lv_iinc (v := x2_10) (lv' := [(2, .int x2_10), (0, .ref (h0 + 8)), (1, .int f1)]) hx hb dX4_init_84 hl (k := 2) rfl (by rw [ex2_10]; rfl) (by decide) rfl (fun ls hl => ?_)
        refine lv_goto (tgt := 60) hx hb dX4_init_87 (by decide) ?_
        exact ih x2_10 M_9 _ _ _ hW (lv_sub hl [1, 2, 0] rfl) h

def lpX4_init_53 (K : pd_M → Prop) : Nat → Int32 → pd_M → Prop
  | 0, _, _ => False
  | n + 1, v1, M => ((5 ≤ v1 → K M) ∧ (¬ 5 ≤ v1 → (∃ k_60 : Nat, lpX4_init_60 (fun M_11 => ∀ x1_12 : Int32, x1_12 = v1 + 1 → lpX4_init_53 K n x1_12 M_11) v1 k_60 0 M)))

set_option maxRecDepth 100000 in
set_option maxHeartbeats 4000000 in
theorem stX4_init_53 {p : Program} {l : Launch} {e : Env} {s : State} {m : MethodId} {args : Array Value} {below : List Frame} {meth : Method} {c : Code} {D : va_G} {h0 : Nat} {cy : Nat → ClassId} {F : Nat → List Value} {A : Nat → Prop} {QQ : State → Prop} (C : pd_C p m c cX4_init 3 s args RX4 meth none) (hF : F 8 = [.int 0, .ref (h0 + 9), .ref (h0 + 10), .ref (h0 + 11), .ref (h0 + 17), .ref (h0 + 23)]) {K : pd_M → Prop}  (hK : ∀  (M : pd_M) (H : Heap) (locs : List Loc) (ls : Array Slot), pc_W D h0 cy F M 24 A s H locs → lv_has ls 3 [] → K  M → W p l e rX4_init s m args below meth c H locs 15 85 QQ (F0 m 96 ls [])) :
    ∀ (n : Nat) (v1 : Int32) (M : pd_M) (H : Heap) (locs : List Loc) (ls : Array Slot), pc_W D h0 cy F M 24 A s H locs → lv_has ls 3 [(0, .ref (h0 + 8)), (1, .int v1)] → lpX4_init_53 K n v1 M → W p l e rX4_init s m args below meth c H locs 15 85 QQ (F0 m 53 ls []) := by
  have hx := C.1.1
  have hb := C.1.2.1
  have hown := C.1.2.2.2.1
  have hts := C.1.2.2.2.2
  intro n
  induction n with
  | zero => intro v1 M H locs ls hW hl h; exact h.elim
  | succ n ih =>
    intro v1 M H locs ls hW hl h
    refine lv_iload_n hx hb dX4_init_53 rfl (lv_at hl 1 rfl) ?_
    refine lv_iconst (v := 5) hx hb dX4_init_54 (by decide) ?_
    refine lv_icmp_ge (tgt := 96) hx hb dX4_init_55 (by decide) (fun c_1 => ?_) (fun c_1 => ?_)
    · have h := h.1 c_1
      exact hK M _ _ _ hW (lv_sub hl [] rfl) h
    · have h := h.2 c_1
      refine lv_iconst (v := 0) hx hb dX4_init_58 (by decide) ?_
      refine lv_istore_n (lv' := [(2, .int 0), (0, .ref (h0 + 8)), (1, .int v1)]) hx hb dX4_init_59 rfl hl (by decide) rfl (fun ls hl => ?_)
      obtain ⟨k_60, h⟩ := h
      refine stX4_init_60 C hF (fun M_11 H locs ls hW hl h => ?_) k_60 0 M _ _ _ hW (lv_sub hl [1, 2, 0] rfl) h
      obtain ⟨x1_12, ex1_12⟩ : ∃ y : Int32, y = v1 + 1 := ⟨_, rfl⟩
      have h := h x1_12 ex1_12
      refine lv_iinc (v := x1_12) (lv' := [(1, .int x1_12), (0, .ref (h0 + 8))]) hx hb dX4_init_90 hl (k := 1) rfl (by rw [ex1_12]; rfl) (by decide) rfl (fun ls hl => ?_)
      refine lv_goto (tgt := 53) hx hb dX4_init_93 (by decide) ?_
      exact ih x1_12 M_11 _ _ _ hW (lv_sub hl [1, 0] rfl) h

def wX4_init (Q : pd_M → Prop) (M : pd_M) : Prop := (∃ k_53 : Nat, lpX4_init_53 (fun M_13 => Q M_13) k_53 0 M)
set_option maxRecDepth 100000 in
set_option maxHeartbeats 4000000 in
theorem mX4_init {l : Launch} {D : va_G} {h0 : Nat} {cy : Nat → ClassId} {F : Nat → List Value} {Q : pd_M → Prop} {M : pd_M} (h : wX4_init Q M) : Met l yX4_init (Cond.code yX4_init cX4_init 3 none :: TB) rX4_init (pc_Pre D h0 cy (va_up F 8 [.int 0, .null, .null, .null, .null, .null]) M 9 [.ref (h0 + 8)]) (pc_Qv D h0 cy (va_up F 8 [.int 0, .ref (h0 + 9), .ref (h0 + 10), .ref (h0 + 11), .ref (h0 + 17), .ref (h0 + 23)]) 24 Q) 15 85 (pc_A h0) := by
  refine pc_met (by decide) (Nat.le_of_ble_eq_true rfl) ?_
  intro p e s m below meth c A ls hin C hA hW hl
  have C : pd_C p m c cX4_init 3 s _ RX4 meth none := C
  have hin : meth.name = "<init>" := hin
  have hx := C.1.1
  have hb := C.1.2.1
  have hown := C.1.2.2.2.1
  have hts := C.1.2.2.2.2
  have hl : lv_has ls 3 [(0, .ref (h0 + 8))] := hl
  refine lv_aload_n hx hb dX4_init_0 rfl (lv_at hl 0 rfl) ?_
  refine pd_objInit C hl.1 mM_X4_3 dX4_init_1 (Nat.le_of_ble_eq_true rfl) (by decide) (by decide) ?_
  refine lv_aload_n hx hb dX4_init_4 rfl (lv_at hl 0 rfl) ?_
  refine lv_iconst (v := 0) hx hb dX4_init_5 (by decide) ?_
  refine pc_put (ty := .int) (F' := (va_up F 8 [.int 0, .null, .null, .null, .null, .null])) (vs := [.int 0, .null, .null, .null, .null, .null]) (vs' := [.int 0, .null, .null, .null, .null, .null]) C hin hW kd_8 (by decide) rfl inX4 tyX4_ok nmX4 0 (by decide) mF_X4_9 rfl (by decide +kernel) rfl rfl rfl rfl rfl (Nat.le_of_ble_eq_true rfl) (fun i hi => by simp [va_up, hi]) dX4_init_6 (fun H locs hW => ?_)
  refine lv_aload_n hx hb dX4_init_9 rfl (lv_at hl 0 rfl) ?_
  refine lv_iconst (v := 5) hx hb dX4_init_10 (by decide) ?_
  refine pc_newaI C hW kd_9 (by decide) (by decide) (by decide) (by decide) (by decide) dX4_init_11 (fun H hW => ?_)
  have hW : pc_W D h0 cy (va_up F 8 [.int 0, .null, .null, .null, .null, .null]) M 10 A s H _ := hW
  refine pc_put (ty := .array .int) (F' := (va_up F 8 [.int 0, .ref (h0 + 9), .null, .null, .null, .null])) (vs := [.int 0, .null, .null, .null, .null, .null]) (vs' := [.int 0, .ref (h0 + 9), .null, .null, .null, .null]) C hin hW kd_8 (by decide) rfl inX4 tyX4_ok nmX4 1 (by decide) mF_X4_15 rfl (by decide +kernel) rfl rfl rfl rfl rfl (Nat.le_of_ble_eq_true rfl) (fun i hi => by simp [va_up, hi]) dX4_init_13 (fun H locs hW => ?_)
  refine lv_aload_n hx hb dX4_init_16 rfl (lv_at hl 0 rfl) ?_
  refine lv_iconst (v := 5) hx hb dX4_init_17 (by decide) ?_
  refine pc_newaI C hW kd_10 (by decide) (by decide) (by decide) (by decide) (by decide) dX4_init_18 (fun H hW => ?_)
  have hW : pc_W D h0 cy (va_up F 8 [.int 0, .ref (h0 + 9), .null, .null, .null, .null]) M 11 A s H _ := hW
  refine pc_put (ty := .array .int) (F' := (va_up F 8 [.int 0, .ref (h0 + 9), .ref (h0 + 10), .null, .null, .null])) (vs := [.int 0, .ref (h0 + 9), .null, .null, .null, .null]) (vs' := [.int 0, .ref (h0 + 9), .ref (h0 + 10), .null, .null, .null]) C hin hW kd_8 (by decide) rfl inX4 tyX4_ok nmX4 2 (by decide) mF_X4_19 rfl (by decide +kernel) rfl rfl rfl rfl rfl (Nat.le_of_ble_eq_true rfl) (fun i hi => by simp [va_up, hi]) dX4_init_20 (fun H locs hW => ?_)
  refine lv_aload_n hx hb dX4_init_23 rfl (lv_at hl 0 rfl) ?_
  refine lv_iconst (v := 5) hx hb dX4_init_24 (by decide) ?_
  refine lv_bipush (v := 7) hx hb dX4_init_25 (by decide) ?_
  refine pc_mnaI C hW kd_11 pd_k12 (by decide) (by decide) (by decide) (by decide) (by decide) (by decide) mK_X4_22 (by decide) (by decide) dX4_init_27 (fun H locs hW => ?_)
  have hW : pc_W D h0 cy (va_up F 8 [.int 0, .ref (h0 + 9), .ref (h0 + 10), .null, .null, .null]) M 17 A s H _ := hW
  refine pc_put (ty := .array (.array .int)) (F' := (va_up F 8 [.int 0, .ref (h0 + 9), .ref (h0 + 10), .ref (h0 + 11), .null, .null])) (vs := [.int 0, .ref (h0 + 9), .ref (h0 + 10), .null, .null, .null]) (vs' := [.int 0, .ref (h0 + 9), .ref (h0 + 10), .ref (h0 + 11), .null, .null]) C hin hW kd_8 (by decide) rfl inX4 tyX4_ok nmX4 3 (by decide) mF_X4_24 rfl (by decide +kernel) rfl rfl rfl rfl rfl (Nat.le_of_ble_eq_true rfl) (fun i hi => by simp [va_up, hi]) dX4_init_31 (fun H locs hW => ?_)
  refine lv_aload_n hx hb dX4_init_34 rfl (lv_at hl 0 rfl) ?_
  refine lv_iconst (v := 5) hx hb dX4_init_35 (by decide) ?_
  refine lv_iconst (v := 5) hx hb dX4_init_36 (by decide) ?_
  refine pc_mnaI C hW kd_17 pd_k18 (by decide) (by decide) (by decide) (by decide) (by decide) (by decide) mK_X4_22 (by decide) (by decide) dX4_init_37 (fun H locs hW => ?_)
  have hW : pc_W D h0 cy (va_up F 8 [.int 0, .ref (h0 + 9), .ref (h0 + 10), .ref (h0 + 11), .null, .null]) M 23 A s H _ := hW
  refine pc_put (ty := .array (.array .int)) (F' := (va_up F 8 [.int 0, .ref (h0 + 9), .ref (h0 + 10), .ref (h0 + 11), .ref (h0 + 17), .null])) (vs := [.int 0, .ref (h0 + 9), .ref (h0 + 10), .ref (h0 + 11), .null, .null]) (vs' := [.int 0, .ref (h0 + 9), .ref (h0 + 10), .ref (h0 + 11), .ref (h0 + 17), .null]) C hin hW kd_8 (by decide) rfl inX4 tyX4_ok nmX4 4 (by decide) mF_X4_27 rfl (by decide +kernel) rfl rfl rfl rfl rfl (Nat.le_of_ble_eq_true rfl) (fun i hi => by simp [va_up, hi]) dX4_init_41 (fun H locs hW => ?_)
  refine lv_aload_n hx hb dX4_init_44 rfl (lv_at hl 0 rfl) ?_
  refine lv_iconst (v := 5) hx hb dX4_init_45 (by decide) ?_
  refine pc_newaI C hW kd_23 (by decide) (by decide) (by decide) (by decide) (by decide) dX4_init_46 (fun H hW => ?_)
  have hW : pc_W D h0 cy (va_up F 8 [.int 0, .ref (h0 + 9), .ref (h0 + 10), .ref (h0 + 11), .ref (h0 + 17), .null]) M 24 A s H _ := hW
  refine pc_put (ty := .array .int) (F' := (va_up F 8 [.int 0, .ref (h0 + 9), .ref (h0 + 10), .ref (h0 + 11), .ref (h0 + 17), .ref (h0 + 23)])) (vs := [.int 0, .ref (h0 + 9), .ref (h0 + 10), .ref (h0 + 11), .ref (h0 + 17), .null]) (vs' := [.int 0, .ref (h0 + 9), .ref (h0 + 10), .ref (h0 + 11), .ref (h0 + 17), .ref (h0 + 23)]) C hin hW kd_8 (by decide) rfl inX4 tyX4_ok nmX4 5 (by decide) mF_X4_30 rfl (by decide +kernel) rfl rfl rfl rfl rfl (Nat.le_of_ble_eq_true rfl) (fun i hi => by simp [va_up, hi]) dX4_init_48 (fun H locs hW => ?_)
  refine lv_iconst (v := 0) hx hb dX4_init_51 (by decide) ?_
  refine lv_istore_n (lv' := [(1, .int 0), (0, .ref (h0 + 8))]) hx hb dX4_init_52 rfl hl (by decide) rfl (fun ls hl => ?_)
  obtain ⟨k_53, h⟩ := h
  refine stX4_init_53 C rfl (fun M_13 H locs ls hW hl h => ?_) k_53 0 M _ _ _ hW (lv_sub hl [1, 0] rfl) h
  exact pc_vret C hA hW h dX4_init_96
theorem dd_X4_init : yX4_init.cls ≠ "java/lang/invoke/MethodHandle" ∧ yX4_init.cls ≠ "java/lang/invoke/VarHandle" ∧ (parseMethodDescriptor yX4_init.desc).map (fun d => d.parameters.length) = some 0 := by decide +kernel
abbrev rX0_init : Room := { frames := 1, cells := 12, slots := 63, locals := 20 }

def wX0_init (Q : pd_M → Prop) (M : pd_M) : Prop := Q M
set_option maxRecDepth 100000 in
set_option maxHeartbeats 4000000 in
theorem mX0_init {l : Launch} {D : va_G} {h0 : Nat} {cy : Nat → ClassId} {F : Nat → List Value} {Q : pd_M → Prop} {M : pd_M} (h : wX0_init Q M) : Met l yX0_init (Cond.code yX0_init cX0_init 2 none :: TB) rX0_init (pc_Pre D h0 cy (va_up F 24 [.null, .int 0, .null, .null, .null, .null, .null]) M 25 [.ref (h0 + 24), .ref (h0 + 1)]) (pc_Qv D h0 cy (va_up F 24 [.ref (h0 + 1), .int 0, .ref (h0 + 25), .ref (h0 + 26), .ref (h0 + 27), .ref (h0 + 28), .ref (h0 + 36)]) 37 Q) 12 63 (pc_A h0) := by
  refine pc_met (by decide) (Nat.le_of_ble_eq_true rfl) ?_
  intro p e s m below meth c A ls hin C hA hW hl
  have C : pd_C p m c cX0_init 2 s _ RX0 meth none := C
  have hin : meth.name = "<init>" := hin
  have hx := C.1.1
  have hb := C.1.2.1
  have hown := C.1.2.2.2.1
  have hts := C.1.2.2.2.2
  have hl : lv_has ls 2 [(0, .ref (h0 + 24)), (1, .ref (h0 + 1))] := hl
  refine lv_aload_n hx hb dX0_init_0 rfl (lv_at hl 0 rfl) ?_
  refine pd_objInit C hl.1 mM_X0_3 dX0_init_1 (Nat.le_of_ble_eq_true rfl) (by decide) (by decide) ?_
  refine lv_aload_n hx hb dX0_init_4 rfl (lv_at hl 0 rfl) ?_
  refine lv_iconst (v := 0) hx hb dX0_init_5 (by decide) ?_
  refine pc_put (ty := .int) (F' := (va_up F 24 [.null, .int 0, .null, .null, .null, .null, .null])) (vs := [.null, .int 0, .null, .null, .null, .null, .null]) (vs' := [.null, .int 0, .null, .null, .null, .null, .null]) C hin hW kd_24 (by decide) rfl inX0 tyX0_ok nmX0 1 (by decide) mF_X0_9 rfl (by decide +kernel) rfl rfl rfl rfl rfl (Nat.le_of_ble_eq_true rfl) (fun i hi => by simp [va_up, hi]) dX0_init_6 (fun H locs hW => ?_)
  refine lv_aload_n hx hb dX0_init_9 rfl (lv_at hl 0 rfl) ?_
  refine lv_bipush (v := 7) hx hb dX0_init_10 (by decide) ?_
  refine pc_newaI C hW kd_25 (by decide) (by decide) (by decide) (by decide) (by decide) dX0_init_12 (fun H hW => ?_)
  have hW : pc_W D h0 cy (va_up F 24 [.null, .int 0, .null, .null, .null, .null, .null]) M 26 A s H _ := hW
  refine pc_put (ty := .array .int) (F' := (va_up F 24 [.null, .int 0, .ref (h0 + 25), .null, .null, .null, .null])) (vs := [.null, .int 0, .null, .null, .null, .null, .null]) (vs' := [.null, .int 0, .ref (h0 + 25), .null, .null, .null, .null]) C hin hW kd_24 (by decide) rfl inX0 tyX0_ok nmX0 2 (by decide) mF_X0_15 rfl (by decide +kernel) rfl rfl rfl rfl rfl (Nat.le_of_ble_eq_true rfl) (fun i hi => by simp [va_up, hi]) dX0_init_14 (fun H locs hW => ?_)
  refine lv_aload_n hx hb dX0_init_17 rfl (lv_at hl 0 rfl) ?_
  refine lv_bipush (v := 7) hx hb dX0_init_18 (by decide) ?_
  refine pc_newaI C hW kd_26 (by decide) (by decide) (by decide) (by decide) (by decide) dX0_init_20 (fun H hW => ?_)
  have hW : pc_W D h0 cy (va_up F 24 [.null, .int 0, .ref (h0 + 25), .null, .null, .null, .null]) M 27 A s H _ := hW
  refine pc_put (ty := .array .int) (F' := (va_up F 24 [.null, .int 0, .ref (h0 + 25), .ref (h0 + 26), .null, .null, .null])) (vs := [.null, .int 0, .ref (h0 + 25), .null, .null, .null, .null]) (vs' := [.null, .int 0, .ref (h0 + 25), .ref (h0 + 26), .null, .null, .null]) C hin hW kd_24 (by decide) rfl inX0 tyX0_ok nmX0 3 (by decide) mF_X0_19 rfl (by decide +kernel) rfl rfl rfl rfl rfl (Nat.le_of_ble_eq_true rfl) (fun i hi => by simp [va_up, hi]) dX0_init_22 (fun H locs hW => ?_)
  refine lv_aload_n hx hb dX0_init_25 rfl (lv_at hl 0 rfl) ?_
  refine lv_bipush (v := 7) hx hb dX0_init_26 (by decide) ?_
  refine pc_newaI C hW kd_27 (by decide) (by decide) (by decide) (by decide) (by decide) dX0_init_28 (fun H hW => ?_)
  have hW : pc_W D h0 cy (va_up F 24 [.null, .int 0, .ref (h0 + 25), .ref (h0 + 26), .null, .null, .null]) M 28 A s H _ := hW
  refine pc_put (ty := .array .int) (F' := (va_up F 24 [.null, .int 0, .ref (h0 + 25), .ref (h0 + 26), .ref (h0 + 27), .null, .null])) (vs := [.null, .int 0, .ref (h0 + 25), .ref (h0 + 26), .null, .null, .null]) (vs' := [.null, .int 0, .ref (h0 + 25), .ref (h0 + 26), .ref (h0 + 27), .null, .null]) C hin hW kd_24 (by decide) rfl inX0 tyX0_ok nmX0 4 (by decide) mF_X0_22 rfl (by decide +kernel) rfl rfl rfl rfl rfl (Nat.le_of_ble_eq_true rfl) (fun i hi => by simp [va_up, hi]) dX0_init_30 (fun H locs hW => ?_)
  refine lv_aload_n hx hb dX0_init_33 rfl (lv_at hl 0 rfl) ?_
  refine lv_bipush (v := 7) hx hb dX0_init_34 (by decide) ?_
  refine lv_iconst (v := 4) hx hb dX0_init_36 (by decide) ?_
  refine pc_mnaI C hW kd_28 pd_k29 (by decide) (by decide) (by decide) (by decide) (by decide) (by decide) mK_X0_25 (by decide) (by decide) dX0_init_37 (fun H locs hW => ?_)
  have hW : pc_W D h0 cy (va_up F 24 [.null, .int 0, .ref (h0 + 25), .ref (h0 + 26), .ref (h0 + 27), .null, .null]) M 36 A s H _ := hW
  refine pc_put (ty := .array (.array .int)) (F' := (va_up F 24 [.null, .int 0, .ref (h0 + 25), .ref (h0 + 26), .ref (h0 + 27), .ref (h0 + 28), .null])) (vs := [.null, .int 0, .ref (h0 + 25), .ref (h0 + 26), .ref (h0 + 27), .null, .null]) (vs' := [.null, .int 0, .ref (h0 + 25), .ref (h0 + 26), .ref (h0 + 27), .ref (h0 + 28), .null]) C hin hW kd_24 (by decide) rfl inX0 tyX0_ok nmX0 5 (by decide) mF_X0_27 rfl (by decide +kernel) rfl rfl rfl rfl rfl (Nat.le_of_ble_eq_true rfl) (fun i hi => by simp [va_up, hi]) dX0_init_41 (fun H locs hW => ?_)
  refine lv_aload_n hx hb dX0_init_44 rfl (lv_at hl 0 rfl) ?_
  refine lv_bipush (v := 7) hx hb dX0_init_45 (by decide) ?_
  refine pc_newaI C hW kd_36 (by decide) (by decide) (by decide) (by decide) (by decide) dX0_init_47 (fun H hW => ?_)
  have hW : pc_W D h0 cy (va_up F 24 [.null, .int 0, .ref (h0 + 25), .ref (h0 + 26), .ref (h0 + 27), .ref (h0 + 28), .null]) M 37 A s H _ := hW
  refine pc_put (ty := .array .int) (F' := (va_up F 24 [.null, .int 0, .ref (h0 + 25), .ref (h0 + 26), .ref (h0 + 27), .ref (h0 + 28), .ref (h0 + 36)])) (vs := [.null, .int 0, .ref (h0 + 25), .ref (h0 + 26), .ref (h0 + 27), .ref (h0 + 28), .null]) (vs' := [.null, .int 0, .ref (h0 + 25), .ref (h0 + 26), .ref (h0 + 27), .ref (h0 + 28), .ref (h0 + 36)]) C hin hW kd_24 (by decide) rfl inX0 tyX0_ok nmX0 6 (by decide) mF_X0_30 rfl (by decide +kernel) rfl rfl rfl rfl rfl (Nat.le_of_ble_eq_true rfl) (fun i hi => by simp [va_up, hi]) dX0_init_49 (fun H locs hW => ?_)
  refine lv_aload_n hx hb dX0_init_52 rfl (lv_at hl 0 rfl) ?_
  refine lv_aload_n hx hb dX0_init_53 rfl (lv_at hl 1 rfl) ?_
  refine pc_put (ty := .object "ParkDesk$Zones") (F' := (va_up F 24 [.ref (h0 + 1), .int 0, .ref (h0 + 25), .ref (h0 + 26), .ref (h0 + 27), .ref (h0 + 28), .ref (h0 + 36)])) (vs := [.null, .int 0, .ref (h0 + 25), .ref (h0 + 26), .ref (h0 + 27), .ref (h0 + 28), .ref (h0 + 36)]) (vs' := [.ref (h0 + 1), .int 0, .ref (h0 + 25), .ref (h0 + 26), .ref (h0 + 27), .ref (h0 + 28), .ref (h0 + 36)]) C hin hW kd_24 (by decide) rfl inX0 tyX0_ok nmX0 0 (by decide) mF_X0_33 rfl (by decide +kernel) rfl rfl rfl rfl rfl (Nat.le_of_ble_eq_true rfl) (fun i hi => by simp [va_up, hi]) dX0_init_54 (fun H locs hW => ?_)
  exact pc_vret C hA hW h dX0_init_57
theorem dd_X0_init : yX0_init.cls ≠ "java/lang/invoke/MethodHandle" ∧ yX0_init.cls ≠ "java/lang/invoke/VarHandle" ∧ (parseMethodDescriptor yX0_init.desc).map (fun d => d.parameters.length) = some 1 := by decide +kernel
abbrev rX1_init : Room := { frames := 1, cells := 10, slots := 61, locals := 20 }

def wX1_init (Q : pd_M → Prop) (M : pd_M) : Prop := Q M
set_option maxRecDepth 100000 in
set_option maxHeartbeats 4000000 in
theorem mX1_init {l : Launch} {D : va_G} {h0 : Nat} {cy : Nat → ClassId} {F : Nat → List Value} {Q : pd_M → Prop} {M : pd_M} (h : wX1_init Q M) : Met l yX1_init (Cond.code yX1_init cX1_init 1 none :: TB) rX1_init (pc_Pre D h0 cy (va_up F 48 [.null, .null, .null]) M 49 [.ref (h0 + 48)]) (pc_Qv D h0 cy (va_up F 48 [.ref (h0 + 49), .ref (h0 + 57), .ref (h0 + 58)]) 59 Q) 10 61 (pc_A h0) := by
  refine pc_met (by decide) (Nat.le_of_ble_eq_true rfl) ?_
  intro p e s m below meth c A ls hin C hA hW hl
  have C : pd_C p m c cX1_init 1 s _ RX1 meth none := C
  have hin : meth.name = "<init>" := hin
  have hx := C.1.1
  have hb := C.1.2.1
  have hown := C.1.2.2.2.1
  have hts := C.1.2.2.2.2
  have hl : lv_has ls 1 [(0, .ref (h0 + 48))] := hl
  refine lv_aload_n hx hb dX1_init_0 rfl (lv_at hl 0 rfl) ?_
  refine pd_objInit C hl.1 mM_X1_5 dX1_init_1 (Nat.le_of_ble_eq_true rfl) (by decide) (by decide) ?_
  refine lv_aload_n hx hb dX1_init_4 rfl (lv_at hl 0 rfl) ?_
  refine lv_bipush (v := 7) hx hb dX1_init_5 (by decide) ?_
  refine lv_bipush (v := 6) hx hb dX1_init_7 (by decide) ?_
  refine pc_mnaJ C hW kd_49 pd_k50 (by decide) (by decide) (by decide) (by decide) (by decide) (by decide) mK_X1_11 (by decide) (by decide) dX1_init_9 (fun H locs hW => ?_)
  have hW : pc_W D h0 cy (va_up F 48 [.null, .null, .null]) M 57 A s H _ := hW
  refine pc_put (ty := .array (.array .long)) (F' := (va_up F 48 [.ref (h0 + 49), .null, .null])) (vs := [.null, .null, .null]) (vs' := [.ref (h0 + 49), .null, .null]) C hin hW kd_48 (by decide) rfl inX1 tyX1_ok nmX1 0 (by decide) mF_X1_13 rfl (by decide +kernel) rfl rfl rfl rfl rfl (Nat.le_of_ble_eq_true rfl) (fun i hi => by simp [va_up, hi]) dX1_init_13 (fun H locs hW => ?_)
  refine lv_aload_n hx hb dX1_init_16 rfl (lv_at hl 0 rfl) ?_
  refine lv_bipush (v := 6) hx hb dX1_init_17 (by decide) ?_
  refine pc_newaJ C hW kd_57 (by decide) (by decide) (by decide) (by decide) (by decide) dX1_init_19 (fun H hW => ?_)
  have hW : pc_W D h0 cy (va_up F 48 [.ref (h0 + 49), .null, .null]) M 58 A s H _ := hW
  refine pc_put (ty := .array .long) (F' := (va_up F 48 [.ref (h0 + 49), .ref (h0 + 57), .null])) (vs := [.ref (h0 + 49), .null, .null]) (vs' := [.ref (h0 + 49), .ref (h0 + 57), .null]) C hin hW kd_48 (by decide) rfl inX1 tyX1_ok nmX1 1 (by decide) mF_X1_16 rfl (by decide +kernel) rfl rfl rfl rfl rfl (Nat.le_of_ble_eq_true rfl) (fun i hi => by simp [va_up, hi]) dX1_init_21 (fun H locs hW => ?_)
  refine lv_aload_n hx hb dX1_init_24 rfl (lv_at hl 0 rfl) ?_
  refine lv_bipush (v := 6) hx hb dX1_init_25 (by decide) ?_
  refine pc_newaI C hW kd_58 (by decide) (by decide) (by decide) (by decide) (by decide) dX1_init_27 (fun H hW => ?_)
  have hW : pc_W D h0 cy (va_up F 48 [.ref (h0 + 49), .ref (h0 + 57), .null]) M 59 A s H _ := hW
  refine pc_put (ty := .array .int) (F' := (va_up F 48 [.ref (h0 + 49), .ref (h0 + 57), .ref (h0 + 58)])) (vs := [.ref (h0 + 49), .ref (h0 + 57), .null]) (vs' := [.ref (h0 + 49), .ref (h0 + 57), .ref (h0 + 58)]) C hin hW kd_48 (by decide) rfl inX1 tyX1_ok nmX1 2 (by decide) mF_X1_20 rfl (by decide +kernel) rfl rfl rfl rfl rfl (Nat.le_of_ble_eq_true rfl) (fun i hi => by simp [va_up, hi]) dX1_init_29 (fun H locs hW => ?_)
  exact pc_vret C hA hW h dX1_init_32
theorem dd_X1_init : yX1_init.cls ≠ "java/lang/invoke/MethodHandle" ∧ yX1_init.cls ≠ "java/lang/invoke/VarHandle" ∧ (parseMethodDescriptor yX1_init.desc).map (fun d => d.parameters.length) = some 0 := by decide +kernel
abbrev rX2_init : Room := { frames := 2, cells := 21, slots := 119, locals := 40 }

def wX2_init (Q : pd_M → Prop) (M : pd_M) : Prop := wX1_init (fun M_1 => Q M_1) M
set_option maxRecDepth 100000 in
set_option maxHeartbeats 4000000 in
theorem mX2_init {l : Launch} {D : va_G} {h0 : Nat} {cy : Nat → ClassId} {F : Nat → List Value} {Q : pd_M → Prop} {M : pd_M} (h : wX2_init Q M) : Met l yX2_init (Cond.code yX2_init cX2_init 3 none :: TB) rX2_init (pc_Pre D h0 cy (va_up F 37 [.null, .null, .null, .null, .null, .null]) M 38 [.ref (h0 + 37), .ref (h0 + 8), .ref (h0 + 24)]) (pc_Qv D h0 cy (va_up (va_up F 37 [.ref (h0 + 8), .ref (h0 + 24), .ref (h0 + 38), .ref (h0 + 39), .ref (h0 + 47), .ref (h0 + 48)]) 48 [.ref (h0 + 49), .ref (h0 + 57), .ref (h0 + 58)]) 59 Q) 21 119 (pc_A h0) := by
  refine pc_met (by decide) (Nat.le_of_ble_eq_true rfl) ?_
  intro p e s m below meth c A ls hin C hA hW hl
  have C : pd_C p m c cX2_init 3 s _ RX2 meth none := C
  have hin : meth.name = "<init>" := hin
  have hx := C.1.1
  have hb := C.1.2.1
  have hown := C.1.2.2.2.1
  have hts := C.1.2.2.2.2
  have hl : lv_has ls 3 [(0, .ref (h0 + 37)), (1, .ref (h0 + 8)), (2, .ref (h0 + 24))] := hl
  refine lv_aload_n hx hb dX2_init_0 rfl (lv_at hl 0 rfl) ?_
  refine pd_objInit C hl.1 mM_X2_3 dX2_init_1 (Nat.le_of_ble_eq_true rfl) (by decide) (by decide) ?_
  refine lv_aload_n hx hb dX2_init_4 rfl (lv_at hl 0 rfl) ?_
  refine lv_bipush (v := 7) hx hb dX2_init_5 (by decide) ?_
  refine pc_newaI C hW kd_38 (by decide) (by decide) (by decide) (by decide) (by decide) dX2_init_7 (fun H hW => ?_)
  have hW : pc_W D h0 cy (va_up F 37 [.null, .null, .null, .null, .null, .null]) M 39 A s H _ := hW
  refine pc_put (ty := .array .int) (F' := (va_up F 37 [.null, .null, .ref (h0 + 38), .null, .null, .null])) (vs := [.null, .null, .null, .null, .null, .null]) (vs' := [.null, .null, .ref (h0 + 38), .null, .null, .null]) C hin hW kd_37 (by decide) rfl inX2 tyX2_ok nmX2 2 (by decide) mF_X2_9 rfl (by decide +kernel) rfl rfl rfl rfl rfl (Nat.le_of_ble_eq_true rfl) (fun i hi => by simp [va_up, hi]) dX2_init_9 (fun H locs hW => ?_)
  refine lv_aload_n hx hb dX2_init_12 rfl (lv_at hl 0 rfl) ?_
  refine lv_bipush (v := 7) hx hb dX2_init_13 (by decide) ?_
  refine lv_iconst (v := 5) hx hb dX2_init_15 (by decide) ?_
  refine pc_mnaI C hW kd_39 pd_k40 (by decide) (by decide) (by decide) (by decide) (by decide) (by decide) mK_X2_15 (by decide) (by decide) dX2_init_16 (fun H locs hW => ?_)
  have hW : pc_W D h0 cy (va_up F 37 [.null, .null, .ref (h0 + 38), .null, .null, .null]) M 47 A s H _ := hW
  refine pc_put (ty := .array (.array .int)) (F' := (va_up F 37 [.null, .null, .ref (h0 + 38), .ref (h0 + 39), .null, .null])) (vs := [.null, .null, .ref (h0 + 38), .null, .null, .null]) (vs' := [.null, .null, .ref (h0 + 38), .ref (h0 + 39), .null, .null]) C hin hW kd_37 (by decide) rfl inX2 tyX2_ok nmX2 3 (by decide) mF_X2_17 rfl (by decide +kernel) rfl rfl rfl rfl rfl (Nat.le_of_ble_eq_true rfl) (fun i hi => by simp [va_up, hi]) dX2_init_20 (fun H locs hW => ?_)
  refine lv_aload_n hx hb dX2_init_23 rfl (lv_at hl 0 rfl) ?_
  refine lv_bipush (v := 6) hx hb dX2_init_24 (by decide) ?_
  refine pc_newaI C hW kd_47 (by decide) (by decide) (by decide) (by decide) (by decide) dX2_init_26 (fun H hW => ?_)
  have hW : pc_W D h0 cy (va_up F 37 [.null, .null, .ref (h0 + 38), .ref (h0 + 39), .null, .null]) M 48 A s H _ := hW
  refine pc_put (ty := .array .int) (F' := (va_up F 37 [.null, .null, .ref (h0 + 38), .ref (h0 + 39), .ref (h0 + 47), .null])) (vs := [.null, .null, .ref (h0 + 38), .ref (h0 + 39), .null, .null]) (vs' := [.null, .null, .ref (h0 + 38), .ref (h0 + 39), .ref (h0 + 47), .null]) C hin hW kd_37 (by decide) rfl inX2 tyX2_ok nmX2 4 (by decide) mF_X2_20 rfl (by decide +kernel) rfl rfl rfl rfl rfl (Nat.le_of_ble_eq_true rfl) (fun i hi => by simp [va_up, hi]) dX2_init_28 (fun H locs hW => ?_)
  refine lv_aload_n hx hb dX2_init_31 rfl (lv_at hl 0 rfl) ?_
  refine pc_new (dv := [.null, .null, .null]) C hW kd_48 rfl inX1 tyX1_ok mK_X2_23 mN_X1 mI_X1 (fun j hj => by rcases (show j = 0 ∨ j = 1 ∨ j = 2 by omega) with rfl | rfl | rfl <;> rfl) (by decide) (by decide) dX2_init_32 (fun H hW => ?_)
  have hW : pc_W D h0 cy (va_up (va_up F 37 [.null, .null, .ref (h0 + 38), .ref (h0 + 39), .ref (h0 + 47), .null]) 48 [.null, .null, .null]) M 49 A s H _ := hW
  refine lv_dup hx hb dX2_init_35 rfl ?_
  refine pc_callIN (host := RX8) (As := []) (k := 48) C hW (mX1_init h) hW.2.2.2.2.2.2.2.1 mO_yX1_init mI_X1 mC_yX1_init rfl dd_X1_init ⟨rfl, rfl⟩ ⟨by decide, by decide⟩ ⟨by decide, by decide⟩ hl.1 rfl (Nat.le_of_ble_eq_true rfl) dX2_init_36 (fun M_1 H locs h hW => ?_)
  have hW : pc_W D h0 cy (va_up (va_up F 37 [.null, .null, .ref (h0 + 38), .ref (h0 + 39), .ref (h0 + 47), .null]) 48 [.ref (h0 + 49), .ref (h0 + 57), .ref (h0 + 58)]) M_1 59 A s H _ := hW
  refine pc_put (ty := .object "ParkDesk$Cheapest") (F' := (va_up (va_up F 37 [.null, .null, .ref (h0 + 38), .ref (h0 + 39), .ref (h0 + 47), .ref (h0 + 48)]) 48 [.ref (h0 + 49), .ref (h0 + 57), .ref (h0 + 58)])) (vs := [.null, .null, .ref (h0 + 38), .ref (h0 + 39), .ref (h0 + 47), .null]) (vs' := [.null, .null, .ref (h0 + 38), .ref (h0 + 39), .ref (h0 + 47), .ref (h0 + 48)]) C hin hW kd_37 (by decide) rfl inX2 tyX2_ok nmX2 5 (by decide) mF_X2_26 rfl (by decide +kernel) rfl rfl rfl rfl rfl (Nat.le_of_ble_eq_true rfl) (fun i hi => by simp [va_up, hi]) dX2_init_39 (fun H locs hW => ?_)
  refine lv_aload_n hx hb dX2_init_42 rfl (lv_at hl 0 rfl) ?_
  refine lv_aload_n hx hb dX2_init_43 rfl (lv_at hl 1 rfl) ?_
  refine pc_put (ty := .object "ParkDesk$Streets") (F' := (va_up (va_up F 37 [.ref (h0 + 8), .null, .ref (h0 + 38), .ref (h0 + 39), .ref (h0 + 47), .ref (h0 + 48)]) 48 [.ref (h0 + 49), .ref (h0 + 57), .ref (h0 + 58)])) (vs := [.null, .null, .ref (h0 + 38), .ref (h0 + 39), .ref (h0 + 47), .ref (h0 + 48)]) (vs' := [.ref (h0 + 8), .null, .ref (h0 + 38), .ref (h0 + 39), .ref (h0 + 47), .ref (h0 + 48)]) C hin hW kd_37 (by decide) rfl inX2 tyX2_ok nmX2 0 (by decide) mF_X2_30 rfl (by decide +kernel) rfl rfl rfl rfl rfl (Nat.le_of_ble_eq_true rfl) (fun i hi => by simp [va_up, hi]) dX2_init_44 (fun H locs hW => ?_)
  refine lv_aload_n hx hb dX2_init_47 rfl (lv_at hl 0 rfl) ?_
  refine lv_aload_n hx hb dX2_init_48 rfl (lv_at hl 2 rfl) ?_
  refine pc_put (ty := .object "ParkDesk$Cars") (F' := (va_up (va_up F 37 [.ref (h0 + 8), .ref (h0 + 24), .ref (h0 + 38), .ref (h0 + 39), .ref (h0 + 47), .ref (h0 + 48)]) 48 [.ref (h0 + 49), .ref (h0 + 57), .ref (h0 + 58)])) (vs := [.ref (h0 + 8), .null, .ref (h0 + 38), .ref (h0 + 39), .ref (h0 + 47), .ref (h0 + 48)]) (vs' := [.ref (h0 + 8), .ref (h0 + 24), .ref (h0 + 38), .ref (h0 + 39), .ref (h0 + 47), .ref (h0 + 48)]) C hin hW kd_37 (by decide) rfl inX2 tyX2_ok nmX2 1 (by decide) mF_X2_34 rfl (by decide +kernel) rfl rfl rfl rfl rfl (Nat.le_of_ble_eq_true rfl) (fun i hi => by simp [va_up, hi]) dX2_init_49 (fun H locs hW => ?_)
  exact pc_vret C hA hW h dX2_init_52
theorem dd_X2_init : yX2_init.cls ≠ "java/lang/invoke/MethodHandle" ∧ yX2_init.cls ≠ "java/lang/invoke/VarHandle" ∧ (parseMethodDescriptor yX2_init.desc).map (fun d => d.parameters.length) = some 2 := by decide +kernel
abbrev rX6_init : Room := { frames := 1, cells := 0, slots := 0, locals := 20 }

def wX6_init (Q : pd_M → Prop) (M : pd_M) : Prop := Q M
set_option maxRecDepth 100000 in
set_option maxHeartbeats 4000000 in
theorem mX6_init {l : Launch} {D : va_G} {h0 : Nat} {cy : Nat → ClassId} {F : Nat → List Value} {Q : pd_M → Prop} {M : pd_M} (h : wX6_init Q M) : Met l yX6_init (Cond.code yX6_init cX6_init 2 none :: TB) rX6_init (pc_Pre D h0 cy (va_up F 59 [.null, .int 0]) M 60 [.ref (h0 + 59), .ref (h0 + 8)]) (pc_Qv D h0 cy (va_up F 59 [.ref (h0 + 8), .int 100]) 60 Q) 0 0 (pc_A h0) := by
  refine pc_met (by decide) (Nat.le_of_ble_eq_true rfl) ?_
  intro p e s m below meth c A ls hin C hA hW hl
  have C : pd_C p m c cX6_init 2 s _ RX6 meth none := C
  have hin : meth.name = "<init>" := hin
  have hx := C.1.1
  have hb := C.1.2.1
  have hown := C.1.2.2.2.1
  have hts := C.1.2.2.2.2
  have hl : lv_has ls 2 [(0, .ref (h0 + 59)), (1, .ref (h0 + 8))] := hl
  refine lv_aload_n hx hb dX6_init_0 rfl (lv_at hl 0 rfl) ?_
  refine pd_objInit C hl.1 mM_X6_3 dX6_init_1 (Nat.le_of_ble_eq_true rfl) (by decide) (by decide) ?_
  refine lv_aload_n hx hb dX6_init_4 rfl (lv_at hl 0 rfl) ?_
  refine lv_bipush (v := 100) hx hb dX6_init_5 (by decide) ?_
  refine pc_put (ty := .int) (F' := (va_up F 59 [.null, .int 100])) (vs := [.null, .int 0]) (vs' := [.null, .int 100]) C hin hW kd_59 (by decide) rfl inX6 tyX6_ok nmX6 1 (by decide) mF_X6_9 rfl (by decide +kernel) rfl rfl rfl rfl rfl (Nat.le_of_ble_eq_true rfl) (fun i hi => by simp [va_up, hi]) dX6_init_7 (fun H locs hW => ?_)
  refine lv_aload_n hx hb dX6_init_10 rfl (lv_at hl 0 rfl) ?_
  refine lv_aload_n hx hb dX6_init_11 rfl (lv_at hl 1 rfl) ?_
  refine pc_put (ty := .object "ParkDesk$Streets") (F' := (va_up F 59 [.ref (h0 + 8), .int 100])) (vs := [.null, .int 100]) (vs' := [.ref (h0 + 8), .int 100]) C hin hW kd_59 (by decide) rfl inX6 tyX6_ok nmX6 0 (by decide) mF_X6_15 rfl (by decide +kernel) rfl rfl rfl rfl rfl (Nat.le_of_ble_eq_true rfl) (fun i hi => by simp [va_up, hi]) dX6_init_12 (fun H locs hW => ?_)
  exact pc_vret C hA hW h dX6_init_15
theorem dd_X6_init : yX6_init.cls ≠ "java/lang/invoke/MethodHandle" ∧ yX6_init.cls ≠ "java/lang/invoke/VarHandle" ∧ (parseMethodDescriptor yX6_init.desc).map (fun d => d.parameters.length) = some 1 := by decide +kernel
abbrev rX5_init : Room := { frames := 1, cells := 21, slots := 140, locals := 20 }

def wX5_init (Q : pd_M → Prop) (M : pd_M) : Prop := Q M
set_option maxRecDepth 100000 in
set_option maxHeartbeats 4000000 in
theorem mX5_init {l : Launch} {D : va_G} {h0 : Nat} {cy : Nat → ClassId} {F : Nat → List Value} {Q : pd_M → Prop} {M : pd_M} (h : wX5_init Q M) : Met l yX5_init (Cond.code yX5_init cX5_init 1 none :: TB) rX5_init (pc_Pre D h0 cy (va_up F 60 [.int 0, .null]) M 61 [.ref (h0 + 60)]) (pc_Qv D h0 cy (va_up F 60 [.int 0, .ref (h0 + 61)]) 82 Q) 21 140 (pc_A h0) := by
  refine pc_met (by decide) (Nat.le_of_ble_eq_true rfl) ?_
  intro p e s m below meth c A ls hin C hA hW hl
  have C : pd_C p m c cX5_init 1 s _ RX5 meth none := C
  have hin : meth.name = "<init>" := hin
  have hx := C.1.1
  have hb := C.1.2.1
  have hown := C.1.2.2.2.1
  have hts := C.1.2.2.2.2
  have hl : lv_has ls 1 [(0, .ref (h0 + 60))] := hl
  refine lv_aload_n hx hb dX5_init_0 rfl (lv_at hl 0 rfl) ?_
  refine pd_objInit C hl.1 mM_X5_3 dX5_init_1 (Nat.le_of_ble_eq_true rfl) (by decide) (by decide) ?_
  refine lv_aload_n hx hb dX5_init_4 rfl (lv_at hl 0 rfl) ?_
  refine lv_iconst (v := 0) hx hb dX5_init_5 (by decide) ?_
  refine pc_put (ty := .int) (F' := (va_up F 60 [.int 0, .null])) (vs := [.int 0, .null]) (vs' := [.int 0, .null]) C hin hW kd_60 (by decide) rfl inX5 tyX5_ok nmX5 0 (by decide) mF_X5_9 rfl (by decide +kernel) rfl rfl rfl rfl rfl (Nat.le_of_ble_eq_true rfl) (fun i hi => by simp [va_up, hi]) dX5_init_6 (fun H locs hW => ?_)
  refine lv_aload_n hx hb dX5_init_9 rfl (lv_at hl 0 rfl) ?_
  refine lv_bipush (v := 20) hx hb dX5_init_10 (by decide) ?_
  refine lv_bipush (v := 6) hx hb dX5_init_12 (by decide) ?_
  refine pc_mnaI C hW kd_61 pd_k62 (by decide) (by decide) (by decide) (by decide) (by decide) (by decide) mK_X5_15 (by decide) (by decide) dX5_init_14 (fun H locs hW => ?_)
  have hW : pc_W D h0 cy (va_up F 60 [.int 0, .null]) M 82 A s H _ := hW
  refine pc_put (ty := .array (.array .int)) (F' := (va_up F 60 [.int 0, .ref (h0 + 61)])) (vs := [.int 0, .null]) (vs' := [.int 0, .ref (h0 + 61)]) C hin hW kd_60 (by decide) rfl inX5 tyX5_ok nmX5 1 (by decide) mF_X5_17 rfl (by decide +kernel) rfl rfl rfl rfl rfl (Nat.le_of_ble_eq_true rfl) (fun i hi => by simp [va_up, hi]) dX5_init_18 (fun H locs hW => ?_)
  exact pc_vret C hA hW h dX5_init_21
theorem dd_X5_init : yX5_init.cls ≠ "java/lang/invoke/MethodHandle" ∧ yX5_init.cls ≠ "java/lang/invoke/VarHandle" ∧ (parseMethodDescriptor yX5_init.desc).map (fun d => d.parameters.length) = some 0 := by decide +kernel
abbrev rX8_init : Room := { frames := 3, cells := 81, slots := 452, locals := 62 }

def wX8_init (Q : pd_M → Prop) (M : pd_M) : Prop := wX7_init (fun M_1 => wX4_init (fun M_2 => wX0_init (fun M_3 => wX2_init (fun M_4 => wX6_init (fun M_5 => wX5_init (fun M_6 => Q M_6) M_5) M_4) M_3) M_2) M_1) M
set_option maxRecDepth 100000 in
set_option maxHeartbeats 4000000 in
theorem mX8_init {l : Launch} {D : va_G} {h0 : Nat} {cy : Nat → ClassId} {F : Nat → List Value} {Q : pd_M → Prop} {M : pd_M} (h : wX8_init Q M) : Met l yX8_init (Cond.code yX8_init cX8_init 1 none :: TB) rX8_init (pc_Pre D h0 cy (va_up F 0 [.null, .null, .null, .null, .null, .null]) M 1 [.ref (h0 + 0)]) (pc_Qv D h0 cy (va_up (va_up (va_up (va_up (va_up (va_up (va_up (va_up F 0 [.ref (h0 + 1), .ref (h0 + 8), .ref (h0 + 24), .ref (h0 + 37), .ref (h0 + 59), .ref (h0 + 60)]) 1 [.ref (h0 + 2), .ref (h0 + 3)]) 8 [.int 0, .ref (h0 + 9), .ref (h0 + 10), .ref (h0 + 11), .ref (h0 + 17), .ref (h0 + 23)]) 24 [.ref (h0 + 1), .int 0, .ref (h0 + 25), .ref (h0 + 26), .ref (h0 + 27), .ref (h0 + 28), .ref (h0 + 36)]) 37 [.ref (h0 + 8), .ref (h0 + 24), .ref (h0 + 38), .ref (h0 + 39), .ref (h0 + 47), .ref (h0 + 48)]) 48 [.ref (h0 + 49), .ref (h0 + 57), .ref (h0 + 58)]) 59 [.ref (h0 + 8), .int 100]) 60 [.int 0, .ref (h0 + 61)]) 82 Q) 81 452 (pc_A h0) := by
  refine pc_met (by decide) (Nat.le_of_ble_eq_true rfl) ?_
  intro p e s m below meth c A ls hin C hA hW hl
  have C : pd_C p m c cX8_init 1 s _ RX8 meth none := C
  have hin : meth.name = "<init>" := hin
  have hx := C.1.1
  have hb := C.1.2.1
  have hown := C.1.2.2.2.1
  have hts := C.1.2.2.2.2
  have hl : lv_has ls 1 [(0, .ref (h0 + 0))] := hl
  refine lv_aload_n hx hb dX8_init_0 rfl (lv_at hl 0 rfl) ?_
  refine pd_objInit C hl.1 mM_X8_3 dX8_init_1 (Nat.le_of_ble_eq_true rfl) (by decide) (by decide) ?_
  refine lv_aload_n hx hb dX8_init_4 rfl (lv_at hl 0 rfl) ?_
  refine pc_new (dv := [.null, .null]) C hW kd_1 rfl inX7 tyX7_ok mK_X8_9 mN_X7 mI_X7 (fun j hj => by rcases (show j = 0 ∨ j = 1 by omega) with rfl | rfl <;> rfl) (by decide) (by decide) dX8_init_5 (fun H hW => ?_)
  have hW : pc_W D h0 cy (va_up (va_up F 0 [.null, .null, .null, .null, .null, .null]) 1 [.null, .null]) M 2 A s H _ := hW
  refine lv_dup hx hb dX8_init_8 rfl ?_
  refine pc_callIN (host := RX8) (As := []) (k := 1) C hW (mX7_init h) hW.2.2.2.2.2.2.1 mO_yX7_init mI_X7 mC_yX7_init rfl dd_X7_init ⟨rfl, rfl⟩ ⟨by decide, by decide⟩ ⟨by decide, by decide⟩ hl.1 rfl (Nat.le_of_ble_eq_true rfl) dX8_init_9 (fun M_1 H locs h hW => ?_)
  have hW : pc_W D h0 cy (va_up (va_up F 0 [.null, .null, .null, .null, .null, .null]) 1 [.ref (h0 + 2), .ref (h0 + 3)]) M_1 8 A s H _ := hW
  refine pc_put (ty := .object "ParkDesk$Zones") (F' := (va_up (va_up F 0 [.ref (h0 + 1), .null, .null, .null, .null, .null]) 1 [.ref (h0 + 2), .ref (h0 + 3)])) (vs := [.null, .null, .null, .null, .null, .null]) (vs' := [.ref (h0 + 1), .null, .null, .null, .null, .null]) C hin hW kd_0 (by decide) rfl inX8 tyX8_ok nmX8 0 (by decide) mF_X8_12 rfl (by decide +kernel) rfl rfl rfl rfl rfl (Nat.le_of_ble_eq_true rfl) (fun i hi => by simp [va_up, hi]) dX8_init_12 (fun H locs hW => ?_)
  refine lv_aload_n hx hb dX8_init_15 rfl (lv_at hl 0 rfl) ?_
  refine pc_new (dv := [.int 0, .null, .null, .null, .null, .null]) C hW kd_8 rfl inX4 tyX4_ok mK_X8_16 mN_X4 mI_X4 (fun j hj => by rcases (show j = 0 ∨ j = 1 ∨ j = 2 ∨ j = 3 ∨ j = 4 ∨ j = 5 by omega) with rfl | rfl | rfl | rfl | rfl | rfl <;> rfl) (by decide) (by decide) dX8_init_16 (fun H hW => ?_)
  have hW : pc_W D h0 cy (va_up (va_up (va_up F 0 [.ref (h0 + 1), .null, .null, .null, .null, .null]) 1 [.ref (h0 + 2), .ref (h0 + 3)]) 8 [.int 0, .null, .null, .null, .null, .null]) M_1 9 A s H _ := hW
  refine lv_dup hx hb dX8_init_19 rfl ?_
  refine pc_callI (As := []) (k := 8) C hW (mX4_init h) mM_X8_18 mO_yX4_init mI_X4 mC_yX4_init rfl dd_X4_init ⟨rfl, rfl⟩ ⟨by decide, by decide⟩ ⟨by decide, by decide⟩ hl.1 rfl (Nat.le_of_ble_eq_true rfl) dX8_init_20 (fun M_2 H locs h hW => ?_)
  have hW : pc_W D h0 cy (va_up (va_up (va_up F 0 [.ref (h0 + 1), .null, .null, .null, .null, .null]) 1 [.ref (h0 + 2), .ref (h0 + 3)]) 8 [.int 0, .ref (h0 + 9), .ref (h0 + 10), .ref (h0 + 11), .ref (h0 + 17), .ref (h0 + 23)]) M_2 24 A s H _ := hW
  refine pc_put (ty := .object "ParkDesk$Streets") (F' := (va_up (va_up (va_up F 0 [.ref (h0 + 1), .ref (h0 + 8), .null, .null, .null, .null]) 1 [.ref (h0 + 2), .ref (h0 + 3)]) 8 [.int 0, .ref (h0 + 9), .ref (h0 + 10), .ref (h0 + 11), .ref (h0 + 17), .ref (h0 + 23)])) (vs := [.ref (h0 + 1), .null, .null, .null, .null, .null]) (vs' := [.ref (h0 + 1), .ref (h0 + 8), .null, .null, .null, .null]) C hin hW kd_0 (by decide) rfl inX8 tyX8_ok nmX8 1 (by decide) mF_X8_19 rfl (by decide +kernel) rfl rfl rfl rfl rfl (Nat.le_of_ble_eq_true rfl) (fun i hi => by simp [va_up, hi]) dX8_init_23 (fun H locs hW => ?_)
  refine lv_aload_n hx hb dX8_init_26 rfl (lv_at hl 0 rfl) ?_
  refine pc_new (dv := [.null, .int 0, .null, .null, .null, .null, .null]) C hW kd_24 rfl inX0 tyX0_ok mK_X8_23 mN_X0 mI_X0 (fun j hj => by rcases (show j = 0 ∨ j = 1 ∨ j = 2 ∨ j = 3 ∨ j = 4 ∨ j = 5 ∨ j = 6 by omega) with rfl | rfl | rfl | rfl | rfl | rfl | rfl <;> rfl) (by decide) (by decide) dX8_init_27 (fun H hW => ?_)
  have hW : pc_W D h0 cy (va_up (va_up (va_up (va_up F 0 [.ref (h0 + 1), .ref (h0 + 8), .null, .null, .null, .null]) 1 [.ref (h0 + 2), .ref (h0 + 3)]) 8 [.int 0, .ref (h0 + 9), .ref (h0 + 10), .ref (h0 + 11), .ref (h0 + 17), .ref (h0 + 23)]) 24 [.null, .int 0, .null, .null, .null, .null, .null]) M_2 25 A s H _ := hW
  refine lv_dup hx hb dX8_init_30 rfl ?_
  refine lv_aload_n hx hb dX8_init_31 rfl (lv_at hl 0 rfl) ?_
  refine pc_get (vs := [.ref (h0 + 1), .ref (h0 + 8), .null, .null, .null, .null]) C hW kd_0 (by decide) rfl inX8 0 (by decide) mF_X8_12 rfl rfl dX8_init_32 ?_
  refine pc_callI (As := [.ref (h0 + 1)]) (k := 24) C hW (mX0_init h) mM_X8_25 mO_yX0_init mI_X0 mC_yX0_init rfl dd_X0_init ⟨rfl, rfl⟩ ⟨by decide, by decide⟩ ⟨by decide, by decide⟩ hl.1 rfl (Nat.le_of_ble_eq_true rfl) dX8_init_35 (fun M_3 H locs h hW => ?_)
  have hW : pc_W D h0 cy (va_up (va_up (va_up (va_up F 0 [.ref (h0 + 1), .ref (h0 + 8), .null, .null, .null, .null]) 1 [.ref (h0 + 2), .ref (h0 + 3)]) 8 [.int 0, .ref (h0 + 9), .ref (h0 + 10), .ref (h0 + 11), .ref (h0 + 17), .ref (h0 + 23)]) 24 [.ref (h0 + 1), .int 0, .ref (h0 + 25), .ref (h0 + 26), .ref (h0 + 27), .ref (h0 + 28), .ref (h0 + 36)]) M_3 37 A s H _ := hW
  refine pc_put (ty := .object "ParkDesk$Cars") (F' := (va_up (va_up (va_up (va_up F 0 [.ref (h0 + 1), .ref (h0 + 8), .ref (h0 + 24), .null, .null, .null]) 1 [.ref (h0 + 2), .ref (h0 + 3)]) 8 [.int 0, .ref (h0 + 9), .ref (h0 + 10), .ref (h0 + 11), .ref (h0 + 17), .ref (h0 + 23)]) 24 [.ref (h0 + 1), .int 0, .ref (h0 + 25), .ref (h0 + 26), .ref (h0 + 27), .ref (h0 + 28), .ref (h0 + 36)])) (vs := [.ref (h0 + 1), .ref (h0 + 8), .null, .null, .null, .null]) (vs' := [.ref (h0 + 1), .ref (h0 + 8), .ref (h0 + 24), .null, .null, .null]) C hin hW kd_0 (by decide) rfl inX8 tyX8_ok nmX8 2 (by decide) mF_X8_28 rfl (by decide +kernel) rfl rfl rfl rfl rfl (Nat.le_of_ble_eq_true rfl) (fun i hi => by simp [va_up, hi]) dX8_init_38 (fun H locs hW => ?_)
  refine lv_aload_n hx hb dX8_init_41 rfl (lv_at hl 0 rfl) ?_
  refine pc_new (dv := [.null, .null, .null, .null, .null, .null]) C hW kd_37 rfl inX2 tyX2_ok mK_X8_32 mN_X2 mI_X2 (fun j hj => by rcases (show j = 0 ∨ j = 1 ∨ j = 2 ∨ j = 3 ∨ j = 4 ∨ j = 5 by omega) with rfl | rfl | rfl | rfl | rfl | rfl <;> rfl) (by decide) (by decide) dX8_init_42 (fun H hW => ?_)
  have hW : pc_W D h0 cy (va_up (va_up (va_up (va_up (va_up F 0 [.ref (h0 + 1), .ref (h0 + 8), .ref (h0 + 24), .null, .null, .null]) 1 [.ref (h0 + 2), .ref (h0 + 3)]) 8 [.int 0, .ref (h0 + 9), .ref (h0 + 10), .ref (h0 + 11), .ref (h0 + 17), .ref (h0 + 23)]) 24 [.ref (h0 + 1), .int 0, .ref (h0 + 25), .ref (h0 + 26), .ref (h0 + 27), .ref (h0 + 28), .ref (h0 + 36)]) 37 [.null, .null, .null, .null, .null, .null]) M_3 38 A s H _ := hW
  refine lv_dup hx hb dX8_init_45 rfl ?_
  refine lv_aload_n hx hb dX8_init_46 rfl (lv_at hl 0 rfl) ?_
  refine pc_get (vs := [.ref (h0 + 1), .ref (h0 + 8), .ref (h0 + 24), .null, .null, .null]) C hW kd_0 (by decide) rfl inX8 1 (by decide) mF_X8_19 rfl rfl dX8_init_47 ?_
  refine lv_aload_n hx hb dX8_init_50 rfl (lv_at hl 0 rfl) ?_
  refine pc_get (vs := [.ref (h0 + 1), .ref (h0 + 8), .ref (h0 + 24), .null, .null, .null]) C hW kd_0 (by decide) rfl inX8 2 (by decide) mF_X8_28 rfl rfl dX8_init_51 ?_
  refine pc_callI (As := [.ref (h0 + 8), .ref (h0 + 24)]) (k := 37) C hW (mX2_init h) mM_X8_34 mO_yX2_init mI_X2 mC_yX2_init rfl dd_X2_init ⟨rfl, rfl⟩ ⟨by decide, by decide⟩ ⟨by decide, by decide⟩ hl.1 rfl (Nat.le_of_ble_eq_true rfl) dX8_init_54 (fun M_4 H locs h hW => ?_)
  have hW : pc_W D h0 cy (va_up (va_up (va_up (va_up (va_up (va_up F 0 [.ref (h0 + 1), .ref (h0 + 8), .ref (h0 + 24), .null, .null, .null]) 1 [.ref (h0 + 2), .ref (h0 + 3)]) 8 [.int 0, .ref (h0 + 9), .ref (h0 + 10), .ref (h0 + 11), .ref (h0 + 17), .ref (h0 + 23)]) 24 [.ref (h0 + 1), .int 0, .ref (h0 + 25), .ref (h0 + 26), .ref (h0 + 27), .ref (h0 + 28), .ref (h0 + 36)]) 37 [.ref (h0 + 8), .ref (h0 + 24), .ref (h0 + 38), .ref (h0 + 39), .ref (h0 + 47), .ref (h0 + 48)]) 48 [.ref (h0 + 49), .ref (h0 + 57), .ref (h0 + 58)]) M_4 59 A s H _ := hW
  refine pc_put (ty := .object "ParkDesk$Laying") (F' := (va_up (va_up (va_up (va_up (va_up (va_up F 0 [.ref (h0 + 1), .ref (h0 + 8), .ref (h0 + 24), .ref (h0 + 37), .null, .null]) 1 [.ref (h0 + 2), .ref (h0 + 3)]) 8 [.int 0, .ref (h0 + 9), .ref (h0 + 10), .ref (h0 + 11), .ref (h0 + 17), .ref (h0 + 23)]) 24 [.ref (h0 + 1), .int 0, .ref (h0 + 25), .ref (h0 + 26), .ref (h0 + 27), .ref (h0 + 28), .ref (h0 + 36)]) 37 [.ref (h0 + 8), .ref (h0 + 24), .ref (h0 + 38), .ref (h0 + 39), .ref (h0 + 47), .ref (h0 + 48)]) 48 [.ref (h0 + 49), .ref (h0 + 57), .ref (h0 + 58)])) (vs := [.ref (h0 + 1), .ref (h0 + 8), .ref (h0 + 24), .null, .null, .null]) (vs' := [.ref (h0 + 1), .ref (h0 + 8), .ref (h0 + 24), .ref (h0 + 37), .null, .null]) C hin hW kd_0 (by decide) rfl inX8 tyX8_ok nmX8 3 (by decide) mF_X8_37 rfl (by decide +kernel) rfl rfl rfl rfl rfl (Nat.le_of_ble_eq_true rfl) (fun i hi => by simp [va_up, hi]) dX8_init_57 (fun H locs hW => ?_)
  refine lv_aload_n hx hb dX8_init_60 rfl (lv_at hl 0 rfl) ?_
  refine pc_new (dv := [.null, .int 0]) C hW kd_59 rfl inX6 tyX6_ok mK_X8_41 mN_X6 mI_X6 (fun j hj => by rcases (show j = 0 ∨ j = 1 by omega) with rfl | rfl <;> rfl) (by decide) (by decide) dX8_init_61 (fun H hW => ?_)
  have hW : pc_W D h0 cy (va_up (va_up (va_up (va_up (va_up (va_up (va_up F 0 [.ref (h0 + 1), .ref (h0 + 8), .ref (h0 + 24), .ref (h0 + 37), .null, .null]) 1 [.ref (h0 + 2), .ref (h0 + 3)]) 8 [.int 0, .ref (h0 + 9), .ref (h0 + 10), .ref (h0 + 11), .ref (h0 + 17), .ref (h0 + 23)]) 24 [.ref (h0 + 1), .int 0, .ref (h0 + 25), .ref (h0 + 26), .ref (h0 + 27), .ref (h0 + 28), .ref (h0 + 36)]) 37 [.ref (h0 + 8), .ref (h0 + 24), .ref (h0 + 38), .ref (h0 + 39), .ref (h0 + 47), .ref (h0 + 48)]) 48 [.ref (h0 + 49), .ref (h0 + 57), .ref (h0 + 58)]) 59 [.null, .int 0]) M_4 60 A s H _ := hW
  refine lv_dup hx hb dX8_init_64 rfl ?_
  refine lv_aload_n hx hb dX8_init_65 rfl (lv_at hl 0 rfl) ?_
  refine pc_get (vs := [.ref (h0 + 1), .ref (h0 + 8), .ref (h0 + 24), .ref (h0 + 37), .null, .null]) C hW kd_0 (by decide) rfl inX8 1 (by decide) mF_X8_19 rfl rfl dX8_init_66 ?_
  refine pc_callI (As := [.ref (h0 + 8)]) (k := 59) C hW (mX6_init h) mM_X8_43 mO_yX6_init mI_X6 mC_yX6_init rfl dd_X6_init ⟨rfl, rfl⟩ ⟨by decide, by decide⟩ ⟨by decide, by decide⟩ hl.1 rfl (Nat.le_of_ble_eq_true rfl) dX8_init_69 (fun M_5 H locs h hW => ?_)
  have hW : pc_W D h0 cy (va_up (va_up (va_up (va_up (va_up (va_up (va_up F 0 [.ref (h0 + 1), .ref (h0 + 8), .ref (h0 + 24), .ref (h0 + 37), .null, .null]) 1 [.ref (h0 + 2), .ref (h0 + 3)]) 8 [.int 0, .ref (h0 + 9), .ref (h0 + 10), .ref (h0 + 11), .ref (h0 + 17), .ref (h0 + 23)]) 24 [.ref (h0 + 1), .int 0, .ref (h0 + 25), .ref (h0 + 26), .ref (h0 + 27), .ref (h0 + 28), .ref (h0 + 36)]) 37 [.ref (h0 + 8), .ref (h0 + 24), .ref (h0 + 38), .ref (h0 + 39), .ref (h0 + 47), .ref (h0 + 48)]) 48 [.ref (h0 + 49), .ref (h0 + 57), .ref (h0 + 58)]) 59 [.ref (h0 + 8), .int 100]) M_5 60 A s H _ := hW
  refine pc_put (ty := .object "ParkDesk$Wardens") (F' := (va_up (va_up (va_up (va_up (va_up (va_up (va_up F 0 [.ref (h0 + 1), .ref (h0 + 8), .ref (h0 + 24), .ref (h0 + 37), .ref (h0 + 59), .null]) 1 [.ref (h0 + 2), .ref (h0 + 3)]) 8 [.int 0, .ref (h0 + 9), .ref (h0 + 10), .ref (h0 + 11), .ref (h0 + 17), .ref (h0 + 23)]) 24 [.ref (h0 + 1), .int 0, .ref (h0 + 25), .ref (h0 + 26), .ref (h0 + 27), .ref (h0 + 28), .ref (h0 + 36)]) 37 [.ref (h0 + 8), .ref (h0 + 24), .ref (h0 + 38), .ref (h0 + 39), .ref (h0 + 47), .ref (h0 + 48)]) 48 [.ref (h0 + 49), .ref (h0 + 57), .ref (h0 + 58)]) 59 [.ref (h0 + 8), .int 100])) (vs := [.ref (h0 + 1), .ref (h0 + 8), .ref (h0 + 24), .ref (h0 + 37), .null, .null]) (vs' := [.ref (h0 + 1), .ref (h0 + 8), .ref (h0 + 24), .ref (h0 + 37), .ref (h0 + 59), .null]) C hin hW kd_0 (by decide) rfl inX8 tyX8_ok nmX8 4 (by decide) mF_X8_46 rfl (by decide +kernel) rfl rfl rfl rfl rfl (Nat.le_of_ble_eq_true rfl) (fun i hi => by simp [va_up, hi]) dX8_init_72 (fun H locs hW => ?_)
  refine lv_aload_n hx hb dX8_init_75 rfl (lv_at hl 0 rfl) ?_
  refine pc_new (dv := [.int 0, .null]) C hW kd_60 rfl inX5 tyX5_ok mK_X8_50 mN_X5 mI_X5 (fun j hj => by rcases (show j = 0 ∨ j = 1 by omega) with rfl | rfl <;> rfl) (by decide) (by decide) dX8_init_76 (fun H hW => ?_)
  have hW : pc_W D h0 cy (va_up (va_up (va_up (va_up (va_up (va_up (va_up (va_up F 0 [.ref (h0 + 1), .ref (h0 + 8), .ref (h0 + 24), .ref (h0 + 37), .ref (h0 + 59), .null]) 1 [.ref (h0 + 2), .ref (h0 + 3)]) 8 [.int 0, .ref (h0 + 9), .ref (h0 + 10), .ref (h0 + 11), .ref (h0 + 17), .ref (h0 + 23)]) 24 [.ref (h0 + 1), .int 0, .ref (h0 + 25), .ref (h0 + 26), .ref (h0 + 27), .ref (h0 + 28), .ref (h0 + 36)]) 37 [.ref (h0 + 8), .ref (h0 + 24), .ref (h0 + 38), .ref (h0 + 39), .ref (h0 + 47), .ref (h0 + 48)]) 48 [.ref (h0 + 49), .ref (h0 + 57), .ref (h0 + 58)]) 59 [.ref (h0 + 8), .int 100]) 60 [.int 0, .null]) M_5 61 A s H _ := hW
  refine lv_dup hx hb dX8_init_79 rfl ?_
  refine pc_callIN (host := RX8) (As := []) (k := 60) C hW (mX5_init h) hW.2.2.2.2.2.2.2.2.1 mO_yX5_init mI_X5 mC_yX5_init rfl dd_X5_init ⟨rfl, rfl⟩ ⟨by decide, by decide⟩ ⟨by decide, by decide⟩ hl.1 rfl (Nat.le_of_ble_eq_true rfl) dX8_init_80 (fun M_6 H locs h hW => ?_)
  have hW : pc_W D h0 cy (va_up (va_up (va_up (va_up (va_up (va_up (va_up (va_up F 0 [.ref (h0 + 1), .ref (h0 + 8), .ref (h0 + 24), .ref (h0 + 37), .ref (h0 + 59), .null]) 1 [.ref (h0 + 2), .ref (h0 + 3)]) 8 [.int 0, .ref (h0 + 9), .ref (h0 + 10), .ref (h0 + 11), .ref (h0 + 17), .ref (h0 + 23)]) 24 [.ref (h0 + 1), .int 0, .ref (h0 + 25), .ref (h0 + 26), .ref (h0 + 27), .ref (h0 + 28), .ref (h0 + 36)]) 37 [.ref (h0 + 8), .ref (h0 + 24), .ref (h0 + 38), .ref (h0 + 39), .ref (h0 + 47), .ref (h0 + 48)]) 48 [.ref (h0 + 49), .ref (h0 + 57), .ref (h0 + 58)]) 59 [.ref (h0 + 8), .int 100]) 60 [.int 0, .ref (h0 + 61)]) M_6 82 A s H _ := hW
  refine pc_put (ty := .object "ParkDesk$Tickets") (F' := (va_up (va_up (va_up (va_up (va_up (va_up (va_up (va_up F 0 [.ref (h0 + 1), .ref (h0 + 8), .ref (h0 + 24), .ref (h0 + 37), .ref (h0 + 59), .ref (h0 + 60)]) 1 [.ref (h0 + 2), .ref (h0 + 3)]) 8 [.int 0, .ref (h0 + 9), .ref (h0 + 10), .ref (h0 + 11), .ref (h0 + 17), .ref (h0 + 23)]) 24 [.ref (h0 + 1), .int 0, .ref (h0 + 25), .ref (h0 + 26), .ref (h0 + 27), .ref (h0 + 28), .ref (h0 + 36)]) 37 [.ref (h0 + 8), .ref (h0 + 24), .ref (h0 + 38), .ref (h0 + 39), .ref (h0 + 47), .ref (h0 + 48)]) 48 [.ref (h0 + 49), .ref (h0 + 57), .ref (h0 + 58)]) 59 [.ref (h0 + 8), .int 100]) 60 [.int 0, .ref (h0 + 61)])) (vs := [.ref (h0 + 1), .ref (h0 + 8), .ref (h0 + 24), .ref (h0 + 37), .ref (h0 + 59), .null]) (vs' := [.ref (h0 + 1), .ref (h0 + 8), .ref (h0 + 24), .ref (h0 + 37), .ref (h0 + 59), .ref (h0 + 60)]) C hin hW kd_0 (by decide) rfl inX8 tyX8_ok nmX8 5 (by decide) mF_X8_53 rfl (by decide +kernel) rfl rfl rfl rfl rfl (Nat.le_of_ble_eq_true rfl) (fun i hi => by simp [va_up, hi]) dX8_init_83 (fun H locs hW => ?_)
  exact pc_vret C hA hW h dX8_init_86
theorem dd_X8_init : yX8_init.cls ≠ "java/lang/invoke/MethodHandle" ∧ yX8_init.cls ≠ "java/lang/invoke/VarHandle" ∧ (parseMethodDescriptor yX8_init.desc).map (fun d => d.parameters.length) = some 0 := by decide +kernel
abbrev rX9_init : Room := { frames := 1, cells := 24, slots := 414, locals := 20 }
def lpX9_init_212 (K : pd_M → Prop) (f1 : Int32) : Nat → Int32 → pd_M → Prop
  | 0, _, _ => False
  | n + 1, v2, M => ((3 ≤ v2 → K M) ∧ (¬ 3 ≤ v2 → (vp_in ((3 * f1) + v2) 12 ∧ ∀ M_6 : pd_M, M_6 = sI M 95 ((3 * f1) + v2).toNatClampNeg (-1) → ∀ x2_7 : Int32, x2_7 = v2 + 1 → lpX9_init_212 K f1 n x2_7 M_6)))

set_option maxRecDepth 100000 in
set_option maxHeartbeats 4000000 in
theorem stX9_init_212 {p : Program} {l : Launch} {e : Env} {s : State} {m : MethodId} {args : Array Value} {below : List Frame} {meth : Method} {c : Code} {D : va_G} {h0 : Nat} {cy : Nat → ClassId} {F : Nat → List Value} {A : Nat → Prop} {QQ : State → Prop} (C : pd_C p m c cX9_init 3 s args RX9 meth none) (hF : F 82 = [.int 0, .ref (h0 + 83), .ref (h0 + 84), .ref (h0 + 85), .ref (h0 + 86), .ref (h0 + 87), .int 0, .ref (h0 + 88), .ref (h0 + 89), .ref (h0 + 90), .ref (h0 + 91), .ref (h0 + 92), .ref (h0 + 93), .ref (h0 + 94), .ref (h0 + 95), .ref (h0 + 96), .int 100, .int 0, .ref (h0 + 97), .ref (h0 + 98), .ref (h0 + 99), .ref (h0 + 100), .ref (h0 + 101), .ref (h0 + 102), .ref (h0 + 103), .ref (h0 + 104), .ref (h0 + 105), .ref (h0 + 106), .int 0, .int 0]) {K : pd_M → Prop} {f1 : Int32}  (hK : ∀  (M : pd_M) (H : Heap) (locs : List Loc) (ls : Array Slot), pc_W D h0 cy F M 107 A s H locs → lv_has ls 3 [(0, .ref (h0 + 82)), (1, .int f1)] → K  M → W p l e rX9_init s m args below meth c H locs 24 414 QQ (F0 m 234 ls [])) :
    ∀ (n : Nat) (v2 : Int32) (M : pd_M) (H : Heap) (locs : List Loc) (ls : Array Slot), pc_W D h0 cy F M 107 A s H locs → lv_has ls 3 [(0, .ref (h0 + 82)), (1, .int f1), (2, .int v2)] → lpX9_init_212 K f1 n v2 M → W p l e rX9_init s m args below meth c H locs 24 414 QQ (F0 m 212 ls []) := by
  have hx := C.1.1
  have hb := C.1.2.1
  have hown := C.1.2.2.2.1
  have hts := C.1.2.2.2.2
  intro n
  induction n with
  | zero => intro v2 M H locs ls hW hl h; exact h.elim
  | succ n ih =>
    intro v2 M H locs ls hW hl h
    refine lv_iload_n hx hb dX9_init_212 rfl (lv_at hl 2 rfl) ?_
    refine lv_iconst (v := 3) hx hb dX9_init_213 (by decide) ?_
    refine lv_icmp_ge (tgt := 234) hx hb dX9_init_214 (by decide) (fun c_4 => ?_) (fun c_4 => ?_)
    · have h := h.1 c_4
      exact hK M _ _ _ hW (lv_sub hl [0, 1] rfl) h
    · have h := h.2 c_4
      refine lv_aload_n hx hb dX9_init_217 rfl (lv_at hl 0 rfl) ?_
      refine pc_get (vs := [.int 0, .ref (h0 + 83), .ref (h0 + 84), .ref (h0 + 85), .ref (h0 + 86), .ref (h0 + 87), .int 0, .ref (h0 + 88), .ref (h0 + 89), .ref (h0 + 90), .ref (h0 + 91), .ref (h0 + 92), .ref (h0 + 93), .ref (h0 + 94), .ref (h0 + 95), .ref (h0 + 96), .int 100, .int 0, .ref (h0 + 97), .ref (h0 + 98), .ref (h0 + 99), .ref (h0 + 100), .ref (h0 + 101), .ref (h0 + 102), .ref (h0 + 103), .ref (h0 + 104), .ref (h0 + 105), .ref (h0 + 106), .int 0, .int 0]) C hW kd_82 (by decide) rfl inX9 14 (by decide) mF_X9_47 hF rfl dX9_init_218 ?_
      refine lv_iconst (v := 3) hx hb dX9_init_221 (by decide) ?_
      refine lv_iload_n hx hb dX9_init_222 rfl (lv_at hl 1 rfl) ?_
      refine lv_imul hx hb dX9_init_223 ?_
      refine lv_iload_n hx hb dX9_init_224 rfl (lv_at hl 2 rfl) ?_
      refine lv_iadd hx hb dX9_init_225 ?_
      refine lv_iconst (v := (-1)) hx hb dX9_init_226 (by decide) ?_
      have hi_5 := h.1
      have h := h.2
      refine pc_iast C hW kd_95 (by decide) hi_5 dX9_init_227 (fun M_6 H locs eM_6 hW => ?_)
      have h := h M_6 eM_6
      obtain ⟨x2_7, ex2_7⟩ : ∃ y : Int32, y = v2 + 1 := ⟨_, rfl⟩
      have h := h x2_7 ex2_7
      refine lv_iinc (v := x2_7) (lv' := [(2, .int x2_7), (0, .ref (h0 + 82)), (1, .int f1)]) hx hb dX9_init_228 hl (k := 2) rfl (by rw [ex2_7]; rfl) (by decide) rfl (fun ls hl => ?_)
      refine lv_goto (tgt := 212) hx hb dX9_init_231 (by decide) ?_
      exact ih x2_7 M_6 _ _ _ hW (lv_sub hl [1, 2, 0] rfl) h

def lpX9_init_198 (K : pd_M → Prop) : Nat → Int32 → pd_M → Prop
  | 0, _, _ => False
  | n + 1, v1, M => ((4 ≤ v1 → K M) ∧ (¬ 4 ≤ v1 → (vp_in v1 4 ∧ ∀ M_3 : pd_M, M_3 = sI M 93 v1.toNatClampNeg (-1) → (∃ k_212 : Nat, lpX9_init_212 (fun M_8 => ∀ x1_9 : Int32, x1_9 = v1 + 1 → lpX9_init_198 K n x1_9 M_8) v1 k_212 0 M_3))))

set_option maxRecDepth 100000 in
set_option maxHeartbeats 4000000 in
theorem stX9_init_198 {p : Program} {l : Launch} {e : Env} {s : State} {m : MethodId} {args : Array Value} {below : List Frame} {meth : Method} {c : Code} {D : va_G} {h0 : Nat} {cy : Nat → ClassId} {F : Nat → List Value} {A : Nat → Prop} {QQ : State → Prop} (C : pd_C p m c cX9_init 3 s args RX9 meth none) (hF : F 82 = [.int 0, .ref (h0 + 83), .ref (h0 + 84), .ref (h0 + 85), .ref (h0 + 86), .ref (h0 + 87), .int 0, .ref (h0 + 88), .ref (h0 + 89), .ref (h0 + 90), .ref (h0 + 91), .ref (h0 + 92), .ref (h0 + 93), .ref (h0 + 94), .ref (h0 + 95), .ref (h0 + 96), .int 100, .int 0, .ref (h0 + 97), .ref (h0 + 98), .ref (h0 + 99), .ref (h0 + 100), .ref (h0 + 101), .ref (h0 + 102), .ref (h0 + 103), .ref (h0 + 104), .ref (h0 + 105), .ref (h0 + 106), .int 0, .int 0]) {K : pd_M → Prop}  (hK : ∀  (M : pd_M) (H : Heap) (locs : List Loc) (ls : Array Slot), pc_W D h0 cy F M 107 A s H locs → lv_has ls 3 [] → K  M → W p l e rX9_init s m args below meth c H locs 24 414 QQ (F0 m 240 ls [])) :
    ∀ (n : Nat) (v1 : Int32) (M : pd_M) (H : Heap) (locs : List Loc) (ls : Array Slot), pc_W D h0 cy F M 107 A s H locs → lv_has ls 3 [(0, .ref (h0 + 82)), (1, .int v1)] → lpX9_init_198 K n v1 M → W p l e rX9_init s m args below meth c H locs 24 414 QQ (F0 m 198 ls []) := by
  have hx := C.1.1
  have hb := C.1.2.1
  have hown := C.1.2.2.2.1
  have hts := C.1.2.2.2.2
  intro n
  induction n with
  | zero => intro v1 M H locs ls hW hl h; exact h.elim
  | succ n ih =>
    intro v1 M H locs ls hW hl h
    refine lv_iload_n hx hb dX9_init_198 rfl (lv_at hl 1 rfl) ?_
    refine lv_iconst (v := 4) hx hb dX9_init_199 (by decide) ?_
    refine lv_icmp_ge (tgt := 240) hx hb dX9_init_200 (by decide) (fun c_1 => ?_) (fun c_1 => ?_)
    · have h := h.1 c_1
      exact hK M _ _ _ hW (lv_sub hl [] rfl) h
    · have h := h.2 c_1
      refine lv_aload_n hx hb dX9_init_203 rfl (lv_at hl 0 rfl) ?_
      refine pc_get (vs := [.int 0, .ref (h0 + 83), .ref (h0 + 84), .ref (h0 + 85), .ref (h0 + 86), .ref (h0 + 87), .int 0, .ref (h0 + 88), .ref (h0 + 89), .ref (h0 + 90), .ref (h0 + 91), .ref (h0 + 92), .ref (h0 + 93), .ref (h0 + 94), .ref (h0 + 95), .ref (h0 + 96), .int 100, .int 0, .ref (h0 + 97), .ref (h0 + 98), .ref (h0 + 99), .ref (h0 + 100), .ref (h0 + 101), .ref (h0 + 102), .ref (h0 + 103), .ref (h0 + 104), .ref (h0 + 105), .ref (h0 + 106), .int 0, .int 0]) C hW kd_82 (by decide) rfl inX9 12 (by decide) mF_X9_41 hF rfl dX9_init_204 ?_
      refine lv_iload_n hx hb dX9_init_207 rfl (lv_at hl 1 rfl) ?_
      refine lv_iconst (v := (-1)) hx hb dX9_init_208 (by decide) ?_
      have hi_2 := h.1
      have h := h.2
      refine pc_iast C hW kd_93 (by decide) hi_2 dX9_init_209 (fun M_3 H locs eM_3 hW => ?_)
      have h := h M_3 eM_3
      refine lv_iconst (v := 0) hx hb dX9_init_210 (by decide) ?_
      refine lv_istore_n (lv' := [(2, .int 0), (0, .ref (h0 + 82)), (1, .int v1)]) hx hb dX9_init_211 rfl hl (by decide) rfl (fun ls hl => ?_)
      obtain ⟨k_212, h⟩ := h
      refine stX9_init_212 C hF (fun M_8 H locs ls hW hl h => ?_) k_212 0 M_3 _ _ _ hW (lv_sub hl [1, 2, 0] rfl) h
      obtain ⟨x1_9, ex1_9⟩ : ∃ y : Int32, y = v1 + 1 := ⟨_, rfl⟩
      have h := h x1_9 ex1_9
      refine lv_iinc (v := x1_9) (lv' := [(1, .int x1_9), (0, .ref (h0 + 82))]) hx hb dX9_init_234 hl (k := 1) rfl (by rw [ex1_9]; rfl) (by decide) rfl (fun ls hl => ?_)
      refine lv_goto (tgt := 198) hx hb dX9_init_237 (by decide) ?_
      exact ih x1_9 M_8 _ _ _ hW (lv_sub hl [1, 0] rfl) h

def wX9_init (Q : pd_M → Prop) (M : pd_M) : Prop := (∃ k_198 : Nat, lpX9_init_198 (fun M_10 => Q M_10) k_198 0 M)
set_option maxRecDepth 100000 in
set_option maxHeartbeats 4000000 in
theorem mX9_init {l : Launch} {D : va_G} {h0 : Nat} {cy : Nat → ClassId} {F : Nat → List Value} {Q : pd_M → Prop} {M : pd_M} (h : wX9_init Q M) : Met l yX9_init (Cond.code yX9_init cX9_init 3 none :: TB) rX9_init (pc_Pre D h0 cy (va_up F 82 [.int 0, .null, .null, .null, .null, .null, .int 0, .null, .null, .null, .null, .null, .null, .null, .null, .null, .int 0, .int 0, .null, .null, .null, .null, .null, .null, .null, .null, .null, .null, .int 0, .int 0]) M 83 [.ref (h0 + 82)]) (pc_Qv D h0 cy (va_up F 82 [.int 0, .ref (h0 + 83), .ref (h0 + 84), .ref (h0 + 85), .ref (h0 + 86), .ref (h0 + 87), .int 0, .ref (h0 + 88), .ref (h0 + 89), .ref (h0 + 90), .ref (h0 + 91), .ref (h0 + 92), .ref (h0 + 93), .ref (h0 + 94), .ref (h0 + 95), .ref (h0 + 96), .int 100, .int 0, .ref (h0 + 97), .ref (h0 + 98), .ref (h0 + 99), .ref (h0 + 100), .ref (h0 + 101), .ref (h0 + 102), .ref (h0 + 103), .ref (h0 + 104), .ref (h0 + 105), .ref (h0 + 106), .int 0, .int 0]) 107 Q) 24 414 (pc_A h0) := by
  refine pc_met (by decide) (Nat.le_of_ble_eq_true rfl) ?_
  intro p e s m below meth c A ls hin C hA hW hl
  have C : pd_C p m c cX9_init 3 s _ RX9 meth none := C
  have hin : meth.name = "<init>" := hin
  have hx := C.1.1
  have hb := C.1.2.1
  have hown := C.1.2.2.2.1
  have hts := C.1.2.2.2.2
  have hl : lv_has ls 3 [(0, .ref (h0 + 82))] := hl
  refine lv_aload_n hx hb dX9_init_0 rfl (lv_at hl 0 rfl) ?_
  refine pd_objInit C hl.1 mM_X9_1 dX9_init_1 (Nat.le_of_ble_eq_true rfl) (by decide) (by decide) ?_
  refine lv_aload_n hx hb dX9_init_4 rfl (lv_at hl 0 rfl) ?_
  refine lv_iconst (v := 5) hx hb dX9_init_5 (by decide) ?_
  refine pc_newaI C hW kd_83 (by decide) (by decide) (by decide) (by decide) (by decide) dX9_init_6 (fun H hW => ?_)
  have hW : pc_W D h0 cy (va_up F 82 [.int 0, .null, .null, .null, .null, .null, .int 0, .null, .null, .null, .null, .null, .null, .null, .null, .null, .int 0, .int 0, .null, .null, .null, .null, .null, .null, .null, .null, .null, .null, .int 0, .int 0]) M 84 A s H _ := hW
  refine pc_put (ty := .array .int) (F' := (va_up F 82 [.int 0, .ref (h0 + 83), .null, .null, .null, .null, .int 0, .null, .null, .null, .null, .null, .null, .null, .null, .null, .int 0, .int 0, .null, .null, .null, .null, .null, .null, .null, .null, .null, .null, .int 0, .int 0])) (vs := [.int 0, .null, .null, .null, .null, .null, .int 0, .null, .null, .null, .null, .null, .null, .null, .null, .null, .int 0, .int 0, .null, .null, .null, .null, .null, .null, .null, .null, .null, .null, .int 0, .int 0]) (vs' := [.int 0, .ref (h0 + 83), .null, .null, .null, .null, .int 0, .null, .null, .null, .null, .null, .null, .null, .null, .null, .int 0, .int 0, .null, .null, .null, .null, .null, .null, .null, .null, .null, .null, .int 0, .int 0]) C hin hW kd_82 (by decide) rfl inX9 tyX9_ok nmX9 1 (by decide) mF_X9_7 rfl (by decide +kernel) rfl rfl rfl rfl rfl (Nat.le_of_ble_eq_true rfl) (fun i hi => by simp [va_up, hi]) dX9_init_8 (fun H locs hW => ?_)
  refine lv_aload_n hx hb dX9_init_11 rfl (lv_at hl 0 rfl) ?_
  refine lv_iconst (v := 5) hx hb dX9_init_12 (by decide) ?_
  refine pc_newaI C hW kd_84 (by decide) (by decide) (by decide) (by decide) (by decide) dX9_init_13 (fun H hW => ?_)
  have hW : pc_W D h0 cy (va_up F 82 [.int 0, .ref (h0 + 83), .null, .null, .null, .null, .int 0, .null, .null, .null, .null, .null, .null, .null, .null, .null, .int 0, .int 0, .null, .null, .null, .null, .null, .null, .null, .null, .null, .null, .int 0, .int 0]) M 85 A s H _ := hW
  refine pc_put (ty := .array .int) (F' := (va_up F 82 [.int 0, .ref (h0 + 83), .ref (h0 + 84), .null, .null, .null, .int 0, .null, .null, .null, .null, .null, .null, .null, .null, .null, .int 0, .int 0, .null, .null, .null, .null, .null, .null, .null, .null, .null, .null, .int 0, .int 0])) (vs := [.int 0, .ref (h0 + 83), .null, .null, .null, .null, .int 0, .null, .null, .null, .null, .null, .null, .null, .null, .null, .int 0, .int 0, .null, .null, .null, .null, .null, .null, .null, .null, .null, .null, .int 0, .int 0]) (vs' := [.int 0, .ref (h0 + 83), .ref (h0 + 84), .null, .null, .null, .int 0, .null, .null, .null, .null, .null, .null, .null, .null, .null, .int 0, .int 0, .null, .null, .null, .null, .null, .null, .null, .null, .null, .null, .int 0, .int 0]) C hin hW kd_82 (by decide) rfl inX9 tyX9_ok nmX9 2 (by decide) mF_X9_13 rfl (by decide +kernel) rfl rfl rfl rfl rfl (Nat.le_of_ble_eq_true rfl) (fun i hi => by simp [va_up, hi]) dX9_init_15 (fun H locs hW => ?_)
  refine lv_aload_n hx hb dX9_init_18 rfl (lv_at hl 0 rfl) ?_
  refine lv_bipush (v := 35) hx hb dX9_init_19 (by decide) ?_
  refine pc_newaI C hW kd_85 (by decide) (by decide) (by decide) (by decide) (by decide) dX9_init_21 (fun H hW => ?_)
  have hW : pc_W D h0 cy (va_up F 82 [.int 0, .ref (h0 + 83), .ref (h0 + 84), .null, .null, .null, .int 0, .null, .null, .null, .null, .null, .null, .null, .null, .null, .int 0, .int 0, .null, .null, .null, .null, .null, .null, .null, .null, .null, .null, .int 0, .int 0]) M 86 A s H _ := hW
  refine pc_put (ty := .array .int) (F' := (va_up F 82 [.int 0, .ref (h0 + 83), .ref (h0 + 84), .ref (h0 + 85), .null, .null, .int 0, .null, .null, .null, .null, .null, .null, .null, .null, .null, .int 0, .int 0, .null, .null, .null, .null, .null, .null, .null, .null, .null, .null, .int 0, .int 0])) (vs := [.int 0, .ref (h0 + 83), .ref (h0 + 84), .null, .null, .null, .int 0, .null, .null, .null, .null, .null, .null, .null, .null, .null, .int 0, .int 0, .null, .null, .null, .null, .null, .null, .null, .null, .null, .null, .int 0, .int 0]) (vs' := [.int 0, .ref (h0 + 83), .ref (h0 + 84), .ref (h0 + 85), .null, .null, .int 0, .null, .null, .null, .null, .null, .null, .null, .null, .null, .int 0, .int 0, .null, .null, .null, .null, .null, .null, .null, .null, .null, .null, .int 0, .int 0]) C hin hW kd_82 (by decide) rfl inX9 tyX9_ok nmX9 3 (by decide) mF_X9_16 rfl (by decide +kernel) rfl rfl rfl rfl rfl (Nat.le_of_ble_eq_true rfl) (fun i hi => by simp [va_up, hi]) dX9_init_23 (fun H locs hW => ?_)
  refine lv_aload_n hx hb dX9_init_26 rfl (lv_at hl 0 rfl) ?_
  refine lv_bipush (v := 25) hx hb dX9_init_27 (by decide) ?_
  refine pc_newaI C hW kd_86 (by decide) (by decide) (by decide) (by decide) (by decide) dX9_init_29 (fun H hW => ?_)
  have hW : pc_W D h0 cy (va_up F 82 [.int 0, .ref (h0 + 83), .ref (h0 + 84), .ref (h0 + 85), .null, .null, .int 0, .null, .null, .null, .null, .null, .null, .null, .null, .null, .int 0, .int 0, .null, .null, .null, .null, .null, .null, .null, .null, .null, .null, .int 0, .int 0]) M 87 A s H _ := hW
  refine pc_put (ty := .array .int) (F' := (va_up F 82 [.int 0, .ref (h0 + 83), .ref (h0 + 84), .ref (h0 + 85), .ref (h0 + 86), .null, .int 0, .null, .null, .null, .null, .null, .null, .null, .null, .null, .int 0, .int 0, .null, .null, .null, .null, .null, .null, .null, .null, .null, .null, .int 0, .int 0])) (vs := [.int 0, .ref (h0 + 83), .ref (h0 + 84), .ref (h0 + 85), .null, .null, .int 0, .null, .null, .null, .null, .null, .null, .null, .null, .null, .int 0, .int 0, .null, .null, .null, .null, .null, .null, .null, .null, .null, .null, .int 0, .int 0]) (vs' := [.int 0, .ref (h0 + 83), .ref (h0 + 84), .ref (h0 + 85), .ref (h0 + 86), .null, .int 0, .null, .null, .null, .null, .null, .null, .null, .null, .null, .int 0, .int 0, .null, .null, .null, .null, .null, .null, .null, .null, .null, .null, .int 0, .int 0]) C hin hW kd_82 (by decide) rfl inX9 tyX9_ok nmX9 4 (by decide) mF_X9_19 rfl (by decide +kernel) rfl rfl rfl rfl rfl (Nat.le_of_ble_eq_true rfl) (fun i hi => by simp [va_up, hi]) dX9_init_31 (fun H locs hW => ?_)
  refine lv_aload_n hx hb dX9_init_34 rfl (lv_at hl 0 rfl) ?_
  refine lv_iconst (v := 5) hx hb dX9_init_35 (by decide) ?_
  refine pc_newaI C hW kd_87 (by decide) (by decide) (by decide) (by decide) (by decide) dX9_init_36 (fun H hW => ?_)
  have hW : pc_W D h0 cy (va_up F 82 [.int 0, .ref (h0 + 83), .ref (h0 + 84), .ref (h0 + 85), .ref (h0 + 86), .null, .int 0, .null, .null, .null, .null, .null, .null, .null, .null, .null, .int 0, .int 0, .null, .null, .null, .null, .null, .null, .null, .null, .null, .null, .int 0, .int 0]) M 88 A s H _ := hW
  refine pc_put (ty := .array .int) (F' := (va_up F 82 [.int 0, .ref (h0 + 83), .ref (h0 + 84), .ref (h0 + 85), .ref (h0 + 86), .ref (h0 + 87), .int 0, .null, .null, .null, .null, .null, .null, .null, .null, .null, .int 0, .int 0, .null, .null, .null, .null, .null, .null, .null, .null, .null, .null, .int 0, .int 0])) (vs := [.int 0, .ref (h0 + 83), .ref (h0 + 84), .ref (h0 + 85), .ref (h0 + 86), .null, .int 0, .null, .null, .null, .null, .null, .null, .null, .null, .null, .int 0, .int 0, .null, .null, .null, .null, .null, .null, .null, .null, .null, .null, .int 0, .int 0]) (vs' := [.int 0, .ref (h0 + 83), .ref (h0 + 84), .ref (h0 + 85), .ref (h0 + 86), .ref (h0 + 87), .int 0, .null, .null, .null, .null, .null, .null, .null, .null, .null, .int 0, .int 0, .null, .null, .null, .null, .null, .null, .null, .null, .null, .null, .int 0, .int 0]) C hin hW kd_82 (by decide) rfl inX9 tyX9_ok nmX9 5 (by decide) mF_X9_22 rfl (by decide +kernel) rfl rfl rfl rfl rfl (Nat.le_of_ble_eq_true rfl) (fun i hi => by simp [va_up, hi]) dX9_init_38 (fun H locs hW => ?_)
  refine lv_aload_n hx hb dX9_init_41 rfl (lv_at hl 0 rfl) ?_
  refine lv_bipush (v := 7) hx hb dX9_init_42 (by decide) ?_
  refine pc_newaI C hW kd_88 (by decide) (by decide) (by decide) (by decide) (by decide) dX9_init_44 (fun H hW => ?_)
  have hW : pc_W D h0 cy (va_up F 82 [.int 0, .ref (h0 + 83), .ref (h0 + 84), .ref (h0 + 85), .ref (h0 + 86), .ref (h0 + 87), .int 0, .null, .null, .null, .null, .null, .null, .null, .null, .null, .int 0, .int 0, .null, .null, .null, .null, .null, .null, .null, .null, .null, .null, .int 0, .int 0]) M 89 A s H _ := hW
  refine pc_put (ty := .array .int) (F' := (va_up F 82 [.int 0, .ref (h0 + 83), .ref (h0 + 84), .ref (h0 + 85), .ref (h0 + 86), .ref (h0 + 87), .int 0, .ref (h0 + 88), .null, .null, .null, .null, .null, .null, .null, .null, .int 0, .int 0, .null, .null, .null, .null, .null, .null, .null, .null, .null, .null, .int 0, .int 0])) (vs := [.int 0, .ref (h0 + 83), .ref (h0 + 84), .ref (h0 + 85), .ref (h0 + 86), .ref (h0 + 87), .int 0, .null, .null, .null, .null, .null, .null, .null, .null, .null, .int 0, .int 0, .null, .null, .null, .null, .null, .null, .null, .null, .null, .null, .int 0, .int 0]) (vs' := [.int 0, .ref (h0 + 83), .ref (h0 + 84), .ref (h0 + 85), .ref (h0 + 86), .ref (h0 + 87), .int 0, .ref (h0 + 88), .null, .null, .null, .null, .null, .null, .null, .null, .int 0, .int 0, .null, .null, .null, .null, .null, .null, .null, .null, .null, .null, .int 0, .int 0]) C hin hW kd_82 (by decide) rfl inX9 tyX9_ok nmX9 7 (by decide) mF_X9_25 rfl (by decide +kernel) rfl rfl rfl rfl rfl (Nat.le_of_ble_eq_true rfl) (fun i hi => by simp [va_up, hi]) dX9_init_46 (fun H locs hW => ?_)
  refine lv_aload_n hx hb dX9_init_49 rfl (lv_at hl 0 rfl) ?_
  refine lv_bipush (v := 84) hx hb dX9_init_50 (by decide) ?_
  refine pc_newaZ C hW kd_89 (by decide) (by decide) (by decide) (by decide) (by decide) dX9_init_52 (fun H hW => ?_)
  have hW : pc_W D h0 cy (va_up F 82 [.int 0, .ref (h0 + 83), .ref (h0 + 84), .ref (h0 + 85), .ref (h0 + 86), .ref (h0 + 87), .int 0, .ref (h0 + 88), .null, .null, .null, .null, .null, .null, .null, .null, .int 0, .int 0, .null, .null, .null, .null, .null, .null, .null, .null, .null, .null, .int 0, .int 0]) M 90 A s H _ := hW
  refine pc_put (ty := .array .boolean) (F' := (va_up F 82 [.int 0, .ref (h0 + 83), .ref (h0 + 84), .ref (h0 + 85), .ref (h0 + 86), .ref (h0 + 87), .int 0, .ref (h0 + 88), .ref (h0 + 89), .null, .null, .null, .null, .null, .null, .null, .int 0, .int 0, .null, .null, .null, .null, .null, .null, .null, .null, .null, .null, .int 0, .int 0])) (vs := [.int 0, .ref (h0 + 83), .ref (h0 + 84), .ref (h0 + 85), .ref (h0 + 86), .ref (h0 + 87), .int 0, .ref (h0 + 88), .null, .null, .null, .null, .null, .null, .null, .null, .int 0, .int 0, .null, .null, .null, .null, .null, .null, .null, .null, .null, .null, .int 0, .int 0]) (vs' := [.int 0, .ref (h0 + 83), .ref (h0 + 84), .ref (h0 + 85), .ref (h0 + 86), .ref (h0 + 87), .int 0, .ref (h0 + 88), .ref (h0 + 89), .null, .null, .null, .null, .null, .null, .null, .int 0, .int 0, .null, .null, .null, .null, .null, .null, .null, .null, .null, .null, .int 0, .int 0]) C hin hW kd_82 (by decide) rfl inX9 tyX9_ok nmX9 8 (by decide) mF_X9_28 rfl (by decide +kernel) rfl rfl rfl rfl rfl (Nat.le_of_ble_eq_true rfl) (fun i hi => by simp [va_up, hi]) dX9_init_54 (fun H locs hW => ?_)
  refine lv_aload_n hx hb dX9_init_57 rfl (lv_at hl 0 rfl) ?_
  refine lv_bipush (v := 28) hx hb dX9_init_58 (by decide) ?_
  refine pc_newaI C hW kd_90 (by decide) (by decide) (by decide) (by decide) (by decide) dX9_init_60 (fun H hW => ?_)
  have hW : pc_W D h0 cy (va_up F 82 [.int 0, .ref (h0 + 83), .ref (h0 + 84), .ref (h0 + 85), .ref (h0 + 86), .ref (h0 + 87), .int 0, .ref (h0 + 88), .ref (h0 + 89), .null, .null, .null, .null, .null, .null, .null, .int 0, .int 0, .null, .null, .null, .null, .null, .null, .null, .null, .null, .null, .int 0, .int 0]) M 91 A s H _ := hW
  refine pc_put (ty := .array .int) (F' := (va_up F 82 [.int 0, .ref (h0 + 83), .ref (h0 + 84), .ref (h0 + 85), .ref (h0 + 86), .ref (h0 + 87), .int 0, .ref (h0 + 88), .ref (h0 + 89), .ref (h0 + 90), .null, .null, .null, .null, .null, .null, .int 0, .int 0, .null, .null, .null, .null, .null, .null, .null, .null, .null, .null, .int 0, .int 0])) (vs := [.int 0, .ref (h0 + 83), .ref (h0 + 84), .ref (h0 + 85), .ref (h0 + 86), .ref (h0 + 87), .int 0, .ref (h0 + 88), .ref (h0 + 89), .null, .null, .null, .null, .null, .null, .null, .int 0, .int 0, .null, .null, .null, .null, .null, .null, .null, .null, .null, .null, .int 0, .int 0]) (vs' := [.int 0, .ref (h0 + 83), .ref (h0 + 84), .ref (h0 + 85), .ref (h0 + 86), .ref (h0 + 87), .int 0, .ref (h0 + 88), .ref (h0 + 89), .ref (h0 + 90), .null, .null, .null, .null, .null, .null, .int 0, .int 0, .null, .null, .null, .null, .null, .null, .null, .null, .null, .null, .int 0, .int 0]) C hin hW kd_82 (by decide) rfl inX9 tyX9_ok nmX9 9 (by decide) mF_X9_32 rfl (by decide +kernel) rfl rfl rfl rfl rfl (Nat.le_of_ble_eq_true rfl) (fun i hi => by simp [va_up, hi]) dX9_init_62 (fun H locs hW => ?_)
  refine lv_aload_n hx hb dX9_init_65 rfl (lv_at hl 0 rfl) ?_
  refine lv_bipush (v := 7) hx hb dX9_init_66 (by decide) ?_
  refine pc_newaI C hW kd_91 (by decide) (by decide) (by decide) (by decide) (by decide) dX9_init_68 (fun H hW => ?_)
  have hW : pc_W D h0 cy (va_up F 82 [.int 0, .ref (h0 + 83), .ref (h0 + 84), .ref (h0 + 85), .ref (h0 + 86), .ref (h0 + 87), .int 0, .ref (h0 + 88), .ref (h0 + 89), .ref (h0 + 90), .null, .null, .null, .null, .null, .null, .int 0, .int 0, .null, .null, .null, .null, .null, .null, .null, .null, .null, .null, .int 0, .int 0]) M 92 A s H _ := hW
  refine pc_put (ty := .array .int) (F' := (va_up F 82 [.int 0, .ref (h0 + 83), .ref (h0 + 84), .ref (h0 + 85), .ref (h0 + 86), .ref (h0 + 87), .int 0, .ref (h0 + 88), .ref (h0 + 89), .ref (h0 + 90), .ref (h0 + 91), .null, .null, .null, .null, .null, .int 0, .int 0, .null, .null, .null, .null, .null, .null, .null, .null, .null, .null, .int 0, .int 0])) (vs := [.int 0, .ref (h0 + 83), .ref (h0 + 84), .ref (h0 + 85), .ref (h0 + 86), .ref (h0 + 87), .int 0, .ref (h0 + 88), .ref (h0 + 89), .ref (h0 + 90), .null, .null, .null, .null, .null, .null, .int 0, .int 0, .null, .null, .null, .null, .null, .null, .null, .null, .null, .null, .int 0, .int 0]) (vs' := [.int 0, .ref (h0 + 83), .ref (h0 + 84), .ref (h0 + 85), .ref (h0 + 86), .ref (h0 + 87), .int 0, .ref (h0 + 88), .ref (h0 + 89), .ref (h0 + 90), .ref (h0 + 91), .null, .null, .null, .null, .null, .int 0, .int 0, .null, .null, .null, .null, .null, .null, .null, .null, .null, .null, .int 0, .int 0]) C hin hW kd_82 (by decide) rfl inX9 tyX9_ok nmX9 10 (by decide) mF_X9_35 rfl (by decide +kernel) rfl rfl rfl rfl rfl (Nat.le_of_ble_eq_true rfl) (fun i hi => by simp [va_up, hi]) dX9_init_70 (fun H locs hW => ?_)
  refine lv_aload_n hx hb dX9_init_73 rfl (lv_at hl 0 rfl) ?_
  refine lv_bipush (v := 7) hx hb dX9_init_74 (by decide) ?_
  refine pc_newaI C hW kd_92 (by decide) (by decide) (by decide) (by decide) (by decide) dX9_init_76 (fun H hW => ?_)
  have hW : pc_W D h0 cy (va_up F 82 [.int 0, .ref (h0 + 83), .ref (h0 + 84), .ref (h0 + 85), .ref (h0 + 86), .ref (h0 + 87), .int 0, .ref (h0 + 88), .ref (h0 + 89), .ref (h0 + 90), .ref (h0 + 91), .null, .null, .null, .null, .null, .int 0, .int 0, .null, .null, .null, .null, .null, .null, .null, .null, .null, .null, .int 0, .int 0]) M 93 A s H _ := hW
  refine pc_put (ty := .array .int) (F' := (va_up F 82 [.int 0, .ref (h0 + 83), .ref (h0 + 84), .ref (h0 + 85), .ref (h0 + 86), .ref (h0 + 87), .int 0, .ref (h0 + 88), .ref (h0 + 89), .ref (h0 + 90), .ref (h0 + 91), .ref (h0 + 92), .null, .null, .null, .null, .int 0, .int 0, .null, .null, .null, .null, .null, .null, .null, .null, .null, .null, .int 0, .int 0])) (vs := [.int 0, .ref (h0 + 83), .ref (h0 + 84), .ref (h0 + 85), .ref (h0 + 86), .ref (h0 + 87), .int 0, .ref (h0 + 88), .ref (h0 + 89), .ref (h0 + 90), .ref (h0 + 91), .null, .null, .null, .null, .null, .int 0, .int 0, .null, .null, .null, .null, .null, .null, .null, .null, .null, .null, .int 0, .int 0]) (vs' := [.int 0, .ref (h0 + 83), .ref (h0 + 84), .ref (h0 + 85), .ref (h0 + 86), .ref (h0 + 87), .int 0, .ref (h0 + 88), .ref (h0 + 89), .ref (h0 + 90), .ref (h0 + 91), .ref (h0 + 92), .null, .null, .null, .null, .int 0, .int 0, .null, .null, .null, .null, .null, .null, .null, .null, .null, .null, .int 0, .int 0]) C hin hW kd_82 (by decide) rfl inX9 tyX9_ok nmX9 11 (by decide) mF_X9_38 rfl (by decide +kernel) rfl rfl rfl rfl rfl (Nat.le_of_ble_eq_true rfl) (fun i hi => by simp [va_up, hi]) dX9_init_78 (fun H locs hW => ?_)
  refine lv_aload_n hx hb dX9_init_81 rfl (lv_at hl 0 rfl) ?_
  refine lv_iconst (v := 4) hx hb dX9_init_82 (by decide) ?_
  refine pc_newaI C hW kd_93 (by decide) (by decide) (by decide) (by decide) (by decide) dX9_init_83 (fun H hW => ?_)
  have hW : pc_W D h0 cy (va_up F 82 [.int 0, .ref (h0 + 83), .ref (h0 + 84), .ref (h0 + 85), .ref (h0 + 86), .ref (h0 + 87), .int 0, .ref (h0 + 88), .ref (h0 + 89), .ref (h0 + 90), .ref (h0 + 91), .ref (h0 + 92), .null, .null, .null, .null, .int 0, .int 0, .null, .null, .null, .null, .null, .null, .null, .null, .null, .null, .int 0, .int 0]) M 94 A s H _ := hW
  refine pc_put (ty := .array .int) (F' := (va_up F 82 [.int 0, .ref (h0 + 83), .ref (h0 + 84), .ref (h0 + 85), .ref (h0 + 86), .ref (h0 + 87), .int 0, .ref (h0 + 88), .ref (h0 + 89), .ref (h0 + 90), .ref (h0 + 91), .ref (h0 + 92), .ref (h0 + 93), .null, .null, .null, .int 0, .int 0, .null, .null, .null, .null, .null, .null, .null, .null, .null, .null, .int 0, .int 0])) (vs := [.int 0, .ref (h0 + 83), .ref (h0 + 84), .ref (h0 + 85), .ref (h0 + 86), .ref (h0 + 87), .int 0, .ref (h0 + 88), .ref (h0 + 89), .ref (h0 + 90), .ref (h0 + 91), .ref (h0 + 92), .null, .null, .null, .null, .int 0, .int 0, .null, .null, .null, .null, .null, .null, .null, .null, .null, .null, .int 0, .int 0]) (vs' := [.int 0, .ref (h0 + 83), .ref (h0 + 84), .ref (h0 + 85), .ref (h0 + 86), .ref (h0 + 87), .int 0, .ref (h0 + 88), .ref (h0 + 89), .ref (h0 + 90), .ref (h0 + 91), .ref (h0 + 92), .ref (h0 + 93), .null, .null, .null, .int 0, .int 0, .null, .null, .null, .null, .null, .null, .null, .null, .null, .null, .int 0, .int 0]) C hin hW kd_82 (by decide) rfl inX9 tyX9_ok nmX9 12 (by decide) mF_X9_41 rfl (by decide +kernel) rfl rfl rfl rfl rfl (Nat.le_of_ble_eq_true rfl) (fun i hi => by simp [va_up, hi]) dX9_init_85 (fun H locs hW => ?_)
  refine lv_aload_n hx hb dX9_init_88 rfl (lv_at hl 0 rfl) ?_
  refine lv_iconst (v := 4) hx hb dX9_init_89 (by decide) ?_
  refine pc_newaI C hW kd_94 (by decide) (by decide) (by decide) (by decide) (by decide) dX9_init_90 (fun H hW => ?_)
  have hW : pc_W D h0 cy (va_up F 82 [.int 0, .ref (h0 + 83), .ref (h0 + 84), .ref (h0 + 85), .ref (h0 + 86), .ref (h0 + 87), .int 0, .ref (h0 + 88), .ref (h0 + 89), .ref (h0 + 90), .ref (h0 + 91), .ref (h0 + 92), .ref (h0 + 93), .null, .null, .null, .int 0, .int 0, .null, .null, .null, .null, .null, .null, .null, .null, .null, .null, .int 0, .int 0]) M 95 A s H _ := hW
  refine pc_put (ty := .array .int) (F' := (va_up F 82 [.int 0, .ref (h0 + 83), .ref (h0 + 84), .ref (h0 + 85), .ref (h0 + 86), .ref (h0 + 87), .int 0, .ref (h0 + 88), .ref (h0 + 89), .ref (h0 + 90), .ref (h0 + 91), .ref (h0 + 92), .ref (h0 + 93), .ref (h0 + 94), .null, .null, .int 0, .int 0, .null, .null, .null, .null, .null, .null, .null, .null, .null, .null, .int 0, .int 0])) (vs := [.int 0, .ref (h0 + 83), .ref (h0 + 84), .ref (h0 + 85), .ref (h0 + 86), .ref (h0 + 87), .int 0, .ref (h0 + 88), .ref (h0 + 89), .ref (h0 + 90), .ref (h0 + 91), .ref (h0 + 92), .ref (h0 + 93), .null, .null, .null, .int 0, .int 0, .null, .null, .null, .null, .null, .null, .null, .null, .null, .null, .int 0, .int 0]) (vs' := [.int 0, .ref (h0 + 83), .ref (h0 + 84), .ref (h0 + 85), .ref (h0 + 86), .ref (h0 + 87), .int 0, .ref (h0 + 88), .ref (h0 + 89), .ref (h0 + 90), .ref (h0 + 91), .ref (h0 + 92), .ref (h0 + 93), .ref (h0 + 94), .null, .null, .int 0, .int 0, .null, .null, .null, .null, .null, .null, .null, .null, .null, .null, .int 0, .int 0]) C hin hW kd_82 (by decide) rfl inX9 tyX9_ok nmX9 13 (by decide) mF_X9_44 rfl (by decide +kernel) rfl rfl rfl rfl rfl (Nat.le_of_ble_eq_true rfl) (fun i hi => by simp [va_up, hi]) dX9_init_92 (fun H locs hW => ?_)
  refine lv_aload_n hx hb dX9_init_95 rfl (lv_at hl 0 rfl) ?_
  refine lv_bipush (v := 12) hx hb dX9_init_96 (by decide) ?_
  refine pc_newaI C hW kd_95 (by decide) (by decide) (by decide) (by decide) (by decide) dX9_init_98 (fun H hW => ?_)
  have hW : pc_W D h0 cy (va_up F 82 [.int 0, .ref (h0 + 83), .ref (h0 + 84), .ref (h0 + 85), .ref (h0 + 86), .ref (h0 + 87), .int 0, .ref (h0 + 88), .ref (h0 + 89), .ref (h0 + 90), .ref (h0 + 91), .ref (h0 + 92), .ref (h0 + 93), .ref (h0 + 94), .null, .null, .int 0, .int 0, .null, .null, .null, .null, .null, .null, .null, .null, .null, .null, .int 0, .int 0]) M 96 A s H _ := hW
  refine pc_put (ty := .array .int) (F' := (va_up F 82 [.int 0, .ref (h0 + 83), .ref (h0 + 84), .ref (h0 + 85), .ref (h0 + 86), .ref (h0 + 87), .int 0, .ref (h0 + 88), .ref (h0 + 89), .ref (h0 + 90), .ref (h0 + 91), .ref (h0 + 92), .ref (h0 + 93), .ref (h0 + 94), .ref (h0 + 95), .null, .int 0, .int 0, .null, .null, .null, .null, .null, .null, .null, .null, .null, .null, .int 0, .int 0])) (vs := [.int 0, .ref (h0 + 83), .ref (h0 + 84), .ref (h0 + 85), .ref (h0 + 86), .ref (h0 + 87), .int 0, .ref (h0 + 88), .ref (h0 + 89), .ref (h0 + 90), .ref (h0 + 91), .ref (h0 + 92), .ref (h0 + 93), .ref (h0 + 94), .null, .null, .int 0, .int 0, .null, .null, .null, .null, .null, .null, .null, .null, .null, .null, .int 0, .int 0]) (vs' := [.int 0, .ref (h0 + 83), .ref (h0 + 84), .ref (h0 + 85), .ref (h0 + 86), .ref (h0 + 87), .int 0, .ref (h0 + 88), .ref (h0 + 89), .ref (h0 + 90), .ref (h0 + 91), .ref (h0 + 92), .ref (h0 + 93), .ref (h0 + 94), .ref (h0 + 95), .null, .int 0, .int 0, .null, .null, .null, .null, .null, .null, .null, .null, .null, .null, .int 0, .int 0]) C hin hW kd_82 (by decide) rfl inX9 tyX9_ok nmX9 14 (by decide) mF_X9_47 rfl (by decide +kernel) rfl rfl rfl rfl rfl (Nat.le_of_ble_eq_true rfl) (fun i hi => by simp [va_up, hi]) dX9_init_100 (fun H locs hW => ?_)
  refine lv_aload_n hx hb dX9_init_103 rfl (lv_at hl 0 rfl) ?_
  refine lv_bipush (v := 12) hx hb dX9_init_104 (by decide) ?_
  refine pc_newaI C hW kd_96 (by decide) (by decide) (by decide) (by decide) (by decide) dX9_init_106 (fun H hW => ?_)
  have hW : pc_W D h0 cy (va_up F 82 [.int 0, .ref (h0 + 83), .ref (h0 + 84), .ref (h0 + 85), .ref (h0 + 86), .ref (h0 + 87), .int 0, .ref (h0 + 88), .ref (h0 + 89), .ref (h0 + 90), .ref (h0 + 91), .ref (h0 + 92), .ref (h0 + 93), .ref (h0 + 94), .ref (h0 + 95), .null, .int 0, .int 0, .null, .null, .null, .null, .null, .null, .null, .null, .null, .null, .int 0, .int 0]) M 97 A s H _ := hW
  refine pc_put (ty := .array .int) (F' := (va_up F 82 [.int 0, .ref (h0 + 83), .ref (h0 + 84), .ref (h0 + 85), .ref (h0 + 86), .ref (h0 + 87), .int 0, .ref (h0 + 88), .ref (h0 + 89), .ref (h0 + 90), .ref (h0 + 91), .ref (h0 + 92), .ref (h0 + 93), .ref (h0 + 94), .ref (h0 + 95), .ref (h0 + 96), .int 0, .int 0, .null, .null, .null, .null, .null, .null, .null, .null, .null, .null, .int 0, .int 0])) (vs := [.int 0, .ref (h0 + 83), .ref (h0 + 84), .ref (h0 + 85), .ref (h0 + 86), .ref (h0 + 87), .int 0, .ref (h0 + 88), .ref (h0 + 89), .ref (h0 + 90), .ref (h0 + 91), .ref (h0 + 92), .ref (h0 + 93), .ref (h0 + 94), .ref (h0 + 95), .null, .int 0, .int 0, .null, .null, .null, .null, .null, .null, .null, .null, .null, .null, .int 0, .int 0]) (vs' := [.int 0, .ref (h0 + 83), .ref (h0 + 84), .ref (h0 + 85), .ref (h0 + 86), .ref (h0 + 87), .int 0, .ref (h0 + 88), .ref (h0 + 89), .ref (h0 + 90), .ref (h0 + 91), .ref (h0 + 92), .ref (h0 + 93), .ref (h0 + 94), .ref (h0 + 95), .ref (h0 + 96), .int 0, .int 0, .null, .null, .null, .null, .null, .null, .null, .null, .null, .null, .int 0, .int 0]) C hin hW kd_82 (by decide) rfl inX9 tyX9_ok nmX9 15 (by decide) mF_X9_50 rfl (by decide +kernel) rfl rfl rfl rfl rfl (Nat.le_of_ble_eq_true rfl) (fun i hi => by simp [va_up, hi]) dX9_init_108 (fun H locs hW => ?_)
  refine lv_aload_n hx hb dX9_init_111 rfl (lv_at hl 0 rfl) ?_
  refine lv_bipush (v := 100) hx hb dX9_init_112 (by decide) ?_
  refine pc_put (ty := .int) (F' := (va_up F 82 [.int 0, .ref (h0 + 83), .ref (h0 + 84), .ref (h0 + 85), .ref (h0 + 86), .ref (h0 + 87), .int 0, .ref (h0 + 88), .ref (h0 + 89), .ref (h0 + 90), .ref (h0 + 91), .ref (h0 + 92), .ref (h0 + 93), .ref (h0 + 94), .ref (h0 + 95), .ref (h0 + 96), .int 100, .int 0, .null, .null, .null, .null, .null, .null, .null, .null, .null, .null, .int 0, .int 0])) (vs := [.int 0, .ref (h0 + 83), .ref (h0 + 84), .ref (h0 + 85), .ref (h0 + 86), .ref (h0 + 87), .int 0, .ref (h0 + 88), .ref (h0 + 89), .ref (h0 + 90), .ref (h0 + 91), .ref (h0 + 92), .ref (h0 + 93), .ref (h0 + 94), .ref (h0 + 95), .ref (h0 + 96), .int 0, .int 0, .null, .null, .null, .null, .null, .null, .null, .null, .null, .null, .int 0, .int 0]) (vs' := [.int 0, .ref (h0 + 83), .ref (h0 + 84), .ref (h0 + 85), .ref (h0 + 86), .ref (h0 + 87), .int 0, .ref (h0 + 88), .ref (h0 + 89), .ref (h0 + 90), .ref (h0 + 91), .ref (h0 + 92), .ref (h0 + 93), .ref (h0 + 94), .ref (h0 + 95), .ref (h0 + 96), .int 100, .int 0, .null, .null, .null, .null, .null, .null, .null, .null, .null, .null, .int 0, .int 0]) C hin hW kd_82 (by decide) rfl inX9 tyX9_ok nmX9 16 (by decide) mF_X9_53 rfl (by decide +kernel) rfl rfl rfl rfl rfl (Nat.le_of_ble_eq_true rfl) (fun i hi => by simp [va_up, hi]) dX9_init_114 (fun H locs hW => ?_)
  refine lv_aload_n hx hb dX9_init_117 rfl (lv_at hl 0 rfl) ?_
  refine lv_bipush (v := 20) hx hb dX9_init_118 (by decide) ?_
  refine pc_newaI C hW kd_97 (by decide) (by decide) (by decide) (by decide) (by decide) dX9_init_120 (fun H hW => ?_)
  have hW : pc_W D h0 cy (va_up F 82 [.int 0, .ref (h0 + 83), .ref (h0 + 84), .ref (h0 + 85), .ref (h0 + 86), .ref (h0 + 87), .int 0, .ref (h0 + 88), .ref (h0 + 89), .ref (h0 + 90), .ref (h0 + 91), .ref (h0 + 92), .ref (h0 + 93), .ref (h0 + 94), .ref (h0 + 95), .ref (h0 + 96), .int 100, .int 0, .null, .null, .null, .null, .null, .null, .null, .null, .null, .null, .int 0, .int 0]) M 98 A s H _ := hW
  refine pc_put (ty := .array .int) (F' := (va_up F 82 [.int 0, .ref (h0 + 83), .ref (h0 + 84), .ref (h0 + 85), .ref (h0 + 86), .ref (h0 + 87), .int 0, .ref (h0 + 88), .ref (h0 + 89), .ref (h0 + 90), .ref (h0 + 91), .ref (h0 + 92), .ref (h0 + 93), .ref (h0 + 94), .ref (h0 + 95), .ref (h0 + 96), .int 100, .int 0, .ref (h0 + 97), .null, .null, .null, .null, .null, .null, .null, .null, .null, .int 0, .int 0])) (vs := [.int 0, .ref (h0 + 83), .ref (h0 + 84), .ref (h0 + 85), .ref (h0 + 86), .ref (h0 + 87), .int 0, .ref (h0 + 88), .ref (h0 + 89), .ref (h0 + 90), .ref (h0 + 91), .ref (h0 + 92), .ref (h0 + 93), .ref (h0 + 94), .ref (h0 + 95), .ref (h0 + 96), .int 100, .int 0, .null, .null, .null, .null, .null, .null, .null, .null, .null, .null, .int 0, .int 0]) (vs' := [.int 0, .ref (h0 + 83), .ref (h0 + 84), .ref (h0 + 85), .ref (h0 + 86), .ref (h0 + 87), .int 0, .ref (h0 + 88), .ref (h0 + 89), .ref (h0 + 90), .ref (h0 + 91), .ref (h0 + 92), .ref (h0 + 93), .ref (h0 + 94), .ref (h0 + 95), .ref (h0 + 96), .int 100, .int 0, .ref (h0 + 97), .null, .null, .null, .null, .null, .null, .null, .null, .null, .int 0, .int 0]) C hin hW kd_82 (by decide) rfl inX9 tyX9_ok nmX9 18 (by decide) mF_X9_57 rfl (by decide +kernel) rfl rfl rfl rfl rfl (Nat.le_of_ble_eq_true rfl) (fun i hi => by simp [va_up, hi]) dX9_init_122 (fun H locs hW => ?_)
  refine lv_aload_n hx hb dX9_init_125 rfl (lv_at hl 0 rfl) ?_
  refine lv_bipush (v := 20) hx hb dX9_init_126 (by decide) ?_
  refine pc_newaI C hW kd_98 (by decide) (by decide) (by decide) (by decide) (by decide) dX9_init_128 (fun H hW => ?_)
  have hW : pc_W D h0 cy (va_up F 82 [.int 0, .ref (h0 + 83), .ref (h0 + 84), .ref (h0 + 85), .ref (h0 + 86), .ref (h0 + 87), .int 0, .ref (h0 + 88), .ref (h0 + 89), .ref (h0 + 90), .ref (h0 + 91), .ref (h0 + 92), .ref (h0 + 93), .ref (h0 + 94), .ref (h0 + 95), .ref (h0 + 96), .int 100, .int 0, .ref (h0 + 97), .null, .null, .null, .null, .null, .null, .null, .null, .null, .int 0, .int 0]) M 99 A s H _ := hW
  refine pc_put (ty := .array .int) (F' := (va_up F 82 [.int 0, .ref (h0 + 83), .ref (h0 + 84), .ref (h0 + 85), .ref (h0 + 86), .ref (h0 + 87), .int 0, .ref (h0 + 88), .ref (h0 + 89), .ref (h0 + 90), .ref (h0 + 91), .ref (h0 + 92), .ref (h0 + 93), .ref (h0 + 94), .ref (h0 + 95), .ref (h0 + 96), .int 100, .int 0, .ref (h0 + 97), .ref (h0 + 98), .null, .null, .null, .null, .null, .null, .null, .null, .int 0, .int 0])) (vs := [.int 0, .ref (h0 + 83), .ref (h0 + 84), .ref (h0 + 85), .ref (h0 + 86), .ref (h0 + 87), .int 0, .ref (h0 + 88), .ref (h0 + 89), .ref (h0 + 90), .ref (h0 + 91), .ref (h0 + 92), .ref (h0 + 93), .ref (h0 + 94), .ref (h0 + 95), .ref (h0 + 96), .int 100, .int 0, .ref (h0 + 97), .null, .null, .null, .null, .null, .null, .null, .null, .null, .int 0, .int 0]) (vs' := [.int 0, .ref (h0 + 83), .ref (h0 + 84), .ref (h0 + 85), .ref (h0 + 86), .ref (h0 + 87), .int 0, .ref (h0 + 88), .ref (h0 + 89), .ref (h0 + 90), .ref (h0 + 91), .ref (h0 + 92), .ref (h0 + 93), .ref (h0 + 94), .ref (h0 + 95), .ref (h0 + 96), .int 100, .int 0, .ref (h0 + 97), .ref (h0 + 98), .null, .null, .null, .null, .null, .null, .null, .null, .int 0, .int 0]) C hin hW kd_82 (by decide) rfl inX9 tyX9_ok nmX9 19 (by decide) mF_X9_60 rfl (by decide +kernel) rfl rfl rfl rfl rfl (Nat.le_of_ble_eq_true rfl) (fun i hi => by simp [va_up, hi]) dX9_init_130 (fun H locs hW => ?_)
  refine lv_aload_n hx hb dX9_init_133 rfl (lv_at hl 0 rfl) ?_
  refine lv_bipush (v := 20) hx hb dX9_init_134 (by decide) ?_
  refine pc_newaI C hW kd_99 (by decide) (by decide) (by decide) (by decide) (by decide) dX9_init_136 (fun H hW => ?_)
  have hW : pc_W D h0 cy (va_up F 82 [.int 0, .ref (h0 + 83), .ref (h0 + 84), .ref (h0 + 85), .ref (h0 + 86), .ref (h0 + 87), .int 0, .ref (h0 + 88), .ref (h0 + 89), .ref (h0 + 90), .ref (h0 + 91), .ref (h0 + 92), .ref (h0 + 93), .ref (h0 + 94), .ref (h0 + 95), .ref (h0 + 96), .int 100, .int 0, .ref (h0 + 97), .ref (h0 + 98), .null, .null, .null, .null, .null, .null, .null, .null, .int 0, .int 0]) M 100 A s H _ := hW
  refine pc_put (ty := .array .int) (F' := (va_up F 82 [.int 0, .ref (h0 + 83), .ref (h0 + 84), .ref (h0 + 85), .ref (h0 + 86), .ref (h0 + 87), .int 0, .ref (h0 + 88), .ref (h0 + 89), .ref (h0 + 90), .ref (h0 + 91), .ref (h0 + 92), .ref (h0 + 93), .ref (h0 + 94), .ref (h0 + 95), .ref (h0 + 96), .int 100, .int 0, .ref (h0 + 97), .ref (h0 + 98), .ref (h0 + 99), .null, .null, .null, .null, .null, .null, .null, .int 0, .int 0])) (vs := [.int 0, .ref (h0 + 83), .ref (h0 + 84), .ref (h0 + 85), .ref (h0 + 86), .ref (h0 + 87), .int 0, .ref (h0 + 88), .ref (h0 + 89), .ref (h0 + 90), .ref (h0 + 91), .ref (h0 + 92), .ref (h0 + 93), .ref (h0 + 94), .ref (h0 + 95), .ref (h0 + 96), .int 100, .int 0, .ref (h0 + 97), .ref (h0 + 98), .null, .null, .null, .null, .null, .null, .null, .null, .int 0, .int 0]) (vs' := [.int 0, .ref (h0 + 83), .ref (h0 + 84), .ref (h0 + 85), .ref (h0 + 86), .ref (h0 + 87), .int 0, .ref (h0 + 88), .ref (h0 + 89), .ref (h0 + 90), .ref (h0 + 91), .ref (h0 + 92), .ref (h0 + 93), .ref (h0 + 94), .ref (h0 + 95), .ref (h0 + 96), .int 100, .int 0, .ref (h0 + 97), .ref (h0 + 98), .ref (h0 + 99), .null, .null, .null, .null, .null, .null, .null, .int 0, .int 0]) C hin hW kd_82 (by decide) rfl inX9 tyX9_ok nmX9 20 (by decide) mF_X9_63 rfl (by decide +kernel) rfl rfl rfl rfl rfl (Nat.le_of_ble_eq_true rfl) (fun i hi => by simp [va_up, hi]) dX9_init_138 (fun H locs hW => ?_)
  refine lv_aload_n hx hb dX9_init_141 rfl (lv_at hl 0 rfl) ?_
  refine lv_bipush (v := 20) hx hb dX9_init_142 (by decide) ?_
  refine pc_newaI C hW kd_100 (by decide) (by decide) (by decide) (by decide) (by decide) dX9_init_144 (fun H hW => ?_)
  have hW : pc_W D h0 cy (va_up F 82 [.int 0, .ref (h0 + 83), .ref (h0 + 84), .ref (h0 + 85), .ref (h0 + 86), .ref (h0 + 87), .int 0, .ref (h0 + 88), .ref (h0 + 89), .ref (h0 + 90), .ref (h0 + 91), .ref (h0 + 92), .ref (h0 + 93), .ref (h0 + 94), .ref (h0 + 95), .ref (h0 + 96), .int 100, .int 0, .ref (h0 + 97), .ref (h0 + 98), .ref (h0 + 99), .null, .null, .null, .null, .null, .null, .null, .int 0, .int 0]) M 101 A s H _ := hW
  refine pc_put (ty := .array .int) (F' := (va_up F 82 [.int 0, .ref (h0 + 83), .ref (h0 + 84), .ref (h0 + 85), .ref (h0 + 86), .ref (h0 + 87), .int 0, .ref (h0 + 88), .ref (h0 + 89), .ref (h0 + 90), .ref (h0 + 91), .ref (h0 + 92), .ref (h0 + 93), .ref (h0 + 94), .ref (h0 + 95), .ref (h0 + 96), .int 100, .int 0, .ref (h0 + 97), .ref (h0 + 98), .ref (h0 + 99), .ref (h0 + 100), .null, .null, .null, .null, .null, .null, .int 0, .int 0])) (vs := [.int 0, .ref (h0 + 83), .ref (h0 + 84), .ref (h0 + 85), .ref (h0 + 86), .ref (h0 + 87), .int 0, .ref (h0 + 88), .ref (h0 + 89), .ref (h0 + 90), .ref (h0 + 91), .ref (h0 + 92), .ref (h0 + 93), .ref (h0 + 94), .ref (h0 + 95), .ref (h0 + 96), .int 100, .int 0, .ref (h0 + 97), .ref (h0 + 98), .ref (h0 + 99), .null, .null, .null, .null, .null, .null, .null, .int 0, .int 0]) (vs' := [.int 0, .ref (h0 + 83), .ref (h0 + 84), .ref (h0 + 85), .ref (h0 + 86), .ref (h0 + 87), .int 0, .ref (h0 + 88), .ref (h0 + 89), .ref (h0 + 90), .ref (h0 + 91), .ref (h0 + 92), .ref (h0 + 93), .ref (h0 + 94), .ref (h0 + 95), .ref (h0 + 96), .int 100, .int 0, .ref (h0 + 97), .ref (h0 + 98), .ref (h0 + 99), .ref (h0 + 100), .null, .null, .null, .null, .null, .null, .int 0, .int 0]) C hin hW kd_82 (by decide) rfl inX9 tyX9_ok nmX9 21 (by decide) mF_X9_66 rfl (by decide +kernel) rfl rfl rfl rfl rfl (Nat.le_of_ble_eq_true rfl) (fun i hi => by simp [va_up, hi]) dX9_init_146 (fun H locs hW => ?_)
  refine lv_aload_n hx hb dX9_init_149 rfl (lv_at hl 0 rfl) ?_
  refine lv_bipush (v := 20) hx hb dX9_init_150 (by decide) ?_
  refine pc_newaI C hW kd_101 (by decide) (by decide) (by decide) (by decide) (by decide) dX9_init_152 (fun H hW => ?_)
  have hW : pc_W D h0 cy (va_up F 82 [.int 0, .ref (h0 + 83), .ref (h0 + 84), .ref (h0 + 85), .ref (h0 + 86), .ref (h0 + 87), .int 0, .ref (h0 + 88), .ref (h0 + 89), .ref (h0 + 90), .ref (h0 + 91), .ref (h0 + 92), .ref (h0 + 93), .ref (h0 + 94), .ref (h0 + 95), .ref (h0 + 96), .int 100, .int 0, .ref (h0 + 97), .ref (h0 + 98), .ref (h0 + 99), .ref (h0 + 100), .null, .null, .null, .null, .null, .null, .int 0, .int 0]) M 102 A s H _ := hW
  refine pc_put (ty := .array .int) (F' := (va_up F 82 [.int 0, .ref (h0 + 83), .ref (h0 + 84), .ref (h0 + 85), .ref (h0 + 86), .ref (h0 + 87), .int 0, .ref (h0 + 88), .ref (h0 + 89), .ref (h0 + 90), .ref (h0 + 91), .ref (h0 + 92), .ref (h0 + 93), .ref (h0 + 94), .ref (h0 + 95), .ref (h0 + 96), .int 100, .int 0, .ref (h0 + 97), .ref (h0 + 98), .ref (h0 + 99), .ref (h0 + 100), .ref (h0 + 101), .null, .null, .null, .null, .null, .int 0, .int 0])) (vs := [.int 0, .ref (h0 + 83), .ref (h0 + 84), .ref (h0 + 85), .ref (h0 + 86), .ref (h0 + 87), .int 0, .ref (h0 + 88), .ref (h0 + 89), .ref (h0 + 90), .ref (h0 + 91), .ref (h0 + 92), .ref (h0 + 93), .ref (h0 + 94), .ref (h0 + 95), .ref (h0 + 96), .int 100, .int 0, .ref (h0 + 97), .ref (h0 + 98), .ref (h0 + 99), .ref (h0 + 100), .null, .null, .null, .null, .null, .null, .int 0, .int 0]) (vs' := [.int 0, .ref (h0 + 83), .ref (h0 + 84), .ref (h0 + 85), .ref (h0 + 86), .ref (h0 + 87), .int 0, .ref (h0 + 88), .ref (h0 + 89), .ref (h0 + 90), .ref (h0 + 91), .ref (h0 + 92), .ref (h0 + 93), .ref (h0 + 94), .ref (h0 + 95), .ref (h0 + 96), .int 100, .int 0, .ref (h0 + 97), .ref (h0 + 98), .ref (h0 + 99), .ref (h0 + 100), .ref (h0 + 101), .null, .null, .null, .null, .null, .int 0, .int 0]) C hin hW kd_82 (by decide) rfl inX9 tyX9_ok nmX9 22 (by decide) mF_X9_69 rfl (by decide +kernel) rfl rfl rfl rfl rfl (Nat.le_of_ble_eq_true rfl) (fun i hi => by simp [va_up, hi]) dX9_init_154 (fun H locs hW => ?_)
  refine lv_aload_n hx hb dX9_init_157 rfl (lv_at hl 0 rfl) ?_
  refine lv_bipush (v := 20) hx hb dX9_init_158 (by decide) ?_
  refine pc_newaI C hW kd_102 (by decide) (by decide) (by decide) (by decide) (by decide) dX9_init_160 (fun H hW => ?_)
  have hW : pc_W D h0 cy (va_up F 82 [.int 0, .ref (h0 + 83), .ref (h0 + 84), .ref (h0 + 85), .ref (h0 + 86), .ref (h0 + 87), .int 0, .ref (h0 + 88), .ref (h0 + 89), .ref (h0 + 90), .ref (h0 + 91), .ref (h0 + 92), .ref (h0 + 93), .ref (h0 + 94), .ref (h0 + 95), .ref (h0 + 96), .int 100, .int 0, .ref (h0 + 97), .ref (h0 + 98), .ref (h0 + 99), .ref (h0 + 100), .ref (h0 + 101), .null, .null, .null, .null, .null, .int 0, .int 0]) M 103 A s H _ := hW
  refine pc_put (ty := .array .int) (F' := (va_up F 82 [.int 0, .ref (h0 + 83), .ref (h0 + 84), .ref (h0 + 85), .ref (h0 + 86), .ref (h0 + 87), .int 0, .ref (h0 + 88), .ref (h0 + 89), .ref (h0 + 90), .ref (h0 + 91), .ref (h0 + 92), .ref (h0 + 93), .ref (h0 + 94), .ref (h0 + 95), .ref (h0 + 96), .int 100, .int 0, .ref (h0 + 97), .ref (h0 + 98), .ref (h0 + 99), .ref (h0 + 100), .ref (h0 + 101), .ref (h0 + 102), .null, .null, .null, .null, .int 0, .int 0])) (vs := [.int 0, .ref (h0 + 83), .ref (h0 + 84), .ref (h0 + 85), .ref (h0 + 86), .ref (h0 + 87), .int 0, .ref (h0 + 88), .ref (h0 + 89), .ref (h0 + 90), .ref (h0 + 91), .ref (h0 + 92), .ref (h0 + 93), .ref (h0 + 94), .ref (h0 + 95), .ref (h0 + 96), .int 100, .int 0, .ref (h0 + 97), .ref (h0 + 98), .ref (h0 + 99), .ref (h0 + 100), .ref (h0 + 101), .null, .null, .null, .null, .null, .int 0, .int 0]) (vs' := [.int 0, .ref (h0 + 83), .ref (h0 + 84), .ref (h0 + 85), .ref (h0 + 86), .ref (h0 + 87), .int 0, .ref (h0 + 88), .ref (h0 + 89), .ref (h0 + 90), .ref (h0 + 91), .ref (h0 + 92), .ref (h0 + 93), .ref (h0 + 94), .ref (h0 + 95), .ref (h0 + 96), .int 100, .int 0, .ref (h0 + 97), .ref (h0 + 98), .ref (h0 + 99), .ref (h0 + 100), .ref (h0 + 101), .ref (h0 + 102), .null, .null, .null, .null, .int 0, .int 0]) C hin hW kd_82 (by decide) rfl inX9 tyX9_ok nmX9 23 (by decide) mF_X9_72 rfl (by decide +kernel) rfl rfl rfl rfl rfl (Nat.le_of_ble_eq_true rfl) (fun i hi => by simp [va_up, hi]) dX9_init_162 (fun H locs hW => ?_)
  refine lv_aload_n hx hb dX9_init_165 rfl (lv_at hl 0 rfl) ?_
  refine lv_bipush (v := 7) hx hb dX9_init_166 (by decide) ?_
  refine pc_newaI C hW kd_103 (by decide) (by decide) (by decide) (by decide) (by decide) dX9_init_168 (fun H hW => ?_)
  have hW : pc_W D h0 cy (va_up F 82 [.int 0, .ref (h0 + 83), .ref (h0 + 84), .ref (h0 + 85), .ref (h0 + 86), .ref (h0 + 87), .int 0, .ref (h0 + 88), .ref (h0 + 89), .ref (h0 + 90), .ref (h0 + 91), .ref (h0 + 92), .ref (h0 + 93), .ref (h0 + 94), .ref (h0 + 95), .ref (h0 + 96), .int 100, .int 0, .ref (h0 + 97), .ref (h0 + 98), .ref (h0 + 99), .ref (h0 + 100), .ref (h0 + 101), .ref (h0 + 102), .null, .null, .null, .null, .int 0, .int 0]) M 104 A s H _ := hW
  refine pc_put (ty := .array .int) (F' := (va_up F 82 [.int 0, .ref (h0 + 83), .ref (h0 + 84), .ref (h0 + 85), .ref (h0 + 86), .ref (h0 + 87), .int 0, .ref (h0 + 88), .ref (h0 + 89), .ref (h0 + 90), .ref (h0 + 91), .ref (h0 + 92), .ref (h0 + 93), .ref (h0 + 94), .ref (h0 + 95), .ref (h0 + 96), .int 100, .int 0, .ref (h0 + 97), .ref (h0 + 98), .ref (h0 + 99), .ref (h0 + 100), .ref (h0 + 101), .ref (h0 + 102), .ref (h0 + 103), .null, .null, .null, .int 0, .int 0])) (vs := [.int 0, .ref (h0 + 83), .ref (h0 + 84), .ref (h0 + 85), .ref (h0 + 86), .ref (h0 + 87), .int 0, .ref (h0 + 88), .ref (h0 + 89), .ref (h0 + 90), .ref (h0 + 91), .ref (h0 + 92), .ref (h0 + 93), .ref (h0 + 94), .ref (h0 + 95), .ref (h0 + 96), .int 100, .int 0, .ref (h0 + 97), .ref (h0 + 98), .ref (h0 + 99), .ref (h0 + 100), .ref (h0 + 101), .ref (h0 + 102), .null, .null, .null, .null, .int 0, .int 0]) (vs' := [.int 0, .ref (h0 + 83), .ref (h0 + 84), .ref (h0 + 85), .ref (h0 + 86), .ref (h0 + 87), .int 0, .ref (h0 + 88), .ref (h0 + 89), .ref (h0 + 90), .ref (h0 + 91), .ref (h0 + 92), .ref (h0 + 93), .ref (h0 + 94), .ref (h0 + 95), .ref (h0 + 96), .int 100, .int 0, .ref (h0 + 97), .ref (h0 + 98), .ref (h0 + 99), .ref (h0 + 100), .ref (h0 + 101), .ref (h0 + 102), .ref (h0 + 103), .null, .null, .null, .int 0, .int 0]) C hin hW kd_82 (by decide) rfl inX9 tyX9_ok nmX9 24 (by decide) mF_X9_75 rfl (by decide +kernel) rfl rfl rfl rfl rfl (Nat.le_of_ble_eq_true rfl) (fun i hi => by simp [va_up, hi]) dX9_init_170 (fun H locs hW => ?_)
  refine lv_aload_n hx hb dX9_init_173 rfl (lv_at hl 0 rfl) ?_
  refine lv_bipush (v := 7) hx hb dX9_init_174 (by decide) ?_
  refine pc_newaI C hW kd_104 (by decide) (by decide) (by decide) (by decide) (by decide) dX9_init_176 (fun H hW => ?_)
  have hW : pc_W D h0 cy (va_up F 82 [.int 0, .ref (h0 + 83), .ref (h0 + 84), .ref (h0 + 85), .ref (h0 + 86), .ref (h0 + 87), .int 0, .ref (h0 + 88), .ref (h0 + 89), .ref (h0 + 90), .ref (h0 + 91), .ref (h0 + 92), .ref (h0 + 93), .ref (h0 + 94), .ref (h0 + 95), .ref (h0 + 96), .int 100, .int 0, .ref (h0 + 97), .ref (h0 + 98), .ref (h0 + 99), .ref (h0 + 100), .ref (h0 + 101), .ref (h0 + 102), .ref (h0 + 103), .null, .null, .null, .int 0, .int 0]) M 105 A s H _ := hW
  refine pc_put (ty := .array .int) (F' := (va_up F 82 [.int 0, .ref (h0 + 83), .ref (h0 + 84), .ref (h0 + 85), .ref (h0 + 86), .ref (h0 + 87), .int 0, .ref (h0 + 88), .ref (h0 + 89), .ref (h0 + 90), .ref (h0 + 91), .ref (h0 + 92), .ref (h0 + 93), .ref (h0 + 94), .ref (h0 + 95), .ref (h0 + 96), .int 100, .int 0, .ref (h0 + 97), .ref (h0 + 98), .ref (h0 + 99), .ref (h0 + 100), .ref (h0 + 101), .ref (h0 + 102), .ref (h0 + 103), .ref (h0 + 104), .null, .null, .int 0, .int 0])) (vs := [.int 0, .ref (h0 + 83), .ref (h0 + 84), .ref (h0 + 85), .ref (h0 + 86), .ref (h0 + 87), .int 0, .ref (h0 + 88), .ref (h0 + 89), .ref (h0 + 90), .ref (h0 + 91), .ref (h0 + 92), .ref (h0 + 93), .ref (h0 + 94), .ref (h0 + 95), .ref (h0 + 96), .int 100, .int 0, .ref (h0 + 97), .ref (h0 + 98), .ref (h0 + 99), .ref (h0 + 100), .ref (h0 + 101), .ref (h0 + 102), .ref (h0 + 103), .null, .null, .null, .int 0, .int 0]) (vs' := [.int 0, .ref (h0 + 83), .ref (h0 + 84), .ref (h0 + 85), .ref (h0 + 86), .ref (h0 + 87), .int 0, .ref (h0 + 88), .ref (h0 + 89), .ref (h0 + 90), .ref (h0 + 91), .ref (h0 + 92), .ref (h0 + 93), .ref (h0 + 94), .ref (h0 + 95), .ref (h0 + 96), .int 100, .int 0, .ref (h0 + 97), .ref (h0 + 98), .ref (h0 + 99), .ref (h0 + 100), .ref (h0 + 101), .ref (h0 + 102), .ref (h0 + 103), .ref (h0 + 104), .null, .null, .int 0, .int 0]) C hin hW kd_82 (by decide) rfl inX9 tyX9_ok nmX9 25 (by decide) mF_X9_78 rfl (by decide +kernel) rfl rfl rfl rfl rfl (Nat.le_of_ble_eq_true rfl) (fun i hi => by simp [va_up, hi]) dX9_init_178 (fun H locs hW => ?_)
  refine lv_aload_n hx hb dX9_init_181 rfl (lv_at hl 0 rfl) ?_
  refine lv_iconst (v := 5) hx hb dX9_init_182 (by decide) ?_
  refine pc_newaI C hW kd_105 (by decide) (by decide) (by decide) (by decide) (by decide) dX9_init_183 (fun H hW => ?_)
  have hW : pc_W D h0 cy (va_up F 82 [.int 0, .ref (h0 + 83), .ref (h0 + 84), .ref (h0 + 85), .ref (h0 + 86), .ref (h0 + 87), .int 0, .ref (h0 + 88), .ref (h0 + 89), .ref (h0 + 90), .ref (h0 + 91), .ref (h0 + 92), .ref (h0 + 93), .ref (h0 + 94), .ref (h0 + 95), .ref (h0 + 96), .int 100, .int 0, .ref (h0 + 97), .ref (h0 + 98), .ref (h0 + 99), .ref (h0 + 100), .ref (h0 + 101), .ref (h0 + 102), .ref (h0 + 103), .ref (h0 + 104), .null, .null, .int 0, .int 0]) M 106 A s H _ := hW
  refine pc_put (ty := .array .int) (F' := (va_up F 82 [.int 0, .ref (h0 + 83), .ref (h0 + 84), .ref (h0 + 85), .ref (h0 + 86), .ref (h0 + 87), .int 0, .ref (h0 + 88), .ref (h0 + 89), .ref (h0 + 90), .ref (h0 + 91), .ref (h0 + 92), .ref (h0 + 93), .ref (h0 + 94), .ref (h0 + 95), .ref (h0 + 96), .int 100, .int 0, .ref (h0 + 97), .ref (h0 + 98), .ref (h0 + 99), .ref (h0 + 100), .ref (h0 + 101), .ref (h0 + 102), .ref (h0 + 103), .ref (h0 + 104), .ref (h0 + 105), .null, .int 0, .int 0])) (vs := [.int 0, .ref (h0 + 83), .ref (h0 + 84), .ref (h0 + 85), .ref (h0 + 86), .ref (h0 + 87), .int 0, .ref (h0 + 88), .ref (h0 + 89), .ref (h0 + 90), .ref (h0 + 91), .ref (h0 + 92), .ref (h0 + 93), .ref (h0 + 94), .ref (h0 + 95), .ref (h0 + 96), .int 100, .int 0, .ref (h0 + 97), .ref (h0 + 98), .ref (h0 + 99), .ref (h0 + 100), .ref (h0 + 101), .ref (h0 + 102), .ref (h0 + 103), .ref (h0 + 104), .null, .null, .int 0, .int 0]) (vs' := [.int 0, .ref (h0 + 83), .ref (h0 + 84), .ref (h0 + 85), .ref (h0 + 86), .ref (h0 + 87), .int 0, .ref (h0 + 88), .ref (h0 + 89), .ref (h0 + 90), .ref (h0 + 91), .ref (h0 + 92), .ref (h0 + 93), .ref (h0 + 94), .ref (h0 + 95), .ref (h0 + 96), .int 100, .int 0, .ref (h0 + 97), .ref (h0 + 98), .ref (h0 + 99), .ref (h0 + 100), .ref (h0 + 101), .ref (h0 + 102), .ref (h0 + 103), .ref (h0 + 104), .ref (h0 + 105), .null, .int 0, .int 0]) C hin hW kd_82 (by decide) rfl inX9 tyX9_ok nmX9 26 (by decide) mF_X9_81 rfl (by decide +kernel) rfl rfl rfl rfl rfl (Nat.le_of_ble_eq_true rfl) (fun i hi => by simp [va_up, hi]) dX9_init_185 (fun H locs hW => ?_)
  refine lv_aload_n hx hb dX9_init_188 rfl (lv_at hl 0 rfl) ?_
  refine lv_bipush (v := 35) hx hb dX9_init_189 (by decide) ?_
  refine pc_newaI C hW kd_106 (by decide) (by decide) (by decide) (by decide) (by decide) dX9_init_191 (fun H hW => ?_)
  have hW : pc_W D h0 cy (va_up F 82 [.int 0, .ref (h0 + 83), .ref (h0 + 84), .ref (h0 + 85), .ref (h0 + 86), .ref (h0 + 87), .int 0, .ref (h0 + 88), .ref (h0 + 89), .ref (h0 + 90), .ref (h0 + 91), .ref (h0 + 92), .ref (h0 + 93), .ref (h0 + 94), .ref (h0 + 95), .ref (h0 + 96), .int 100, .int 0, .ref (h0 + 97), .ref (h0 + 98), .ref (h0 + 99), .ref (h0 + 100), .ref (h0 + 101), .ref (h0 + 102), .ref (h0 + 103), .ref (h0 + 104), .ref (h0 + 105), .null, .int 0, .int 0]) M 107 A s H _ := hW
  refine pc_put (ty := .array .int) (F' := (va_up F 82 [.int 0, .ref (h0 + 83), .ref (h0 + 84), .ref (h0 + 85), .ref (h0 + 86), .ref (h0 + 87), .int 0, .ref (h0 + 88), .ref (h0 + 89), .ref (h0 + 90), .ref (h0 + 91), .ref (h0 + 92), .ref (h0 + 93), .ref (h0 + 94), .ref (h0 + 95), .ref (h0 + 96), .int 100, .int 0, .ref (h0 + 97), .ref (h0 + 98), .ref (h0 + 99), .ref (h0 + 100), .ref (h0 + 101), .ref (h0 + 102), .ref (h0 + 103), .ref (h0 + 104), .ref (h0 + 105), .ref (h0 + 106), .int 0, .int 0])) (vs := [.int 0, .ref (h0 + 83), .ref (h0 + 84), .ref (h0 + 85), .ref (h0 + 86), .ref (h0 + 87), .int 0, .ref (h0 + 88), .ref (h0 + 89), .ref (h0 + 90), .ref (h0 + 91), .ref (h0 + 92), .ref (h0 + 93), .ref (h0 + 94), .ref (h0 + 95), .ref (h0 + 96), .int 100, .int 0, .ref (h0 + 97), .ref (h0 + 98), .ref (h0 + 99), .ref (h0 + 100), .ref (h0 + 101), .ref (h0 + 102), .ref (h0 + 103), .ref (h0 + 104), .ref (h0 + 105), .null, .int 0, .int 0]) (vs' := [.int 0, .ref (h0 + 83), .ref (h0 + 84), .ref (h0 + 85), .ref (h0 + 86), .ref (h0 + 87), .int 0, .ref (h0 + 88), .ref (h0 + 89), .ref (h0 + 90), .ref (h0 + 91), .ref (h0 + 92), .ref (h0 + 93), .ref (h0 + 94), .ref (h0 + 95), .ref (h0 + 96), .int 100, .int 0, .ref (h0 + 97), .ref (h0 + 98), .ref (h0 + 99), .ref (h0 + 100), .ref (h0 + 101), .ref (h0 + 102), .ref (h0 + 103), .ref (h0 + 104), .ref (h0 + 105), .ref (h0 + 106), .int 0, .int 0]) C hin hW kd_82 (by decide) rfl inX9 tyX9_ok nmX9 27 (by decide) mF_X9_84 rfl (by decide +kernel) rfl rfl rfl rfl rfl (Nat.le_of_ble_eq_true rfl) (fun i hi => by simp [va_up, hi]) dX9_init_193 (fun H locs hW => ?_)
  refine lv_iconst (v := 0) hx hb dX9_init_196 (by decide) ?_
  refine lv_istore_n (lv' := [(1, .int 0), (0, .ref (h0 + 82))]) hx hb dX9_init_197 rfl hl (by decide) rfl (fun ls hl => ?_)
  obtain ⟨k_198, h⟩ := h
  refine stX9_init_198 C rfl (fun M_10 H locs ls hW hl h => ?_) k_198 0 M _ _ _ hW (lv_sub hl [1, 0] rfl) h
  exact pc_vret C hA hW h dX9_init_240
theorem dd_X9_init : yX9_init.cls ≠ "java/lang/invoke/MethodHandle" ∧ yX9_init.cls ≠ "java/lang/invoke/VarHandle" ∧ (parseMethodDescriptor yX9_init.desc).map (fun d => d.parameters.length) = some 0 := by decide +kernel
