abbrev rX9_begin : Room := { frames := 2, cells := 0, slots := 0, locals := 48 }
def lpX9_begin_37 (K : pd_M → Prop) (f1 : Int32) (f2 : Int32) (f3 : Int32) : Nat → Int32 → pd_M → Prop
  | 0, _, _ => False
  | n + 1, v4, M => (((M.1 82 6) ≤ v4 → K M) ∧ (¬ (M.1 82 6) ≤ v4 → (vp_in f3 5 ∧ wX9_mayIn (fun r_9 M_8 => (vp_in v4 7 ∧ (vp_in ((5 * (M_8.1 88 v4.toNatClampNeg)) + f3) 25 ∧ (vp_in v4 7 ∧ (((M_8.1 86 ((5 * (M_8.1 88 v4.toNatClampNeg)) + f3).toNatClampNeg) ≤ (M_8.1 91 v4.toNatClampNeg) → (vp_in ((5 * v4) + f3) 35 ∧ ∀ M_15 : pd_M, M_15 = sI M_8 106 ((5 * v4) + f3).toNatClampNeg r_9 → ∀ x4_16 : Int32, x4_16 = v4 + 1 → lpX9_begin_37 K f1 f2 f3 n x4_16 M_15)) ∧ (¬ (M_8.1 86 ((5 * (M_8.1 88 v4.toNatClampNeg)) + f3).toNatClampNeg) ≤ (M_8.1 91 v4.toNatClampNeg) → (vp_in ((5 * v4) + f3) 35 ∧ ∀ M_18 : pd_M, M_18 = sI M_8 106 ((5 * v4) + f3).toNatClampNeg 0 → ∀ x4_19 : Int32, x4_19 = v4 + 1 → lpX9_begin_37 K f1 f2 f3 n x4_19 M_18))))))) v4 (M.1 83 f3.toNatClampNeg) f2 M)))

set_option maxRecDepth 100000 in
set_option maxHeartbeats 4000000 in
theorem stX9_begin_37 {p : Program} {l : Launch} {e : Env} {s : State} {m : MethodId} {args : Array Value} {below : List Frame} {meth : Method} {c : Code} {D : va_G} {g : pd_G} {t : Nat} {M0 : pd_M} {X : va_W} {A : Nat → Prop} {sz : Nat} {Q : pd_M → Prop} (C : pd_C p m c cX9_begin 6 s args RX9 meth (Option.none : Option FieldType)) (hA : A = va_A (pd_WL g M0 ++ X) sz) {K : pd_M → Prop} {f1 : Int32} {f2 : Int32} {f3 : Int32}  (hK : ∀  (M : pd_M) (H : Heap) (locs : List Loc) (ls : Array Slot), pd_W D g t M X A s H locs → lv_has ls 6 [(0, .ref (g.1 82)), (1, .int f1), (2, .int f2), (3, .int f3)] → K  M → W p l e rX9_begin s m args below meth c H locs 0 0 (MQ below (pd_Qv D g M0 X sz Q) args s 0 0 (va_A (pd_WL g M0 ++ X) sz)) (F0 m 110 ls [])) :
    ∀ (n : Nat) (v4 : Int32) (M : pd_M) (H : Heap) (locs : List Loc) (ls : Array Slot), pd_W D g t M X A s H locs → lv_has ls 6 [(0, .ref (g.1 82)), (1, .int f1), (2, .int f2), (3, .int f3), (4, .int v4)] → lpX9_begin_37 K f1 f2 f3 n v4 M → W p l e rX9_begin s m args below meth c H locs 0 0 (MQ below (pd_Qv D g M0 X sz Q) args s 0 0 (va_A (pd_WL g M0 ++ X) sz)) (F0 m 37 ls []) := by
  have hx := C.1.1
  have hb := C.1.2.1
  have hown := C.1.2.2.2.1
  have hts := C.1.2.2.2.2
  intro n
  induction n with
  | zero => intro v4 M H locs ls hW hl h; exact h.elim
  | succ n ih =>
    intro v4 M H locs ls hW hl h
    refine lv_iload hx hb dX9_begin_37 (lv_at hl 4 rfl) ?_
    refine lv_aload_n hx hb dX9_begin_39 rfl (lv_at hl 0 rfl) ?_
    refine gf_X9_94 C hW dX9_begin_40 ?_
    refine lv_icmp_ge (tgt := 110) hx hb dX9_begin_43 (by decide) (fun c_6 => ?_) (fun c_6 => ?_)
    · have h := h.1 c_6
      exact hK M _ _ _ hW (lv_sub hl [0, 1, 2, 3] rfl) h
    · have h := h.2 c_6
      refine lv_aload_n hx hb dX9_begin_46 rfl (lv_at hl 0 rfl) ?_
      refine lv_iload hx hb dX9_begin_47 (lv_at hl 4 rfl) ?_
      refine lv_aload_n hx hb dX9_begin_49 rfl (lv_at hl 0 rfl) ?_
      refine gf_X9_7 C hW dX9_begin_50 ?_
      refine lv_iload_n hx hb dX9_begin_53 rfl (lv_at hl 3 rfl) ?_
      have hi_7 := h.1
      have h := h.2
      refine pd_iald C hW kd_83 hi_7 dX9_begin_54 ?_
      refine lv_iload_n hx hb dX9_begin_55 rfl (lv_at hl 2 rfl) ?_
      refine cl_X9_123 C hW h ⟨by decide, by decide⟩ ⟨Nat.zero_le _, Nat.zero_le _⟩ hl.1 (Nat.le_of_ble_eq_true rfl) dX9_begin_56 (fun r_9 M_8 H locs h hW => ?_)
      refine lv_istore (lv' := [(5, .int r_9), (0, .ref (g.1 82)), (1, .int f1), (2, .int f2), (3, .int f3), (4, .int v4)]) hx hb dX9_begin_59 hl (by decide) rfl (fun ls hl => ?_)
      refine lv_aload_n hx hb dX9_begin_61 rfl (lv_at hl 1 rfl) ?_
      refine gf_X9_84 C hW dX9_begin_62 ?_
      refine lv_iconst (v := 5) hx hb dX9_begin_65 (by decide) ?_
      refine lv_iload hx hb dX9_begin_66 (lv_at hl 5 rfl) ?_
      refine lv_imul hx hb dX9_begin_68 ?_
      refine lv_iload_n hx hb dX9_begin_69 rfl (lv_at hl 4 rfl) ?_
      refine lv_iadd hx hb dX9_begin_70 ?_
      refine lv_aload_n hx hb dX9_begin_71 rfl (lv_at hl 1 rfl) ?_
      refine gf_X9_19 C hW dX9_begin_72 ?_
      refine lv_iconst (v := 5) hx hb dX9_begin_75 (by decide) ?_
      refine lv_aload_n hx hb dX9_begin_76 rfl (lv_at hl 1 rfl) ?_
      refine gf_X9_25 C hW dX9_begin_77 ?_
      refine lv_iload hx hb dX9_begin_80 (lv_at hl 5 rfl) ?_
      have hi_10 := h.1
      have h := h.2
      refine pd_iald C hW kd_88 hi_10 dX9_begin_82 ?_
      refine lv_imul hx hb dX9_begin_83 ?_
      refine lv_iload_n hx hb dX9_begin_84 rfl (lv_at hl 4 rfl) ?_
      refine lv_iadd hx hb dX9_begin_85 ?_
      have hi_11 := h.1
      have h := h.2
      refine pd_iald C hW kd_86 hi_11 dX9_begin_86 ?_
      refine lv_aload_n hx hb dX9_begin_87 rfl (lv_at hl 1 rfl) ?_
      refine gf_X9_35 C hW dX9_begin_88 ?_
      refine lv_iload hx hb dX9_begin_91 (lv_at hl 5 rfl) ?_
      have hi_12 := h.1
      have h := h.2
      refine pd_iald C hW kd_91 hi_12 dX9_begin_93 ?_
      refine lv_icmp_le (tgt := 101) hx hb dX9_begin_94 (by decide) (fun c_13 => ?_) (fun c_13 => ?_)
      · have h := h.1 c_13
        refine lv_iload hx hb dX9_begin_101 (lv_at hl 0 rfl) ?_
        have hi_14 := h.1
        have h := h.2
        refine pd_iast C hW kd_106 hi_14 dX9_begin_103 (fun M_15 H locs eM_15 hW => ?_)
        have h := h M_15 eM_15
        obtain ⟨x4_16, ex4_16⟩ : ∃ y : Int32, y = v4 + 1 := ⟨_, rfl⟩
        have h := h x4_16 ex4_16
        refine lv_iinc (v := x4_16) (lv' := [(4, .int x4_16), (5, .int r_9), (0, .ref (g.1 82)), (1, .int f1), (2, .int f2), (3, .int f3)]) hx hb dX9_begin_104 hl (k := 5) rfl (by rw [ex4_16]; rfl) (by decide) rfl (fun ls hl => ?_)
        refine lv_goto (tgt := 37) hx hb dX9_begin_107 (by decide) ?_
        exact ih x4_16 M_15 _ _ _ hW (lv_sub hl [2, 3, 4, 5, 0] rfl) h
      · have h := h.2 c_13
        refine lv_iconst (v := 0) hx hb dX9_begin_97 (by decide) ?_
        refine lv_goto (tgt := 103) hx hb dX9_begin_98 (by decide) ?_
        have hi_17 := h.1
        have h := h.2
        refine pd_iast C hW kd_106 hi_17 dX9_begin_103 (fun M_18 H locs eM_18 hW => ?_)
        have h := h M_18 eM_18
        obtain ⟨x4_19, ex4_19⟩ : ∃ y : Int32, y = v4 + 1 := ⟨_, rfl⟩
        have h := h x4_19 ex4_19
        refine lv_iinc (v := x4_19) (lv' := [(4, .int x4_19), (5, .int r_9), (0, .ref (g.1 82)), (1, .int f1), (2, .int f2), (3, .int f3)]) hx hb dX9_begin_104 hl (k := 5) rfl (by rw [ex4_19]; rfl) (by decide) rfl (fun ls hl => ?_)
        refine lv_goto (tgt := 37) hx hb dX9_begin_107 (by decide) ?_
        exact ih x4_19 M_18 _ _ _ hW (lv_sub hl [2, 3, 4, 5, 0] rfl) h

def lpX9_begin_2 (K : pd_M → Prop) (f1 : Int32) (f2 : Int32) : Nat → Int32 → pd_M → Prop
  | 0, _, _ => False
  | n + 1, v3, M => (((M.1 82 0) ≤ v3 → K M) ∧ (¬ (M.1 82 0) ≤ v3 → (vp_in v3 5 ∧ (vp_in ((7 * v3) + f1) 35 ∧ (vp_in v3 5 ∧ ∀ M_5 : pd_M, M_5 = sI M 105 v3.toNatClampNeg ((M.1 84 v3.toNatClampNeg) - (M.1 85 ((7 * v3) + f1).toNatClampNeg)) → (∃ k_37 : Nat, lpX9_begin_37 (fun M_20 => ∀ x3_21 : Int32, x3_21 = v3 + 1 → lpX9_begin_2 K f1 f2 n x3_21 M_20) f1 f2 v3 k_37 0 M_5))))))

set_option maxRecDepth 100000 in
set_option maxHeartbeats 4000000 in
theorem stX9_begin_2 {p : Program} {l : Launch} {e : Env} {s : State} {m : MethodId} {args : Array Value} {below : List Frame} {meth : Method} {c : Code} {D : va_G} {g : pd_G} {t : Nat} {M0 : pd_M} {X : va_W} {A : Nat → Prop} {sz : Nat} {Q : pd_M → Prop} (C : pd_C p m c cX9_begin 6 s args RX9 meth (Option.none : Option FieldType)) (hA : A = va_A (pd_WL g M0 ++ X) sz) {K : pd_M → Prop} {f1 : Int32} {f2 : Int32}  (hK : ∀  (M : pd_M) (H : Heap) (locs : List Loc) (ls : Array Slot), pd_W D g t M X A s H locs → lv_has ls 6 [] → K  M → W p l e rX9_begin s m args below meth c H locs 0 0 (MQ below (pd_Qv D g M0 X sz Q) args s 0 0 (va_A (pd_WL g M0 ++ X) sz)) (F0 m 116 ls [])) :
    ∀ (n : Nat) (v3 : Int32) (M : pd_M) (H : Heap) (locs : List Loc) (ls : Array Slot), pd_W D g t M X A s H locs → lv_has ls 6 [(0, .ref (g.1 82)), (1, .int f1), (2, .int f2), (3, .int v3)] → lpX9_begin_2 K f1 f2 n v3 M → W p l e rX9_begin s m args below meth c H locs 0 0 (MQ below (pd_Qv D g M0 X sz Q) args s 0 0 (va_A (pd_WL g M0 ++ X) sz)) (F0 m 2 ls []) := by
  have hx := C.1.1
  have hb := C.1.2.1
  have hown := C.1.2.2.2.1
  have hts := C.1.2.2.2.2
  intro n
  induction n with
  | zero => intro v3 M H locs ls hW hl h; exact h.elim
  | succ n ih =>
    intro v3 M H locs ls hW hl h
    refine lv_iload_n hx hb dX9_begin_2 rfl (lv_at hl 3 rfl) ?_
    refine lv_aload_n hx hb dX9_begin_3 rfl (lv_at hl 0 rfl) ?_
    refine gf_X9_87 C hW dX9_begin_4 ?_
    refine lv_icmp_ge (tgt := 116) hx hb dX9_begin_7 (by decide) (fun c_1 => ?_) (fun c_1 => ?_)
    · have h := h.1 c_1
      exact hK M _ _ _ hW (lv_sub hl [] rfl) h
    · have h := h.2 c_1
      refine lv_aload_n hx hb dX9_begin_10 rfl (lv_at hl 0 rfl) ?_
      refine gf_X9_81 C hW dX9_begin_11 ?_
      refine lv_iload_n hx hb dX9_begin_14 rfl (lv_at hl 3 rfl) ?_
      refine lv_aload_n hx hb dX9_begin_15 rfl (lv_at hl 0 rfl) ?_
      refine gf_X9_13 C hW dX9_begin_16 ?_
      refine lv_iload_n hx hb dX9_begin_19 rfl (lv_at hl 3 rfl) ?_
      have hi_2 := h.1
      have h := h.2
      refine pd_iald C hW kd_84 hi_2 dX9_begin_20 ?_
      refine lv_aload_n hx hb dX9_begin_21 rfl (lv_at hl 0 rfl) ?_
      refine gf_X9_16 C hW dX9_begin_22 ?_
      refine lv_bipush (v := 7) hx hb dX9_begin_25 (by decide) ?_
      refine lv_iload_n hx hb dX9_begin_27 rfl (lv_at hl 3 rfl) ?_
      refine lv_imul hx hb dX9_begin_28 ?_
      refine lv_iload_n hx hb dX9_begin_29 rfl (lv_at hl 1 rfl) ?_
      refine lv_iadd hx hb dX9_begin_30 ?_
      have hi_3 := h.1
      have h := h.2
      refine pd_iald C hW kd_85 hi_3 dX9_begin_31 ?_
      refine lv_isub hx hb dX9_begin_32 ?_
      have hi_4 := h.1
      have h := h.2
      refine pd_iast C hW kd_105 hi_4 dX9_begin_33 (fun M_5 H locs eM_5 hW => ?_)
      have h := h M_5 eM_5
      refine lv_iconst (v := 0) hx hb dX9_begin_34 (by decide) ?_
      refine lv_istore (lv' := [(4, .int 0), (0, .ref (g.1 82)), (1, .int f1), (2, .int f2), (3, .int v3)]) hx hb dX9_begin_35 hl (by decide) rfl (fun ls hl => ?_)
      obtain ⟨k_37, h⟩ := h
      refine stX9_begin_37 C hA (fun M_20 H locs ls hW hl h => ?_) k_37 0 M_5 _ _ _ hW (lv_sub hl [1, 2, 3, 4, 0] rfl) h
      obtain ⟨x3_21, ex3_21⟩ : ∃ y : Int32, y = v3 + 1 := ⟨_, rfl⟩
      have h := h x3_21 ex3_21
      refine lv_iinc (v := x3_21) (lv' := [(3, .int x3_21), (0, .ref (g.1 82)), (1, .int f1), (2, .int f2)]) hx hb dX9_begin_110 hl (k := 3) rfl (by rw [ex3_21]; rfl) (by decide) rfl (fun ls hl => ?_)
      refine lv_goto (tgt := 2) hx hb dX9_begin_113 (by decide) ?_
      exact ih x3_21 M_20 _ _ _ hW (lv_sub hl [1, 2, 3, 0] rfl) h

def wX9_begin (Q : pd_M → Prop) (a1 : Int32) (a2 : Int32) (M : pd_M) : Prop := (∃ k_2 : Nat, lpX9_begin_2 (fun M_22 => Q M_22) a1 a2 k_2 0 M)

set_option maxRecDepth 100000 in
set_option maxHeartbeats 4000000 in
theorem mX9_begin {l : Launch} {D : va_G} {g : pd_G} {t : Nat} {X : va_W} {Q : pd_M → Prop} {a1 : Int32} {a2 : Int32} {M : pd_M} {sz : Nat} (h : wX9_begin Q a1 a2 M) : Met l yX9_begin (Cond.code yX9_begin cX9_begin 6 (Option.none : Option FieldType) :: TB) rX9_begin (pd_Pre D g t M X sz [.ref (g.1 82), .int a1, .int a2]) (pd_Qv D g M X sz Q) 0 0 (va_A (pd_WL g M ++ X) sz) := by
  refine pd_met (by decide) (Nat.le_of_ble_eq_true rfl) ?_
  intro p e s m below meth c A ls C hA hW hl
  have C : pd_C p m c cX9_begin 6 s _ RX9 meth (Option.none : Option FieldType) := C
  have hx := C.1.1
  have hb := C.1.2.1
  have hown := C.1.2.2.2.1
  have hts := C.1.2.2.2.2
  have hl : lv_has ls 6 [(0, .ref (g.1 82)), (1, .int a1), (2, .int a2)] := hl
  refine lv_iconst (v := 0) hx hb dX9_begin_0 (by decide) ?_
  refine lv_istore_n (lv' := [(3, .int 0), (0, .ref (g.1 82)), (1, .int a1), (2, .int a2)]) hx hb dX9_begin_1 rfl hl (by decide) rfl (fun ls hl => ?_)
  obtain ⟨k_2, h⟩ := h
  refine stX9_begin_2 C hA (fun M_22 H locs ls hW hl h => ?_) k_2 0 M _ _ _ hW (lv_sub hl [1, 2, 3, 0] rfl) h
  exact pd_vret C hA hW h dX9_begin_116

theorem dd_X9_begin : yX9_begin.cls ≠ "java/lang/invoke/MethodHandle" ∧ yX9_begin.cls ≠ "java/lang/invoke/VarHandle" ∧ (parseMethodDescriptor yX9_begin.desc).map (fun d => d.parameters.length) = some 2 := by decide +kernel
theorem cl_X9_128 {p : Program} {l : Launch} {e : Env} {R : Room} {s : State} {m : MethodId} {args : Array Value} {below : List Frame} {meth : Method} {c : Code} {H : Heap} {locs : List Loc} {cells slots : Nat} {QQ : State → Prop} {cc : ByteArray} {pc : Nat} {ls : Array Slot} {rest : List Value} {D : va_G} {g : pd_G} {t : Nat} {M : pd_M} {X : va_W} {A : Nat → Prop} {nL : Nat} {ret : Option FieldType} {Qc : pd_M → Prop} {a1 : Int32} {a2 : Int32} (C : pd_C p m c cc nL s args RX9 meth ret) (hW : pd_W D g t M X A s H locs) (h : wX9_begin Qc a1 a2 M) (hR : rX9_begin.frames + 1 ≤ R.frames ∧ 8 + (6 + 11) + rX9_begin.locals ≤ R.locals) (hcs : cells ≤ R.cells ∧ slots ≤ R.slots) (hls : ls.size = nL) (hw8 : (rest.map fun v => v.category).sum ≤ 8) (hdg : decode cc pc = .ok (.invokevirtual 128, 3))
    (kk : ∀ (M1 : pd_M) (H1 : Heap) (locs1 : List Loc), Qc M1 → pd_W D g t M1 X A s H1 locs1 → W p l e R s m args below meth c H1 locs1 cells slots QQ (F0 m (pc + 3) ls rest)) : W p l e R s m args below meth c H locs cells slots QQ (F0 m pc ls (.int a2 :: .int a1 :: .ref (g.1 82) :: rest)) :=
  pd_callVv (As := [.int a1, .int a2]) C hW (mX9_begin h) kd_82 rfl mM_X9_128 mO_yX9_begin mV_yX9_begin mI_X9 mC_yX9_begin dd_X9_begin ⟨rfl, rfl⟩ hR hcs hls rfl hw8 hdg kk
abbrev rX9_parkOne : Room := { frames := 0, cells := 0, slots := 0, locals := 0 }
def lpX9_parkOne_11 (K : Int32 → pd_M → Prop) (f1 : Int32) : Nat → Int32 → Int32 → Int32 → pd_M → Prop
  | 0, _, _, _, _ => False
  | n + 1, v2, v3, v4, M => (((M.1 82 0) ≤ v4 → K v2 M) ∧ (¬ (M.1 82 0) ≤ v4 → (vp_in ((5 * f1) + v4) 35 ∧ ∀ x5_4 : Int32, x5_4 = (M.1 106 ((5 * f1) + v4).toNatClampNeg) → (vp_in f1 7 ∧ (vp_in ((5 * (M.1 88 f1.toNatClampNeg)) + v4) 25 ∧ ((¬ x5_4 = 2 → ∀ x6_8 : Int32, x6_8 = ((2 * (M.1 86 ((5 * (M.1 88 f1.toNatClampNeg)) + v4).toNatClampNeg)) + 1) → ((x5_4 ≤ 0 → ∀ x4_10 : Int32, x4_10 = v4 + 1 → lpX9_parkOne_11 K f1 n v2 v3 x4_10 M) ∧ (¬ x5_4 ≤ 0 → (vp_in v4 5 ∧ (((M.1 105 v4.toNatClampNeg) ≤ 0 → ∀ x4_13 : Int32, x4_13 = v4 + 1 → lpX9_parkOne_11 K f1 n v2 v3 x4_13 M) ∧ (¬ (M.1 105 v4.toNatClampNeg) ≤ 0 → ((v3 ≤ x6_8 → ∀ x4_15 : Int32, x4_15 = v4 + 1 → lpX9_parkOne_11 K f1 n v2 v3 x4_15 M) ∧ (¬ v3 ≤ x6_8 → ∀ x4_16 : Int32, x4_16 = v4 + 1 → lpX9_parkOne_11 K f1 n v4 x6_8 x4_16 M)))))))) ∧ (x5_4 = 2 → ∀ x6_17 : Int32, x6_17 = ((2 * (M.1 86 ((5 * (M.1 88 f1.toNatClampNeg)) + v4).toNatClampNeg)) + 0) → ((x5_4 ≤ 0 → ∀ x4_19 : Int32, x4_19 = v4 + 1 → lpX9_parkOne_11 K f1 n v2 v3 x4_19 M) ∧ (¬ x5_4 ≤ 0 → (vp_in v4 5 ∧ (((M.1 105 v4.toNatClampNeg) ≤ 0 → ∀ x4_22 : Int32, x4_22 = v4 + 1 → lpX9_parkOne_11 K f1 n v2 v3 x4_22 M) ∧ (¬ (M.1 105 v4.toNatClampNeg) ≤ 0 → ((v3 ≤ x6_17 → ∀ x4_24 : Int32, x4_24 = v4 + 1 → lpX9_parkOne_11 K f1 n v2 v3 x4_24 M) ∧ (¬ v3 ≤ x6_17 → ∀ x4_25 : Int32, x4_25 = v4 + 1 → lpX9_parkOne_11 K f1 n v4 x6_17 x4_25 M))))))))))))))

set_option maxRecDepth 100000 in
set_option maxHeartbeats 4000000 in
theorem stX9_parkOne_11 {p : Program} {l : Launch} {e : Env} {s : State} {m : MethodId} {args : Array Value} {below : List Frame} {meth : Method} {c : Code} {D : va_G} {g : pd_G} {t : Nat} {M0 : pd_M} {X : va_W} {A : Nat → Prop} {sz : Nat} {Q : pd_M → Prop} (C : pd_C p m c cX9_parkOne 7 s args RX9 meth (Option.none : Option FieldType)) (hA : A = va_A (pd_WL g M0 ++ X) sz) {K : Int32 → pd_M → Prop} {f1 : Int32}  (hK : ∀ (p2 : Int32) (M : pd_M) (H : Heap) (locs : List Loc) (ls : Array Slot), pd_W D g t M X A s H locs → lv_has ls 7 [(0, .ref (g.1 82)), (1, .int f1), (2, .int p2)] → K p2 M → W p l e rX9_parkOne s m args below meth c H locs 0 0 (MQ below (pd_Qv D g M0 X sz Q) args s 0 0 (va_A (pd_WL g M0 ++ X) sz)) (F0 m 98 ls [])) :
    ∀ (n : Nat) (v2 : Int32) (v3 : Int32) (v4 : Int32) (M : pd_M) (H : Heap) (locs : List Loc) (ls : Array Slot), pd_W D g t M X A s H locs → lv_has ls 7 [(0, .ref (g.1 82)), (1, .int f1), (2, .int v2), (3, .int v3), (4, .int v4)] → lpX9_parkOne_11 K f1 n v2 v3 v4 M → W p l e rX9_parkOne s m args below meth c H locs 0 0 (MQ below (pd_Qv D g M0 X sz Q) args s 0 0 (va_A (pd_WL g M0 ++ X) sz)) (F0 m 11 ls []) := by
  have hx := C.1.1
  have hb := C.1.2.1
  have hown := C.1.2.2.2.1
  have hts := C.1.2.2.2.2
  intro n
  induction n with
  | zero => intro v2 v3 v4 M H locs ls hW hl h; exact h.elim
  | succ n ih =>
    intro v2 v3 v4 M H locs ls hW hl h
    refine lv_iload hx hb dX9_parkOne_11 (lv_at hl 4 rfl) ?_
    refine lv_aload_n hx hb dX9_parkOne_13 rfl (lv_at hl 0 rfl) ?_
    refine gf_X9_87 C hW dX9_parkOne_14 ?_
    refine lv_icmp_ge (tgt := 98) hx hb dX9_parkOne_17 (by decide) (fun c_2 => ?_) (fun c_2 => ?_)
    · have h := h.1 c_2
      exact hK v2 M _ _ _ hW (lv_sub hl [0, 1, 2] rfl) h
    · have h := h.2 c_2
      refine lv_aload_n hx hb dX9_parkOne_20 rfl (lv_at hl 0 rfl) ?_
      refine gf_X9_84 C hW dX9_parkOne_21 ?_
      refine lv_iconst (v := 5) hx hb dX9_parkOne_24 (by decide) ?_
      refine lv_iload_n hx hb dX9_parkOne_25 rfl (lv_at hl 1 rfl) ?_
      refine lv_imul hx hb dX9_parkOne_26 ?_
      refine lv_iload hx hb dX9_parkOne_27 (lv_at hl 4 rfl) ?_
      refine lv_iadd hx hb dX9_parkOne_29 ?_
      have hi_3 := h.1
      have h := h.2
      refine pd_iald C hW kd_106 hi_3 dX9_parkOne_30 ?_
      refine lv_topi (fun x5_4 ex5_4 => ?_)
      have h := h x5_4 ex5_4
      refine lv_istore (lv' := [(5, .int x5_4), (0, .ref (g.1 82)), (1, .int f1), (2, .int v2), (3, .int v3), (4, .int v4)]) hx hb dX9_parkOne_31 hl (by decide) rfl (fun ls hl => ?_)
      refine lv_iconst (v := 2) hx hb dX9_parkOne_33 (by decide) ?_
      refine lv_aload_n hx hb dX9_parkOne_34 rfl (lv_at hl 1 rfl) ?_
      refine gf_X9_19 C hW dX9_parkOne_35 ?_
      refine lv_iconst (v := 5) hx hb dX9_parkOne_38 (by decide) ?_
      refine lv_aload_n hx hb dX9_parkOne_39 rfl (lv_at hl 1 rfl) ?_
      refine gf_X9_25 C hW dX9_parkOne_40 ?_
      refine lv_iload_n hx hb dX9_parkOne_43 rfl (lv_at hl 2 rfl) ?_
      have hi_5 := h.1
      have h := h.2
      refine pd_iald C hW kd_88 hi_5 dX9_parkOne_44 ?_
      refine lv_imul hx hb dX9_parkOne_45 ?_
      refine lv_iload hx hb dX9_parkOne_46 (lv_at hl 5 rfl) ?_
      refine lv_iadd hx hb dX9_parkOne_48 ?_
      have hi_6 := h.1
      have h := h.2
      refine pd_iald C hW kd_86 hi_6 dX9_parkOne_49 ?_
      refine lv_imul hx hb dX9_parkOne_50 ?_
      refine lv_iload hx hb dX9_parkOne_51 (lv_at hl 0 rfl) ?_
      refine lv_iconst (v := 2) hx hb dX9_parkOne_53 (by decide) ?_
      refine lv_icmp_ne (tgt := 61) hx hb dX9_parkOne_54 (by decide) (fun c_7 => ?_) (fun c_7 => ?_)
      · have h := h.1 c_7
        refine lv_iconst (v := 1) hx hb dX9_parkOne_61 (by decide) ?_
        refine lv_iadd hx hb dX9_parkOne_62 ?_
        refine lv_topi (fun x6_8 ex6_8 => ?_)
        have h := h x6_8 ex6_8
        refine lv_istore (lv' := [(6, .int x6_8), (5, .int x5_4), (0, .ref (g.1 82)), (1, .int f1), (2, .int v2), (3, .int v3), (4, .int v4)]) hx hb dX9_parkOne_63 hl (by decide) rfl (fun ls hl => ?_)
        refine lv_iload hx hb dX9_parkOne_65 (lv_at hl 1 rfl) ?_
        refine lv_if_le (tgt := 92) hx hb dX9_parkOne_67 (by decide) (fun c_9 => ?_) (fun c_9 => ?_)
        · have h := h.1 c_9
          obtain ⟨x4_10, ex4_10⟩ : ∃ y : Int32, y = v4 + 1 := ⟨_, rfl⟩
          have h := h x4_10 ex4_10
          refine lv_iinc (v := x4_10) (lv' := [(4, .int x4_10), (6, .int x6_8), (5, .int x5_4), (0, .ref (g.1 82)), (1, .int f1), (2, .int v2), (3, .int v3)]) hx hb dX9_parkOne_92 hl (k := 6) rfl (by rw [ex4_10]; rfl) (by decide) rfl (fun ls hl => ?_)
          refine lv_goto (tgt := 11) hx hb dX9_parkOne_95 (by decide) ?_
          exact ih v2 v3 x4_10 M _ _ _ hW (lv_sub hl [3, 4, 5, 6, 0] rfl) h
        · have h := h.2 c_9
          refine lv_aload_n hx hb dX9_parkOne_70 rfl (lv_at hl 2 rfl) ?_
          refine gf_X9_81 C hW dX9_parkOne_71 ?_
          refine lv_iload hx hb dX9_parkOne_74 (lv_at hl 6 rfl) ?_
          have hi_11 := h.1
          have h := h.2
          refine pd_iald C hW kd_105 hi_11 dX9_parkOne_76 ?_
          refine lv_if_le (tgt := 92) hx hb dX9_parkOne_77 (by decide) (fun c_12 => ?_) (fun c_12 => ?_)
          · have h := h.1 c_12
            obtain ⟨x4_13, ex4_13⟩ : ∃ y : Int32, y = v4 + 1 := ⟨_, rfl⟩
            have h := h x4_13 ex4_13
            refine lv_iinc (v := x4_13) (lv' := [(4, .int x4_13), (6, .int x6_8), (5, .int x5_4), (0, .ref (g.1 82)), (1, .int f1), (2, .int v2), (3, .int v3)]) hx hb dX9_parkOne_92 hl (k := 6) rfl (by rw [ex4_13]; rfl) (by decide) rfl (fun ls hl => ?_)
            refine lv_goto (tgt := 11) hx hb dX9_parkOne_95 (by decide) ?_
            exact ih v2 v3 x4_13 M _ _ _ hW (lv_sub hl [3, 4, 5, 6, 0] rfl) h
          · have h := h.2 c_12
            refine lv_iload hx hb dX9_parkOne_80 (lv_at hl 0 rfl) ?_
            refine lv_iload_n hx hb dX9_parkOne_82 rfl (lv_at hl 5 rfl) ?_
            refine lv_icmp_ge (tgt := 92) hx hb dX9_parkOne_83 (by decide) (fun c_14 => ?_) (fun c_14 => ?_)
            · have h := h.1 c_14
              obtain ⟨x4_15, ex4_15⟩ : ∃ y : Int32, y = v4 + 1 := ⟨_, rfl⟩
              have h := h x4_15 ex4_15
              refine lv_iinc (v := x4_15) (lv' := [(4, .int x4_15), (6, .int x6_8), (5, .int x5_4), (0, .ref (g.1 82)), (1, .int f1), (2, .int v2), (3, .int v3)]) hx hb dX9_parkOne_92 hl (k := 6) rfl (by rw [ex4_15]; rfl) (by decide) rfl (fun ls hl => ?_)
              refine lv_goto (tgt := 11) hx hb dX9_parkOne_95 (by decide) ?_
              exact ih v2 v3 x4_15 M _ _ _ hW (lv_sub hl [3, 4, 5, 6, 0] rfl) h
            · have h := h.2 c_14
              refine lv_iload hx hb dX9_parkOne_86 (lv_at hl 0 rfl) ?_
              refine lv_istore_n (lv' := [(3, .int x6_8), (6, .int x6_8), (5, .int x5_4), (0, .ref (g.1 82)), (1, .int f1), (2, .int v2), (4, .int v4)]) hx hb dX9_parkOne_88 rfl hl (by decide) rfl (fun ls hl => ?_)
              refine lv_iload hx hb dX9_parkOne_89 (lv_at hl 6 rfl) ?_
              refine lv_istore_n (lv' := [(2, .int v4), (3, .int x6_8), (6, .int x6_8), (5, .int x5_4), (0, .ref (g.1 82)), (1, .int f1), (4, .int v4)]) hx hb dX9_parkOne_91 rfl hl (by decide) rfl (fun ls hl => ?_)
              obtain ⟨x4_16, ex4_16⟩ : ∃ y : Int32, y = v4 + 1 := ⟨_, rfl⟩
              have h := h x4_16 ex4_16
              refine lv_iinc (v := x4_16) (lv' := [(4, .int x4_16), (2, .int v4), (3, .int x6_8), (6, .int x6_8), (5, .int x5_4), (0, .ref (g.1 82)), (1, .int f1)]) hx hb dX9_parkOne_92 hl (k := 6) rfl (by rw [ex4_16]; rfl) (by decide) rfl (fun ls hl => ?_)
              refine lv_goto (tgt := 11) hx hb dX9_parkOne_95 (by decide) ?_
              exact ih v4 x6_8 x4_16 M _ _ _ hW (lv_sub hl [5, 6, 1, 2, 0] rfl) h
      · have h := h.2 c_7
        refine lv_iconst (v := 0) hx hb dX9_parkOne_57 (by decide) ?_
        refine lv_goto (tgt := 62) hx hb dX9_parkOne_58 (by decide) ?_
        refine lv_iadd hx hb dX9_parkOne_62 ?_
        refine lv_topi (fun x6_17 ex6_17 => ?_)
        have h := h x6_17 ex6_17
        refine lv_istore (lv' := [(6, .int x6_17), (5, .int x5_4), (0, .ref (g.1 82)), (1, .int f1), (2, .int v2), (3, .int v3), (4, .int v4)]) hx hb dX9_parkOne_63 hl (by decide) rfl (fun ls hl => ?_)
        refine lv_iload hx hb dX9_parkOne_65 (lv_at hl 1 rfl) ?_
        refine lv_if_le (tgt := 92) hx hb dX9_parkOne_67 (by decide) (fun c_18 => ?_) (fun c_18 => ?_)
        · have h := h.1 c_18
          obtain ⟨x4_19, ex4_19⟩ : ∃ y : Int32, y = v4 + 1 := ⟨_, rfl⟩
          have h := h x4_19 ex4_19
          refine lv_iinc (v := x4_19) (lv' := [(4, .int x4_19), (6, .int x6_17), (5, .int x5_4), (0, .ref (g.1 82)), (1, .int f1), (2, .int v2), (3, .int v3)]) hx hb dX9_parkOne_92 hl (k := 6) rfl (by rw [ex4_19]; rfl) (by decide) rfl (fun ls hl => ?_)
          refine lv_goto (tgt := 11) hx hb dX9_parkOne_95 (by decide) ?_
          exact ih v2 v3 x4_19 M _ _ _ hW (lv_sub hl [3, 4, 5, 6, 0] rfl) h
        · have h := h.2 c_18
          refine lv_aload_n hx hb dX9_parkOne_70 rfl (lv_at hl 2 rfl) ?_
          refine gf_X9_81 C hW dX9_parkOne_71 ?_
          refine lv_iload hx hb dX9_parkOne_74 (lv_at hl 6 rfl) ?_
          have hi_20 := h.1
          have h := h.2
          refine pd_iald C hW kd_105 hi_20 dX9_parkOne_76 ?_
          refine lv_if_le (tgt := 92) hx hb dX9_parkOne_77 (by decide) (fun c_21 => ?_) (fun c_21 => ?_)
          · have h := h.1 c_21
            obtain ⟨x4_22, ex4_22⟩ : ∃ y : Int32, y = v4 + 1 := ⟨_, rfl⟩
            have h := h x4_22 ex4_22
            refine lv_iinc (v := x4_22) (lv' := [(4, .int x4_22), (6, .int x6_17), (5, .int x5_4), (0, .ref (g.1 82)), (1, .int f1), (2, .int v2), (3, .int v3)]) hx hb dX9_parkOne_92 hl (k := 6) rfl (by rw [ex4_22]; rfl) (by decide) rfl (fun ls hl => ?_)
            refine lv_goto (tgt := 11) hx hb dX9_parkOne_95 (by decide) ?_
            exact ih v2 v3 x4_22 M _ _ _ hW (lv_sub hl [3, 4, 5, 6, 0] rfl) h
          · have h := h.2 c_21
            refine lv_iload hx hb dX9_parkOne_80 (lv_at hl 0 rfl) ?_
            refine lv_iload_n hx hb dX9_parkOne_82 rfl (lv_at hl 5 rfl) ?_
            refine lv_icmp_ge (tgt := 92) hx hb dX9_parkOne_83 (by decide) (fun c_23 => ?_) (fun c_23 => ?_)
            · have h := h.1 c_23
              obtain ⟨x4_24, ex4_24⟩ : ∃ y : Int32, y = v4 + 1 := ⟨_, rfl⟩
              have h := h x4_24 ex4_24
              refine lv_iinc (v := x4_24) (lv' := [(4, .int x4_24), (6, .int x6_17), (5, .int x5_4), (0, .ref (g.1 82)), (1, .int f1), (2, .int v2), (3, .int v3)]) hx hb dX9_parkOne_92 hl (k := 6) rfl (by rw [ex4_24]; rfl) (by decide) rfl (fun ls hl => ?_)
              refine lv_goto (tgt := 11) hx hb dX9_parkOne_95 (by decide) ?_
              exact ih v2 v3 x4_24 M _ _ _ hW (lv_sub hl [3, 4, 5, 6, 0] rfl) h
            · have h := h.2 c_23
              refine lv_iload hx hb dX9_parkOne_86 (lv_at hl 0 rfl) ?_
              refine lv_istore_n (lv' := [(3, .int x6_17), (6, .int x6_17), (5, .int x5_4), (0, .ref (g.1 82)), (1, .int f1), (2, .int v2), (4, .int v4)]) hx hb dX9_parkOne_88 rfl hl (by decide) rfl (fun ls hl => ?_)
              refine lv_iload hx hb dX9_parkOne_89 (lv_at hl 6 rfl) ?_
              refine lv_istore_n (lv' := [(2, .int v4), (3, .int x6_17), (6, .int x6_17), (5, .int x5_4), (0, .ref (g.1 82)), (1, .int f1), (4, .int v4)]) hx hb dX9_parkOne_91 rfl hl (by decide) rfl (fun ls hl => ?_)
              obtain ⟨x4_25, ex4_25⟩ : ∃ y : Int32, y = v4 + 1 := ⟨_, rfl⟩
              have h := h x4_25 ex4_25
              refine lv_iinc (v := x4_25) (lv' := [(4, .int x4_25), (2, .int v4), (3, .int x6_17), (6, .int x6_17), (5, .int x5_4), (0, .ref (g.1 82)), (1, .int f1)]) hx hb dX9_parkOne_92 hl (k := 6) rfl (by rw [ex4_25]; rfl) (by decide) rfl (fun ls hl => ?_)
              refine lv_goto (tgt := 11) hx hb dX9_parkOne_95 (by decide) ?_
              exact ih v4 x6_17 x4_25 M _ _ _ hW (lv_sub hl [5, 6, 1, 2, 0] rfl) h

def wX9_parkOne (Q : pd_M → Prop) (a1 : Int32) (M : pd_M) : Prop := ∀ x2_1 : Int32, x2_1 = (M.1 82 0) → (∃ k_11 : Nat, lpX9_parkOne_11 (fun x2_27 M_26 => (vp_in a1 7 ∧ ∀ M_29 : pd_M, M_29 = sI M_26 104 a1.toNatClampNeg x2_27 → (((M_29.1 82 0) ≤ x2_27 → Q M_29) ∧ (¬ (M_29.1 82 0) ≤ x2_27 → (vp_in x2_27 5 ∧ (vp_in x2_27 5 ∧ ∀ M_33 : pd_M, M_33 = sI M_29 105 x2_27.toNatClampNeg ((M_29.1 105 x2_27.toNatClampNeg) - 1) → Q M_33)))))) a1 k_11 x2_1 (1000000 : Int32) 0 M)

set_option maxRecDepth 100000 in
set_option maxHeartbeats 4000000 in
theorem mX9_parkOne {l : Launch} {D : va_G} {g : pd_G} {t : Nat} {X : va_W} {Q : pd_M → Prop} {a1 : Int32} {M : pd_M} {sz : Nat} (h : wX9_parkOne Q a1 M) : Met l yX9_parkOne (Cond.code yX9_parkOne cX9_parkOne 7 (Option.none : Option FieldType) :: TB) rX9_parkOne (pd_Pre D g t M X sz [.ref (g.1 82), .int a1]) (pd_Qv D g M X sz Q) 0 0 (va_A (pd_WL g M ++ X) sz) := by
  refine pd_met (by decide) (Nat.le_of_ble_eq_true rfl) ?_
  intro p e s m below meth c A ls C hA hW hl
  have C : pd_C p m c cX9_parkOne 7 s _ RX9 meth (Option.none : Option FieldType) := C
  have hx := C.1.1
  have hb := C.1.2.1
  have hown := C.1.2.2.2.1
  have hts := C.1.2.2.2.2
  have hl : lv_has ls 7 [(0, .ref (g.1 82)), (1, .int a1)] := hl
  refine lv_aload_n hx hb dX9_parkOne_0 rfl (lv_at hl 0 rfl) ?_
  refine gf_X9_87 C hW dX9_parkOne_1 ?_
  refine lv_topi (fun x2_1 ex2_1 => ?_)
  have h := h x2_1 ex2_1
  refine lv_istore_n (lv' := [(2, .int x2_1), (0, .ref (g.1 82)), (1, .int a1)]) hx hb dX9_parkOne_4 rfl hl (by decide) rfl (fun ls hl => ?_)
  refine lv_ldc (v := (1000000 : Int32)) hx hb hown (hts _ mJ_X9_127) dX9_parkOne_5 ?_
  refine lv_istore_n (lv' := [(3, .int (1000000 : Int32)), (2, .int x2_1), (0, .ref (g.1 82)), (1, .int a1)]) hx hb dX9_parkOne_7 rfl hl (by decide) rfl (fun ls hl => ?_)
  refine lv_iconst (v := 0) hx hb dX9_parkOne_8 (by decide) ?_
  refine lv_istore (lv' := [(4, .int 0), (3, .int (1000000 : Int32)), (2, .int x2_1), (0, .ref (g.1 82)), (1, .int a1)]) hx hb dX9_parkOne_9 hl (by decide) rfl (fun ls hl => ?_)
  obtain ⟨k_11, h⟩ := h
  refine stX9_parkOne_11 C hA (fun x2_27 M_26 H locs ls hW hl h => ?_) k_11 x2_1 (1000000 : Int32) 0 M _ _ _ hW (lv_sub hl [3, 4, 2, 1, 0] rfl) h
  refine lv_aload_n hx hb dX9_parkOne_98 rfl (lv_at hl 0 rfl) ?_
  refine gf_X9_78 C hW dX9_parkOne_99 ?_
  refine lv_iload_n hx hb dX9_parkOne_102 rfl (lv_at hl 1 rfl) ?_
  refine lv_iload_n hx hb dX9_parkOne_103 rfl (lv_at hl 2 rfl) ?_
  have hi_28 := h.1
  have h := h.2
  refine pd_iast C hW kd_104 hi_28 dX9_parkOne_104 (fun M_29 H locs eM_29 hW => ?_)
  have h := h M_29 eM_29
  refine lv_iload_n hx hb dX9_parkOne_105 rfl (lv_at hl 2 rfl) ?_
  refine lv_aload_n hx hb dX9_parkOne_106 rfl (lv_at hl 0 rfl) ?_
  refine gf_X9_87 C hW dX9_parkOne_107 ?_
  refine lv_icmp_ge (tgt := 123) hx hb dX9_parkOne_110 (by decide) (fun c_30 => ?_) (fun c_30 => ?_)
  · have h := h.1 c_30
    exact pd_vret C hA hW h dX9_parkOne_123
  · have h := h.2 c_30
    refine lv_aload_n hx hb dX9_parkOne_113 rfl (lv_at hl 0 rfl) ?_
    refine gf_X9_81 C hW dX9_parkOne_114 ?_
    refine lv_iload_n hx hb dX9_parkOne_117 rfl (lv_at hl 2 rfl) ?_
    refine lv_dup2_11 hx hb dX9_parkOne_118 rfl rfl ?_
    have hi_31 := h.1
    have h := h.2
    refine pd_iald C hW kd_105 hi_31 dX9_parkOne_119 ?_
    refine lv_iconst (v := 1) hx hb dX9_parkOne_120 (by decide) ?_
    refine lv_isub hx hb dX9_parkOne_121 ?_
    have hi_32 := h.1
    have h := h.2
    refine pd_iast C hW kd_105 hi_32 dX9_parkOne_122 (fun M_33 H locs eM_33 hW => ?_)
    have h := h M_33 eM_33
    exact pd_vret C hA hW h dX9_parkOne_123

theorem dd_X9_parkOne : yX9_parkOne.cls ≠ "java/lang/invoke/MethodHandle" ∧ yX9_parkOne.cls ≠ "java/lang/invoke/VarHandle" ∧ (parseMethodDescriptor yX9_parkOne.desc).map (fun d => d.parameters.length) = some 1 := by decide +kernel
theorem cl_X9_132 {p : Program} {l : Launch} {e : Env} {R : Room} {s : State} {m : MethodId} {args : Array Value} {below : List Frame} {meth : Method} {c : Code} {H : Heap} {locs : List Loc} {cells slots : Nat} {QQ : State → Prop} {cc : ByteArray} {pc : Nat} {ls : Array Slot} {rest : List Value} {D : va_G} {g : pd_G} {t : Nat} {M : pd_M} {X : va_W} {A : Nat → Prop} {nL : Nat} {ret : Option FieldType} {Qc : pd_M → Prop} {a1 : Int32} (C : pd_C p m c cc nL s args RX9 meth ret) (hW : pd_W D g t M X A s H locs) (h : wX9_parkOne Qc a1 M) (hR : rX9_parkOne.frames + 1 ≤ R.frames ∧ 8 + (7 + 11) + rX9_parkOne.locals ≤ R.locals) (hcs : cells ≤ R.cells ∧ slots ≤ R.slots) (hls : ls.size = nL) (hw8 : (rest.map fun v => v.category).sum ≤ 8) (hdg : decode cc pc = .ok (.invokevirtual 132, 3))
    (kk : ∀ (M1 : pd_M) (H1 : Heap) (locs1 : List Loc), Qc M1 → pd_W D g t M1 X A s H1 locs1 → W p l e R s m args below meth c H1 locs1 cells slots QQ (F0 m (pc + 3) ls rest)) : W p l e R s m args below meth c H locs cells slots QQ (F0 m pc ls (.int a1 :: .ref (g.1 82) :: rest)) :=
  pd_callVv (As := [.int a1]) C hW (mX9_parkOne h) kd_82 rfl mM_X9_132 mO_yX9_parkOne mV_yX9_parkOne mI_X9 mC_yX9_parkOne dd_X9_parkOne ⟨rfl, rfl⟩ hR hcs hls rfl hw8 hdg kk
abbrev rX9_parkNight : Room := { frames := 3, cells := 0, slots := 0, locals := 73 }
def lpX9_parkNight_8 (K : pd_M → Prop) : Nat → Int32 → pd_M → Prop
  | 0, _, _ => False
  | n + 1, v3, M => (((M.1 82 6) ≤ v3 → K M) ∧ (¬ (M.1 82 6) ≤ v3 → (vp_in v3 7 ∧ wX9_parkOne (fun M_4 => ∀ x3_5 : Int32, x3_5 = v3 + 1 → lpX9_parkNight_8 K n x3_5 M_4) (M.1 92 v3.toNatClampNeg) M)))

set_option maxRecDepth 100000 in
set_option maxHeartbeats 4000000 in
theorem stX9_parkNight_8 {p : Program} {l : Launch} {e : Env} {s : State} {m : MethodId} {args : Array Value} {below : List Frame} {meth : Method} {c : Code} {D : va_G} {g : pd_G} {t : Nat} {M0 : pd_M} {X : va_W} {A : Nat → Prop} {sz : Nat} {Q : pd_M → Prop} (C : pd_C p m c cX9_parkNight 4 s args RX9 meth (Option.none : Option FieldType)) (hA : A = va_A (pd_WL g M0 ++ X) sz) {K : pd_M → Prop}  (hK : ∀  (M : pd_M) (H : Heap) (locs : List Loc) (ls : Array Slot), pd_W D g t M X A s H locs → lv_has ls 4 [] → K  M → W p l e rX9_parkNight s m args below meth c H locs 0 0 (MQ below (pd_Qv D g M0 X sz Q) args s 0 0 (va_A (pd_WL g M0 ++ X) sz)) (F0 m 32 ls [])) :
    ∀ (n : Nat) (v3 : Int32) (M : pd_M) (H : Heap) (locs : List Loc) (ls : Array Slot), pd_W D g t M X A s H locs → lv_has ls 4 [(0, .ref (g.1 82)), (3, .int v3)] → lpX9_parkNight_8 K n v3 M → W p l e rX9_parkNight s m args below meth c H locs 0 0 (MQ below (pd_Qv D g M0 X sz Q) args s 0 0 (va_A (pd_WL g M0 ++ X) sz)) (F0 m 8 ls []) := by
  have hx := C.1.1
  have hb := C.1.2.1
  have hown := C.1.2.2.2.1
  have hts := C.1.2.2.2.2
  intro n
  induction n with
  | zero => intro v3 M H locs ls hW hl h; exact h.elim
  | succ n ih =>
    intro v3 M H locs ls hW hl h
    refine lv_iload_n hx hb dX9_parkNight_8 rfl (lv_at hl 1 rfl) ?_
    refine lv_aload_n hx hb dX9_parkNight_9 rfl (lv_at hl 0 rfl) ?_
    refine gf_X9_94 C hW dX9_parkNight_10 ?_
    refine lv_icmp_ge (tgt := 32) hx hb dX9_parkNight_13 (by decide) (fun c_2 => ?_) (fun c_2 => ?_)
    · have h := h.1 c_2
      exact hK M _ _ _ hW (lv_sub hl [] rfl) h
    · have h := h.2 c_2
      refine lv_aload_n hx hb dX9_parkNight_16 rfl (lv_at hl 0 rfl) ?_
      refine lv_aload_n hx hb dX9_parkNight_17 rfl (lv_at hl 0 rfl) ?_
      refine gf_X9_38 C hW dX9_parkNight_18 ?_
      refine lv_iload_n hx hb dX9_parkNight_21 rfl (lv_at hl 1 rfl) ?_
      have hi_3 := h.1
      have h := h.2
      refine pd_iald C hW kd_92 hi_3 dX9_parkNight_22 ?_
      refine cl_X9_132 C hW h ⟨by decide, by decide⟩ ⟨Nat.zero_le _, Nat.zero_le _⟩ hl.1 (by decide) dX9_parkNight_23 (fun M_4 H locs h hW => ?_)
      obtain ⟨x3_5, ex3_5⟩ : ∃ y : Int32, y = v3 + 1 := ⟨_, rfl⟩
      have h := h x3_5 ex3_5
      refine lv_iinc (v := x3_5) (lv' := [(3, .int x3_5), (0, .ref (g.1 82))]) hx hb dX9_parkNight_26 hl (k := 1) rfl (by rw [ex3_5]; rfl) (by decide) rfl (fun ls hl => ?_)
      refine lv_goto (tgt := 8) hx hb dX9_parkNight_29 (by decide) ?_
      exact ih x3_5 M_4 _ _ _ hW (lv_sub hl [1, 0] rfl) h

def wX9_parkNight (Q : pd_M → Prop) (a1 : Int32) (a2 : Int32) (M : pd_M) : Prop := wX9_begin (fun M_1 => (∃ k_8 : Nat, lpX9_parkNight_8 (fun M_6 => Q M_6) k_8 0 M_1)) a1 a2 M

set_option maxRecDepth 100000 in
set_option maxHeartbeats 4000000 in
theorem mX9_parkNight {l : Launch} {D : va_G} {g : pd_G} {t : Nat} {X : va_W} {Q : pd_M → Prop} {a1 : Int32} {a2 : Int32} {M : pd_M} {sz : Nat} (h : wX9_parkNight Q a1 a2 M) : Met l yX9_parkNight (Cond.code yX9_parkNight cX9_parkNight 4 (Option.none : Option FieldType) :: TB) rX9_parkNight (pd_Pre D g t M X sz [.ref (g.1 82), .int a1, .int a2]) (pd_Qv D g M X sz Q) 0 0 (va_A (pd_WL g M ++ X) sz) := by
  refine pd_met (by decide) (Nat.le_of_ble_eq_true rfl) ?_
  intro p e s m below meth c A ls C hA hW hl
  have C : pd_C p m c cX9_parkNight 4 s _ RX9 meth (Option.none : Option FieldType) := C
  have hx := C.1.1
  have hb := C.1.2.1
  have hown := C.1.2.2.2.1
  have hts := C.1.2.2.2.2
  have hl : lv_has ls 4 [(0, .ref (g.1 82)), (1, .int a1), (2, .int a2)] := hl
  refine lv_aload_n hx hb dX9_parkNight_0 rfl (lv_at hl 0 rfl) ?_
  refine lv_iload_n hx hb dX9_parkNight_1 rfl (lv_at hl 1 rfl) ?_
  refine lv_iload_n hx hb dX9_parkNight_2 rfl (lv_at hl 2 rfl) ?_
  refine cl_X9_128 C hW h ⟨by decide, by decide⟩ ⟨Nat.zero_le _, Nat.zero_le _⟩ hl.1 (by decide) dX9_parkNight_3 (fun M_1 H locs h hW => ?_)
  refine lv_iconst (v := 0) hx hb dX9_parkNight_6 (by decide) ?_
  refine lv_istore_n (lv' := [(3, .int 0), (0, .ref (g.1 82)), (1, .int a1), (2, .int a2)]) hx hb dX9_parkNight_7 rfl hl (by decide) rfl (fun ls hl => ?_)
  obtain ⟨k_8, h⟩ := h
  refine stX9_parkNight_8 C hA (fun M_6 H locs ls hW hl h => ?_) k_8 0 M_1 _ _ _ hW (lv_sub hl [1, 0] rfl) h
  exact pd_vret C hA hW h dX9_parkNight_32

theorem dd_X9_parkNight : yX9_parkNight.cls ≠ "java/lang/invoke/MethodHandle" ∧ yX9_parkNight.cls ≠ "java/lang/invoke/VarHandle" ∧ (parseMethodDescriptor yX9_parkNight.desc).map (fun d => d.parameters.length) = some 2 := by decide +kernel
theorem cl_X9_146 {p : Program} {l : Launch} {e : Env} {R : Room} {s : State} {m : MethodId} {args : Array Value} {below : List Frame} {meth : Method} {c : Code} {H : Heap} {locs : List Loc} {cells slots : Nat} {QQ : State → Prop} {cc : ByteArray} {pc : Nat} {ls : Array Slot} {rest : List Value} {D : va_G} {g : pd_G} {t : Nat} {M : pd_M} {X : va_W} {A : Nat → Prop} {nL : Nat} {ret : Option FieldType} {Qc : pd_M → Prop} {a1 : Int32} {a2 : Int32} (C : pd_C p m c cc nL s args RX9 meth ret) (hW : pd_W D g t M X A s H locs) (h : wX9_parkNight Qc a1 a2 M) (hR : rX9_parkNight.frames + 1 ≤ R.frames ∧ 8 + (4 + 11) + rX9_parkNight.locals ≤ R.locals) (hcs : cells ≤ R.cells ∧ slots ≤ R.slots) (hls : ls.size = nL) (hw8 : (rest.map fun v => v.category).sum ≤ 8) (hdg : decode cc pc = .ok (.invokevirtual 146, 3))
    (kk : ∀ (M1 : pd_M) (H1 : Heap) (locs1 : List Loc), Qc M1 → pd_W D g t M1 X A s H1 locs1 → W p l e R s m args below meth c H1 locs1 cells slots QQ (F0 m (pc + 3) ls rest)) : W p l e R s m args below meth c H locs cells slots QQ (F0 m pc ls (.int a2 :: .int a1 :: .ref (g.1 82) :: rest)) :=
  pd_callVv (As := [.int a1, .int a2]) C hW (mX9_parkNight h) kd_82 rfl mM_X9_146 mO_yX9_parkNight mV_yX9_parkNight mI_X9 mC_yX9_parkNight dd_X9_parkNight ⟨rfl, rfl⟩ hR hcs hls rfl hw8 hdg kk
abbrev rX9_costOf : Room := { frames := 0, cells := 0, slots := 0, locals := 0 }
def wX9_costOf (Q : Int32 → pd_M → Prop) (a1 : Int32) (a2 : Int32) (M : pd_M) : Prop := ((¬ a2 = (M.1 82 0) → (vp_in a1 7 ∧ (vp_in ((5 * (M.1 88 a1.toNatClampNeg)) + a2) 25 ∧ Q (M.1 86 ((5 * (M.1 88 a1.toNatClampNeg)) + a2).toNatClampNeg) M))) ∧ (a2 = (M.1 82 0) → Q 10000 M))

set_option maxRecDepth 100000 in
set_option maxHeartbeats 4000000 in
theorem mX9_costOf {l : Launch} {D : va_G} {g : pd_G} {t : Nat} {X : va_W} {Q : Int32 → pd_M → Prop} {a1 : Int32} {a2 : Int32} {M : pd_M} {sz : Nat} (h : wX9_costOf Q a1 a2 M) : Met l yX9_costOf (Cond.code yX9_costOf cX9_costOf 3 (Option.some FieldType.int) :: TB) rX9_costOf (pd_Pre D g t M X sz [.ref (g.1 82), .int a1, .int a2]) (pd_Qi D g M X sz Q) 0 0 (va_A (pd_WL g M ++ X) sz) := by
  refine pd_met (by decide) (Nat.le_of_ble_eq_true rfl) ?_
  intro p e s m below meth c A ls C hA hW hl
  have C : pd_C p m c cX9_costOf 3 s _ RX9 meth (Option.some FieldType.int) := C
  have hx := C.1.1
  have hb := C.1.2.1
  have hown := C.1.2.2.2.1
  have hts := C.1.2.2.2.2
  have hl : lv_has ls 3 [(0, .ref (g.1 82)), (1, .int a1), (2, .int a2)] := hl
  refine lv_iload_n hx hb dX9_costOf_0 rfl (lv_at hl 2 rfl) ?_
  refine lv_aload_n hx hb dX9_costOf_1 rfl (lv_at hl 0 rfl) ?_
  refine gf_X9_87 C hW dX9_costOf_2 ?_
  refine lv_icmp_ne (tgt := 14) hx hb dX9_costOf_5 (by decide) (fun c_1 => ?_) (fun c_1 => ?_)
  · have h := h.1 c_1
    refine lv_aload_n hx hb dX9_costOf_14 rfl (lv_at hl 0 rfl) ?_
    refine gf_X9_19 C hW dX9_costOf_15 ?_
    refine lv_iconst (v := 5) hx hb dX9_costOf_18 (by decide) ?_
    refine lv_aload_n hx hb dX9_costOf_19 rfl (lv_at hl 0 rfl) ?_
    refine gf_X9_25 C hW dX9_costOf_20 ?_
    refine lv_iload_n hx hb dX9_costOf_23 rfl (lv_at hl 1 rfl) ?_
    have hi_2 := h.1
    have h := h.2
    refine pd_iald C hW kd_88 hi_2 dX9_costOf_24 ?_
    refine lv_imul hx hb dX9_costOf_25 ?_
    refine lv_iload_n hx hb dX9_costOf_26 rfl (lv_at hl 2 rfl) ?_
    refine lv_iadd hx hb dX9_costOf_27 ?_
    have hi_3 := h.1
    have h := h.2
    refine pd_iald C hW kd_86 hi_3 dX9_costOf_28 ?_
    exact pd_iret C hA hW h dX9_costOf_29
  · have h := h.2 c_1
    refine lv_sipush (v := 10000) hx hb dX9_costOf_8 (by decide) ?_
    refine lv_goto (tgt := 29) hx hb dX9_costOf_11 (by decide) ?_
    exact pd_iret C hA hW h dX9_costOf_29

theorem dd_X9_costOf : yX9_costOf.cls ≠ "java/lang/invoke/MethodHandle" ∧ yX9_costOf.cls ≠ "java/lang/invoke/VarHandle" ∧ (parseMethodDescriptor yX9_costOf.desc).map (fun d => d.parameters.length) = some 2 := by decide +kernel
theorem cl_X9_136 {p : Program} {l : Launch} {e : Env} {R : Room} {s : State} {m : MethodId} {args : Array Value} {below : List Frame} {meth : Method} {c : Code} {H : Heap} {locs : List Loc} {cells slots : Nat} {QQ : State → Prop} {cc : ByteArray} {pc : Nat} {ls : Array Slot} {rest : List Value} {D : va_G} {g : pd_G} {t : Nat} {M : pd_M} {X : va_W} {A : Nat → Prop} {nL : Nat} {ret : Option FieldType} {Qc : Int32 → pd_M → Prop} {a1 : Int32} {a2 : Int32} (C : pd_C p m c cc nL s args RX9 meth ret) (hW : pd_W D g t M X A s H locs) (h : wX9_costOf Qc a1 a2 M) (hR : rX9_costOf.frames + 1 ≤ R.frames ∧ 8 + (3 + 11) + rX9_costOf.locals ≤ R.locals) (hcs : cells ≤ R.cells ∧ slots ≤ R.slots) (hls : ls.size = nL) (hw8 : (rest.map fun v => v.category).sum ≤ 8) (hdg : decode cc pc = .ok (.invokevirtual 136, 3))
    (kk : ∀ (r : Int32) (M1 : pd_M) (H1 : Heap) (locs1 : List Loc), Qc r M1 → pd_W D g t M1 X A s H1 locs1 → W p l e R s m args below meth c H1 locs1 cells slots QQ (F0 m (pc + 3) ls (.int r :: rest))) : W p l e R s m args below meth c H locs cells slots QQ (F0 m pc ls (.int a2 :: .int a1 :: .ref (g.1 82) :: rest)) :=
  pd_callVi (As := [.int a1, .int a2]) C hW (mX9_costOf h) kd_82 rfl mM_X9_136 mO_yX9_costOf mV_yX9_costOf mI_X9 mC_yX9_costOf dd_X9_costOf ⟨rfl, rfl⟩ hR hcs hls rfl hw8 hdg kk
abbrev rX9_mayTake : Room := { frames := 0, cells := 0, slots := 0, locals := 0 }
def wX9_mayTake (Q : Int32 → pd_M → Prop) (a1 : Int32) (a2 : Int32) (M : pd_M) : Prop := ((a2 = (M.1 82 0) → Q 1 M) ∧ (¬ a2 = (M.1 82 0) → (vp_in ((5 * a1) + a2) 35 ∧ (((M.1 106 ((5 * a1) + a2).toNatClampNeg) ≤ 0 → Q 0 M) ∧ (¬ (M.1 106 ((5 * a1) + a2).toNatClampNeg) ≤ 0 → (vp_in a2 5 ∧ (((M.1 105 a2.toNatClampNeg) ≤ 0 → Q 0 M) ∧ (¬ (M.1 105 a2.toNatClampNeg) ≤ 0 → Q 1 M))))))))

set_option maxRecDepth 100000 in
set_option maxHeartbeats 4000000 in
theorem mX9_mayTake {l : Launch} {D : va_G} {g : pd_G} {t : Nat} {X : va_W} {Q : Int32 → pd_M → Prop} {a1 : Int32} {a2 : Int32} {M : pd_M} {sz : Nat} (h : wX9_mayTake Q a1 a2 M) : Met l yX9_mayTake (Cond.code yX9_mayTake cX9_mayTake 3 (Option.some FieldType.boolean) :: TB) rX9_mayTake (pd_Pre D g t M X sz [.ref (g.1 82), .int a1, .int a2]) (pd_Qi D g M X sz Q) 0 0 (va_A (pd_WL g M ++ X) sz) := by
  refine pd_met (by decide) (Nat.le_of_ble_eq_true rfl) ?_
  intro p e s m below meth c A ls C hA hW hl
  have C : pd_C p m c cX9_mayTake 3 s _ RX9 meth (Option.some FieldType.boolean) := C
  have hx := C.1.1
  have hb := C.1.2.1
  have hown := C.1.2.2.2.1
  have hts := C.1.2.2.2.2
  have hl : lv_has ls 3 [(0, .ref (g.1 82)), (1, .int a1), (2, .int a2)] := hl
  refine lv_iload_n hx hb dX9_mayTake_0 rfl (lv_at hl 2 rfl) ?_
  refine lv_aload_n hx hb dX9_mayTake_1 rfl (lv_at hl 0 rfl) ?_
  refine gf_X9_87 C hW dX9_mayTake_2 ?_
  refine lv_icmp_eq (tgt := 30) hx hb dX9_mayTake_5 (by decide) (fun c_1 => ?_) (fun c_1 => ?_)
  · have h := h.1 c_1
    refine lv_iconst (v := 1) hx hb dX9_mayTake_30 (by decide) ?_
    refine lv_goto (tgt := 35) hx hb dX9_mayTake_31 (by decide) ?_
    exact pd_zret C hA hW rfl h dX9_mayTake_35
  · have h := h.2 c_1
    refine lv_aload_n hx hb dX9_mayTake_8 rfl (lv_at hl 0 rfl) ?_
    refine gf_X9_84 C hW dX9_mayTake_9 ?_
    refine lv_iconst (v := 5) hx hb dX9_mayTake_12 (by decide) ?_
    refine lv_iload_n hx hb dX9_mayTake_13 rfl (lv_at hl 1 rfl) ?_
    refine lv_imul hx hb dX9_mayTake_14 ?_
    refine lv_iload_n hx hb dX9_mayTake_15 rfl (lv_at hl 2 rfl) ?_
    refine lv_iadd hx hb dX9_mayTake_16 ?_
    have hi_2 := h.1
    have h := h.2
    refine pd_iald C hW kd_106 hi_2 dX9_mayTake_17 ?_
    refine lv_if_le (tgt := 34) hx hb dX9_mayTake_18 (by decide) (fun c_3 => ?_) (fun c_3 => ?_)
    · have h := h.1 c_3
      refine lv_iconst (v := 0) hx hb dX9_mayTake_34 (by decide) ?_
      exact pd_zret C hA hW rfl h dX9_mayTake_35
    · have h := h.2 c_3
      refine lv_aload_n hx hb dX9_mayTake_21 rfl (lv_at hl 0 rfl) ?_
      refine gf_X9_81 C hW dX9_mayTake_22 ?_
      refine lv_iload_n hx hb dX9_mayTake_25 rfl (lv_at hl 2 rfl) ?_
      have hi_4 := h.1
      have h := h.2
      refine pd_iald C hW kd_105 hi_4 dX9_mayTake_26 ?_
      refine lv_if_le (tgt := 34) hx hb dX9_mayTake_27 (by decide) (fun c_5 => ?_) (fun c_5 => ?_)
      · have h := h.1 c_5
        refine lv_iconst (v := 0) hx hb dX9_mayTake_34 (by decide) ?_
        exact pd_zret C hA hW rfl h dX9_mayTake_35
      · have h := h.2 c_5
        refine lv_iconst (v := 1) hx hb dX9_mayTake_30 (by decide) ?_
        refine lv_goto (tgt := 35) hx hb dX9_mayTake_31 (by decide) ?_
        exact pd_zret C hA hW rfl h dX9_mayTake_35

theorem dd_X9_mayTake : yX9_mayTake.cls ≠ "java/lang/invoke/MethodHandle" ∧ yX9_mayTake.cls ≠ "java/lang/invoke/VarHandle" ∧ (parseMethodDescriptor yX9_mayTake.desc).map (fun d => d.parameters.length) = some 2 := by decide +kernel
theorem cl_X9_140 {p : Program} {l : Launch} {e : Env} {R : Room} {s : State} {m : MethodId} {args : Array Value} {below : List Frame} {meth : Method} {c : Code} {H : Heap} {locs : List Loc} {cells slots : Nat} {QQ : State → Prop} {cc : ByteArray} {pc : Nat} {ls : Array Slot} {rest : List Value} {D : va_G} {g : pd_G} {t : Nat} {M : pd_M} {X : va_W} {A : Nat → Prop} {nL : Nat} {ret : Option FieldType} {Qc : Int32 → pd_M → Prop} {a1 : Int32} {a2 : Int32} (C : pd_C p m c cc nL s args RX9 meth ret) (hW : pd_W D g t M X A s H locs) (h : wX9_mayTake Qc a1 a2 M) (hR : rX9_mayTake.frames + 1 ≤ R.frames ∧ 8 + (3 + 11) + rX9_mayTake.locals ≤ R.locals) (hcs : cells ≤ R.cells ∧ slots ≤ R.slots) (hls : ls.size = nL) (hw8 : (rest.map fun v => v.category).sum ≤ 8) (hdg : decode cc pc = .ok (.invokevirtual 140, 3))
    (kk : ∀ (r : Int32) (M1 : pd_M) (H1 : Heap) (locs1 : List Loc), Qc r M1 → pd_W D g t M1 X A s H1 locs1 → W p l e R s m args below meth c H1 locs1 cells slots QQ (F0 m (pc + 3) ls (.int r :: rest))) : W p l e R s m args below meth c H locs cells slots QQ (F0 m pc ls (.int a2 :: .int a1 :: .ref (g.1 82) :: rest)) :=
  pd_callVi (As := [.int a1, .int a2]) C hW (mX9_mayTake h) kd_82 rfl mM_X9_140 mO_yX9_mayTake mV_yX9_mayTake mI_X9 mC_yX9_mayTake dd_X9_mayTake ⟨rfl, rfl⟩ hR hcs hls rfl hw8 hdg kk
abbrev rX9_parkLeast : Room := { frames := 3, cells := 0, slots := 0, locals := 73 }
def lpX9_parkLeast_146 (K : pd_M → Prop) (f3 : Int32) (f4 : Int32) (f5 : Int32) : Nat → pd_M → Prop
  | 0, _ => False
  | n + 1, M => (vp_in f5 7 ∧ (((M.1 82 0) < (M.1 103 f5.toNatClampNeg) → K M) ∧ (¬ (M.1 82 0) < (M.1 103 f5.toNatClampNeg) → (vp_in f5 7 ∧ wX9_mayTake (fun r_14 M_13 => ((r_14 = 0 → (vp_in f5 7 ∧ (vp_in f5 7 ∧ ∀ M_18 : pd_M, M_18 = sI M_13 103 f5.toNatClampNeg ((M_13.1 103 f5.toNatClampNeg) + 1) → lpX9_parkLeast_146 K f3 f4 f5 n M_18))) ∧ (¬ r_14 = 0 → (vp_in f5 7 ∧ wX9_costOf (fun r_21 M_20 => (((f4 + r_21) < f3 → K M_20) ∧ (¬ (f4 + r_21) < f3 → (vp_in f5 7 ∧ (vp_in f5 7 ∧ ∀ M_25 : pd_M, M_25 = sI M_20 103 f5.toNatClampNeg ((M_20.1 103 f5.toNatClampNeg) + 1) → lpX9_parkLeast_146 K f3 f4 f5 n M_25))))) f5 (M_13.1 103 f5.toNatClampNeg) M_13)))) f5 (M.1 103 f5.toNatClampNeg) M))))

set_option maxRecDepth 100000 in
set_option maxHeartbeats 4000000 in
theorem stX9_parkLeast_146 {p : Program} {l : Launch} {e : Env} {s : State} {m : MethodId} {args : Array Value} {below : List Frame} {meth : Method} {c : Code} {D : va_G} {g : pd_G} {t : Nat} {M0 : pd_M} {X : va_W} {A : Nat → Prop} {sz : Nat} {Q : pd_M → Prop} (C : pd_C p m c cX9_parkLeast 7 s args RX9 meth (Option.none : Option FieldType)) (hA : A = va_A (pd_WL g M0 ++ X) sz) {K : pd_M → Prop} {f3 : Int32} {f4 : Int32} {f5 : Int32}  (hK : ∀  (M : pd_M) (H : Heap) (locs : List Loc) (ls : Array Slot), pd_W D g t M X A s H locs → lv_has ls 7 [(0, .ref (g.1 82)), (3, .int f3), (4, .int f4), (5, .int f5)] → K  M → W p l e rX9_parkLeast s m args below meth c H locs 0 0 (MQ below (pd_Qv D g M0 X sz Q) args s 0 0 (va_A (pd_WL g M0 ++ X) sz)) (F0 m 210 ls [])) :
    ∀ (n : Nat)  (M : pd_M) (H : Heap) (locs : List Loc) (ls : Array Slot), pd_W D g t M X A s H locs → lv_has ls 7 [(0, .ref (g.1 82)), (3, .int f3), (4, .int f4), (5, .int f5)] → lpX9_parkLeast_146 K f3 f4 f5 n  M → W p l e rX9_parkLeast s m args below meth c H locs 0 0 (MQ below (pd_Qv D g M0 X sz Q) args s 0 0 (va_A (pd_WL g M0 ++ X) sz)) (F0 m 146 ls []) := by
  have hx := C.1.1
  have hb := C.1.2.1
  have hown := C.1.2.2.2.1
  have hts := C.1.2.2.2.2
  intro n
  induction n with
  | zero => intro  M H locs ls hW hl h; exact h.elim
  | succ n ih =>
    intro  M H locs ls hW hl h
    refine lv_aload_n hx hb dX9_parkLeast_146 rfl (lv_at hl 0 rfl) ?_
    refine gf_X9_75 C hW dX9_parkLeast_147 ?_
    refine lv_iload hx hb dX9_parkLeast_150 (lv_at hl 3 rfl) ?_
    have hi_10 := h.1
    have h := h.2
    refine pd_iald C hW kd_103 hi_10 dX9_parkLeast_152 ?_
    refine lv_aload_n hx hb dX9_parkLeast_153 rfl (lv_at hl 0 rfl) ?_
    refine gf_X9_87 C hW dX9_parkLeast_154 ?_
    refine lv_icmp_gt (tgt := 210) hx hb dX9_parkLeast_157 (by decide) (fun c_11 => ?_) (fun c_11 => ?_)
    · have h := h.1 c_11
      exact hK M _ _ _ hW (lv_sub hl [0, 1, 2, 3] rfl) h
    · have h := h.2 c_11
      refine lv_aload_n hx hb dX9_parkLeast_160 rfl (lv_at hl 0 rfl) ?_
      refine lv_iload hx hb dX9_parkLeast_161 (lv_at hl 3 rfl) ?_
      refine lv_aload_n hx hb dX9_parkLeast_163 rfl (lv_at hl 0 rfl) ?_
      refine gf_X9_75 C hW dX9_parkLeast_164 ?_
      refine lv_iload hx hb dX9_parkLeast_167 (lv_at hl 3 rfl) ?_
      have hi_12 := h.1
      have h := h.2
      refine pd_iald C hW kd_103 hi_12 dX9_parkLeast_169 ?_
      refine cl_X9_140 C hW h ⟨by decide, by decide⟩ ⟨Nat.zero_le _, Nat.zero_le _⟩ hl.1 (Nat.le_of_ble_eq_true rfl) dX9_parkLeast_170 (fun r_14 M_13 H locs h hW => ?_)
      refine lv_if_eq (tgt := 196) hx hb dX9_parkLeast_173 (by decide) (fun c_15 => ?_) (fun c_15 => ?_)
      · have h := h.1 c_15
        refine lv_aload_n hx hb dX9_parkLeast_196 rfl (lv_at hl 0 rfl) ?_
        refine gf_X9_75 C hW dX9_parkLeast_197 ?_
        refine lv_iload hx hb dX9_parkLeast_200 (lv_at hl 3 rfl) ?_
        refine lv_dup2_11 hx hb dX9_parkLeast_202 rfl rfl ?_
        have hi_16 := h.1
        have h := h.2
        refine pd_iald C hW kd_103 hi_16 dX9_parkLeast_203 ?_
        refine lv_iconst (v := 1) hx hb dX9_parkLeast_204 (by decide) ?_
        refine lv_iadd hx hb dX9_parkLeast_205 ?_
        have hi_17 := h.1
        have h := h.2
        refine pd_iast C hW kd_103 hi_17 dX9_parkLeast_206 (fun M_18 H locs eM_18 hW => ?_)
        have h := h M_18 eM_18
        refine lv_goto (tgt := 146) hx hb dX9_parkLeast_207 (by decide) ?_
        exact ih M_18 _ _ _ hW (lv_sub hl [0, 1, 2, 3] rfl) h
      · have h := h.2 c_15
        refine lv_iload hx hb dX9_parkLeast_176 (lv_at hl 2 rfl) ?_
        refine lv_aload_n hx hb dX9_parkLeast_178 rfl (lv_at hl 0 rfl) ?_
        refine lv_iload hx hb dX9_parkLeast_179 (lv_at hl 3 rfl) ?_
        refine lv_aload_n hx hb dX9_parkLeast_181 rfl (lv_at hl 0 rfl) ?_
        refine gf_X9_75 C hW dX9_parkLeast_182 ?_
        refine lv_iload hx hb dX9_parkLeast_185 (lv_at hl 3 rfl) ?_
        have hi_19 := h.1
        have h := h.2
        refine pd_iald C hW kd_103 hi_19 dX9_parkLeast_187 ?_
        refine cl_X9_136 C hW h ⟨by decide, by decide⟩ ⟨Nat.zero_le _, Nat.zero_le _⟩ hl.1 (Nat.le_of_ble_eq_true rfl) dX9_parkLeast_188 (fun r_21 M_20 H locs h hW => ?_)
        refine lv_iadd hx hb dX9_parkLeast_191 ?_
        refine lv_iload_n hx hb dX9_parkLeast_192 rfl (lv_at hl 1 rfl) ?_
        refine lv_icmp_lt (tgt := 210) hx hb dX9_parkLeast_193 (by decide) (fun c_22 => ?_) (fun c_22 => ?_)
        · have h := h.1 c_22
          exact hK M_20 _ _ _ hW (lv_sub hl [0, 1, 2, 3] rfl) h
        · have h := h.2 c_22
          refine lv_aload_n hx hb dX9_parkLeast_196 rfl (lv_at hl 0 rfl) ?_
          refine gf_X9_75 C hW dX9_parkLeast_197 ?_
          refine lv_iload hx hb dX9_parkLeast_200 (lv_at hl 3 rfl) ?_
          refine lv_dup2_11 hx hb dX9_parkLeast_202 rfl rfl ?_
          have hi_23 := h.1
          have h := h.2
          refine pd_iald C hW kd_103 hi_23 dX9_parkLeast_203 ?_
          refine lv_iconst (v := 1) hx hb dX9_parkLeast_204 (by decide) ?_
          refine lv_iadd hx hb dX9_parkLeast_205 ?_
          have hi_24 := h.1
          have h := h.2
          refine pd_iast C hW kd_103 hi_24 dX9_parkLeast_206 (fun M_25 H locs eM_25 hW => ?_)
          have h := h M_25 eM_25
          refine lv_goto (tgt := 146) hx hb dX9_parkLeast_207 (by decide) ?_
          exact ih M_25 _ _ _ hW (lv_sub hl [0, 1, 2, 3] rfl) h

def lpX9_parkLeast_42 (K : pd_M → Prop) (f3 : Int32) (f4 : Int32) (f5 : Int32) : Nat → Int32 → pd_M → Prop
  | 0, _, _ => False
  | n + 1, v6, M => (((M.1 82 6) ≤ v6 → K M) ∧ (¬ (M.1 82 6) ≤ v6 → (vp_in v6 7 ∧ (vp_in v6 7 ∧ ∀ M_117 : pd_M, M_117 = sI M 104 v6.toNatClampNeg (M.1 103 v6.toNatClampNeg) → ∀ x6_118 : Int32, x6_118 = v6 + 1 → lpX9_parkLeast_42 K f3 f4 f5 n x6_118 M_117))))

set_option maxRecDepth 100000 in
set_option maxHeartbeats 4000000 in
theorem stX9_parkLeast_42 {p : Program} {l : Launch} {e : Env} {s : State} {m : MethodId} {args : Array Value} {below : List Frame} {meth : Method} {c : Code} {D : va_G} {g : pd_G} {t : Nat} {M0 : pd_M} {X : va_W} {A : Nat → Prop} {sz : Nat} {Q : pd_M → Prop} (C : pd_C p m c cX9_parkLeast 7 s args RX9 meth (Option.none : Option FieldType)) (hA : A = va_A (pd_WL g M0 ++ X) sz) {K : pd_M → Prop} {f3 : Int32} {f4 : Int32} {f5 : Int32}  (hK : ∀  (M : pd_M) (H : Heap) (locs : List Loc) (ls : Array Slot), pd_W D g t M X A s H locs → lv_has ls 7 [(0, .ref (g.1 82)), (3, .int f3), (4, .int f4), (5, .int f5)] → K  M → W p l e rX9_parkLeast s m args below meth c H locs 0 0 (MQ below (pd_Qv D g M0 X sz Q) args s 0 0 (va_A (pd_WL g M0 ++ X) sz)) (F0 m 71 ls [])) :
    ∀ (n : Nat) (v6 : Int32) (M : pd_M) (H : Heap) (locs : List Loc) (ls : Array Slot), pd_W D g t M X A s H locs → lv_has ls 7 [(0, .ref (g.1 82)), (3, .int f3), (4, .int f4), (5, .int f5), (6, .int v6)] → lpX9_parkLeast_42 K f3 f4 f5 n v6 M → W p l e rX9_parkLeast s m args below meth c H locs 0 0 (MQ below (pd_Qv D g M0 X sz Q) args s 0 0 (va_A (pd_WL g M0 ++ X) sz)) (F0 m 42 ls []) := by
  have hx := C.1.1
  have hb := C.1.2.1
  have hown := C.1.2.2.2.1
  have hts := C.1.2.2.2.2
  intro n
  induction n with
  | zero => intro v6 M H locs ls hW hl h; exact h.elim
  | succ n ih =>
    intro v6 M H locs ls hW hl h
    refine lv_iload hx hb dX9_parkLeast_42 (lv_at hl 4 rfl) ?_
    refine lv_aload_n hx hb dX9_parkLeast_44 rfl (lv_at hl 0 rfl) ?_
    refine gf_X9_94 C hW dX9_parkLeast_45 ?_
    refine lv_icmp_ge (tgt := 71) hx hb dX9_parkLeast_48 (by decide) (fun c_114 => ?_) (fun c_114 => ?_)
    · have h := h.1 c_114
      exact hK M _ _ _ hW (lv_sub hl [0, 1, 2, 3] rfl) h
    · have h := h.2 c_114
      refine lv_aload_n hx hb dX9_parkLeast_51 rfl (lv_at hl 0 rfl) ?_
      refine gf_X9_78 C hW dX9_parkLeast_52 ?_
      refine lv_iload hx hb dX9_parkLeast_55 (lv_at hl 4 rfl) ?_
      refine lv_aload_n hx hb dX9_parkLeast_57 rfl (lv_at hl 0 rfl) ?_
      refine gf_X9_75 C hW dX9_parkLeast_58 ?_
      refine lv_iload hx hb dX9_parkLeast_61 (lv_at hl 4 rfl) ?_
      have hi_115 := h.1
      have h := h.2
      refine pd_iald C hW kd_103 hi_115 dX9_parkLeast_63 ?_
      have hi_116 := h.1
      have h := h.2
      refine pd_iast C hW kd_104 hi_116 dX9_parkLeast_64 (fun M_117 H locs eM_117 hW => ?_)
      have h := h M_117 eM_117
      obtain ⟨x6_118, ex6_118⟩ : ∃ y : Int32, y = v6 + 1 := ⟨_, rfl⟩
      have h := h x6_118 ex6_118
      refine lv_iinc (v := x6_118) (lv' := [(6, .int x6_118), (0, .ref (g.1 82)), (3, .int f3), (4, .int f4), (5, .int f5)]) hx hb dX9_parkLeast_65 hl (k := 4) rfl (by rw [ex6_118]; rfl) (by decide) rfl (fun ls hl => ?_)
      refine lv_goto (tgt := 42) hx hb dX9_parkLeast_68 (by decide) ?_
      exact ih x6_118 M_117 _ _ _ hW (lv_sub hl [1, 2, 3, 4, 0] rfl) h

def lpX9_parkLeast_22 (K : pd_M → Prop) : Nat → Int32 → Int32 → Int32 → pd_M → Prop
  | 0, _, _, _, _ => False
  | n + 1, v3, v4, v5, M => ((v5 < 0 → K M) ∧ (¬ v5 < 0 → ((¬ v5 = (M.1 82 6) → (vp_in v5 7 ∧ (((M.1 103 v5.toNatClampNeg) < 0 → (vp_in v5 7 ∧ (vp_in v5 7 ∧ ∀ M_9 : pd_M, M_9 = sI M 103 v5.toNatClampNeg ((M.1 103 v5.toNatClampNeg) + 1) → (∃ k_146 : Nat, lpX9_parkLeast_146 (fun M_26 => (vp_in v5 7 ∧ (((M_26.1 103 v5.toNatClampNeg) ≤ (M_26.1 82 0) → (vp_in v5 7 ∧ wX9_costOf (fun r_31 M_30 => ∀ x4_32 : Int32, x4_32 = (v4 + r_31) → (vp_in v5 7 ∧ (((M_30.1 82 0) ≤ (M_30.1 103 v5.toNatClampNeg) → ∀ x5_35 : Int32, x5_35 = v5 + 1 → (((M_30.1 82 6) ≤ x5_35 → lpX9_parkLeast_22 K n v3 x4_32 x5_35 M_30) ∧ (¬ (M_30.1 82 6) ≤ x5_35 → (vp_in x5_35 7 ∧ ∀ M_38 : pd_M, M_38 = sI M_30 103 x5_35.toNatClampNeg (-1) → lpX9_parkLeast_22 K n v3 x4_32 x5_35 M_38)))) ∧ (¬ (M_30.1 82 0) ≤ (M_30.1 103 v5.toNatClampNeg) → (vp_in v5 7 ∧ (vp_in (M_30.1 103 v5.toNatClampNeg) 5 ∧ (vp_in (M_30.1 103 v5.toNatClampNeg) 5 ∧ ∀ M_42 : pd_M, M_42 = sI M_30 105 (M_30.1 103 v5.toNatClampNeg).toNatClampNeg ((M_30.1 105 (M_30.1 103 v5.toNatClampNeg).toNatClampNeg) - 1) → ∀ x5_43 : Int32, x5_43 = v5 + 1 → (((M_42.1 82 6) ≤ x5_43 → lpX9_parkLeast_22 K n v3 x4_32 x5_43 M_42) ∧ (¬ (M_42.1 82 6) ≤ x5_43 → (vp_in x5_43 7 ∧ ∀ M_46 : pd_M, M_46 = sI M_42 103 x5_43.toNatClampNeg (-1) → lpX9_parkLeast_22 K n v3 x4_32 x5_43 M_46)))))))))) v5 (M_26.1 103 v5.toNatClampNeg) M_26)) ∧ (¬ (M_26.1 103 v5.toNatClampNeg) ≤ (M_26.1 82 0) → (vp_in v5 7 ∧ ∀ M_48 : pd_M, M_48 = sI M_26 103 v5.toNatClampNeg (-1) → ∀ x5_49 : Int32, x5_49 = v5 + (-1) → lpX9_parkLeast_22 K n v3 v4 x5_49 M_48))))) v3 v4 v5 k_146 M_9)))) ∧ (¬ (M.1 103 v5.toNatClampNeg) < 0 → (vp_in v5 7 ∧ wX9_costOf (fun r_52 M_51 => ∀ x4_53 : Int32, x4_53 = (v4 - r_52) → (vp_in v5 7 ∧ (((M_51.1 82 0) ≤ (M_51.1 103 v5.toNatClampNeg) → (vp_in v5 7 ∧ (vp_in v5 7 ∧ ∀ M_58 : pd_M, M_58 = sI M_51 103 v5.toNatClampNeg ((M_51.1 103 v5.toNatClampNeg) + 1) → (∃ k_146 : Nat, lpX9_parkLeast_146 (fun M_59 => (vp_in v5 7 ∧ (((M_59.1 103 v5.toNatClampNeg) ≤ (M_59.1 82 0) → (vp_in v5 7 ∧ wX9_costOf (fun r_64 M_63 => ∀ x4_65 : Int32, x4_65 = (x4_53 + r_64) → (vp_in v5 7 ∧ (((M_63.1 82 0) ≤ (M_63.1 103 v5.toNatClampNeg) → ∀ x5_68 : Int32, x5_68 = v5 + 1 → (((M_63.1 82 6) ≤ x5_68 → lpX9_parkLeast_22 K n v3 x4_65 x5_68 M_63) ∧ (¬ (M_63.1 82 6) ≤ x5_68 → (vp_in x5_68 7 ∧ ∀ M_71 : pd_M, M_71 = sI M_63 103 x5_68.toNatClampNeg (-1) → lpX9_parkLeast_22 K n v3 x4_65 x5_68 M_71)))) ∧ (¬ (M_63.1 82 0) ≤ (M_63.1 103 v5.toNatClampNeg) → (vp_in v5 7 ∧ (vp_in (M_63.1 103 v5.toNatClampNeg) 5 ∧ (vp_in (M_63.1 103 v5.toNatClampNeg) 5 ∧ ∀ M_75 : pd_M, M_75 = sI M_63 105 (M_63.1 103 v5.toNatClampNeg).toNatClampNeg ((M_63.1 105 (M_63.1 103 v5.toNatClampNeg).toNatClampNeg) - 1) → ∀ x5_76 : Int32, x5_76 = v5 + 1 → (((M_75.1 82 6) ≤ x5_76 → lpX9_parkLeast_22 K n v3 x4_65 x5_76 M_75) ∧ (¬ (M_75.1 82 6) ≤ x5_76 → (vp_in x5_76 7 ∧ ∀ M_79 : pd_M, M_79 = sI M_75 103 x5_76.toNatClampNeg (-1) → lpX9_parkLeast_22 K n v3 x4_65 x5_76 M_79)))))))))) v5 (M_59.1 103 v5.toNatClampNeg) M_59)) ∧ (¬ (M_59.1 103 v5.toNatClampNeg) ≤ (M_59.1 82 0) → (vp_in v5 7 ∧ ∀ M_81 : pd_M, M_81 = sI M_59 103 v5.toNatClampNeg (-1) → ∀ x5_82 : Int32, x5_82 = v5 + (-1) → lpX9_parkLeast_22 K n v3 x4_53 x5_82 M_81))))) v3 x4_53 v5 k_146 M_58)))) ∧ (¬ (M_51.1 82 0) ≤ (M_51.1 103 v5.toNatClampNeg) → (vp_in v5 7 ∧ (vp_in (M_51.1 103 v5.toNatClampNeg) 5 ∧ (vp_in (M_51.1 103 v5.toNatClampNeg) 5 ∧ ∀ M_86 : pd_M, M_86 = sI M_51 105 (M_51.1 103 v5.toNatClampNeg).toNatClampNeg ((M_51.1 105 (M_51.1 103 v5.toNatClampNeg).toNatClampNeg) + 1) → (vp_in v5 7 ∧ (vp_in v5 7 ∧ ∀ M_89 : pd_M, M_89 = sI M_86 103 v5.toNatClampNeg ((M_86.1 103 v5.toNatClampNeg) + 1) → (∃ k_146 : Nat, lpX9_parkLeast_146 (fun M_90 => (vp_in v5 7 ∧ (((M_90.1 103 v5.toNatClampNeg) ≤ (M_90.1 82 0) → (vp_in v5 7 ∧ wX9_costOf (fun r_95 M_94 => ∀ x4_96 : Int32, x4_96 = (x4_53 + r_95) → (vp_in v5 7 ∧ (((M_94.1 82 0) ≤ (M_94.1 103 v5.toNatClampNeg) → ∀ x5_99 : Int32, x5_99 = v5 + 1 → (((M_94.1 82 6) ≤ x5_99 → lpX9_parkLeast_22 K n v3 x4_96 x5_99 M_94) ∧ (¬ (M_94.1 82 6) ≤ x5_99 → (vp_in x5_99 7 ∧ ∀ M_102 : pd_M, M_102 = sI M_94 103 x5_99.toNatClampNeg (-1) → lpX9_parkLeast_22 K n v3 x4_96 x5_99 M_102)))) ∧ (¬ (M_94.1 82 0) ≤ (M_94.1 103 v5.toNatClampNeg) → (vp_in v5 7 ∧ (vp_in (M_94.1 103 v5.toNatClampNeg) 5 ∧ (vp_in (M_94.1 103 v5.toNatClampNeg) 5 ∧ ∀ M_106 : pd_M, M_106 = sI M_94 105 (M_94.1 103 v5.toNatClampNeg).toNatClampNeg ((M_94.1 105 (M_94.1 103 v5.toNatClampNeg).toNatClampNeg) - 1) → ∀ x5_107 : Int32, x5_107 = v5 + 1 → (((M_106.1 82 6) ≤ x5_107 → lpX9_parkLeast_22 K n v3 x4_96 x5_107 M_106) ∧ (¬ (M_106.1 82 6) ≤ x5_107 → (vp_in x5_107 7 ∧ ∀ M_110 : pd_M, M_110 = sI M_106 103 x5_107.toNatClampNeg (-1) → lpX9_parkLeast_22 K n v3 x4_96 x5_107 M_110)))))))))) v5 (M_90.1 103 v5.toNatClampNeg) M_90)) ∧ (¬ (M_90.1 103 v5.toNatClampNeg) ≤ (M_90.1 82 0) → (vp_in v5 7 ∧ ∀ M_112 : pd_M, M_112 = sI M_90 103 v5.toNatClampNeg (-1) → ∀ x5_113 : Int32, x5_113 = v5 + (-1) → lpX9_parkLeast_22 K n v3 x4_53 x5_113 M_112))))) v3 x4_53 v5 k_146 M_89)))))))))) v5 (M.1 103 v5.toNatClampNeg) M))))) ∧ (v5 = (M.1 82 6) → (∃ k_42 : Nat, lpX9_parkLeast_42 (fun M_119 => ∀ x5_120 : Int32, x5_120 = v5 + (-1) → lpX9_parkLeast_22 K n v4 v4 x5_120 M_119) v4 v4 v5 k_42 0 M)))))

set_option maxRecDepth 100000 in
set_option maxHeartbeats 4000000 in
theorem stX9_parkLeast_22 {p : Program} {l : Launch} {e : Env} {s : State} {m : MethodId} {args : Array Value} {below : List Frame} {meth : Method} {c : Code} {D : va_G} {g : pd_G} {t : Nat} {M0 : pd_M} {X : va_W} {A : Nat → Prop} {sz : Nat} {Q : pd_M → Prop} (C : pd_C p m c cX9_parkLeast 7 s args RX9 meth (Option.none : Option FieldType)) (hA : A = va_A (pd_WL g M0 ++ X) sz) {K : pd_M → Prop}  (hK : ∀  (M : pd_M) (H : Heap) (locs : List Loc) (ls : Array Slot), pd_W D g t M X A s H locs → lv_has ls 7 [] → K  M → W p l e rX9_parkLeast s m args below meth c H locs 0 0 (MQ below (pd_Qv D g M0 X sz Q) args s 0 0 (va_A (pd_WL g M0 ++ X) sz)) (F0 m 309 ls [])) :
    ∀ (n : Nat) (v3 : Int32) (v4 : Int32) (v5 : Int32) (M : pd_M) (H : Heap) (locs : List Loc) (ls : Array Slot), pd_W D g t M X A s H locs → lv_has ls 7 [(0, .ref (g.1 82)), (3, .int v3), (4, .int v4), (5, .int v5)] → lpX9_parkLeast_22 K n v3 v4 v5 M → W p l e rX9_parkLeast s m args below meth c H locs 0 0 (MQ below (pd_Qv D g M0 X sz Q) args s 0 0 (va_A (pd_WL g M0 ++ X) sz)) (F0 m 22 ls []) := by
  have hx := C.1.1
  have hb := C.1.2.1
  have hown := C.1.2.2.2.1
  have hts := C.1.2.2.2.2
  intro n
  induction n with
  | zero => intro v3 v4 v5 M H locs ls hW hl h; exact h.elim
  | succ n ih =>
    intro v3 v4 v5 M H locs ls hW hl h
    refine lv_iload hx hb dX9_parkLeast_22 (lv_at hl 3 rfl) ?_
    refine lv_if_lt (tgt := 309) hx hb dX9_parkLeast_24 (by decide) (fun c_3 => ?_) (fun c_3 => ?_)
    · have h := h.1 c_3
      exact hK M _ _ _ hW (lv_sub hl [] rfl) h
    · have h := h.2 c_3
      refine lv_iload hx hb dX9_parkLeast_27 (lv_at hl 3 rfl) ?_
      refine lv_aload_n hx hb dX9_parkLeast_29 rfl (lv_at hl 0 rfl) ?_
      refine gf_X9_94 C hW dX9_parkLeast_30 ?_
      refine lv_icmp_ne (tgt := 77) hx hb dX9_parkLeast_33 (by decide) (fun c_4 => ?_) (fun c_4 => ?_)
      · have h := h.1 c_4
        refine lv_aload_n hx hb dX9_parkLeast_77 rfl (lv_at hl 0 rfl) ?_
        refine gf_X9_75 C hW dX9_parkLeast_78 ?_
        refine lv_iload hx hb dX9_parkLeast_81 (lv_at hl 3 rfl) ?_
        have hi_5 := h.1
        have h := h.2
        refine pd_iald C hW kd_103 hi_5 dX9_parkLeast_83 ?_
        refine lv_if_lt (tgt := 135) hx hb dX9_parkLeast_84 (by decide) (fun c_6 => ?_) (fun c_6 => ?_)
        · have h := h.1 c_6
          refine lv_aload_n hx hb dX9_parkLeast_135 rfl (lv_at hl 0 rfl) ?_
          refine gf_X9_75 C hW dX9_parkLeast_136 ?_
          refine lv_iload hx hb dX9_parkLeast_139 (lv_at hl 3 rfl) ?_
          refine lv_dup2_11 hx hb dX9_parkLeast_141 rfl rfl ?_
          have hi_7 := h.1
          have h := h.2
          refine pd_iald C hW kd_103 hi_7 dX9_parkLeast_142 ?_
          refine lv_iconst (v := 1) hx hb dX9_parkLeast_143 (by decide) ?_
          refine lv_iadd hx hb dX9_parkLeast_144 ?_
          have hi_8 := h.1
          have h := h.2
          refine pd_iast C hW kd_103 hi_8 dX9_parkLeast_145 (fun M_9 H locs eM_9 hW => ?_)
          have h := h M_9 eM_9
          obtain ⟨k_146, h⟩ := h
          refine stX9_parkLeast_146 C hA (fun M_26 H locs ls hW hl h => ?_) k_146 M_9 _ _ _ hW (lv_sub hl [0, 1, 2, 3] rfl) h
          refine lv_aload_n hx hb dX9_parkLeast_210 rfl (lv_at hl 0 rfl) ?_
          refine gf_X9_75 C hW dX9_parkLeast_211 ?_
          refine lv_iload hx hb dX9_parkLeast_214 (lv_at hl 3 rfl) ?_
          have hi_27 := h.1
          have h := h.2
          refine pd_iald C hW kd_103 hi_27 dX9_parkLeast_216 ?_
          refine lv_aload_n hx hb dX9_parkLeast_217 rfl (lv_at hl 0 rfl) ?_
          refine gf_X9_87 C hW dX9_parkLeast_218 ?_
          refine lv_icmp_le (tgt := 238) hx hb dX9_parkLeast_221 (by decide) (fun c_28 => ?_) (fun c_28 => ?_)
          · have h := h.1 c_28
            refine lv_iload hx hb dX9_parkLeast_238 (lv_at hl 2 rfl) ?_
            refine lv_aload_n hx hb dX9_parkLeast_240 rfl (lv_at hl 0 rfl) ?_
            refine lv_iload hx hb dX9_parkLeast_241 (lv_at hl 3 rfl) ?_
            refine lv_aload_n hx hb dX9_parkLeast_243 rfl (lv_at hl 0 rfl) ?_
            refine gf_X9_75 C hW dX9_parkLeast_244 ?_
            refine lv_iload hx hb dX9_parkLeast_247 (lv_at hl 3 rfl) ?_
            have hi_29 := h.1
            have h := h.2
            refine pd_iald C hW kd_103 hi_29 dX9_parkLeast_249 ?_
            refine cl_X9_136 C hW h ⟨by decide, by decide⟩ ⟨Nat.zero_le _, Nat.zero_le _⟩ hl.1 (Nat.le_of_ble_eq_true rfl) dX9_parkLeast_250 (fun r_31 M_30 H locs h hW => ?_)
            refine lv_iadd hx hb dX9_parkLeast_253 ?_
            refine lv_topi (fun x4_32 ex4_32 => ?_)
            have h := h x4_32 ex4_32
            refine lv_istore (lv' := [(4, .int x4_32), (0, .ref (g.1 82)), (3, .int v3), (5, .int v5)]) hx hb dX9_parkLeast_254 hl (by decide) rfl (fun ls hl => ?_)
            refine lv_aload_n hx hb dX9_parkLeast_256 rfl (lv_at hl 1 rfl) ?_
            refine gf_X9_75 C hW dX9_parkLeast_257 ?_
            refine lv_iload hx hb dX9_parkLeast_260 (lv_at hl 3 rfl) ?_
            have hi_33 := h.1
            have h := h.2
            refine pd_iald C hW kd_103 hi_33 dX9_parkLeast_262 ?_
            refine lv_aload_n hx hb dX9_parkLeast_263 rfl (lv_at hl 1 rfl) ?_
            refine gf_X9_87 C hW dX9_parkLeast_264 ?_
            refine lv_icmp_ge (tgt := 286) hx hb dX9_parkLeast_267 (by decide) (fun c_34 => ?_) (fun c_34 => ?_)
            · have h := h.1 c_34
              obtain ⟨x5_35, ex5_35⟩ : ∃ y : Int32, y = v5 + 1 := ⟨_, rfl⟩
              have h := h x5_35 ex5_35
              refine lv_iinc (v := x5_35) (lv' := [(5, .int x5_35), (4, .int x4_32), (0, .ref (g.1 82)), (3, .int v3)]) hx hb dX9_parkLeast_286 hl (k := 3) rfl (by rw [ex5_35]; rfl) (by decide) rfl (fun ls hl => ?_)
              refine lv_iload hx hb dX9_parkLeast_289 (lv_at hl 0 rfl) ?_
              refine lv_aload_n hx hb dX9_parkLeast_291 rfl (lv_at hl 2 rfl) ?_
              refine gf_X9_94 C hW dX9_parkLeast_292 ?_
              refine lv_icmp_ge (tgt := 22) hx hb dX9_parkLeast_295 (by decide) (fun c_36 => ?_) (fun c_36 => ?_)
              · have h := h.1 c_36
                exact ih v3 x4_32 x5_35 M_30 _ _ _ hW (lv_sub hl [2, 3, 1, 0] rfl) h
              · have h := h.2 c_36
                refine lv_aload_n hx hb dX9_parkLeast_298 rfl (lv_at hl 2 rfl) ?_
                refine gf_X9_75 C hW dX9_parkLeast_299 ?_
                refine lv_iload hx hb dX9_parkLeast_302 (lv_at hl 0 rfl) ?_
                refine lv_iconst (v := (-1)) hx hb dX9_parkLeast_304 (by decide) ?_
                have hi_37 := h.1
                have h := h.2
                refine pd_iast C hW kd_103 hi_37 dX9_parkLeast_305 (fun M_38 H locs eM_38 hW => ?_)
                have h := h M_38 eM_38
                refine lv_goto (tgt := 22) hx hb dX9_parkLeast_306 (by decide) ?_
                exact ih v3 x4_32 x5_35 M_38 _ _ _ hW (lv_sub hl [2, 3, 1, 0] rfl) h
            · have h := h.2 c_34
              refine lv_aload_n hx hb dX9_parkLeast_270 rfl (lv_at hl 1 rfl) ?_
              refine gf_X9_81 C hW dX9_parkLeast_271 ?_
              refine lv_aload_n hx hb dX9_parkLeast_274 rfl (lv_at hl 1 rfl) ?_
              refine gf_X9_75 C hW dX9_parkLeast_275 ?_
              refine lv_iload hx hb dX9_parkLeast_278 (lv_at hl 3 rfl) ?_
              have hi_39 := h.1
              have h := h.2
              refine pd_iald C hW kd_103 hi_39 dX9_parkLeast_280 ?_
              refine lv_dup2_11 hx hb dX9_parkLeast_281 rfl rfl ?_
              have hi_40 := h.1
              have h := h.2
              refine pd_iald C hW kd_105 hi_40 dX9_parkLeast_282 ?_
              refine lv_iconst (v := 1) hx hb dX9_parkLeast_283 (by decide) ?_
              refine lv_isub hx hb dX9_parkLeast_284 ?_
              have hi_41 := h.1
              have h := h.2
              refine pd_iast C hW kd_105 hi_41 dX9_parkLeast_285 (fun M_42 H locs eM_42 hW => ?_)
              have h := h M_42 eM_42
              obtain ⟨x5_43, ex5_43⟩ : ∃ y : Int32, y = v5 + 1 := ⟨_, rfl⟩
              have h := h x5_43 ex5_43
              refine lv_iinc (v := x5_43) (lv' := [(5, .int x5_43), (4, .int x4_32), (0, .ref (g.1 82)), (3, .int v3)]) hx hb dX9_parkLeast_286 hl (k := 3) rfl (by rw [ex5_43]; rfl) (by decide) rfl (fun ls hl => ?_)
              refine lv_iload hx hb dX9_parkLeast_289 (lv_at hl 0 rfl) ?_
              refine lv_aload_n hx hb dX9_parkLeast_291 rfl (lv_at hl 2 rfl) ?_
              refine gf_X9_94 C hW dX9_parkLeast_292 ?_
              refine lv_icmp_ge (tgt := 22) hx hb dX9_parkLeast_295 (by decide) (fun c_44 => ?_) (fun c_44 => ?_)
              · have h := h.1 c_44
                exact ih v3 x4_32 x5_43 M_42 _ _ _ hW (lv_sub hl [2, 3, 1, 0] rfl) h
              · have h := h.2 c_44
                refine lv_aload_n hx hb dX9_parkLeast_298 rfl (lv_at hl 2 rfl) ?_
                refine gf_X9_75 C hW dX9_parkLeast_299 ?_
                refine lv_iload hx hb dX9_parkLeast_302 (lv_at hl 0 rfl) ?_
                refine lv_iconst (v := (-1)) hx hb dX9_parkLeast_304 (by decide) ?_
                have hi_45 := h.1
                have h := h.2
                refine pd_iast C hW kd_103 hi_45 dX9_parkLeast_305 (fun M_46 H locs eM_46 hW => ?_)
                have h := h M_46 eM_46
                refine lv_goto (tgt := 22) hx hb dX9_parkLeast_306 (by decide) ?_
                exact ih v3 x4_32 x5_43 M_46 _ _ _ hW (lv_sub hl [2, 3, 1, 0] rfl) h
          · have h := h.2 c_28
            refine lv_aload_n hx hb dX9_parkLeast_224 rfl (lv_at hl 0 rfl) ?_
            refine gf_X9_75 C hW dX9_parkLeast_225 ?_
            refine lv_iload hx hb dX9_parkLeast_228 (lv_at hl 3 rfl) ?_
            refine lv_iconst (v := (-1)) hx hb dX9_parkLeast_230 (by decide) ?_
            have hi_47 := h.1
            have h := h.2
            refine pd_iast C hW kd_103 hi_47 dX9_parkLeast_231 (fun M_48 H locs eM_48 hW => ?_)
            have h := h M_48 eM_48
            obtain ⟨x5_49, ex5_49⟩ : ∃ y : Int32, y = v5 + (-1) := ⟨_, rfl⟩
            have h := h x5_49 ex5_49
            refine lv_iinc (v := x5_49) (lv' := [(5, .int x5_49), (0, .ref (g.1 82)), (3, .int v3), (4, .int v4)]) hx hb dX9_parkLeast_232 hl (k := 3) rfl (by rw [ex5_49]; rfl) (by decide) rfl (fun ls hl => ?_)
            refine lv_goto (tgt := 22) hx hb dX9_parkLeast_235 (by decide) ?_
            exact ih v3 v4 x5_49 M_48 _ _ _ hW (lv_sub hl [1, 2, 3, 0] rfl) h
        · have h := h.2 c_6
          refine lv_iload hx hb dX9_parkLeast_87 (lv_at hl 2 rfl) ?_
          refine lv_aload_n hx hb dX9_parkLeast_89 rfl (lv_at hl 0 rfl) ?_
          refine lv_iload hx hb dX9_parkLeast_90 (lv_at hl 3 rfl) ?_
          refine lv_aload_n hx hb dX9_parkLeast_92 rfl (lv_at hl 0 rfl) ?_
          refine gf_X9_75 C hW dX9_parkLeast_93 ?_
          refine lv_iload hx hb dX9_parkLeast_96 (lv_at hl 3 rfl) ?_
          have hi_50 := h.1
          have h := h.2
          refine pd_iald C hW kd_103 hi_50 dX9_parkLeast_98 ?_
          refine cl_X9_136 C hW h ⟨by decide, by decide⟩ ⟨Nat.zero_le _, Nat.zero_le _⟩ hl.1 (Nat.le_of_ble_eq_true rfl) dX9_parkLeast_99 (fun r_52 M_51 H locs h hW => ?_)
          refine lv_isub hx hb dX9_parkLeast_102 ?_
          refine lv_topi (fun x4_53 ex4_53 => ?_)
          have h := h x4_53 ex4_53
          refine lv_istore (lv' := [(4, .int x4_53), (0, .ref (g.1 82)), (3, .int v3), (5, .int v5)]) hx hb dX9_parkLeast_103 hl (by decide) rfl (fun ls hl => ?_)
          refine lv_aload_n hx hb dX9_parkLeast_105 rfl (lv_at hl 1 rfl) ?_
          refine gf_X9_75 C hW dX9_parkLeast_106 ?_
          refine lv_iload hx hb dX9_parkLeast_109 (lv_at hl 3 rfl) ?_
          have hi_54 := h.1
          have h := h.2
          refine pd_iald C hW kd_103 hi_54 dX9_parkLeast_111 ?_
          refine lv_aload_n hx hb dX9_parkLeast_112 rfl (lv_at hl 1 rfl) ?_
          refine gf_X9_87 C hW dX9_parkLeast_113 ?_
          refine lv_icmp_ge (tgt := 135) hx hb dX9_parkLeast_116 (by decide) (fun c_55 => ?_) (fun c_55 => ?_)
          · have h := h.1 c_55
            refine lv_aload_n hx hb dX9_parkLeast_135 rfl (lv_at hl 1 rfl) ?_
            refine gf_X9_75 C hW dX9_parkLeast_136 ?_
            refine lv_iload hx hb dX9_parkLeast_139 (lv_at hl 3 rfl) ?_
            refine lv_dup2_11 hx hb dX9_parkLeast_141 rfl rfl ?_
            have hi_56 := h.1
            have h := h.2
            refine pd_iald C hW kd_103 hi_56 dX9_parkLeast_142 ?_
            refine lv_iconst (v := 1) hx hb dX9_parkLeast_143 (by decide) ?_
            refine lv_iadd hx hb dX9_parkLeast_144 ?_
            have hi_57 := h.1
            have h := h.2
            refine pd_iast C hW kd_103 hi_57 dX9_parkLeast_145 (fun M_58 H locs eM_58 hW => ?_)
            have h := h M_58 eM_58
            obtain ⟨k_146, h⟩ := h
            refine stX9_parkLeast_146 C hA (fun M_59 H locs ls hW hl h => ?_) k_146 M_58 _ _ _ hW (lv_sub hl [1, 2, 0, 3] rfl) h
            refine lv_aload_n hx hb dX9_parkLeast_210 rfl (lv_at hl 0 rfl) ?_
            refine gf_X9_75 C hW dX9_parkLeast_211 ?_
            refine lv_iload hx hb dX9_parkLeast_214 (lv_at hl 3 rfl) ?_
            have hi_60 := h.1
            have h := h.2
            refine pd_iald C hW kd_103 hi_60 dX9_parkLeast_216 ?_
            refine lv_aload_n hx hb dX9_parkLeast_217 rfl (lv_at hl 0 rfl) ?_
            refine gf_X9_87 C hW dX9_parkLeast_218 ?_
            refine lv_icmp_le (tgt := 238) hx hb dX9_parkLeast_221 (by decide) (fun c_61 => ?_) (fun c_61 => ?_)
            · have h := h.1 c_61
              refine lv_iload hx hb dX9_parkLeast_238 (lv_at hl 2 rfl) ?_
              refine lv_aload_n hx hb dX9_parkLeast_240 rfl (lv_at hl 0 rfl) ?_
              refine lv_iload hx hb dX9_parkLeast_241 (lv_at hl 3 rfl) ?_
              refine lv_aload_n hx hb dX9_parkLeast_243 rfl (lv_at hl 0 rfl) ?_
              refine gf_X9_75 C hW dX9_parkLeast_244 ?_
              refine lv_iload hx hb dX9_parkLeast_247 (lv_at hl 3 rfl) ?_
              have hi_62 := h.1
              have h := h.2
              refine pd_iald C hW kd_103 hi_62 dX9_parkLeast_249 ?_
              refine cl_X9_136 C hW h ⟨by decide, by decide⟩ ⟨Nat.zero_le _, Nat.zero_le _⟩ hl.1 (Nat.le_of_ble_eq_true rfl) dX9_parkLeast_250 (fun r_64 M_63 H locs h hW => ?_)
              refine lv_iadd hx hb dX9_parkLeast_253 ?_
              refine lv_topi (fun x4_65 ex4_65 => ?_)
              have h := h x4_65 ex4_65
              refine lv_istore (lv' := [(4, .int x4_65), (0, .ref (g.1 82)), (3, .int v3), (5, .int v5)]) hx hb dX9_parkLeast_254 hl (by decide) rfl (fun ls hl => ?_)
              refine lv_aload_n hx hb dX9_parkLeast_256 rfl (lv_at hl 1 rfl) ?_
              refine gf_X9_75 C hW dX9_parkLeast_257 ?_
              refine lv_iload hx hb dX9_parkLeast_260 (lv_at hl 3 rfl) ?_
              have hi_66 := h.1
              have h := h.2
              refine pd_iald C hW kd_103 hi_66 dX9_parkLeast_262 ?_
              refine lv_aload_n hx hb dX9_parkLeast_263 rfl (lv_at hl 1 rfl) ?_
              refine gf_X9_87 C hW dX9_parkLeast_264 ?_
              refine lv_icmp_ge (tgt := 286) hx hb dX9_parkLeast_267 (by decide) (fun c_67 => ?_) (fun c_67 => ?_)
              · have h := h.1 c_67
                obtain ⟨x5_68, ex5_68⟩ : ∃ y : Int32, y = v5 + 1 := ⟨_, rfl⟩
                have h := h x5_68 ex5_68
                refine lv_iinc (v := x5_68) (lv' := [(5, .int x5_68), (4, .int x4_65), (0, .ref (g.1 82)), (3, .int v3)]) hx hb dX9_parkLeast_286 hl (k := 3) rfl (by rw [ex5_68]; rfl) (by decide) rfl (fun ls hl => ?_)
                refine lv_iload hx hb dX9_parkLeast_289 (lv_at hl 0 rfl) ?_
                refine lv_aload_n hx hb dX9_parkLeast_291 rfl (lv_at hl 2 rfl) ?_
                refine gf_X9_94 C hW dX9_parkLeast_292 ?_
                refine lv_icmp_ge (tgt := 22) hx hb dX9_parkLeast_295 (by decide) (fun c_69 => ?_) (fun c_69 => ?_)
                · have h := h.1 c_69
                  exact ih v3 x4_65 x5_68 M_63 _ _ _ hW (lv_sub hl [2, 3, 1, 0] rfl) h
                · have h := h.2 c_69
                  refine lv_aload_n hx hb dX9_parkLeast_298 rfl (lv_at hl 2 rfl) ?_
                  refine gf_X9_75 C hW dX9_parkLeast_299 ?_
                  refine lv_iload hx hb dX9_parkLeast_302 (lv_at hl 0 rfl) ?_
                  refine lv_iconst (v := (-1)) hx hb dX9_parkLeast_304 (by decide) ?_
                  have hi_70 := h.1
                  have h := h.2
                  refine pd_iast C hW kd_103 hi_70 dX9_parkLeast_305 (fun M_71 H locs eM_71 hW => ?_)
                  have h := h M_71 eM_71
                  refine lv_goto (tgt := 22) hx hb dX9_parkLeast_306 (by decide) ?_
                  exact ih v3 x4_65 x5_68 M_71 _ _ _ hW (lv_sub hl [2, 3, 1, 0] rfl) h
              · have h := h.2 c_67
                refine lv_aload_n hx hb dX9_parkLeast_270 rfl (lv_at hl 1 rfl) ?_
                refine gf_X9_81 C hW dX9_parkLeast_271 ?_
                refine lv_aload_n hx hb dX9_parkLeast_274 rfl (lv_at hl 1 rfl) ?_
                refine gf_X9_75 C hW dX9_parkLeast_275 ?_
                refine lv_iload hx hb dX9_parkLeast_278 (lv_at hl 3 rfl) ?_
                have hi_72 := h.1
                have h := h.2
                refine pd_iald C hW kd_103 hi_72 dX9_parkLeast_280 ?_
                refine lv_dup2_11 hx hb dX9_parkLeast_281 rfl rfl ?_
                have hi_73 := h.1
                have h := h.2
                refine pd_iald C hW kd_105 hi_73 dX9_parkLeast_282 ?_
                refine lv_iconst (v := 1) hx hb dX9_parkLeast_283 (by decide) ?_
                refine lv_isub hx hb dX9_parkLeast_284 ?_
                have hi_74 := h.1
                have h := h.2
                refine pd_iast C hW kd_105 hi_74 dX9_parkLeast_285 (fun M_75 H locs eM_75 hW => ?_)
                have h := h M_75 eM_75
                obtain ⟨x5_76, ex5_76⟩ : ∃ y : Int32, y = v5 + 1 := ⟨_, rfl⟩
                have h := h x5_76 ex5_76
                refine lv_iinc (v := x5_76) (lv' := [(5, .int x5_76), (4, .int x4_65), (0, .ref (g.1 82)), (3, .int v3)]) hx hb dX9_parkLeast_286 hl (k := 3) rfl (by rw [ex5_76]; rfl) (by decide) rfl (fun ls hl => ?_)
                refine lv_iload hx hb dX9_parkLeast_289 (lv_at hl 0 rfl) ?_
                refine lv_aload_n hx hb dX9_parkLeast_291 rfl (lv_at hl 2 rfl) ?_
                refine gf_X9_94 C hW dX9_parkLeast_292 ?_
                refine lv_icmp_ge (tgt := 22) hx hb dX9_parkLeast_295 (by decide) (fun c_77 => ?_) (fun c_77 => ?_)
                · have h := h.1 c_77
                  exact ih v3 x4_65 x5_76 M_75 _ _ _ hW (lv_sub hl [2, 3, 1, 0] rfl) h
                · have h := h.2 c_77
                  refine lv_aload_n hx hb dX9_parkLeast_298 rfl (lv_at hl 2 rfl) ?_
                  refine gf_X9_75 C hW dX9_parkLeast_299 ?_
                  refine lv_iload hx hb dX9_parkLeast_302 (lv_at hl 0 rfl) ?_
                  refine lv_iconst (v := (-1)) hx hb dX9_parkLeast_304 (by decide) ?_
                  have hi_78 := h.1
                  have h := h.2
                  refine pd_iast C hW kd_103 hi_78 dX9_parkLeast_305 (fun M_79 H locs eM_79 hW => ?_)
                  have h := h M_79 eM_79
                  refine lv_goto (tgt := 22) hx hb dX9_parkLeast_306 (by decide) ?_
                  exact ih v3 x4_65 x5_76 M_79 _ _ _ hW (lv_sub hl [2, 3, 1, 0] rfl) h
            · have h := h.2 c_61
              refine lv_aload_n hx hb dX9_parkLeast_224 rfl (lv_at hl 0 rfl) ?_
              refine gf_X9_75 C hW dX9_parkLeast_225 ?_
              refine lv_iload hx hb dX9_parkLeast_228 (lv_at hl 3 rfl) ?_
              refine lv_iconst (v := (-1)) hx hb dX9_parkLeast_230 (by decide) ?_
              have hi_80 := h.1
              have h := h.2
              refine pd_iast C hW kd_103 hi_80 dX9_parkLeast_231 (fun M_81 H locs eM_81 hW => ?_)
              have h := h M_81 eM_81
              obtain ⟨x5_82, ex5_82⟩ : ∃ y : Int32, y = v5 + (-1) := ⟨_, rfl⟩
              have h := h x5_82 ex5_82
              refine lv_iinc (v := x5_82) (lv' := [(5, .int x5_82), (0, .ref (g.1 82)), (3, .int v3), (4, .int x4_53)]) hx hb dX9_parkLeast_232 hl (k := 3) rfl (by rw [ex5_82]; rfl) (by decide) rfl (fun ls hl => ?_)
              refine lv_goto (tgt := 22) hx hb dX9_parkLeast_235 (by decide) ?_
              exact ih v3 x4_53 x5_82 M_81 _ _ _ hW (lv_sub hl [1, 2, 3, 0] rfl) h
          · have h := h.2 c_55
            refine lv_aload_n hx hb dX9_parkLeast_119 rfl (lv_at hl 1 rfl) ?_
            refine gf_X9_81 C hW dX9_parkLeast_120 ?_
            refine lv_aload_n hx hb dX9_parkLeast_123 rfl (lv_at hl 1 rfl) ?_
            refine gf_X9_75 C hW dX9_parkLeast_124 ?_
            refine lv_iload hx hb dX9_parkLeast_127 (lv_at hl 3 rfl) ?_
            have hi_83 := h.1
            have h := h.2
            refine pd_iald C hW kd_103 hi_83 dX9_parkLeast_129 ?_
            refine lv_dup2_11 hx hb dX9_parkLeast_130 rfl rfl ?_
            have hi_84 := h.1
            have h := h.2
            refine pd_iald C hW kd_105 hi_84 dX9_parkLeast_131 ?_
            refine lv_iconst (v := 1) hx hb dX9_parkLeast_132 (by decide) ?_
            refine lv_iadd hx hb dX9_parkLeast_133 ?_
            have hi_85 := h.1
            have h := h.2
            refine pd_iast C hW kd_105 hi_85 dX9_parkLeast_134 (fun M_86 H locs eM_86 hW => ?_)
            have h := h M_86 eM_86
            refine lv_aload_n hx hb dX9_parkLeast_135 rfl (lv_at hl 1 rfl) ?_
            refine gf_X9_75 C hW dX9_parkLeast_136 ?_
            refine lv_iload hx hb dX9_parkLeast_139 (lv_at hl 3 rfl) ?_
            refine lv_dup2_11 hx hb dX9_parkLeast_141 rfl rfl ?_
            have hi_87 := h.1
            have h := h.2
            refine pd_iald C hW kd_103 hi_87 dX9_parkLeast_142 ?_
            refine lv_iconst (v := 1) hx hb dX9_parkLeast_143 (by decide) ?_
            refine lv_iadd hx hb dX9_parkLeast_144 ?_
            have hi_88 := h.1
            have h := h.2
            refine pd_iast C hW kd_103 hi_88 dX9_parkLeast_145 (fun M_89 H locs eM_89 hW => ?_)
            have h := h M_89 eM_89
            obtain ⟨k_146, h⟩ := h
            refine stX9_parkLeast_146 C hA (fun M_90 H locs ls hW hl h => ?_) k_146 M_89 _ _ _ hW (lv_sub hl [1, 2, 0, 3] rfl) h
            refine lv_aload_n hx hb dX9_parkLeast_210 rfl (lv_at hl 0 rfl) ?_
            refine gf_X9_75 C hW dX9_parkLeast_211 ?_
            refine lv_iload hx hb dX9_parkLeast_214 (lv_at hl 3 rfl) ?_
            have hi_91 := h.1
            have h := h.2
            refine pd_iald C hW kd_103 hi_91 dX9_parkLeast_216 ?_
            refine lv_aload_n hx hb dX9_parkLeast_217 rfl (lv_at hl 0 rfl) ?_
            refine gf_X9_87 C hW dX9_parkLeast_218 ?_
            refine lv_icmp_le (tgt := 238) hx hb dX9_parkLeast_221 (by decide) (fun c_92 => ?_) (fun c_92 => ?_)
            · have h := h.1 c_92
              refine lv_iload hx hb dX9_parkLeast_238 (lv_at hl 2 rfl) ?_
              refine lv_aload_n hx hb dX9_parkLeast_240 rfl (lv_at hl 0 rfl) ?_
              refine lv_iload hx hb dX9_parkLeast_241 (lv_at hl 3 rfl) ?_
              refine lv_aload_n hx hb dX9_parkLeast_243 rfl (lv_at hl 0 rfl) ?_
              refine gf_X9_75 C hW dX9_parkLeast_244 ?_
              refine lv_iload hx hb dX9_parkLeast_247 (lv_at hl 3 rfl) ?_
              have hi_93 := h.1
              have h := h.2
              refine pd_iald C hW kd_103 hi_93 dX9_parkLeast_249 ?_
              refine cl_X9_136 C hW h ⟨by decide, by decide⟩ ⟨Nat.zero_le _, Nat.zero_le _⟩ hl.1 (Nat.le_of_ble_eq_true rfl) dX9_parkLeast_250 (fun r_95 M_94 H locs h hW => ?_)
              refine lv_iadd hx hb dX9_parkLeast_253 ?_
              refine lv_topi (fun x4_96 ex4_96 => ?_)
              have h := h x4_96 ex4_96
              refine lv_istore (lv' := [(4, .int x4_96), (0, .ref (g.1 82)), (3, .int v3), (5, .int v5)]) hx hb dX9_parkLeast_254 hl (by decide) rfl (fun ls hl => ?_)
              refine lv_aload_n hx hb dX9_parkLeast_256 rfl (lv_at hl 1 rfl) ?_
              refine gf_X9_75 C hW dX9_parkLeast_257 ?_
              refine lv_iload hx hb dX9_parkLeast_260 (lv_at hl 3 rfl) ?_
              have hi_97 := h.1
              have h := h.2
              refine pd_iald C hW kd_103 hi_97 dX9_parkLeast_262 ?_
              refine lv_aload_n hx hb dX9_parkLeast_263 rfl (lv_at hl 1 rfl) ?_
              refine gf_X9_87 C hW dX9_parkLeast_264 ?_
              refine lv_icmp_ge (tgt := 286) hx hb dX9_parkLeast_267 (by decide) (fun c_98 => ?_) (fun c_98 => ?_)
              · have h := h.1 c_98
                obtain ⟨x5_99, ex5_99⟩ : ∃ y : Int32, y = v5 + 1 := ⟨_, rfl⟩
                have h := h x5_99 ex5_99
                refine lv_iinc (v := x5_99) (lv' := [(5, .int x5_99), (4, .int x4_96), (0, .ref (g.1 82)), (3, .int v3)]) hx hb dX9_parkLeast_286 hl (k := 3) rfl (by rw [ex5_99]; rfl) (by decide) rfl (fun ls hl => ?_)
                refine lv_iload hx hb dX9_parkLeast_289 (lv_at hl 0 rfl) ?_
                refine lv_aload_n hx hb dX9_parkLeast_291 rfl (lv_at hl 2 rfl) ?_
                refine gf_X9_94 C hW dX9_parkLeast_292 ?_
                refine lv_icmp_ge (tgt := 22) hx hb dX9_parkLeast_295 (by decide) (fun c_100 => ?_) (fun c_100 => ?_)
                · have h := h.1 c_100
                  exact ih v3 x4_96 x5_99 M_94 _ _ _ hW (lv_sub hl [2, 3, 1, 0] rfl) h
                · have h := h.2 c_100
                  refine lv_aload_n hx hb dX9_parkLeast_298 rfl (lv_at hl 2 rfl) ?_
                  refine gf_X9_75 C hW dX9_parkLeast_299 ?_
                  refine lv_iload hx hb dX9_parkLeast_302 (lv_at hl 0 rfl) ?_
                  refine lv_iconst (v := (-1)) hx hb dX9_parkLeast_304 (by decide) ?_
                  have hi_101 := h.1
                  have h := h.2
                  refine pd_iast C hW kd_103 hi_101 dX9_parkLeast_305 (fun M_102 H locs eM_102 hW => ?_)
                  have h := h M_102 eM_102
                  refine lv_goto (tgt := 22) hx hb dX9_parkLeast_306 (by decide) ?_
                  exact ih v3 x4_96 x5_99 M_102 _ _ _ hW (lv_sub hl [2, 3, 1, 0] rfl) h
              · have h := h.2 c_98
                refine lv_aload_n hx hb dX9_parkLeast_270 rfl (lv_at hl 1 rfl) ?_
                refine gf_X9_81 C hW dX9_parkLeast_271 ?_
                refine lv_aload_n hx hb dX9_parkLeast_274 rfl (lv_at hl 1 rfl) ?_
                refine gf_X9_75 C hW dX9_parkLeast_275 ?_
                refine lv_iload hx hb dX9_parkLeast_278 (lv_at hl 3 rfl) ?_
                have hi_103 := h.1
                have h := h.2
                refine pd_iald C hW kd_103 hi_103 dX9_parkLeast_280 ?_
                refine lv_dup2_11 hx hb dX9_parkLeast_281 rfl rfl ?_
                have hi_104 := h.1
                have h := h.2
                refine pd_iald C hW kd_105 hi_104 dX9_parkLeast_282 ?_
                refine lv_iconst (v := 1) hx hb dX9_parkLeast_283 (by decide) ?_
                refine lv_isub hx hb dX9_parkLeast_284 ?_
                have hi_105 := h.1
                have h := h.2
                refine pd_iast C hW kd_105 hi_105 dX9_parkLeast_285 (fun M_106 H locs eM_106 hW => ?_)
                have h := h M_106 eM_106
                obtain ⟨x5_107, ex5_107⟩ : ∃ y : Int32, y = v5 + 1 := ⟨_, rfl⟩
                have h := h x5_107 ex5_107
                refine lv_iinc (v := x5_107) (lv' := [(5, .int x5_107), (4, .int x4_96), (0, .ref (g.1 82)), (3, .int v3)]) hx hb dX9_parkLeast_286 hl (k := 3) rfl (by rw [ex5_107]; rfl) (by decide) rfl (fun ls hl => ?_)
                refine lv_iload hx hb dX9_parkLeast_289 (lv_at hl 0 rfl) ?_
                refine lv_aload_n hx hb dX9_parkLeast_291 rfl (lv_at hl 2 rfl) ?_
                refine gf_X9_94 C hW dX9_parkLeast_292 ?_
                refine lv_icmp_ge (tgt := 22) hx hb dX9_parkLeast_295 (by decide) (fun c_108 => ?_) (fun c_108 => ?_)
                · have h := h.1 c_108
                  exact ih v3 x4_96 x5_107 M_106 _ _ _ hW (lv_sub hl [2, 3, 1, 0] rfl) h
                · have h := h.2 c_108
                  refine lv_aload_n hx hb dX9_parkLeast_298 rfl (lv_at hl 2 rfl) ?_
                  refine gf_X9_75 C hW dX9_parkLeast_299 ?_
                  refine lv_iload hx hb dX9_parkLeast_302 (lv_at hl 0 rfl) ?_
                  refine lv_iconst (v := (-1)) hx hb dX9_parkLeast_304 (by decide) ?_
                  have hi_109 := h.1
                  have h := h.2
                  refine pd_iast C hW kd_103 hi_109 dX9_parkLeast_305 (fun M_110 H locs eM_110 hW => ?_)
                  have h := h M_110 eM_110
                  refine lv_goto (tgt := 22) hx hb dX9_parkLeast_306 (by decide) ?_
                  exact ih v3 x4_96 x5_107 M_110 _ _ _ hW (lv_sub hl [2, 3, 1, 0] rfl) h
            · have h := h.2 c_92
              refine lv_aload_n hx hb dX9_parkLeast_224 rfl (lv_at hl 0 rfl) ?_
              refine gf_X9_75 C hW dX9_parkLeast_225 ?_
              refine lv_iload hx hb dX9_parkLeast_228 (lv_at hl 3 rfl) ?_
              refine lv_iconst (v := (-1)) hx hb dX9_parkLeast_230 (by decide) ?_
              have hi_111 := h.1
              have h := h.2
              refine pd_iast C hW kd_103 hi_111 dX9_parkLeast_231 (fun M_112 H locs eM_112 hW => ?_)
              have h := h M_112 eM_112
              obtain ⟨x5_113, ex5_113⟩ : ∃ y : Int32, y = v5 + (-1) := ⟨_, rfl⟩
              have h := h x5_113 ex5_113
              refine lv_iinc (v := x5_113) (lv' := [(5, .int x5_113), (0, .ref (g.1 82)), (3, .int v3), (4, .int x4_53)]) hx hb dX9_parkLeast_232 hl (k := 3) rfl (by rw [ex5_113]; rfl) (by decide) rfl (fun ls hl => ?_)
              refine lv_goto (tgt := 22) hx hb dX9_parkLeast_235 (by decide) ?_
              exact ih v3 x4_53 x5_113 M_112 _ _ _ hW (lv_sub hl [1, 2, 3, 0] rfl) h
      · have h := h.2 c_4
        refine lv_iload hx hb dX9_parkLeast_36 (lv_at hl 2 rfl) ?_
        refine lv_istore_n (lv' := [(3, .int v4), (0, .ref (g.1 82)), (4, .int v4), (5, .int v5)]) hx hb dX9_parkLeast_38 rfl hl (by decide) rfl (fun ls hl => ?_)
        refine lv_iconst (v := 0) hx hb dX9_parkLeast_39 (by decide) ?_
        refine lv_istore (lv' := [(6, .int 0), (3, .int v4), (0, .ref (g.1 82)), (4, .int v4), (5, .int v5)]) hx hb dX9_parkLeast_40 hl (by decide) rfl (fun ls hl => ?_)
        obtain ⟨k_42, h⟩ := h
        refine stX9_parkLeast_42 C hA (fun M_119 H locs ls hW hl h => ?_) k_42 0 M _ _ _ hW (lv_sub hl [2, 1, 3, 4, 0] rfl) h
        obtain ⟨x5_120, ex5_120⟩ : ∃ y : Int32, y = v5 + (-1) := ⟨_, rfl⟩
        have h := h x5_120 ex5_120
        refine lv_iinc (v := x5_120) (lv' := [(5, .int x5_120), (0, .ref (g.1 82)), (3, .int v4), (4, .int v4)]) hx hb dX9_parkLeast_71 hl (k := 3) rfl (by rw [ex5_120]; rfl) (by decide) rfl (fun ls hl => ?_)
        refine lv_goto (tgt := 22) hx hb dX9_parkLeast_74 (by decide) ?_
        exact ih v4 v4 x5_120 M_119 _ _ _ hW (lv_sub hl [1, 2, 3, 0] rfl) h

def wX9_parkLeast (Q : pd_M → Prop) (a1 : Int32) (a2 : Int32) (M : pd_M) : Prop := wX9_begin (fun M_1 => ∀ M_2 : pd_M, M_2 = sI M_1 103 (0 : Int32).toNatClampNeg (-1) → (∃ k_22 : Nat, lpX9_parkLeast_22 (fun M_121 => Q M_121) k_22 (1000000 : Int32) 0 0 M_2)) a1 a2 M

set_option maxRecDepth 100000 in
set_option maxHeartbeats 4000000 in
theorem mX9_parkLeast {l : Launch} {D : va_G} {g : pd_G} {t : Nat} {X : va_W} {Q : pd_M → Prop} {a1 : Int32} {a2 : Int32} {M : pd_M} {sz : Nat} (h : wX9_parkLeast Q a1 a2 M) : Met l yX9_parkLeast (Cond.code yX9_parkLeast cX9_parkLeast 7 (Option.none : Option FieldType) :: TB) rX9_parkLeast (pd_Pre D g t M X sz [.ref (g.1 82), .int a1, .int a2]) (pd_Qv D g M X sz Q) 0 0 (va_A (pd_WL g M ++ X) sz) := by
  refine pd_met (by decide) (Nat.le_of_ble_eq_true rfl) ?_
  intro p e s m below meth c A ls C hA hW hl
  have C : pd_C p m c cX9_parkLeast 7 s _ RX9 meth (Option.none : Option FieldType) := C
  have hx := C.1.1
  have hb := C.1.2.1
  have hown := C.1.2.2.2.1
  have hts := C.1.2.2.2.2
  have hl : lv_has ls 7 [(0, .ref (g.1 82)), (1, .int a1), (2, .int a2)] := hl
  refine lv_aload_n hx hb dX9_parkLeast_0 rfl (lv_at hl 0 rfl) ?_
  refine lv_iload_n hx hb dX9_parkLeast_1 rfl (lv_at hl 1 rfl) ?_
  refine lv_iload_n hx hb dX9_parkLeast_2 rfl (lv_at hl 2 rfl) ?_
  refine cl_X9_128 C hW h ⟨by decide, by decide⟩ ⟨Nat.zero_le _, Nat.zero_le _⟩ hl.1 (by decide) dX9_parkLeast_3 (fun M_1 H locs h hW => ?_)
  refine lv_ldc (v := (1000000 : Int32)) hx hb hown (hts _ mJ_X9_127) dX9_parkLeast_6 ?_
  refine lv_istore_n (lv' := [(3, .int (1000000 : Int32)), (0, .ref (g.1 82)), (1, .int a1), (2, .int a2)]) hx hb dX9_parkLeast_8 rfl hl (by decide) rfl (fun ls hl => ?_)
  refine lv_iconst (v := 0) hx hb dX9_parkLeast_9 (by decide) ?_
  refine lv_istore (lv' := [(4, .int 0), (3, .int (1000000 : Int32)), (0, .ref (g.1 82)), (1, .int a1), (2, .int a2)]) hx hb dX9_parkLeast_10 hl (by decide) rfl (fun ls hl => ?_)
  refine lv_iconst (v := 0) hx hb dX9_parkLeast_12 (by decide) ?_
  refine lv_istore (lv' := [(5, .int 0), (4, .int 0), (3, .int (1000000 : Int32)), (0, .ref (g.1 82)), (1, .int a1), (2, .int a2)]) hx hb dX9_parkLeast_13 hl (by decide) rfl (fun ls hl => ?_)
  refine lv_aload_n hx hb dX9_parkLeast_15 rfl (lv_at hl 3 rfl) ?_
  refine gf_X9_75 C hW dX9_parkLeast_16 ?_
  refine lv_iconst (v := 0) hx hb dX9_parkLeast_19 (by decide) ?_
  refine lv_iconst (v := (-1)) hx hb dX9_parkLeast_20 (by decide) ?_
  refine pd_iast C hW kd_103 (by unfold vp_in; decide) dX9_parkLeast_21 (fun M_2 H locs eM_2 hW => ?_)
  have h := h M_2 eM_2
  obtain ⟨k_22, h⟩ := h
  refine stX9_parkLeast_22 C hA (fun M_121 H locs ls hW hl h => ?_) k_22 (1000000 : Int32) 0 0 M_2 _ _ _ hW (lv_sub hl [3, 2, 1, 0] rfl) h
  exact pd_vret C hA hW h dX9_parkLeast_309

theorem dd_X9_parkLeast : yX9_parkLeast.cls ≠ "java/lang/invoke/MethodHandle" ∧ yX9_parkLeast.cls ≠ "java/lang/invoke/VarHandle" ∧ (parseMethodDescriptor yX9_parkLeast.desc).map (fun d => d.parameters.length) = some 2 := by decide +kernel
theorem cl_X9_143 {p : Program} {l : Launch} {e : Env} {R : Room} {s : State} {m : MethodId} {args : Array Value} {below : List Frame} {meth : Method} {c : Code} {H : Heap} {locs : List Loc} {cells slots : Nat} {QQ : State → Prop} {cc : ByteArray} {pc : Nat} {ls : Array Slot} {rest : List Value} {D : va_G} {g : pd_G} {t : Nat} {M : pd_M} {X : va_W} {A : Nat → Prop} {nL : Nat} {ret : Option FieldType} {Qc : pd_M → Prop} {a1 : Int32} {a2 : Int32} (C : pd_C p m c cc nL s args RX9 meth ret) (hW : pd_W D g t M X A s H locs) (h : wX9_parkLeast Qc a1 a2 M) (hR : rX9_parkLeast.frames + 1 ≤ R.frames ∧ 8 + (7 + 11) + rX9_parkLeast.locals ≤ R.locals) (hcs : cells ≤ R.cells ∧ slots ≤ R.slots) (hls : ls.size = nL) (hw8 : (rest.map fun v => v.category).sum ≤ 8) (hdg : decode cc pc = .ok (.invokevirtual 143, 3))
    (kk : ∀ (M1 : pd_M) (H1 : Heap) (locs1 : List Loc), Qc M1 → pd_W D g t M1 X A s H1 locs1 → W p l e R s m args below meth c H1 locs1 cells slots QQ (F0 m (pc + 3) ls rest)) : W p l e R s m args below meth c H locs cells slots QQ (F0 m pc ls (.int a2 :: .int a1 :: .ref (g.1 82) :: rest)) :=
  pd_callVv (As := [.int a1, .int a2]) C hW (mX9_parkLeast h) kd_82 rfl mM_X9_143 mO_yX9_parkLeast mV_yX9_parkLeast mI_X9 mC_yX9_parkLeast dd_X9_parkLeast ⟨rfl, rfl⟩ hR hcs hls rfl hw8 hdg kk
abbrev rX9_park : Room := { frames := 4, cells := 0, slots := 0, locals := 99 }
def wX9_park (Q : pd_M → Prop) (a1 : Int32) (a2 : Int32) (a3 : Int32) (M : pd_M) : Prop := ((a3 = 0 → wX9_parkNight (fun M_2 => Q M_2) a1 a2 M) ∧ (¬ a3 = 0 → (((M.1 82 6) ≤ 0 → wX9_parkNight (fun M_4 => Q M_4) a1 a2 M) ∧ (¬ (M.1 82 6) ≤ 0 → wX9_parkLeast (fun M_5 => Q M_5) a1 a2 M))))

set_option maxRecDepth 100000 in
set_option maxHeartbeats 4000000 in
theorem mX9_park {l : Launch} {D : va_G} {g : pd_G} {t : Nat} {X : va_W} {Q : pd_M → Prop} {a1 : Int32} {a2 : Int32} {a3 : Int32} {M : pd_M} {sz : Nat} (h : wX9_park Q a1 a2 a3 M) : Met l yX9_park (Cond.code yX9_park cX9_park 4 (Option.none : Option FieldType) :: TB) rX9_park (pd_Pre D g t M X sz [.ref (g.1 82), .int a1, .int a2, .int a3]) (pd_Qv D g M X sz Q) 0 0 (va_A (pd_WL g M ++ X) sz) := by
  refine pd_met (by decide) (Nat.le_of_ble_eq_true rfl) ?_
  intro p e s m below meth c A ls C hA hW hl
  have C : pd_C p m c cX9_park 4 s _ RX9 meth (Option.none : Option FieldType) := C
  have hx := C.1.1
  have hb := C.1.2.1
  have hown := C.1.2.2.2.1
  have hts := C.1.2.2.2.2
  have hl : lv_has ls 4 [(0, .ref (g.1 82)), (1, .int a1), (2, .int a2), (3, .int a3)] := hl
  refine lv_iload_n hx hb dX9_park_0 rfl (lv_at hl 3 rfl) ?_
  refine lv_if_eq (tgt := 20) hx hb dX9_park_1 (by decide) (fun c_1 => ?_) (fun c_1 => ?_)
  · have h := h.1 c_1
    refine lv_aload_n hx hb dX9_park_20 rfl (lv_at hl 0 rfl) ?_
    refine lv_iload_n hx hb dX9_park_21 rfl (lv_at hl 1 rfl) ?_
    refine lv_iload_n hx hb dX9_park_22 rfl (lv_at hl 2 rfl) ?_
    refine cl_X9_146 C hW h ⟨by decide, by decide⟩ ⟨Nat.zero_le _, Nat.zero_le _⟩ hl.1 (by decide) dX9_park_23 (fun M_2 H locs h hW => ?_)
    exact pd_vret C hA hW h dX9_park_26
  · have h := h.2 c_1
    refine lv_aload_n hx hb dX9_park_4 rfl (lv_at hl 0 rfl) ?_
    refine gf_X9_94 C hW dX9_park_5 ?_
    refine lv_if_le (tgt := 20) hx hb dX9_park_8 (by decide) (fun c_3 => ?_) (fun c_3 => ?_)
    · have h := h.1 c_3
      refine lv_aload_n hx hb dX9_park_20 rfl (lv_at hl 0 rfl) ?_
      refine lv_iload_n hx hb dX9_park_21 rfl (lv_at hl 1 rfl) ?_
      refine lv_iload_n hx hb dX9_park_22 rfl (lv_at hl 2 rfl) ?_
      refine cl_X9_146 C hW h ⟨by decide, by decide⟩ ⟨Nat.zero_le _, Nat.zero_le _⟩ hl.1 (by decide) dX9_park_23 (fun M_4 H locs h hW => ?_)
      exact pd_vret C hA hW h dX9_park_26
    · have h := h.2 c_3
      refine lv_aload_n hx hb dX9_park_11 rfl (lv_at hl 0 rfl) ?_
      refine lv_iload_n hx hb dX9_park_12 rfl (lv_at hl 1 rfl) ?_
      refine lv_iload_n hx hb dX9_park_13 rfl (lv_at hl 2 rfl) ?_
      refine cl_X9_143 C hW h ⟨by decide, by decide⟩ ⟨Nat.zero_le _, Nat.zero_le _⟩ hl.1 (by decide) dX9_park_14 (fun M_5 H locs h hW => ?_)
      refine lv_goto (tgt := 26) hx hb dX9_park_17 (by decide) ?_
      exact pd_vret C hA hW h dX9_park_26

theorem dd_X9_park : yX9_park.cls ≠ "java/lang/invoke/MethodHandle" ∧ yX9_park.cls ≠ "java/lang/invoke/VarHandle" ∧ (parseMethodDescriptor yX9_park.desc).map (fun d => d.parameters.length) = some 3 := by decide +kernel
theorem cl_X9_149 {p : Program} {l : Launch} {e : Env} {R : Room} {s : State} {m : MethodId} {args : Array Value} {below : List Frame} {meth : Method} {c : Code} {H : Heap} {locs : List Loc} {cells slots : Nat} {QQ : State → Prop} {cc : ByteArray} {pc : Nat} {ls : Array Slot} {rest : List Value} {D : va_G} {g : pd_G} {t : Nat} {M : pd_M} {X : va_W} {A : Nat → Prop} {nL : Nat} {ret : Option FieldType} {Qc : pd_M → Prop} {a1 : Int32} {a2 : Int32} {a3 : Int32} (C : pd_C p m c cc nL s args RX9 meth ret) (hW : pd_W D g t M X A s H locs) (h : wX9_park Qc a1 a2 a3 M) (hR : rX9_park.frames + 1 ≤ R.frames ∧ 8 + (4 + 11) + rX9_park.locals ≤ R.locals) (hcs : cells ≤ R.cells ∧ slots ≤ R.slots) (hls : ls.size = nL) (hw8 : (rest.map fun v => v.category).sum ≤ 8) (hdg : decode cc pc = .ok (.invokevirtual 149, 3))
    (kk : ∀ (M1 : pd_M) (H1 : Heap) (locs1 : List Loc), Qc M1 → pd_W D g t M1 X A s H1 locs1 → W p l e R s m args below meth c H1 locs1 cells slots QQ (F0 m (pc + 3) ls rest)) : W p l e R s m args below meth c H locs cells slots QQ (F0 m pc ls (.int a3 :: .int a2 :: .int a1 :: .ref (g.1 82) :: rest)) :=
  pd_callVv (As := [.int a1, .int a2, .int a3]) C hW (mX9_park h) kd_82 rfl mM_X9_149 mO_yX9_park mV_yX9_park mI_X9 mC_yX9_park dd_X9_park ⟨rfl, rfl⟩ hR hcs hls rfl hw8 hdg kk
abbrev rX9_stands : Room := { frames := 5, cells := 0, slots := 0, locals := 122 }
def wX9_stands (Q : Int32 → pd_M → Prop) (a1 : Int32) (a2 : Int32) (a3 : Int32) (a4 : Int32) (M : pd_M) : Prop := wX9_isNight (fun r_2 M_1 => ((r_2 = 0 → Q (-1) M_1) ∧ (¬ r_2 = 0 → wX9_isHour (fun r_5 M_4 => ((r_5 = 0 → Q (-1) M_4) ∧ (¬ r_5 = 0 → wX9_isCar (fun r_8 M_7 => ((¬ r_8 = 0 → wX9_park (fun M_10 => (vp_in a3 7 ∧ ((¬ (M_10.1 104 a3.toNatClampNeg) = (M_10.1 82 0) → (vp_in a3 7 ∧ Q (M_10.1 104 a3.toNatClampNeg) M_10)) ∧ ((M_10.1 104 a3.toNatClampNeg) = (M_10.1 82 0) → Q (-3) M_10)))) a1 a2 a4 M_7) ∧ (r_8 = 0 → Q (-1) M_7))) a3 M_4))) a2 M_1))) a1 M

set_option maxRecDepth 100000 in
set_option maxHeartbeats 4000000 in
theorem mX9_stands {l : Launch} {D : va_G} {g : pd_G} {t : Nat} {X : va_W} {Q : Int32 → pd_M → Prop} {a1 : Int32} {a2 : Int32} {a3 : Int32} {a4 : Int32} {M : pd_M} {sz : Nat} (h : wX9_stands Q a1 a2 a3 a4 M) : Met l yX9_stands (Cond.code yX9_stands cX9_stands 5 (Option.some FieldType.int) :: TB) rX9_stands (pd_Pre D g t M X sz [.ref (g.1 82), .int a1, .int a2, .int a3, .int a4]) (pd_Qi D g M X sz Q) 0 0 (va_A (pd_WL g M ++ X) sz) := by
  refine pd_met (by decide) (Nat.le_of_ble_eq_true rfl) ?_
  intro p e s m below meth c A ls C hA hW hl
  have C : pd_C p m c cX9_stands 5 s _ RX9 meth (Option.some FieldType.int) := C
  have hx := C.1.1
  have hb := C.1.2.1
  have hown := C.1.2.2.2.1
  have hts := C.1.2.2.2.2
  have hl : lv_has ls 5 [(0, .ref (g.1 82)), (1, .int a1), (2, .int a2), (3, .int a3), (4, .int a4)] := hl
  refine lv_iload_n hx hb dX9_stands_0 rfl (lv_at hl 1 rfl) ?_
  refine cl_X9_104 C hW h ⟨by decide, by decide⟩ ⟨Nat.zero_le _, Nat.zero_le _⟩ hl.1 (Nat.le_of_ble_eq_true rfl) dX9_stands_1 (fun r_2 M_1 H locs h hW => ?_)
  refine lv_if_eq (tgt := 22) hx hb dX9_stands_4 (by decide) (fun c_3 => ?_) (fun c_3 => ?_)
  · have h := h.1 c_3
    refine lv_iconst (v := (-1)) hx hb dX9_stands_22 (by decide) ?_
    exact pd_iret C hA hW h dX9_stands_23
  · have h := h.2 c_3
    refine lv_iload_n hx hb dX9_stands_7 rfl (lv_at hl 2 rfl) ?_
    refine cl_X9_107 C hW h ⟨by decide, by decide⟩ ⟨Nat.zero_le _, Nat.zero_le _⟩ hl.1 (Nat.le_of_ble_eq_true rfl) dX9_stands_8 (fun r_5 M_4 H locs h hW => ?_)
    refine lv_if_eq (tgt := 22) hx hb dX9_stands_11 (by decide) (fun c_6 => ?_) (fun c_6 => ?_)
    · have h := h.1 c_6
      refine lv_iconst (v := (-1)) hx hb dX9_stands_22 (by decide) ?_
      exact pd_iret C hA hW h dX9_stands_23
    · have h := h.2 c_6
      refine lv_aload_n hx hb dX9_stands_14 rfl (lv_at hl 0 rfl) ?_
      refine lv_iload_n hx hb dX9_stands_15 rfl (lv_at hl 3 rfl) ?_
      refine cl_X9_117 C hW h ⟨by decide, by decide⟩ ⟨Nat.zero_le _, Nat.zero_le _⟩ hl.1 (Nat.le_of_ble_eq_true rfl) dX9_stands_16 (fun r_8 M_7 H locs h hW => ?_)
      refine lv_if_ne (tgt := 24) hx hb dX9_stands_19 (by decide) (fun c_9 => ?_) (fun c_9 => ?_)
      · have h := h.1 c_9
        refine lv_aload_n hx hb dX9_stands_24 rfl (lv_at hl 0 rfl) ?_
        refine lv_iload_n hx hb dX9_stands_25 rfl (lv_at hl 1 rfl) ?_
        refine lv_iload_n hx hb dX9_stands_26 rfl (lv_at hl 2 rfl) ?_
        refine lv_iload hx hb dX9_stands_27 (lv_at hl 4 rfl) ?_
        refine cl_X9_149 C hW h ⟨by decide, by decide⟩ ⟨Nat.zero_le _, Nat.zero_le _⟩ hl.1 (by decide) dX9_stands_29 (fun M_10 H locs h hW => ?_)
        refine lv_aload_n hx hb dX9_stands_32 rfl (lv_at hl 0 rfl) ?_
        refine gf_X9_78 C hW dX9_stands_33 ?_
        refine lv_iload_n hx hb dX9_stands_36 rfl (lv_at hl 3 rfl) ?_
        have hi_11 := h.1
        have h := h.2
        refine pd_iald C hW kd_104 hi_11 dX9_stands_37 ?_
        refine lv_aload_n hx hb dX9_stands_38 rfl (lv_at hl 0 rfl) ?_
        refine gf_X9_87 C hW dX9_stands_39 ?_
        refine lv_icmp_ne (tgt := 50) hx hb dX9_stands_42 (by decide) (fun c_12 => ?_) (fun c_12 => ?_)
        · have h := h.1 c_12
          refine lv_aload_n hx hb dX9_stands_50 rfl (lv_at hl 0 rfl) ?_
          refine gf_X9_78 C hW dX9_stands_51 ?_
          refine lv_iload_n hx hb dX9_stands_54 rfl (lv_at hl 3 rfl) ?_
          have hi_13 := h.1
          have h := h.2
          refine pd_iald C hW kd_104 hi_13 dX9_stands_55 ?_
          exact pd_iret C hA hW h dX9_stands_56
        · have h := h.2 c_12
          refine lv_bipush (v := (-3)) hx hb dX9_stands_45 (by decide) ?_
          refine lv_goto (tgt := 56) hx hb dX9_stands_47 (by decide) ?_
          exact pd_iret C hA hW h dX9_stands_56
      · have h := h.2 c_9
        refine lv_iconst (v := (-1)) hx hb dX9_stands_22 (by decide) ?_
        exact pd_iret C hA hW h dX9_stands_23

theorem dd_X9_stands : yX9_stands.cls ≠ "java/lang/invoke/MethodHandle" ∧ yX9_stands.cls ≠ "java/lang/invoke/VarHandle" ∧ (parseMethodDescriptor yX9_stands.desc).map (fun d => d.parameters.length) = some 4 := by decide +kernel
theorem cl_L_69 {p : Program} {l : Launch} {e : Env} {R : Room} {s : State} {m : MethodId} {args : Array Value} {below : List Frame} {meth : Method} {c : Code} {H : Heap} {locs : List Loc} {cells slots : Nat} {QQ : State → Prop} {cc : ByteArray} {pc : Nat} {ls : Array Slot} {rest : List Value} {D : va_G} {g : pd_G} {t : Nat} {M : pd_M} {X : va_W} {A : Nat → Prop} {nL : Nat} {ret : Option FieldType} {Qc : Int32 → pd_M → Prop} {a1 : Int32} {a2 : Int32} {a3 : Int32} {a4 : Int32} (C : pd_C p m c cc nL s args RL meth ret) (hW : pd_W D g t M X A s H locs) (h : wX9_stands Qc a1 a2 a3 a4 M) (hR : rX9_stands.frames + 1 ≤ R.frames ∧ 8 + (5 + 11) + rX9_stands.locals ≤ R.locals) (hcs : cells ≤ R.cells ∧ slots ≤ R.slots) (hls : ls.size = nL) (hw8 : (rest.map fun v => v.category).sum ≤ 8) (hdg : decode cc pc = .ok (.invokevirtual 69, 3))
    (kk : ∀ (r : Int32) (M1 : pd_M) (H1 : Heap) (locs1 : List Loc), Qc r M1 → pd_W D g t M1 X A s H1 locs1 → W p l e R s m args below meth c H1 locs1 cells slots QQ (F0 m (pc + 3) ls (.int r :: rest))) : W p l e R s m args below meth c H locs cells slots QQ (F0 m pc ls (.int a4 :: .int a3 :: .int a2 :: .int a1 :: .ref (g.1 82) :: rest)) :=
  pd_callVi (As := [.int a1, .int a2, .int a3, .int a4]) C hW (mX9_stands h) kd_82 rfl mM_L_69 mO_yX9_stands mV_yX9_stands mI_X9 mC_yX9_stands dd_X9_stands ⟨rfl, rfl⟩ hR hcs hls rfl hw8 hdg kk
abbrev rX9_sumOf : Room := { frames := 0, cells := 0, slots := 0, locals := 0 }
def jnX9_sumOf_30 (B_4 : Int32 → Int32 → pd_M → Prop) (v1 : Int32) (v2 : Int32) (v3 : Int32) (s0 : Int32) (M : pd_M) : Prop := ((¬ v1 = 1 → ((¬ s0 = 0 → ∀ x3_6 : Int32, x3_6 = v3 + 1 → B_4 v2 x3_6 M) ∧ (s0 = 0 → ((¬ v1 = 0 → (vp_in v3 7 ∧ (vp_in ((5 * v3) + (M.1 104 v3.toNatClampNeg)) 35 ∧ ((¬ (M.1 106 ((5 * v3) + (M.1 104 v3.toNatClampNeg)).toNatClampNeg) = 1 → ∀ x2_11 : Int32, x2_11 = (v2 + 0) → ∀ x3_12 : Int32, x3_12 = v3 + 1 → B_4 x2_11 x3_12 M) ∧ ((M.1 106 ((5 * v3) + (M.1 104 v3.toNatClampNeg)).toNatClampNeg) = 1 → ∀ x2_13 : Int32, x2_13 = (v2 + 1) → ∀ x3_14 : Int32, x3_14 = v3 + 1 → B_4 x2_13 x3_14 M))))) ∧ (v1 = 0 → (vp_in v3 7 ∧ (vp_in v3 7 ∧ (vp_in ((5 * (M.1 88 v3.toNatClampNeg)) + (M.1 104 v3.toNatClampNeg)) 25 ∧ ∀ x2_18 : Int32, x2_18 = (v2 + (M.1 86 ((5 * (M.1 88 v3.toNatClampNeg)) + (M.1 104 v3.toNatClampNeg)).toNatClampNeg)) → ∀ x3_19 : Int32, x3_19 = v3 + 1 → B_4 x2_18 x3_19 M)))))))) ∧ (v1 = 1 → ((s0 = 0 → ∀ x2_21 : Int32, x2_21 = (v2 + 0) → ∀ x3_22 : Int32, x3_22 = v3 + 1 → B_4 x2_21 x3_22 M) ∧ (¬ s0 = 0 → ∀ x2_23 : Int32, x2_23 = (v2 + 1) → ∀ x3_24 : Int32, x3_24 = v3 + 1 → B_4 x2_23 x3_24 M))))

set_option maxRecDepth 100000 in
set_option maxHeartbeats 4000000 in
theorem stX9_sumOf_30 {p : Program} {l : Launch} {e : Env} {s : State} {m : MethodId} {args : Array Value} {below : List Frame} {meth : Method} {c : Code} {D : va_G} {g : pd_G} {t : Nat} {M0 : pd_M} {X : va_W} {A : Nat → Prop} {sz : Nat} {Q : Int32 → pd_M → Prop} (C : pd_C p m c cX9_sumOf 5 s args RX9 meth (Option.some FieldType.int)) (hA : A = va_A (pd_WL g M0 ++ X) sz) {B_4 : Int32 → Int32 → pd_M → Prop} {v1 : Int32} (hB_4 : ∀ (p2 : Int32) (p3 : Int32) (M : pd_M) (H : Heap) (locs : List Loc) (ls : Array Slot), pd_W D g t M X A s H locs → lv_has ls 5 [(0, .ref (g.1 82)), (1, .int v1), (2, .int p2), (3, .int p3)] → B_4 p2 p3 M → W p l e rX9_sumOf s m args below meth c H locs 0 0 (MQ below (pd_Qi D g M0 X sz Q) args s 0 0 (va_A (pd_WL g M0 ++ X) sz)) (F0 m 4 ls [])) : ∀ (v2 : Int32) (v3 : Int32) (s0 : Int32) (M : pd_M) (H : Heap) (locs : List Loc) (ls : Array Slot), pd_W D g t M X A s H locs → lv_has ls 5 [(0, .ref (g.1 82)), (1, .int v1), (2, .int v2), (3, .int v3)] → jnX9_sumOf_30 B_4 v1 v2 v3 s0 M → W p l e rX9_sumOf s m args below meth c H locs 0 0 (MQ below (pd_Qi D g M0 X sz Q) args s 0 0 (va_A (pd_WL g M0 ++ X) sz)) (F0 m 30 ls [.int s0]) := by
  have hx := C.1.1
  have hb := C.1.2.1
  have hown := C.1.2.2.2.1
  have hts := C.1.2.2.2.2
  intro v2 v3 s0 M H locs ls hW hl h
  refine lv_istore (lv' := [(4, .int s0), (0, .ref (g.1 82)), (1, .int v1), (2, .int v2), (3, .int v3)]) hx hb dX9_sumOf_30 hl (by decide) rfl (fun ls hl => ?_)
  refine lv_iload_n hx hb dX9_sumOf_32 rfl (lv_at hl 2 rfl) ?_
  refine lv_iconst (v := 1) hx hb dX9_sumOf_33 (by decide) ?_
  refine lv_icmp_ne (tgt := 53) hx hb dX9_sumOf_34 (by decide) (fun c_4 => ?_) (fun c_4 => ?_)
  · have h := h.1 c_4
    refine lv_iload hx hb dX9_sumOf_53 (lv_at hl 0 rfl) ?_
    refine lv_if_ne (tgt := 112) hx hb dX9_sumOf_55 (by decide) (fun c_5 => ?_) (fun c_5 => ?_)
    · have h := h.1 c_5
      obtain ⟨x3_6, ex3_6⟩ : ∃ y : Int32, y = v3 + 1 := ⟨_, rfl⟩
      have h := h x3_6 ex3_6
      refine lv_iinc (v := x3_6) (lv' := [(3, .int x3_6), (4, .int s0), (0, .ref (g.1 82)), (1, .int v1), (2, .int v2)]) hx hb dX9_sumOf_112 hl (k := 4) rfl (by rw [ex3_6]; rfl) (by decide) rfl (fun ls hl => ?_)
      refine lv_goto (tgt := 4) hx hb dX9_sumOf_115 (by decide) ?_
      exact hB_4 v2 x3_6 M _ _ _ hW (lv_sub hl [2, 3, 4, 0] rfl) h
    · have h := h.2 c_5
      refine lv_iload_n hx hb dX9_sumOf_58 rfl (lv_at hl 3 rfl) ?_
      refine lv_iload_n hx hb dX9_sumOf_59 rfl (lv_at hl 2 rfl) ?_
      refine lv_if_ne (tgt := 86) hx hb dX9_sumOf_60 (by decide) (fun c_7 => ?_) (fun c_7 => ?_)
      · have h := h.1 c_7
        refine lv_aload_n hx hb dX9_sumOf_86 rfl (lv_at hl 1 rfl) ?_
        refine gf_X9_84 C hW dX9_sumOf_87 ?_
        refine lv_iconst (v := 5) hx hb dX9_sumOf_90 (by decide) ?_
        refine lv_iload_n hx hb dX9_sumOf_91 rfl (lv_at hl 4 rfl) ?_
        refine lv_imul hx hb dX9_sumOf_92 ?_
        refine lv_aload_n hx hb dX9_sumOf_93 rfl (lv_at hl 1 rfl) ?_
        refine gf_X9_78 C hW dX9_sumOf_94 ?_
        refine lv_iload_n hx hb dX9_sumOf_97 rfl (lv_at hl 4 rfl) ?_
        have hi_8 := h.1
        have h := h.2
        refine pd_iald C hW kd_104 hi_8 dX9_sumOf_98 ?_
        refine lv_iadd hx hb dX9_sumOf_99 ?_
        have hi_9 := h.1
        have h := h.2
        refine pd_iald C hW kd_106 hi_9 dX9_sumOf_100 ?_
        refine lv_iconst (v := 1) hx hb dX9_sumOf_101 (by decide) ?_
        refine lv_icmp_ne (tgt := 109) hx hb dX9_sumOf_102 (by decide) (fun c_10 => ?_) (fun c_10 => ?_)
        · have h := h.1 c_10
          refine lv_iconst (v := 0) hx hb dX9_sumOf_109 (by decide) ?_
          refine lv_iadd hx hb dX9_sumOf_110 ?_
          refine lv_topi (fun x2_11 ex2_11 => ?_)
          have h := h x2_11 ex2_11
          refine lv_istore_n (lv' := [(2, .int x2_11), (4, .int s0), (0, .ref (g.1 82)), (1, .int v1), (3, .int v3)]) hx hb dX9_sumOf_111 rfl hl (by decide) rfl (fun ls hl => ?_)
          obtain ⟨x3_12, ex3_12⟩ : ∃ y : Int32, y = v3 + 1 := ⟨_, rfl⟩
          have h := h x3_12 ex3_12
          refine lv_iinc (v := x3_12) (lv' := [(3, .int x3_12), (2, .int x2_11), (4, .int s0), (0, .ref (g.1 82)), (1, .int v1)]) hx hb dX9_sumOf_112 hl (k := 4) rfl (by rw [ex3_12]; rfl) (by decide) rfl (fun ls hl => ?_)
          refine lv_goto (tgt := 4) hx hb dX9_sumOf_115 (by decide) ?_
          exact hB_4 x2_11 x3_12 M _ _ _ hW (lv_sub hl [3, 4, 1, 0] rfl) h
        · have h := h.2 c_10
          refine lv_iconst (v := 1) hx hb dX9_sumOf_105 (by decide) ?_
          refine lv_goto (tgt := 110) hx hb dX9_sumOf_106 (by decide) ?_
          refine lv_iadd hx hb dX9_sumOf_110 ?_
          refine lv_topi (fun x2_13 ex2_13 => ?_)
          have h := h x2_13 ex2_13
          refine lv_istore_n (lv' := [(2, .int x2_13), (4, .int s0), (0, .ref (g.1 82)), (1, .int v1), (3, .int v3)]) hx hb dX9_sumOf_111 rfl hl (by decide) rfl (fun ls hl => ?_)
          obtain ⟨x3_14, ex3_14⟩ : ∃ y : Int32, y = v3 + 1 := ⟨_, rfl⟩
          have h := h x3_14 ex3_14
          refine lv_iinc (v := x3_14) (lv' := [(3, .int x3_14), (2, .int x2_13), (4, .int s0), (0, .ref (g.1 82)), (1, .int v1)]) hx hb dX9_sumOf_112 hl (k := 4) rfl (by rw [ex3_14]; rfl) (by decide) rfl (fun ls hl => ?_)
          refine lv_goto (tgt := 4) hx hb dX9_sumOf_115 (by decide) ?_
          exact hB_4 x2_13 x3_14 M _ _ _ hW (lv_sub hl [3, 4, 1, 0] rfl) h
      · have h := h.2 c_7
        refine lv_aload_n hx hb dX9_sumOf_63 rfl (lv_at hl 1 rfl) ?_
        refine gf_X9_19 C hW dX9_sumOf_64 ?_
        refine lv_iconst (v := 5) hx hb dX9_sumOf_67 (by decide) ?_
        refine lv_aload_n hx hb dX9_sumOf_68 rfl (lv_at hl 1 rfl) ?_
        refine gf_X9_25 C hW dX9_sumOf_69 ?_
        refine lv_iload_n hx hb dX9_sumOf_72 rfl (lv_at hl 4 rfl) ?_
        have hi_15 := h.1
        have h := h.2
        refine pd_iald C hW kd_88 hi_15 dX9_sumOf_73 ?_
        refine lv_imul hx hb dX9_sumOf_74 ?_
        refine lv_aload_n hx hb dX9_sumOf_75 rfl (lv_at hl 1 rfl) ?_
        refine gf_X9_78 C hW dX9_sumOf_76 ?_
        refine lv_iload_n hx hb dX9_sumOf_79 rfl (lv_at hl 4 rfl) ?_
        have hi_16 := h.1
        have h := h.2
        refine pd_iald C hW kd_104 hi_16 dX9_sumOf_80 ?_
        refine lv_iadd hx hb dX9_sumOf_81 ?_
        have hi_17 := h.1
        have h := h.2
        refine pd_iald C hW kd_86 hi_17 dX9_sumOf_82 ?_
        refine lv_goto (tgt := 110) hx hb dX9_sumOf_83 (by decide) ?_
        refine lv_iadd hx hb dX9_sumOf_110 ?_
        refine lv_topi (fun x2_18 ex2_18 => ?_)
        have h := h x2_18 ex2_18
        refine lv_istore_n (lv' := [(2, .int x2_18), (4, .int s0), (0, .ref (g.1 82)), (1, .int v1), (3, .int v3)]) hx hb dX9_sumOf_111 rfl hl (by decide) rfl (fun ls hl => ?_)
        obtain ⟨x3_19, ex3_19⟩ : ∃ y : Int32, y = v3 + 1 := ⟨_, rfl⟩
        have h := h x3_19 ex3_19
        refine lv_iinc (v := x3_19) (lv' := [(3, .int x3_19), (2, .int x2_18), (4, .int s0), (0, .ref (g.1 82)), (1, .int v1)]) hx hb dX9_sumOf_112 hl (k := 4) rfl (by rw [ex3_19]; rfl) (by decide) rfl (fun ls hl => ?_)
        refine lv_goto (tgt := 4) hx hb dX9_sumOf_115 (by decide) ?_
        exact hB_4 x2_18 x3_19 M _ _ _ hW (lv_sub hl [3, 4, 1, 0] rfl) h
  · have h := h.2 c_4
    refine lv_iload_n hx hb dX9_sumOf_37 rfl (lv_at hl 3 rfl) ?_
    refine lv_iload hx hb dX9_sumOf_38 (lv_at hl 0 rfl) ?_
    refine lv_if_eq (tgt := 47) hx hb dX9_sumOf_40 (by decide) (fun c_20 => ?_) (fun c_20 => ?_)
    · have h := h.1 c_20
      refine lv_iconst (v := 0) hx hb dX9_sumOf_47 (by decide) ?_
      refine lv_iadd hx hb dX9_sumOf_48 ?_
      refine lv_topi (fun x2_21 ex2_21 => ?_)
      have h := h x2_21 ex2_21
      refine lv_istore_n (lv' := [(2, .int x2_21), (4, .int s0), (0, .ref (g.1 82)), (1, .int v1), (3, .int v3)]) hx hb dX9_sumOf_49 rfl hl (by decide) rfl (fun ls hl => ?_)
      refine lv_goto (tgt := 112) hx hb dX9_sumOf_50 (by decide) ?_
      obtain ⟨x3_22, ex3_22⟩ : ∃ y : Int32, y = v3 + 1 := ⟨_, rfl⟩
      have h := h x3_22 ex3_22
      refine lv_iinc (v := x3_22) (lv' := [(3, .int x3_22), (2, .int x2_21), (4, .int s0), (0, .ref (g.1 82)), (1, .int v1)]) hx hb dX9_sumOf_112 hl (k := 4) rfl (by rw [ex3_22]; rfl) (by decide) rfl (fun ls hl => ?_)
      refine lv_goto (tgt := 4) hx hb dX9_sumOf_115 (by decide) ?_
      exact hB_4 x2_21 x3_22 M _ _ _ hW (lv_sub hl [3, 4, 1, 0] rfl) h
    · have h := h.2 c_20
      refine lv_iconst (v := 1) hx hb dX9_sumOf_43 (by decide) ?_
      refine lv_goto (tgt := 48) hx hb dX9_sumOf_44 (by decide) ?_
      refine lv_iadd hx hb dX9_sumOf_48 ?_
      refine lv_topi (fun x2_23 ex2_23 => ?_)
      have h := h x2_23 ex2_23
      refine lv_istore_n (lv' := [(2, .int x2_23), (4, .int s0), (0, .ref (g.1 82)), (1, .int v1), (3, .int v3)]) hx hb dX9_sumOf_49 rfl hl (by decide) rfl (fun ls hl => ?_)
      refine lv_goto (tgt := 112) hx hb dX9_sumOf_50 (by decide) ?_
      obtain ⟨x3_24, ex3_24⟩ : ∃ y : Int32, y = v3 + 1 := ⟨_, rfl⟩
      have h := h x3_24 ex3_24
      refine lv_iinc (v := x3_24) (lv' := [(3, .int x3_24), (2, .int x2_23), (4, .int s0), (0, .ref (g.1 82)), (1, .int v1)]) hx hb dX9_sumOf_112 hl (k := 4) rfl (by rw [ex3_24]; rfl) (by decide) rfl (fun ls hl => ?_)
      refine lv_goto (tgt := 4) hx hb dX9_sumOf_115 (by decide) ?_
      exact hB_4 x2_23 x3_24 M _ _ _ hW (lv_sub hl [3, 4, 1, 0] rfl) h

def lpX9_sumOf_4 (K : Int32 → pd_M → Prop) (f1 : Int32) : Nat → Int32 → Int32 → pd_M → Prop
  | 0, _, _, _ => False
  | n + 1, v2, v3, M => (((M.1 82 6) ≤ v3 → K v2 M) ∧ (¬ (M.1 82 6) ≤ v3 → (vp_in v3 7 ∧ ((¬ (M.1 104 v3.toNatClampNeg) = (M.1 82 0) → (jnX9_sumOf_30 (lpX9_sumOf_4 K f1 n) f1 v2 v3 0 M)) ∧ ((M.1 104 v3.toNatClampNeg) = (M.1 82 0) → (jnX9_sumOf_30 (lpX9_sumOf_4 K f1 n) f1 v2 v3 1 M))))))

set_option maxRecDepth 100000 in
set_option maxHeartbeats 4000000 in
theorem stX9_sumOf_4 {p : Program} {l : Launch} {e : Env} {s : State} {m : MethodId} {args : Array Value} {below : List Frame} {meth : Method} {c : Code} {D : va_G} {g : pd_G} {t : Nat} {M0 : pd_M} {X : va_W} {A : Nat → Prop} {sz : Nat} {Q : Int32 → pd_M → Prop} (C : pd_C p m c cX9_sumOf 5 s args RX9 meth (Option.some FieldType.int)) (hA : A = va_A (pd_WL g M0 ++ X) sz) {K : Int32 → pd_M → Prop} {f1 : Int32}  (hK : ∀ (p2 : Int32) (M : pd_M) (H : Heap) (locs : List Loc) (ls : Array Slot), pd_W D g t M X A s H locs → lv_has ls 5 [(2, .int p2)] → K p2 M → W p l e rX9_sumOf s m args below meth c H locs 0 0 (MQ below (pd_Qi D g M0 X sz Q) args s 0 0 (va_A (pd_WL g M0 ++ X) sz)) (F0 m 118 ls [])) :
    ∀ (n : Nat) (v2 : Int32) (v3 : Int32) (M : pd_M) (H : Heap) (locs : List Loc) (ls : Array Slot), pd_W D g t M X A s H locs → lv_has ls 5 [(0, .ref (g.1 82)), (1, .int f1), (2, .int v2), (3, .int v3)] → lpX9_sumOf_4 K f1 n v2 v3 M → W p l e rX9_sumOf s m args below meth c H locs 0 0 (MQ below (pd_Qi D g M0 X sz Q) args s 0 0 (va_A (pd_WL g M0 ++ X) sz)) (F0 m 4 ls []) := by
  have hx := C.1.1
  have hb := C.1.2.1
  have hown := C.1.2.2.2.1
  have hts := C.1.2.2.2.2
  intro n
  induction n with
  | zero => intro v2 v3 M H locs ls hW hl h; exact h.elim
  | succ n ih =>
    intro v2 v3 M H locs ls hW hl h
    refine lv_iload_n hx hb dX9_sumOf_4 rfl (lv_at hl 3 rfl) ?_
    refine lv_aload_n hx hb dX9_sumOf_5 rfl (lv_at hl 0 rfl) ?_
    refine gf_X9_94 C hW dX9_sumOf_6 ?_
    refine lv_icmp_ge (tgt := 118) hx hb dX9_sumOf_9 (by decide) (fun c_1 => ?_) (fun c_1 => ?_)
    · have h := h.1 c_1
      exact hK v2 M _ _ _ hW (lv_sub hl [2] rfl) h
    · have h := h.2 c_1
      refine lv_aload_n hx hb dX9_sumOf_12 rfl (lv_at hl 0 rfl) ?_
      refine gf_X9_78 C hW dX9_sumOf_13 ?_
      refine lv_iload_n hx hb dX9_sumOf_16 rfl (lv_at hl 3 rfl) ?_
      have hi_2 := h.1
      have h := h.2
      refine pd_iald C hW kd_104 hi_2 dX9_sumOf_17 ?_
      refine lv_aload_n hx hb dX9_sumOf_18 rfl (lv_at hl 0 rfl) ?_
      refine gf_X9_87 C hW dX9_sumOf_19 ?_
      refine lv_icmp_ne (tgt := 29) hx hb dX9_sumOf_22 (by decide) (fun c_3 => ?_) (fun c_3 => ?_)
      · have h := h.1 c_3
        refine lv_iconst (v := 0) hx hb dX9_sumOf_29 (by decide) ?_
        exact stX9_sumOf_30 C hA ih v2 v3 0 M _ _ _ hW (lv_sub hl [0, 1, 2, 3] rfl) h
      · have h := h.2 c_3
        refine lv_iconst (v := 1) hx hb dX9_sumOf_25 (by decide) ?_
        refine lv_goto (tgt := 30) hx hb dX9_sumOf_26 (by decide) ?_
        exact stX9_sumOf_30 C hA ih v2 v3 1 M _ _ _ hW (lv_sub hl [0, 1, 2, 3] rfl) h

def wX9_sumOf (Q : Int32 → pd_M → Prop) (a1 : Int32) (M : pd_M) : Prop := (∃ k_4 : Nat, lpX9_sumOf_4 (fun x2_26 M_25 => Q x2_26 M_25) a1 k_4 0 0 M)

set_option maxRecDepth 100000 in
set_option maxHeartbeats 4000000 in
theorem mX9_sumOf {l : Launch} {D : va_G} {g : pd_G} {t : Nat} {X : va_W} {Q : Int32 → pd_M → Prop} {a1 : Int32} {M : pd_M} {sz : Nat} (h : wX9_sumOf Q a1 M) : Met l yX9_sumOf (Cond.code yX9_sumOf cX9_sumOf 5 (Option.some FieldType.int) :: TB) rX9_sumOf (pd_Pre D g t M X sz [.ref (g.1 82), .int a1]) (pd_Qi D g M X sz Q) 0 0 (va_A (pd_WL g M ++ X) sz) := by
  refine pd_met (by decide) (Nat.le_of_ble_eq_true rfl) ?_
  intro p e s m below meth c A ls C hA hW hl
  have C : pd_C p m c cX9_sumOf 5 s _ RX9 meth (Option.some FieldType.int) := C
  have hx := C.1.1
  have hb := C.1.2.1
  have hown := C.1.2.2.2.1
  have hts := C.1.2.2.2.2
  have hl : lv_has ls 5 [(0, .ref (g.1 82)), (1, .int a1)] := hl
  refine lv_iconst (v := 0) hx hb dX9_sumOf_0 (by decide) ?_
  refine lv_istore_n (lv' := [(2, .int 0), (0, .ref (g.1 82)), (1, .int a1)]) hx hb dX9_sumOf_1 rfl hl (by decide) rfl (fun ls hl => ?_)
  refine lv_iconst (v := 0) hx hb dX9_sumOf_2 (by decide) ?_
  refine lv_istore_n (lv' := [(3, .int 0), (2, .int 0), (0, .ref (g.1 82)), (1, .int a1)]) hx hb dX9_sumOf_3 rfl hl (by decide) rfl (fun ls hl => ?_)
  obtain ⟨k_4, h⟩ := h
  refine stX9_sumOf_4 C hA (fun x2_26 M_25 H locs ls hW hl h => ?_) k_4 0 0 M _ _ _ hW (lv_sub hl [2, 3, 1, 0] rfl) h
  refine lv_iload_n hx hb dX9_sumOf_118 rfl (lv_at hl 0 rfl) ?_
  exact pd_iret C hA hW h dX9_sumOf_119

theorem dd_X9_sumOf : yX9_sumOf.cls ≠ "java/lang/invoke/MethodHandle" ∧ yX9_sumOf.cls ≠ "java/lang/invoke/VarHandle" ∧ (parseMethodDescriptor yX9_sumOf.desc).map (fun d => d.parameters.length) = some 1 := by decide +kernel
theorem cl_X9_153 {p : Program} {l : Launch} {e : Env} {R : Room} {s : State} {m : MethodId} {args : Array Value} {below : List Frame} {meth : Method} {c : Code} {H : Heap} {locs : List Loc} {cells slots : Nat} {QQ : State → Prop} {cc : ByteArray} {pc : Nat} {ls : Array Slot} {rest : List Value} {D : va_G} {g : pd_G} {t : Nat} {M : pd_M} {X : va_W} {A : Nat → Prop} {nL : Nat} {ret : Option FieldType} {Qc : Int32 → pd_M → Prop} {a1 : Int32} (C : pd_C p m c cc nL s args RX9 meth ret) (hW : pd_W D g t M X A s H locs) (h : wX9_sumOf Qc a1 M) (hR : rX9_sumOf.frames + 1 ≤ R.frames ∧ 8 + (5 + 11) + rX9_sumOf.locals ≤ R.locals) (hcs : cells ≤ R.cells ∧ slots ≤ R.slots) (hls : ls.size = nL) (hw8 : (rest.map fun v => v.category).sum ≤ 8) (hdg : decode cc pc = .ok (.invokevirtual 153, 3))
    (kk : ∀ (r : Int32) (M1 : pd_M) (H1 : Heap) (locs1 : List Loc), Qc r M1 → pd_W D g t M1 X A s H1 locs1 → W p l e R s m args below meth c H1 locs1 cells slots QQ (F0 m (pc + 3) ls (.int r :: rest))) : W p l e R s m args below meth c H locs cells slots QQ (F0 m pc ls (.int a1 :: .ref (g.1 82) :: rest)) :=
  pd_callVi (As := [.int a1]) C hW (mX9_sumOf h) kd_82 rfl mM_X9_153 mO_yX9_sumOf mV_yX9_sumOf mI_X9 mC_yX9_sumOf dd_X9_sumOf ⟨rfl, rfl⟩ hR hcs hls rfl hw8 hdg kk
abbrev rX9_told : Room := { frames := 5, cells := 0, slots := 0, locals := 122 }
def wX9_told (Q : Int32 → pd_M → Prop) (a1 : Int32) (a2 : Int32) (a3 : Int32) (a4 : Int32) (M : pd_M) : Prop := wX9_isNight (fun r_2 M_1 => ((r_2 = 0 → Q (-1) M_1) ∧ (¬ r_2 = 0 → wX9_isHour (fun r_5 M_4 => ((r_5 = 0 → Q (-1) M_4) ∧ (¬ r_5 = 0 → wX9_in (fun r_8 M_7 => ((¬ r_8 = 0 → wX9_park (fun M_10 => wX9_sumOf (fun r_12 M_11 => Q r_12 M_11) a3 M_10) a1 a2 a4 M_7) ∧ (r_8 = 0 → Q (-1) M_7))) a3 0 2 M_4))) a2 M_1))) a1 M

set_option maxRecDepth 100000 in
set_option maxHeartbeats 4000000 in
theorem mX9_told {l : Launch} {D : va_G} {g : pd_G} {t : Nat} {X : va_W} {Q : Int32 → pd_M → Prop} {a1 : Int32} {a2 : Int32} {a3 : Int32} {a4 : Int32} {M : pd_M} {sz : Nat} (h : wX9_told Q a1 a2 a3 a4 M) : Met l yX9_told (Cond.code yX9_told cX9_told 5 (Option.some FieldType.int) :: TB) rX9_told (pd_Pre D g t M X sz [.ref (g.1 82), .int a1, .int a2, .int a3, .int a4]) (pd_Qi D g M X sz Q) 0 0 (va_A (pd_WL g M ++ X) sz) := by
  refine pd_met (by decide) (Nat.le_of_ble_eq_true rfl) ?_
  intro p e s m below meth c A ls C hA hW hl
  have C : pd_C p m c cX9_told 5 s _ RX9 meth (Option.some FieldType.int) := C
  have hx := C.1.1
  have hb := C.1.2.1
  have hown := C.1.2.2.2.1
  have hts := C.1.2.2.2.2
  have hl : lv_has ls 5 [(0, .ref (g.1 82)), (1, .int a1), (2, .int a2), (3, .int a3), (4, .int a4)] := hl
  refine lv_iload_n hx hb dX9_told_0 rfl (lv_at hl 1 rfl) ?_
  refine cl_X9_104 C hW h ⟨by decide, by decide⟩ ⟨Nat.zero_le _, Nat.zero_le _⟩ hl.1 (Nat.le_of_ble_eq_true rfl) dX9_told_1 (fun r_2 M_1 H locs h hW => ?_)
  refine lv_if_eq (tgt := 23) hx hb dX9_told_4 (by decide) (fun c_3 => ?_) (fun c_3 => ?_)
  · have h := h.1 c_3
    refine lv_iconst (v := (-1)) hx hb dX9_told_23 (by decide) ?_
    exact pd_iret C hA hW h dX9_told_24
  · have h := h.2 c_3
    refine lv_iload_n hx hb dX9_told_7 rfl (lv_at hl 2 rfl) ?_
    refine cl_X9_107 C hW h ⟨by decide, by decide⟩ ⟨Nat.zero_le _, Nat.zero_le _⟩ hl.1 (Nat.le_of_ble_eq_true rfl) dX9_told_8 (fun r_5 M_4 H locs h hW => ?_)
    refine lv_if_eq (tgt := 23) hx hb dX9_told_11 (by decide) (fun c_6 => ?_) (fun c_6 => ?_)
    · have h := h.1 c_6
      refine lv_iconst (v := (-1)) hx hb dX9_told_23 (by decide) ?_
      exact pd_iret C hA hW h dX9_told_24
    · have h := h.2 c_6
      refine lv_iload_n hx hb dX9_told_14 rfl (lv_at hl 3 rfl) ?_
      refine lv_iconst (v := 0) hx hb dX9_told_15 (by decide) ?_
      refine lv_iconst (v := 2) hx hb dX9_told_16 (by decide) ?_
      refine cl_X9_90 C hW h ⟨by decide, by decide⟩ ⟨Nat.zero_le _, Nat.zero_le _⟩ hl.1 (Nat.le_of_ble_eq_true rfl) dX9_told_17 (fun r_8 M_7 H locs h hW => ?_)
      refine lv_if_ne (tgt := 25) hx hb dX9_told_20 (by decide) (fun c_9 => ?_) (fun c_9 => ?_)
      · have h := h.1 c_9
        refine lv_aload_n hx hb dX9_told_25 rfl (lv_at hl 0 rfl) ?_
        refine lv_iload_n hx hb dX9_told_26 rfl (lv_at hl 1 rfl) ?_
        refine lv_iload_n hx hb dX9_told_27 rfl (lv_at hl 2 rfl) ?_
        refine lv_iload hx hb dX9_told_28 (lv_at hl 4 rfl) ?_
        refine cl_X9_149 C hW h ⟨by decide, by decide⟩ ⟨Nat.zero_le _, Nat.zero_le _⟩ hl.1 (by decide) dX9_told_30 (fun M_10 H locs h hW => ?_)
        refine lv_aload_n hx hb dX9_told_33 rfl (lv_at hl 0 rfl) ?_
        refine lv_iload_n hx hb dX9_told_34 rfl (lv_at hl 3 rfl) ?_
        refine cl_X9_153 C hW h ⟨by decide, by decide⟩ ⟨Nat.zero_le _, Nat.zero_le _⟩ hl.1 (Nat.le_of_ble_eq_true rfl) dX9_told_35 (fun r_12 M_11 H locs h hW => ?_)
        exact pd_iret C hA hW h dX9_told_38
      · have h := h.2 c_9
        refine lv_iconst (v := (-1)) hx hb dX9_told_23 (by decide) ?_
        exact pd_iret C hA hW h dX9_told_24

theorem dd_X9_told : yX9_told.cls ≠ "java/lang/invoke/MethodHandle" ∧ yX9_told.cls ≠ "java/lang/invoke/VarHandle" ∧ (parseMethodDescriptor yX9_told.desc).map (fun d => d.parameters.length) = some 4 := by decide +kernel
theorem cl_L_73 {p : Program} {l : Launch} {e : Env} {R : Room} {s : State} {m : MethodId} {args : Array Value} {below : List Frame} {meth : Method} {c : Code} {H : Heap} {locs : List Loc} {cells slots : Nat} {QQ : State → Prop} {cc : ByteArray} {pc : Nat} {ls : Array Slot} {rest : List Value} {D : va_G} {g : pd_G} {t : Nat} {M : pd_M} {X : va_W} {A : Nat → Prop} {nL : Nat} {ret : Option FieldType} {Qc : Int32 → pd_M → Prop} {a1 : Int32} {a2 : Int32} {a3 : Int32} {a4 : Int32} (C : pd_C p m c cc nL s args RL meth ret) (hW : pd_W D g t M X A s H locs) (h : wX9_told Qc a1 a2 a3 a4 M) (hR : rX9_told.frames + 1 ≤ R.frames ∧ 8 + (5 + 11) + rX9_told.locals ≤ R.locals) (hcs : cells ≤ R.cells ∧ slots ≤ R.slots) (hls : ls.size = nL) (hw8 : (rest.map fun v => v.category).sum ≤ 8) (hdg : decode cc pc = .ok (.invokevirtual 73, 3))
    (kk : ∀ (r : Int32) (M1 : pd_M) (H1 : Heap) (locs1 : List Loc), Qc r M1 → pd_W D g t M1 X A s H1 locs1 → W p l e R s m args below meth c H1 locs1 cells slots QQ (F0 m (pc + 3) ls (.int r :: rest))) : W p l e R s m args below meth c H locs cells slots QQ (F0 m pc ls (.int a4 :: .int a3 :: .int a2 :: .int a1 :: .ref (g.1 82) :: rest)) :=
  pd_callVi (As := [.int a1, .int a2, .int a3, .int a4]) C hW (mX9_told h) kd_82 rfl mM_L_73 mO_yX9_told mV_yX9_told mI_X9 mC_yX9_told dd_X9_told ⟨rfl, rfl⟩ hR hcs hls rfl hw8 hdg kk
abbrev rX9_keep : Room := { frames := 5, cells := 0, slots := 0, locals := 122 }
def lpX9_keep_32 (K : pd_M → Prop) (f3 : Int32) : Nat → Int32 → pd_M → Prop
  | 0, _, _ => False
  | n + 1, v4, M => (((M.1 82 6) ≤ v4 → K M) ∧ (¬ (M.1 82 6) ≤ v4 → (vp_in v4 7 ∧ (((M.1 82 0) ≤ (M.1 104 v4.toNatClampNeg) → ∀ x4_13 : Int32, x4_13 = v4 + 1 → lpX9_keep_32 K f3 n x4_13 M) ∧ (¬ (M.1 82 0) ≤ (M.1 104 v4.toNatClampNeg) → (vp_in v4 7 ∧ (vp_in ((5 * v4) + (M.1 104 v4.toNatClampNeg)) 35 ∧ ((¬ (M.1 106 ((5 * v4) + (M.1 104 v4.toNatClampNeg)).toNatClampNeg) = 1 → ∀ x4_17 : Int32, x4_17 = v4 + 1 → lpX9_keep_32 K f3 n x4_17 M) ∧ ((M.1 106 ((5 * v4) + (M.1 104 v4.toNatClampNeg)).toNatClampNeg) = 1 → (vp_in v4 7 ∧ (vp_in (M.1 104 v4.toNatClampNeg) 5 ∧ (vp_in ((4 * v4) + (M.1 83 (M.1 104 v4.toNatClampNeg).toNatClampNeg)) 28 ∧ (vp_in ((4 * v4) + (M.1 83 (M.1 104 v4.toNatClampNeg).toNatClampNeg)) 28 ∧ ∀ M_22 : pd_M, M_22 = sI M 90 ((4 * v4) + (M.1 83 (M.1 104 v4.toNatClampNeg).toNatClampNeg)).toNatClampNeg ((M.1 90 ((4 * v4) + (M.1 83 (M.1 104 v4.toNatClampNeg).toNatClampNeg)).toNatClampNeg) - 1) → ∀ x4_23 : Int32, x4_23 = v4 + 1 → lpX9_keep_32 K f3 n x4_23 M_22)))))))))))))

set_option maxRecDepth 100000 in
set_option maxHeartbeats 4000000 in
theorem stX9_keep_32 {p : Program} {l : Launch} {e : Env} {s : State} {m : MethodId} {args : Array Value} {below : List Frame} {meth : Method} {c : Code} {D : va_G} {g : pd_G} {t : Nat} {M0 : pd_M} {X : va_W} {A : Nat → Prop} {sz : Nat} {Q : Int32 → pd_M → Prop} (C : pd_C p m c cX9_keep 5 s args RX9 meth (Option.some FieldType.int)) (hA : A = va_A (pd_WL g M0 ++ X) sz) {K : pd_M → Prop} {f3 : Int32}  (hK : ∀  (M : pd_M) (H : Heap) (locs : List Loc) (ls : Array Slot), pd_W D g t M X A s H locs → lv_has ls 5 [(3, .int f3)] → K  M → W p l e rX9_keep s m args below meth c H locs 0 0 (MQ below (pd_Qi D g M0 X sz Q) args s 0 0 (va_A (pd_WL g M0 ++ X) sz)) (F0 m 108 ls [])) :
    ∀ (n : Nat) (v4 : Int32) (M : pd_M) (H : Heap) (locs : List Loc) (ls : Array Slot), pd_W D g t M X A s H locs → lv_has ls 5 [(0, .ref (g.1 82)), (3, .int f3), (4, .int v4)] → lpX9_keep_32 K f3 n v4 M → W p l e rX9_keep s m args below meth c H locs 0 0 (MQ below (pd_Qi D g M0 X sz Q) args s 0 0 (va_A (pd_WL g M0 ++ X) sz)) (F0 m 32 ls []) := by
  have hx := C.1.1
  have hb := C.1.2.1
  have hown := C.1.2.2.2.1
  have hts := C.1.2.2.2.2
  intro n
  induction n with
  | zero => intro v4 M H locs ls hW hl h; exact h.elim
  | succ n ih =>
    intro v4 M H locs ls hW hl h
    refine lv_iload hx hb dX9_keep_32 (lv_at hl 2 rfl) ?_
    refine lv_aload_n hx hb dX9_keep_34 rfl (lv_at hl 0 rfl) ?_
    refine gf_X9_94 C hW dX9_keep_35 ?_
    refine lv_icmp_ge (tgt := 108) hx hb dX9_keep_38 (by decide) (fun c_10 => ?_) (fun c_10 => ?_)
    · have h := h.1 c_10
      exact hK M _ _ _ hW (lv_sub hl [1] rfl) h
    · have h := h.2 c_10
      refine lv_aload_n hx hb dX9_keep_41 rfl (lv_at hl 0 rfl) ?_
      refine gf_X9_78 C hW dX9_keep_42 ?_
      refine lv_iload hx hb dX9_keep_45 (lv_at hl 2 rfl) ?_
      have hi_11 := h.1
      have h := h.2
      refine pd_iald C hW kd_104 hi_11 dX9_keep_47 ?_
      refine lv_aload_n hx hb dX9_keep_48 rfl (lv_at hl 0 rfl) ?_
      refine gf_X9_87 C hW dX9_keep_49 ?_
      refine lv_icmp_ge (tgt := 102) hx hb dX9_keep_52 (by decide) (fun c_12 => ?_) (fun c_12 => ?_)
      · have h := h.1 c_12
        obtain ⟨x4_13, ex4_13⟩ : ∃ y : Int32, y = v4 + 1 := ⟨_, rfl⟩
        have h := h x4_13 ex4_13
        refine lv_iinc (v := x4_13) (lv' := [(4, .int x4_13), (0, .ref (g.1 82)), (3, .int f3)]) hx hb dX9_keep_102 hl (k := 2) rfl (by rw [ex4_13]; rfl) (by decide) rfl (fun ls hl => ?_)
        refine lv_goto (tgt := 32) hx hb dX9_keep_105 (by decide) ?_
        exact ih x4_13 M _ _ _ hW (lv_sub hl [1, 2, 0] rfl) h
      · have h := h.2 c_12
        refine lv_aload_n hx hb dX9_keep_55 rfl (lv_at hl 0 rfl) ?_
        refine gf_X9_84 C hW dX9_keep_56 ?_
        refine lv_iconst (v := 5) hx hb dX9_keep_59 (by decide) ?_
        refine lv_iload hx hb dX9_keep_60 (lv_at hl 2 rfl) ?_
        refine lv_imul hx hb dX9_keep_62 ?_
        refine lv_aload_n hx hb dX9_keep_63 rfl (lv_at hl 0 rfl) ?_
        refine gf_X9_78 C hW dX9_keep_64 ?_
        refine lv_iload hx hb dX9_keep_67 (lv_at hl 2 rfl) ?_
        have hi_14 := h.1
        have h := h.2
        refine pd_iald C hW kd_104 hi_14 dX9_keep_69 ?_
        refine lv_iadd hx hb dX9_keep_70 ?_
        have hi_15 := h.1
        have h := h.2
        refine pd_iald C hW kd_106 hi_15 dX9_keep_71 ?_
        refine lv_iconst (v := 1) hx hb dX9_keep_72 (by decide) ?_
        refine lv_icmp_ne (tgt := 102) hx hb dX9_keep_73 (by decide) (fun c_16 => ?_) (fun c_16 => ?_)
        · have h := h.1 c_16
          obtain ⟨x4_17, ex4_17⟩ : ∃ y : Int32, y = v4 + 1 := ⟨_, rfl⟩
          have h := h x4_17 ex4_17
          refine lv_iinc (v := x4_17) (lv' := [(4, .int x4_17), (0, .ref (g.1 82)), (3, .int f3)]) hx hb dX9_keep_102 hl (k := 2) rfl (by rw [ex4_17]; rfl) (by decide) rfl (fun ls hl => ?_)
          refine lv_goto (tgt := 32) hx hb dX9_keep_105 (by decide) ?_
          exact ih x4_17 M _ _ _ hW (lv_sub hl [1, 2, 0] rfl) h
        · have h := h.2 c_16
          refine lv_aload_n hx hb dX9_keep_76 rfl (lv_at hl 0 rfl) ?_
          refine gf_X9_32 C hW dX9_keep_77 ?_
          refine lv_iconst (v := 4) hx hb dX9_keep_80 (by decide) ?_
          refine lv_iload hx hb dX9_keep_81 (lv_at hl 2 rfl) ?_
          refine lv_imul hx hb dX9_keep_83 ?_
          refine lv_aload_n hx hb dX9_keep_84 rfl (lv_at hl 0 rfl) ?_
          refine gf_X9_7 C hW dX9_keep_85 ?_
          refine lv_aload_n hx hb dX9_keep_88 rfl (lv_at hl 0 rfl) ?_
          refine gf_X9_78 C hW dX9_keep_89 ?_
          refine lv_iload hx hb dX9_keep_92 (lv_at hl 2 rfl) ?_
          have hi_18 := h.1
          have h := h.2
          refine pd_iald C hW kd_104 hi_18 dX9_keep_94 ?_
          have hi_19 := h.1
          have h := h.2
          refine pd_iald C hW kd_83 hi_19 dX9_keep_95 ?_
          refine lv_iadd hx hb dX9_keep_96 ?_
          refine lv_dup2_11 hx hb dX9_keep_97 rfl rfl ?_
          have hi_20 := h.1
          have h := h.2
          refine pd_iald C hW kd_90 hi_20 dX9_keep_98 ?_
          refine lv_iconst (v := 1) hx hb dX9_keep_99 (by decide) ?_
          refine lv_isub hx hb dX9_keep_100 ?_
          have hi_21 := h.1
          have h := h.2
          refine pd_iast C hW kd_90 hi_21 dX9_keep_101 (fun M_22 H locs eM_22 hW => ?_)
          have h := h M_22 eM_22
          obtain ⟨x4_23, ex4_23⟩ : ∃ y : Int32, y = v4 + 1 := ⟨_, rfl⟩
          have h := h x4_23 ex4_23
          refine lv_iinc (v := x4_23) (lv' := [(4, .int x4_23), (0, .ref (g.1 82)), (3, .int f3)]) hx hb dX9_keep_102 hl (k := 2) rfl (by rw [ex4_23]; rfl) (by decide) rfl (fun ls hl => ?_)
          refine lv_goto (tgt := 32) hx hb dX9_keep_105 (by decide) ?_
          exact ih x4_23 M_22 _ _ _ hW (lv_sub hl [1, 2, 0] rfl) h

def wX9_keep (Q : Int32 → pd_M → Prop) (a1 : Int32) (a2 : Int32) (M : pd_M) : Prop := wX9_isNight (fun r_2 M_1 => ((r_2 = 0 → Q (-1) M_1) ∧ (¬ r_2 = 0 → wX9_isHour (fun r_5 M_4 => ((¬ r_5 = 0 → wX9_park (fun M_7 => wX9_sumOf (fun r_9 M_8 => (∃ k_32 : Nat, lpX9_keep_32 (fun M_24 => Q r_9 M_24) r_9 k_32 0 M_8)) 2 M_7) a1 a2 0 M_4) ∧ (r_5 = 0 → Q (-1) M_4))) a2 M_1))) a1 M

set_option maxRecDepth 100000 in
set_option maxHeartbeats 4000000 in
theorem mX9_keep {l : Launch} {D : va_G} {g : pd_G} {t : Nat} {X : va_W} {Q : Int32 → pd_M → Prop} {a1 : Int32} {a2 : Int32} {M : pd_M} {sz : Nat} (h : wX9_keep Q a1 a2 M) : Met l yX9_keep (Cond.code yX9_keep cX9_keep 5 (Option.some FieldType.int) :: TB) rX9_keep (pd_Pre D g t M X sz [.ref (g.1 82), .int a1, .int a2]) (pd_Qi D g M X sz Q) 0 0 (va_A (pd_WL g M ++ X) sz) := by
  refine pd_met (by decide) (Nat.le_of_ble_eq_true rfl) ?_
  intro p e s m below meth c A ls C hA hW hl
  have C : pd_C p m c cX9_keep 5 s _ RX9 meth (Option.some FieldType.int) := C
  have hx := C.1.1
  have hb := C.1.2.1
  have hown := C.1.2.2.2.1
  have hts := C.1.2.2.2.2
  have hl : lv_has ls 5 [(0, .ref (g.1 82)), (1, .int a1), (2, .int a2)] := hl
  refine lv_iload_n hx hb dX9_keep_0 rfl (lv_at hl 1 rfl) ?_
  refine cl_X9_104 C hW h ⟨by decide, by decide⟩ ⟨Nat.zero_le _, Nat.zero_le _⟩ hl.1 (Nat.le_of_ble_eq_true rfl) dX9_keep_1 (fun r_2 M_1 H locs h hW => ?_)
  refine lv_if_eq (tgt := 14) hx hb dX9_keep_4 (by decide) (fun c_3 => ?_) (fun c_3 => ?_)
  · have h := h.1 c_3
    refine lv_iconst (v := (-1)) hx hb dX9_keep_14 (by decide) ?_
    exact pd_iret C hA hW h dX9_keep_15
  · have h := h.2 c_3
    refine lv_iload_n hx hb dX9_keep_7 rfl (lv_at hl 2 rfl) ?_
    refine cl_X9_107 C hW h ⟨by decide, by decide⟩ ⟨Nat.zero_le _, Nat.zero_le _⟩ hl.1 (Nat.le_of_ble_eq_true rfl) dX9_keep_8 (fun r_5 M_4 H locs h hW => ?_)
    refine lv_if_ne (tgt := 16) hx hb dX9_keep_11 (by decide) (fun c_6 => ?_) (fun c_6 => ?_)
    · have h := h.1 c_6
      refine lv_aload_n hx hb dX9_keep_16 rfl (lv_at hl 0 rfl) ?_
      refine lv_iload_n hx hb dX9_keep_17 rfl (lv_at hl 1 rfl) ?_
      refine lv_iload_n hx hb dX9_keep_18 rfl (lv_at hl 2 rfl) ?_
      refine lv_iconst (v := 0) hx hb dX9_keep_19 (by decide) ?_
      refine cl_X9_149 C hW h ⟨by decide, by decide⟩ ⟨Nat.zero_le _, Nat.zero_le _⟩ hl.1 (by decide) dX9_keep_20 (fun M_7 H locs h hW => ?_)
      refine lv_aload_n hx hb dX9_keep_23 rfl (lv_at hl 0 rfl) ?_
      refine lv_iconst (v := 2) hx hb dX9_keep_24 (by decide) ?_
      refine cl_X9_153 C hW h ⟨by decide, by decide⟩ ⟨Nat.zero_le _, Nat.zero_le _⟩ hl.1 (Nat.le_of_ble_eq_true rfl) dX9_keep_25 (fun r_9 M_8 H locs h hW => ?_)
      refine lv_istore_n (lv' := [(3, .int r_9), (0, .ref (g.1 82)), (1, .int a1), (2, .int a2)]) hx hb dX9_keep_28 rfl hl (by decide) rfl (fun ls hl => ?_)
      refine lv_iconst (v := 0) hx hb dX9_keep_29 (by decide) ?_
      refine lv_istore (lv' := [(4, .int 0), (3, .int r_9), (0, .ref (g.1 82)), (1, .int a1), (2, .int a2)]) hx hb dX9_keep_30 hl (by decide) rfl (fun ls hl => ?_)
      obtain ⟨k_32, h⟩ := h
      refine stX9_keep_32 C hA (fun M_24 H locs ls hW hl h => ?_) k_32 0 M_8 _ _ _ hW (lv_sub hl [2, 1, 0] rfl) h
      refine lv_iload_n hx hb dX9_keep_108 rfl (lv_at hl 0 rfl) ?_
      exact pd_iret C hA hW h dX9_keep_109
    · have h := h.2 c_6
      refine lv_iconst (v := (-1)) hx hb dX9_keep_14 (by decide) ?_
      exact pd_iret C hA hW h dX9_keep_15

theorem dd_X9_keep : yX9_keep.cls ≠ "java/lang/invoke/MethodHandle" ∧ yX9_keep.cls ≠ "java/lang/invoke/VarHandle" ∧ (parseMethodDescriptor yX9_keep.desc).map (fun d => d.parameters.length) = some 2 := by decide +kernel
theorem cl_L_77 {p : Program} {l : Launch} {e : Env} {R : Room} {s : State} {m : MethodId} {args : Array Value} {below : List Frame} {meth : Method} {c : Code} {H : Heap} {locs : List Loc} {cells slots : Nat} {QQ : State → Prop} {cc : ByteArray} {pc : Nat} {ls : Array Slot} {rest : List Value} {D : va_G} {g : pd_G} {t : Nat} {M : pd_M} {X : va_W} {A : Nat → Prop} {nL : Nat} {ret : Option FieldType} {Qc : Int32 → pd_M → Prop} {a1 : Int32} {a2 : Int32} (C : pd_C p m c cc nL s args RL meth ret) (hW : pd_W D g t M X A s H locs) (h : wX9_keep Qc a1 a2 M) (hR : rX9_keep.frames + 1 ≤ R.frames ∧ 8 + (5 + 11) + rX9_keep.locals ≤ R.locals) (hcs : cells ≤ R.cells ∧ slots ≤ R.slots) (hls : ls.size = nL) (hw8 : (rest.map fun v => v.category).sum ≤ 8) (hdg : decode cc pc = .ok (.invokevirtual 77, 3))
    (kk : ∀ (r : Int32) (M1 : pd_M) (H1 : Heap) (locs1 : List Loc), Qc r M1 → pd_W D g t M1 X A s H1 locs1 → W p l e R s m args below meth c H1 locs1 cells slots QQ (F0 m (pc + 3) ls (.int r :: rest))) : W p l e R s m args below meth c H locs cells slots QQ (F0 m pc ls (.int a2 :: .int a1 :: .ref (g.1 82) :: rest)) :=
  pd_callVi (As := [.int a1, .int a2]) C hW (mX9_keep h) kd_82 rfl mM_L_77 mO_yX9_keep mV_yX9_keep mI_X9 mC_yX9_keep dd_X9_keep ⟨rfl, rfl⟩ hR hcs hls rfl hw8 hdg kk
abbrev rX9_moved : Room := { frames := 5, cells := 0, slots := 0, locals := 122 }
def wX9_moved (Q : Int32 → pd_M → Prop) (a1 : Int32) (a2 : Int32) (a3 : Int32) (a4 : Int32) (a5 : Int32) (M : pd_M) : Prop := wX9_isNight (fun r_2 M_1 => ((r_2 = 0 → Q (-1) M_1) ∧ (¬ r_2 = 0 → wX9_isHour (fun r_5 M_4 => ((r_5 = 0 → Q (-1) M_4) ∧ (¬ r_5 = 0 → wX9_isStreet (fun r_8 M_7 => ((r_8 = 0 → Q (-1) M_7) ∧ (¬ r_8 = 0 → wX9_isZone (fun r_11 M_10 => ((r_11 = 0 → Q (-1) M_10) ∧ (¬ r_11 = 0 → wX9_in (fun r_14 M_13 => ((¬ r_14 = 0 → (vp_in a3 5 ∧ ∀ x6_17 : Int32, x6_17 = (M_13.1 83 a3.toNatClampNeg) → (vp_in a3 5 ∧ ∀ M_19 : pd_M, M_19 = sI M_13 83 a3.toNatClampNeg a4 → wX9_park (fun M_20 => wX9_sumOf (fun r_22 M_21 => (vp_in a3 5 ∧ ∀ M_24 : pd_M, M_24 = sI M_21 83 a3.toNatClampNeg x6_17 → Q r_22 M_24)) a5 M_20) a1 a2 1 M_19))) ∧ (r_14 = 0 → Q (-1) M_13))) a5 0 1 M_10))) a4 M_7))) a3 M_4))) a2 M_1))) a1 M

set_option maxRecDepth 100000 in
set_option maxHeartbeats 4000000 in
theorem mX9_moved {l : Launch} {D : va_G} {g : pd_G} {t : Nat} {X : va_W} {Q : Int32 → pd_M → Prop} {a1 : Int32} {a2 : Int32} {a3 : Int32} {a4 : Int32} {a5 : Int32} {M : pd_M} {sz : Nat} (h : wX9_moved Q a1 a2 a3 a4 a5 M) : Met l yX9_moved (Cond.code yX9_moved cX9_moved 8 (Option.some FieldType.int) :: TB) rX9_moved (pd_Pre D g t M X sz [.ref (g.1 82), .int a1, .int a2, .int a3, .int a4, .int a5]) (pd_Qi D g M X sz Q) 0 0 (va_A (pd_WL g M ++ X) sz) := by
  refine pd_met (by decide) (Nat.le_of_ble_eq_true rfl) ?_
  intro p e s m below meth c A ls C hA hW hl
  have C : pd_C p m c cX9_moved 8 s _ RX9 meth (Option.some FieldType.int) := C
  have hx := C.1.1
  have hb := C.1.2.1
  have hown := C.1.2.2.2.1
  have hts := C.1.2.2.2.2
  have hl : lv_has ls 8 [(0, .ref (g.1 82)), (1, .int a1), (2, .int a2), (3, .int a3), (4, .int a4), (5, .int a5)] := hl
  refine lv_iload_n hx hb dX9_moved_0 rfl (lv_at hl 1 rfl) ?_
  refine cl_X9_104 C hW h ⟨by decide, by decide⟩ ⟨Nat.zero_le _, Nat.zero_le _⟩ hl.1 (Nat.le_of_ble_eq_true rfl) dX9_moved_1 (fun r_2 M_1 H locs h hW => ?_)
  refine lv_if_eq (tgt := 40) hx hb dX9_moved_4 (by decide) (fun c_3 => ?_) (fun c_3 => ?_)
  · have h := h.1 c_3
    refine lv_iconst (v := (-1)) hx hb dX9_moved_40 (by decide) ?_
    exact pd_iret C hA hW h dX9_moved_41
  · have h := h.2 c_3
    refine lv_iload_n hx hb dX9_moved_7 rfl (lv_at hl 2 rfl) ?_
    refine cl_X9_107 C hW h ⟨by decide, by decide⟩ ⟨Nat.zero_le _, Nat.zero_le _⟩ hl.1 (Nat.le_of_ble_eq_true rfl) dX9_moved_8 (fun r_5 M_4 H locs h hW => ?_)
    refine lv_if_eq (tgt := 40) hx hb dX9_moved_11 (by decide) (fun c_6 => ?_) (fun c_6 => ?_)
    · have h := h.1 c_6
      refine lv_iconst (v := (-1)) hx hb dX9_moved_40 (by decide) ?_
      exact pd_iret C hA hW h dX9_moved_41
    · have h := h.2 c_6
      refine lv_aload_n hx hb dX9_moved_14 rfl (lv_at hl 0 rfl) ?_
      refine lv_iload_n hx hb dX9_moved_15 rfl (lv_at hl 3 rfl) ?_
      refine cl_X9_101 C hW h ⟨by decide, by decide⟩ ⟨Nat.zero_le _, Nat.zero_le _⟩ hl.1 (Nat.le_of_ble_eq_true rfl) dX9_moved_16 (fun r_8 M_7 H locs h hW => ?_)
      refine lv_if_eq (tgt := 40) hx hb dX9_moved_19 (by decide) (fun c_9 => ?_) (fun c_9 => ?_)
      · have h := h.1 c_9
        refine lv_iconst (v := (-1)) hx hb dX9_moved_40 (by decide) ?_
        exact pd_iret C hA hW h dX9_moved_41
      · have h := h.2 c_9
        refine lv_iload hx hb dX9_moved_22 (lv_at hl 4 rfl) ?_
        refine cl_X9_97 C hW h ⟨by decide, by decide⟩ ⟨Nat.zero_le _, Nat.zero_le _⟩ hl.1 (Nat.le_of_ble_eq_true rfl) dX9_moved_24 (fun r_11 M_10 H locs h hW => ?_)
        refine lv_if_eq (tgt := 40) hx hb dX9_moved_27 (by decide) (fun c_12 => ?_) (fun c_12 => ?_)
        · have h := h.1 c_12
          refine lv_iconst (v := (-1)) hx hb dX9_moved_40 (by decide) ?_
          exact pd_iret C hA hW h dX9_moved_41
        · have h := h.2 c_12
          refine lv_iload hx hb dX9_moved_30 (lv_at hl 5 rfl) ?_
          refine lv_iconst (v := 0) hx hb dX9_moved_32 (by decide) ?_
          refine lv_iconst (v := 1) hx hb dX9_moved_33 (by decide) ?_
          refine cl_X9_90 C hW h ⟨by decide, by decide⟩ ⟨Nat.zero_le _, Nat.zero_le _⟩ hl.1 (Nat.le_of_ble_eq_true rfl) dX9_moved_34 (fun r_14 M_13 H locs h hW => ?_)
          refine lv_if_ne (tgt := 42) hx hb dX9_moved_37 (by decide) (fun c_15 => ?_) (fun c_15 => ?_)
          · have h := h.1 c_15
            refine lv_aload_n hx hb dX9_moved_42 rfl (lv_at hl 0 rfl) ?_
            refine gf_X9_7 C hW dX9_moved_43 ?_
            refine lv_iload_n hx hb dX9_moved_46 rfl (lv_at hl 3 rfl) ?_
            have hi_16 := h.1
            have h := h.2
            refine pd_iald C hW kd_83 hi_16 dX9_moved_47 ?_
            refine lv_topi (fun x6_17 ex6_17 => ?_)
            have h := h x6_17 ex6_17
            refine lv_istore (lv' := [(6, .int x6_17), (0, .ref (g.1 82)), (1, .int a1), (2, .int a2), (3, .int a3), (4, .int a4), (5, .int a5)]) hx hb dX9_moved_48 hl (by decide) rfl (fun ls hl => ?_)
            refine lv_aload_n hx hb dX9_moved_50 rfl (lv_at hl 1 rfl) ?_
            refine gf_X9_7 C hW dX9_moved_51 ?_
            refine lv_iload_n hx hb dX9_moved_54 rfl (lv_at hl 4 rfl) ?_
            refine lv_iload hx hb dX9_moved_55 (lv_at hl 5 rfl) ?_
            have hi_18 := h.1
            have h := h.2
            refine pd_iast C hW kd_83 hi_18 dX9_moved_57 (fun M_19 H locs eM_19 hW => ?_)
            have h := h M_19 eM_19
            refine lv_aload_n hx hb dX9_moved_58 rfl (lv_at hl 1 rfl) ?_
            refine lv_iload_n hx hb dX9_moved_59 rfl (lv_at hl 2 rfl) ?_
            refine lv_iload_n hx hb dX9_moved_60 rfl (lv_at hl 3 rfl) ?_
            refine lv_iconst (v := 1) hx hb dX9_moved_61 (by decide) ?_
            refine cl_X9_149 C hW h ⟨by decide, by decide⟩ ⟨Nat.zero_le _, Nat.zero_le _⟩ hl.1 (by decide) dX9_moved_62 (fun M_20 H locs h hW => ?_)
            refine lv_aload_n hx hb dX9_moved_65 rfl (lv_at hl 1 rfl) ?_
            refine lv_iload hx hb dX9_moved_66 (lv_at hl 6 rfl) ?_
            refine cl_X9_153 C hW h ⟨by decide, by decide⟩ ⟨Nat.zero_le _, Nat.zero_le _⟩ hl.1 (Nat.le_of_ble_eq_true rfl) dX9_moved_68 (fun r_22 M_21 H locs h hW => ?_)
            refine lv_istore (lv' := [(7, .int r_22), (6, .int x6_17), (0, .ref (g.1 82)), (1, .int a1), (2, .int a2), (3, .int a3), (4, .int a4), (5, .int a5)]) hx hb dX9_moved_71 hl (by decide) rfl (fun ls hl => ?_)
            refine lv_aload_n hx hb dX9_moved_73 rfl (lv_at hl 2 rfl) ?_
            refine gf_X9_7 C hW dX9_moved_74 ?_
            refine lv_iload_n hx hb dX9_moved_77 rfl (lv_at hl 5 rfl) ?_
            refine lv_iload hx hb dX9_moved_78 (lv_at hl 1 rfl) ?_
            have hi_23 := h.1
            have h := h.2
            refine pd_iast C hW kd_83 hi_23 dX9_moved_80 (fun M_24 H locs eM_24 hW => ?_)
            have h := h M_24 eM_24
            refine lv_iload hx hb dX9_moved_81 (lv_at hl 0 rfl) ?_
            exact pd_iret C hA hW h dX9_moved_83
          · have h := h.2 c_15
            refine lv_iconst (v := (-1)) hx hb dX9_moved_40 (by decide) ?_
            exact pd_iret C hA hW h dX9_moved_41

theorem dd_X9_moved : yX9_moved.cls ≠ "java/lang/invoke/MethodHandle" ∧ yX9_moved.cls ≠ "java/lang/invoke/VarHandle" ∧ (parseMethodDescriptor yX9_moved.desc).map (fun d => d.parameters.length) = some 5 := by decide +kernel
theorem cl_L_82 {p : Program} {l : Launch} {e : Env} {R : Room} {s : State} {m : MethodId} {args : Array Value} {below : List Frame} {meth : Method} {c : Code} {H : Heap} {locs : List Loc} {cells slots : Nat} {QQ : State → Prop} {cc : ByteArray} {pc : Nat} {ls : Array Slot} {rest : List Value} {D : va_G} {g : pd_G} {t : Nat} {M : pd_M} {X : va_W} {A : Nat → Prop} {nL : Nat} {ret : Option FieldType} {Qc : Int32 → pd_M → Prop} {a1 : Int32} {a2 : Int32} {a3 : Int32} {a4 : Int32} {a5 : Int32} (C : pd_C p m c cc nL s args RL meth ret) (hW : pd_W D g t M X A s H locs) (h : wX9_moved Qc a1 a2 a3 a4 a5 M) (hR : rX9_moved.frames + 1 ≤ R.frames ∧ 8 + (8 + 11) + rX9_moved.locals ≤ R.locals) (hcs : cells ≤ R.cells ∧ slots ≤ R.slots) (hls : ls.size = nL) (hw8 : (rest.map fun v => v.category).sum ≤ 8) (hdg : decode cc pc = .ok (.invokevirtual 82, 3))
    (kk : ∀ (r : Int32) (M1 : pd_M) (H1 : Heap) (locs1 : List Loc), Qc r M1 → pd_W D g t M1 X A s H1 locs1 → W p l e R s m args below meth c H1 locs1 cells slots QQ (F0 m (pc + 3) ls (.int r :: rest))) : W p l e R s m args below meth c H locs cells slots QQ (F0 m pc ls (.int a5 :: .int a4 :: .int a3 :: .int a2 :: .int a1 :: .ref (g.1 82) :: rest)) :=
  pd_callVi (As := [.int a1, .int a2, .int a3, .int a4, .int a5]) C hW (mX9_moved h) kd_82 rfl mM_L_82 mO_yX9_moved mV_yX9_moved mI_X9 mC_yX9_moved dd_X9_moved ⟨rfl, rfl⟩ hR hcs hls rfl hw8 hdg kk
