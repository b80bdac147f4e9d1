/-! THE CLAIM OUT OF ONE WALK OF THE LAW'S BODY. Your part is whole_start (and what it stands on); all else here is the same for every law, but numbers. -/
def R_law : String := "ParkDeskLaw"
def lw_P (b : Addr) (xs : List Int32) (args : Array Value) (s : State) : Prop := args = #[.ref b] ∧ s.IntsAt b xs ∧ xs.length ≤ 3072 ∧ (Jvm.Cond.and given_1 narrow_1).before args s = true
def lw_Q (_ : Array Value) (s : State) (o : Outcome) (t : State) : Prop := o = .returned (some (.int 1)) ∧ Framed s o t [] 600000 7302250
def lw_Z (below : List Frame) (a : Array Value) (s : State) : State → Prop := fun t => ∃ o, t.status = .running ∧ Ended t below o ∧ lw_Q a s o t
/-- the law's own end, with 1 on the stack, nothing written that was there before, its room as the claim has it -/
theorem lw_ret {p : Program} {l : Launch} {e : Env} {s : State} {m : MethodId} {below : List Frame} {meth : Method} {c : Code} {b : Nat} (hx : p.tables.exec = Jvm.exec) (hb : c.code = code) (hr : meth.sig.returnType = ret) (hlocks : meth.locks = false) {pc : Nat} {H : Heap} {ls : Array Slot} (hdg : decode code pc = .ok (.ireturn, 1)) : W p l e room_1 s m #[Value.ref b] below meth c H [] 600000 7302250 (lw_Z below #[Value.ref b] s) (F0 m pc ls [.int 1]) := by
  intro T hT X
  obtain ⟨fs, hret, hrun, hended, hW, hframe⟩ := X.leave (v := some (.int 1)) (hlocks := hlocks) (fun h => by rw [hr] at h; cases h)
  have hmeth' : T.vm.method? m = some meth := X.method'
  refine ⟨T.setFrames fs, ?_, .returned (some (.int 1)), hrun, hended, rfl, ⟨_, rfl⟩, hW, hframe⟩
  jvm_step X.here [X.here.top, hx, hb, hdg, hmeth', hr, ret, narrow_b1]
  (try refine ⟨rfl, ?_⟩); (try refine ⟨rfl, ?_⟩)
  first | (intro acts; rw [hret _ acts rfl rfl rfl]) | rw [hret _ _ rfl rfl rfl]
  exact Steps.refl _
/-- what holds at the law's entry: the machine, the code, the tables' words (any of lw_tbl by 'hts w (by decide +kernel)'), the script of L ints xs at the cell b, what the Statement gives of the start (any of its parts by flat_of_before) -/
def lw_At (p : Program) (s : State) (m : MethodId) (meth : Method) (c : Code) (b L : Nat) (xs : Nat → Int32) : Prop :=
  p.tables.exec = Jvm.exec ∧ c.code = code ∧ meth.sig.returnType = ret ∧ c.maxLocals = 4 ∧ s.vm.findClass R_law = some m.cls ∧ (∀ w ∈ lw_tbl, w.before #[Value.ref b] s = true) ∧ va_X b L xs s s.heap ∧ b < s.heap.size ∧ meth.locks = false ∧ (Jvm.Cond.and given_1 narrow_1).before #[Value.ref b] s = true
theorem pd_sw22 {x : Int32} (h0 : ¬ x = 0) (h1 : ¬ x = 1) (h2 : ¬ x = 2) (h3 : ¬ x = 3) (h4 : ¬ x = 4) (h5 : ¬ x = 5) (h6 : ¬ x = 6) (h7 : ¬ x = 7) (h8 : ¬ x = 8) (h9 : ¬ x = 9) (h10 : ¬ x = 10) (h11 : ¬ x = 11) (h12 : ¬ x = 12) (h13 : ¬ x = 13) (h14 : ¬ x = 14) (h15 : ¬ x = 15) (h16 : ¬ x = 16) (h17 : ¬ x = 17) (h18 : ¬ x = 18) (h19 : ¬ x = 19) (h20 : ¬ x = 20) (h21 : ¬ x = 21) (h22 : ¬ x = 22) : x.toInt < 0 ∨ 22 < x.toInt := by
  rcases Classical.em (x.toInt < 0 ∨ 22 < x.toInt) with q | q
  · exact q
  · exfalso
    have hq : x.toInt = 0 ∨ x.toInt = 1 ∨ x.toInt = 2 ∨ x.toInt = 3 ∨ x.toInt = 4 ∨ x.toInt = 5 ∨ x.toInt = 6 ∨ x.toInt = 7 ∨ x.toInt = 8 ∨ x.toInt = 9 ∨ x.toInt = 10 ∨ x.toInt = 11 ∨ x.toInt = 12 ∨ x.toInt = 13 ∨ x.toInt = 14 ∨ x.toInt = 15 ∨ x.toInt = 16 ∨ x.toInt = 17 ∨ x.toInt = 18 ∨ x.toInt = 19 ∨ x.toInt = 20 ∨ x.toInt = 21 ∨ x.toInt = 22 := by omega
    rcases hq with q | q | q | q | q | q | q | q | q | q | q | q | q | q | q | q | q | q | q | q | q | q | q
    · exact h0 (Int32.toInt_inj.mp (by rw [q]; rfl))
    · exact h1 (Int32.toInt_inj.mp (by rw [q]; rfl))
    · exact h2 (Int32.toInt_inj.mp (by rw [q]; rfl))
    · exact h3 (Int32.toInt_inj.mp (by rw [q]; rfl))
    · exact h4 (Int32.toInt_inj.mp (by rw [q]; rfl))
    · exact h5 (Int32.toInt_inj.mp (by rw [q]; rfl))
    · exact h6 (Int32.toInt_inj.mp (by rw [q]; rfl))
    · exact h7 (Int32.toInt_inj.mp (by rw [q]; rfl))
    · exact h8 (Int32.toInt_inj.mp (by rw [q]; rfl))
    · exact h9 (Int32.toInt_inj.mp (by rw [q]; rfl))
    · exact h10 (Int32.toInt_inj.mp (by rw [q]; rfl))
    · exact h11 (Int32.toInt_inj.mp (by rw [q]; rfl))
    · exact h12 (Int32.toInt_inj.mp (by rw [q]; rfl))
    · exact h13 (Int32.toInt_inj.mp (by rw [q]; rfl))
    · exact h14 (Int32.toInt_inj.mp (by rw [q]; rfl))
    · exact h15 (Int32.toInt_inj.mp (by rw [q]; rfl))
    · exact h16 (Int32.toInt_inj.mp (by rw [q]; rfl))
    · exact h17 (Int32.toInt_inj.mp (by rw [q]; rfl))
    · exact h18 (Int32.toInt_inj.mp (by rw [q]; rfl))
    · exact h19 (Int32.toInt_inj.mp (by rw [q]; rfl))
    · exact h20 (Int32.toInt_inj.mp (by rw [q]; rfl))
    · exact h21 (Int32.toInt_inj.mp (by rw [q]; rfl))
    · exact h22 (Int32.toInt_inj.mp (by rw [q]; rfl))
/-- a call that makes some cells -/
theorem pd_callVm {p : Program} {l : Launch} {e : Env} {R : Room} {s : State} {m : MethodId} {args : Array Value} {below : List Frame} {meth : Method} {c : Code} {H : Heap} {locs : List Loc} {cells slots : Nat} {Q : State → Prop} {cc bytes : ByteArray} {pc : Nat} {ls : Array Slot} {rest : List Value} {D : va_G} {g : pd_G} {t : Nat} {M : pd_M} {X : va_W} {A : Nat → Prop} {nL maxL : Nat} {own : String} {ret ret' : Option FieldType} {y : MethodName} {rm : Room} {As : List Value} {idx : Nat} {mc ms : Nat} {Qc : Int32 → pd_M → Prop} {k ci b : Nat} {fs : List Nat} {T : u_T} {N : Nat} (C : pd_C p m c cc nL s args own meth ret) (hW : pd_W D g t M X A s H locs)
    (hM : Met l y (Cond.code y bytes maxL ret' :: TB) rm (pd_Pre D g t M X H.size (.ref (g.1 k) :: As)) (pd_Qi D g M X H.size Qc) mc ms (va_A (pd_WL g M ++ X) H.size))
    (hk : pd_kind k = (5, ci, b, fs)) (hc : vwCl[ci]? = some (y.cls, T, N)) (h1 : Cond.methodLink own idx y ∈ TB) (h2 : Cond.instanceMethod y ∈ TB) (h3 : Cond.selects y.cls y y ∈ TB) (h4 : Cond.initialized y.cls ∈ TB) (h5 : Cond.code y bytes maxL ret' ∈ TB)
    (hd : y.cls ≠ "java/lang/invoke/MethodHandle" ∧ y.cls ≠ "java/lang/invoke/VarHandle" ∧ (parseMethodDescriptor y.desc).map (fun d => d.parameters.length) = some As.length) (hrm : rm.cells = mc ∧ rm.slots = ms) (hR : rm.frames + 1 ≤ R.frames ∧ 8 + (maxL + 11) + rm.locals ≤ R.locals) (hcs : cells + mc ≤ R.cells ∧ slots + ms ≤ R.slots)
    (hls : ls.size = nL) {st : List Value} (hst : st = As.reverse ++ .ref (g.1 k) :: rest) (hw8 : (rest.map fun v => v.category).sum ≤ 8) (hdg : decode cc pc = .ok (.invokevirtual idx, 3))
    (kk : ∀ (r : Int32) (M1 : pd_M) (H1 : Heap) (locs1 : List Loc), Qc r M1 → pd_W D g t M1 X A s H1 locs1 → W p l e R s m args below meth c H1 locs1 (cells + mc) (slots + ms) Q (F0 m (pc + 3) ls (.int r :: rest))) : W p l e R s m args below meth c H locs cells slots Q (F0 m pc ls st) := by
  subst hst
  have hF := pd_free hW.2.2.1 hW.2.2.2.1 hW.2.2.2.2.1
  have he : (pd_WL g M ++ X)[k]? = some (g.1 k, .inr (ci, pd_fv g (M.1 k) 0 fs)) := by rw [pd_at (pd_kN hk (by decide)), pd_cell_5 hk]
  refine va_calli (va_runV (As := As) (rest := rest) C.1 hM (cwV As.length C.1.2.2.2.2 (pd_goodV h1 h2 h3 h4 h5) rfl hrm.1 hrm.2 ⟨rfl, hd⟩ hR) ⟨pd_blind, va_recv hW.1 hW.2.1 hc he, fun U hU hw => pd_pre hW hU hw _⟩ rfl rfl hls rfl (lv_room hw8) hdg hcs) hW.2.2.2.1 (fun q _ h => hF q h) hF (fun r M1 tt H1 locs1 ht hvm hq hB hz hk1 hS1 => ?_)
  exact kk r M1 H1 locs1 hq (pd_back hW ht hvm hB hS1)
theorem cl_L_91 {p : Program} {l : Launch} {e : Env} {R : Room} {s : State} {m : MethodId} {args : Array Value} {below : List Frame} {meth : Method} {c : Code} {H : Heap} {locs : List Loc} {cells slots : Nat} {QQ : State → Prop} {cc : ByteArray} {pc : Nat} {ls : Array Slot} {rest : List Value} {D : va_G} {g : pd_G} {t : Nat} {M : pd_M} {A : Nat → Prop} {nL : Nat} {ret : Option FieldType} {Qc : Int32 → pd_M → Prop} {a1 a2 : Int32} (C : pd_C p m c cc nL s args RL meth ret) (hW : pd_W D g t M [] A s H locs) (h : wX8_turn Qc a1 a2 M) (hR : rX8_turn.frames + 1 ≤ R.frames ∧ 8 + (3 + 11) + rX8_turn.locals ≤ R.locals) (hcs : cells + 8 ≤ R.cells ∧ slots + 16 ≤ R.slots) (hls : ls.size = nL) (hw8 : (rest.map fun v => v.category).sum ≤ 8) (hdg : decode cc pc = .ok (.invokevirtual 91, 3))
    (kk : ∀ (r : Int32) (M1 : pd_M) (H1 : Heap) (locs1 : List Loc), Qc r M1 → pd_W D g t M1 [] A s H1 locs1 → W p l e R s m args below meth c H1 locs1 (cells + 8) (slots + 16) QQ (F0 m (pc + 3) ls (.int r :: rest))) : W p l e R s m args below meth c H locs cells slots QQ (F0 m pc ls (.int a2 :: .int a1 :: .ref (g.1 0) :: rest)) :=
  pd_callVm (As := [.int a1, .int a2]) C hW (mX8_turn h) kd_0 rfl mM_L_91 mO_yX8_turn mV_yX8_turn mI_X8 mC_yX8_turn dd_X8_turn ⟨rfl, rfl⟩ hR hcs hls rfl hw8 hdg kk
theorem cl_L_95 {p : Program} {l : Launch} {e : Env} {R : Room} {s : State} {m : MethodId} {args : Array Value} {below : List Frame} {meth : Method} {c : Code} {H : Heap} {locs : List Loc} {cells slots : Nat} {QQ : State → Prop} {cc : ByteArray} {pc : Nat} {ls : Array Slot} {rest : List Value} {D : va_G} {g : pd_G} {t : Nat} {M : pd_M} {A : Nat → Prop} {nL : Nat} {ret : Option FieldType} {Qc : Int32 → pd_M → Prop} {a1 : Int32} (C : pd_C p m c cc nL s args RL meth ret) (hW : pd_W D g t M [] A s H locs) (h : wX8_stake Qc a1 M) (hR : rX8_stake.frames + 1 ≤ R.frames ∧ 8 + (2 + 11) + rX8_stake.locals ≤ R.locals) (hcs : cells + 8 ≤ R.cells ∧ slots + 16 ≤ R.slots) (hls : ls.size = nL) (hw8 : (rest.map fun v => v.category).sum ≤ 8) (hdg : decode cc pc = .ok (.invokevirtual 95, 3))
    (kk : ∀ (r : Int32) (M1 : pd_M) (H1 : Heap) (locs1 : List Loc), Qc r M1 → pd_W D g t M1 [] A s H1 locs1 → W p l e R s m args below meth c H1 locs1 (cells + 8) (slots + 16) QQ (F0 m (pc + 3) ls (.int r :: rest))) : W p l e R s m args below meth c H locs cells slots QQ (F0 m pc ls (.int a1 :: .ref (g.1 0) :: rest)) :=
  pd_callVm (As := [.int a1]) C hW (mX8_stake h) kd_0 rfl mM_L_95 mO_yX8_stake mV_yX8_stake mI_X8 mC_yX8_stake dd_X8_stake ⟨rfl, rfl⟩ hR hcs hls rfl hw8 hdg kk
def lpL_law (xs : Nat → Int32) (L : Nat) : Nat → Int32 → pd_M → Prop
  | 0, _, _ => False
  | n + 1, v3, M => ((((Int32.ofNat L) - 6) < v3 → True) ∧ (¬ ((Int32.ofNat L) - 6) < v3 → (vp_in v3 L ∧ ∀ sw : Int32, sw = ((xs v3.toNatClampNeg) &&& 31) → ((sw = 0 → (vp_in (v3 + 1) L ∧ (vp_in (v3 + 2) L ∧ wX8_street (fun r_7 M_6 => (vp_in (v3 + 1) L ∧ (vp_in (v3 + 2) L ∧ wX9_street (fun r_11 M_10 => ((r_7 = r_11 → ∀ x3_13 : Int32, x3_13 = v3 + 6 → lpL_law xs L n x3_13 M_10) ∧ (¬ r_7 = r_11 → False))) (xs (v3 + 1).toNatClampNeg) (xs (v3 + 2).toNatClampNeg) M_6))) (xs (v3 + 1).toNatClampNeg) (xs (v3 + 2).toNatClampNeg) M))) ∧ (¬ sw = 0 → ((sw = 1 → (vp_in (v3 + 1) L ∧ (vp_in (v3 + 2) L ∧ wX8_move (fun r_18 M_17 => (vp_in (v3 + 1) L ∧ (vp_in (v3 + 2) L ∧ wX9_move (fun r_22 M_21 => ((r_18 = r_22 → ∀ x3_24 : Int32, x3_24 = v3 + 6 → lpL_law xs L n x3_24 M_21) ∧ (¬ r_18 = r_22 → False))) (xs (v3 + 1).toNatClampNeg) (xs (v3 + 2).toNatClampNeg) M_17))) (xs (v3 + 1).toNatClampNeg) (xs (v3 + 2).toNatClampNeg) M))) ∧ (¬ sw = 1 → ((sw = 2 → (vp_in (v3 + 1) L ∧ (vp_in (v3 + 2) L ∧ (vp_in (v3 + 3) L ∧ wX8_walk (fun r_30 M_29 => (vp_in (v3 + 1) L ∧ (vp_in (v3 + 2) L ∧ (vp_in (v3 + 3) L ∧ wX9_walk (fun r_35 M_34 => ((r_30 = r_35 → ∀ x3_37 : Int32, x3_37 = v3 + 6 → lpL_law xs L n x3_37 M_34) ∧ (¬ r_30 = r_35 → False))) (xs (v3 + 1).toNatClampNeg) (xs (v3 + 2).toNatClampNeg) (xs (v3 + 3).toNatClampNeg) M_29)))) (xs (v3 + 1).toNatClampNeg) (xs (v3 + 2).toNatClampNeg) (xs (v3 + 3).toNatClampNeg) M)))) ∧ (¬ sw = 2 → ((sw = 3 → (vp_in (v3 + 1) L ∧ (vp_in (v3 + 2) L ∧ (vp_in (v3 + 3) L ∧ wX8_close (fun r_43 M_42 => (vp_in (v3 + 1) L ∧ (vp_in (v3 + 2) L ∧ (vp_in (v3 + 3) L ∧ wX9_close (fun r_48 M_47 => ((r_43 = r_48 → ∀ x3_50 : Int32, x3_50 = v3 + 6 → lpL_law xs L n x3_50 M_47) ∧ (¬ r_43 = r_48 → False))) (xs (v3 + 1).toNatClampNeg) (xs (v3 + 2).toNatClampNeg) (xs (v3 + 3).toNatClampNeg) M_42)))) (xs (v3 + 1).toNatClampNeg) (xs (v3 + 2).toNatClampNeg) (xs (v3 + 3).toNatClampNeg) M)))) ∧ (¬ sw = 3 → ((sw = 4 → (vp_in (v3 + 1) L ∧ (vp_in (v3 + 2) L ∧ (vp_in (v3 + 3) L ∧ wX8_rule (fun r_56 M_55 => (vp_in (v3 + 1) L ∧ (vp_in (v3 + 2) L ∧ (vp_in (v3 + 3) L ∧ wX9_rule (fun r_61 M_60 => ((r_56 = r_61 → ∀ x3_63 : Int32, x3_63 = v3 + 6 → lpL_law xs L n x3_63 M_60) ∧ (¬ r_56 = r_61 → False))) (xs (v3 + 1).toNatClampNeg) (xs (v3 + 2).toNatClampNeg) (xs (v3 + 3).toNatClampNeg) M_55)))) (xs (v3 + 1).toNatClampNeg) (xs (v3 + 2).toNatClampNeg) (xs (v3 + 3).toNatClampNeg) M)))) ∧ (¬ sw = 4 → ((sw = 5 → (vp_in (v3 + 1) L ∧ (vp_in (v3 + 2) L ∧ (vp_in (v3 + 3) L ∧ (vp_in (v3 + 4) L ∧ wX8_hours (fun r_70 M_69 => (vp_in (v3 + 1) L ∧ (vp_in (v3 + 2) L ∧ (vp_in (v3 + 3) L ∧ (vp_in (v3 + 4) L ∧ wX9_hours (fun r_76 M_75 => ((r_70 = r_76 → ∀ x3_78 : Int32, x3_78 = v3 + 6 → lpL_law xs L n x3_78 M_75) ∧ (¬ r_70 = r_76 → False))) (xs (v3 + 1).toNatClampNeg) (xs (v3 + 2).toNatClampNeg) (xs (v3 + 3).toNatClampNeg) (xs (v3 + 4).toNatClampNeg) M_69))))) (xs (v3 + 1).toNatClampNeg) (xs (v3 + 2).toNatClampNeg) (xs (v3 + 3).toNatClampNeg) (xs (v3 + 4).toNatClampNeg) M))))) ∧ (¬ sw = 5 → ((sw = 6 → (vp_in (v3 + 1) L ∧ wX8_car (fun r_82 M_81 => (vp_in (v3 + 1) L ∧ wX9_car (fun r_85 M_84 => ((r_82 = r_85 → ∀ x3_87 : Int32, x3_87 = v3 + 6 → lpL_law xs L n x3_87 M_84) ∧ (¬ r_82 = r_85 → False))) (xs (v3 + 1).toNatClampNeg) M_81)) (xs (v3 + 1).toNatClampNeg) M)) ∧ (¬ sw = 6 → ((sw = 7 → (vp_in (v3 + 1) L ∧ (vp_in (v3 + 2) L ∧ (vp_in (v3 + 3) L ∧ (vp_in (v3 + 4) L ∧ (((xs (v3 + 4).toNatClampNeg) = 0 → wX8_permit (fun r_95 M_94 => (vp_in (v3 + 1) L ∧ (vp_in (v3 + 2) L ∧ (vp_in (v3 + 3) L ∧ (vp_in (v3 + 4) L ∧ (((xs (v3 + 4).toNatClampNeg) = 0 → wX9_permit (fun r_102 M_101 => ((r_95 = r_102 → ∀ x3_104 : Int32, x3_104 = v3 + 6 → lpL_law xs L n x3_104 M_101) ∧ (¬ r_95 = r_102 → False))) (xs (v3 + 1).toNatClampNeg) (xs (v3 + 2).toNatClampNeg) (xs (v3 + 3).toNatClampNeg) 0 M_94) ∧ (¬ (xs (v3 + 4).toNatClampNeg) = 0 → wX9_permit (fun r_106 M_105 => ((r_95 = r_106 → ∀ x3_108 : Int32, x3_108 = v3 + 6 → lpL_law xs L n x3_108 M_105) ∧ (¬ r_95 = r_106 → False))) (xs (v3 + 1).toNatClampNeg) (xs (v3 + 2).toNatClampNeg) (xs (v3 + 3).toNatClampNeg) 1 M_94))))))) (xs (v3 + 1).toNatClampNeg) (xs (v3 + 2).toNatClampNeg) (xs (v3 + 3).toNatClampNeg) 0 M) ∧ (¬ (xs (v3 + 4).toNatClampNeg) = 0 → wX8_permit (fun r_110 M_109 => (vp_in (v3 + 1) L ∧ (vp_in (v3 + 2) L ∧ (vp_in (v3 + 3) L ∧ (vp_in (v3 + 4) L ∧ (((xs (v3 + 4).toNatClampNeg) = 0 → wX9_permit (fun r_117 M_116 => ((r_110 = r_117 → ∀ x3_119 : Int32, x3_119 = v3 + 6 → lpL_law xs L n x3_119 M_116) ∧ (¬ r_110 = r_117 → False))) (xs (v3 + 1).toNatClampNeg) (xs (v3 + 2).toNatClampNeg) (xs (v3 + 3).toNatClampNeg) 0 M_109) ∧ (¬ (xs (v3 + 4).toNatClampNeg) = 0 → wX9_permit (fun r_121 M_120 => ((r_110 = r_121 → ∀ x3_123 : Int32, x3_123 = v3 + 6 → lpL_law xs L n x3_123 M_120) ∧ (¬ r_110 = r_121 → False))) (xs (v3 + 1).toNatClampNeg) (xs (v3 + 2).toNatClampNeg) (xs (v3 + 3).toNatClampNeg) 1 M_109))))))) (xs (v3 + 1).toNatClampNeg) (xs (v3 + 2).toNatClampNeg) (xs (v3 + 3).toNatClampNeg) 1 M))))))) ∧ (¬ sw = 7 → ((sw = 8 → (vp_in (v3 + 1) L ∧ (vp_in (v3 + 2) L ∧ (vp_in (v3 + 3) L ∧ wX8_cards (fun r_129 M_128 => (vp_in (v3 + 1) L ∧ (vp_in (v3 + 2) L ∧ (vp_in (v3 + 3) L ∧ wX9_cards (fun r_134 M_133 => ((r_129 = r_134 → ∀ x3_136 : Int32, x3_136 = v3 + 6 → lpL_law xs L n x3_136 M_133) ∧ (¬ r_129 = r_134 → False))) (xs (v3 + 1).toNatClampNeg) (xs (v3 + 2).toNatClampNeg) (xs (v3 + 3).toNatClampNeg) M_128)))) (xs (v3 + 1).toNatClampNeg) (xs (v3 + 2).toNatClampNeg) (xs (v3 + 3).toNatClampNeg) M)))) ∧ (¬ sw = 8 → ((sw = 9 → (vp_in (v3 + 1) L ∧ (vp_in (v3 + 2) L ∧ wX8_limit (fun r_141 M_140 => (vp_in (v3 + 1) L ∧ (vp_in (v3 + 2) L ∧ wX9_limit (fun r_145 M_144 => ((r_141 = r_145 → ∀ x3_147 : Int32, x3_147 = v3 + 6 → lpL_law xs L n x3_147 M_144) ∧ (¬ r_141 = r_145 → False))) (xs (v3 + 1).toNatClampNeg) (xs (v3 + 2).toNatClampNeg) M_140))) (xs (v3 + 1).toNatClampNeg) (xs (v3 + 2).toNatClampNeg) M))) ∧ (¬ sw = 9 → ((sw = 10 → (vp_in (v3 + 1) L ∧ wX8_late (fun r_151 M_150 => (vp_in (v3 + 1) L ∧ wX9_late (fun r_154 M_153 => ((r_151 = r_154 → ∀ x3_156 : Int32, x3_156 = v3 + 6 → lpL_law xs L n x3_156 M_153) ∧ (¬ r_151 = r_154 → False))) (xs (v3 + 1).toNatClampNeg) M_150)) (xs (v3 + 1).toNatClampNeg) M)) ∧ (¬ sw = 10 → ((sw = 11 → (vp_in (v3 + 1) L ∧ (vp_in (v3 + 2) L ∧ (vp_in (v3 + 3) L ∧ wX8_may (fun r_162 M_161 => (vp_in (v3 + 1) L ∧ (vp_in (v3 + 2) L ∧ (vp_in (v3 + 3) L ∧ wX9_may (fun r_167 M_166 => ((r_162 = r_167 → ∀ x3_169 : Int32, x3_169 = v3 + 6 → lpL_law xs L n x3_169 M_166) ∧ (¬ r_162 = r_167 → False))) (xs (v3 + 1).toNatClampNeg) (xs (v3 + 2).toNatClampNeg) (xs (v3 + 3).toNatClampNeg) M_161)))) (xs (v3 + 1).toNatClampNeg) (xs (v3 + 2).toNatClampNeg) (xs (v3 + 3).toNatClampNeg) M)))) ∧ (¬ sw = 11 → ((sw = 12 → (vp_in (v3 + 1) L ∧ (vp_in (v3 + 2) L ∧ (vp_in (v3 + 3) L ∧ (vp_in (v3 + 4) L ∧ (((xs (v3 + 4).toNatClampNeg) = 0 → wX8_stands (fun r_177 M_176 => (vp_in (v3 + 1) L ∧ (vp_in (v3 + 2) L ∧ (vp_in (v3 + 3) L ∧ (vp_in (v3 + 4) L ∧ (((xs (v3 + 4).toNatClampNeg) = 0 → wX9_stands (fun r_184 M_183 => ((r_177 = r_184 → ∀ x3_186 : Int32, x3_186 = v3 + 6 → lpL_law xs L n x3_186 M_183) ∧ (¬ r_177 = r_184 → False))) (xs (v3 + 1).toNatClampNeg) (xs (v3 + 2).toNatClampNeg) (xs (v3 + 3).toNatClampNeg) 0 M_176) ∧ (¬ (xs (v3 + 4).toNatClampNeg) = 0 → wX9_stands (fun r_188 M_187 => ((r_177 = r_188 → ∀ x3_190 : Int32, x3_190 = v3 + 6 → lpL_law xs L n x3_190 M_187) ∧ (¬ r_177 = r_188 → False))) (xs (v3 + 1).toNatClampNeg) (xs (v3 + 2).toNatClampNeg) (xs (v3 + 3).toNatClampNeg) 1 M_176))))))) (xs (v3 + 1).toNatClampNeg) (xs (v3 + 2).toNatClampNeg) (xs (v3 + 3).toNatClampNeg) 0 M) ∧ (¬ (xs (v3 + 4).toNatClampNeg) = 0 → wX8_stands (fun r_192 M_191 => (vp_in (v3 + 1) L ∧ (vp_in (v3 + 2) L ∧ (vp_in (v3 + 3) L ∧ (vp_in (v3 + 4) L ∧ (((xs (v3 + 4).toNatClampNeg) = 0 → wX9_stands (fun r_199 M_198 => ((r_192 = r_199 → ∀ x3_201 : Int32, x3_201 = v3 + 6 → lpL_law xs L n x3_201 M_198) ∧ (¬ r_192 = r_199 → False))) (xs (v3 + 1).toNatClampNeg) (xs (v3 + 2).toNatClampNeg) (xs (v3 + 3).toNatClampNeg) 0 M_191) ∧ (¬ (xs (v3 + 4).toNatClampNeg) = 0 → wX9_stands (fun r_203 M_202 => ((r_192 = r_203 → ∀ x3_205 : Int32, x3_205 = v3 + 6 → lpL_law xs L n x3_205 M_202) ∧ (¬ r_192 = r_203 → False))) (xs (v3 + 1).toNatClampNeg) (xs (v3 + 2).toNatClampNeg) (xs (v3 + 3).toNatClampNeg) 1 M_191))))))) (xs (v3 + 1).toNatClampNeg) (xs (v3 + 2).toNatClampNeg) (xs (v3 + 3).toNatClampNeg) 1 M))))))) ∧ (¬ sw = 12 → ((sw = 13 → (vp_in (v3 + 1) L ∧ (vp_in (v3 + 2) L ∧ (vp_in (v3 + 3) L ∧ (vp_in (v3 + 4) L ∧ (((xs (v3 + 4).toNatClampNeg) = 0 → wX8_told (fun r_213 M_212 => (vp_in (v3 + 1) L ∧ (vp_in (v3 + 2) L ∧ (vp_in (v3 + 3) L ∧ (vp_in (v3 + 4) L ∧ (((xs (v3 + 4).toNatClampNeg) = 0 → wX9_told (fun r_220 M_219 => ((r_213 = r_220 → ∀ x3_222 : Int32, x3_222 = v3 + 6 → lpL_law xs L n x3_222 M_219) ∧ (¬ r_213 = r_220 → False))) (xs (v3 + 1).toNatClampNeg) (xs (v3 + 2).toNatClampNeg) (xs (v3 + 3).toNatClampNeg) 0 M_212) ∧ (¬ (xs (v3 + 4).toNatClampNeg) = 0 → wX9_told (fun r_224 M_223 => ((r_213 = r_224 → ∀ x3_226 : Int32, x3_226 = v3 + 6 → lpL_law xs L n x3_226 M_223) ∧ (¬ r_213 = r_224 → False))) (xs (v3 + 1).toNatClampNeg) (xs (v3 + 2).toNatClampNeg) (xs (v3 + 3).toNatClampNeg) 1 M_212))))))) (xs (v3 + 1).toNatClampNeg) (xs (v3 + 2).toNatClampNeg) (xs (v3 + 3).toNatClampNeg) 0 M) ∧ (¬ (xs (v3 + 4).toNatClampNeg) = 0 → wX8_told (fun r_228 M_227 => (vp_in (v3 + 1) L ∧ (vp_in (v3 + 2) L ∧ (vp_in (v3 + 3) L ∧ (vp_in (v3 + 4) L ∧ (((xs (v3 + 4).toNatClampNeg) = 0 → wX9_told (fun r_235 M_234 => ((r_228 = r_235 → ∀ x3_237 : Int32, x3_237 = v3 + 6 → lpL_law xs L n x3_237 M_234) ∧ (¬ r_228 = r_235 → False))) (xs (v3 + 1).toNatClampNeg) (xs (v3 + 2).toNatClampNeg) (xs (v3 + 3).toNatClampNeg) 0 M_227) ∧ (¬ (xs (v3 + 4).toNatClampNeg) = 0 → wX9_told (fun r_239 M_238 => ((r_228 = r_239 → ∀ x3_241 : Int32, x3_241 = v3 + 6 → lpL_law xs L n x3_241 M_238) ∧ (¬ r_228 = r_239 → False))) (xs (v3 + 1).toNatClampNeg) (xs (v3 + 2).toNatClampNeg) (xs (v3 + 3).toNatClampNeg) 1 M_227))))))) (xs (v3 + 1).toNatClampNeg) (xs (v3 + 2).toNatClampNeg) (xs (v3 + 3).toNatClampNeg) 1 M))))))) ∧ (¬ sw = 13 → ((sw = 14 → (vp_in (v3 + 1) L ∧ (vp_in (v3 + 2) L ∧ wX8_keep (fun r_246 M_245 => (vp_in (v3 + 1) L ∧ (vp_in (v3 + 2) L ∧ wX9_keep (fun r_250 M_249 => ((r_246 = r_250 → ∀ x3_252 : Int32, x3_252 = v3 + 6 → lpL_law xs L n x3_252 M_249) ∧ (¬ r_246 = r_250 → False))) (xs (v3 + 1).toNatClampNeg) (xs (v3 + 2).toNatClampNeg) M_245))) (xs (v3 + 1).toNatClampNeg) (xs (v3 + 2).toNatClampNeg) M))) ∧ (¬ sw = 14 → ((sw = 15 → (vp_in (v3 + 1) L ∧ (vp_in (v3 + 2) L ∧ (vp_in (v3 + 3) L ∧ (vp_in (v3 + 4) L ∧ (vp_in (v3 + 5) L ∧ wX8_moved (fun r_260 M_259 => (vp_in (v3 + 1) L ∧ (vp_in (v3 + 2) L ∧ (vp_in (v3 + 3) L ∧ (vp_in (v3 + 4) L ∧ (vp_in (v3 + 5) L ∧ wX9_moved (fun r_267 M_266 => ((r_260 = r_267 → ∀ x3_269 : Int32, x3_269 = v3 + 6 → lpL_law xs L n x3_269 M_266) ∧ (¬ r_260 = r_267 → False))) (xs (v3 + 1).toNatClampNeg) (xs (v3 + 2).toNatClampNeg) (xs (v3 + 3).toNatClampNeg) (xs (v3 + 4).toNatClampNeg) (xs (v3 + 5).toNatClampNeg) M_259)))))) (xs (v3 + 1).toNatClampNeg) (xs (v3 + 2).toNatClampNeg) (xs (v3 + 3).toNatClampNeg) (xs (v3 + 4).toNatClampNeg) (xs (v3 + 5).toNatClampNeg) M)))))) ∧ (¬ sw = 15 → ((sw = 16 → (vp_in (v3 + 1) L ∧ (vp_in (v3 + 2) L ∧ wX8_gain (fun r_274 M_273 => (vp_in (v3 + 1) L ∧ (vp_in (v3 + 2) L ∧ wX9_gain (fun r_278 M_277 => ((r_274 = r_278 → ∀ x3_280 : Int32, x3_280 = v3 + 6 → lpL_law xs L n x3_280 M_277) ∧ (¬ r_274 = r_278 → False))) (xs (v3 + 1).toNatClampNeg) (xs (v3 + 2).toNatClampNeg) M_273))) (xs (v3 + 1).toNatClampNeg) (xs (v3 + 2).toNatClampNeg) M))) ∧ (¬ sw = 16 → ((sw = 17 → (vp_in (v3 + 1) L ∧ wX8_fine (fun r_284 M_283 => (vp_in (v3 + 1) L ∧ wX9_fine (fun r_287 M_286 => ((r_284 = r_287 → ∀ x3_289 : Int32, x3_289 = v3 + 6 → lpL_law xs L n x3_289 M_286) ∧ (¬ r_284 = r_287 → False))) (xs (v3 + 1).toNatClampNeg) M_283)) (xs (v3 + 1).toNatClampNeg) M)) ∧ (¬ sw = 17 → ((sw = 18 → (vp_in (v3 + 1) L ∧ (vp_in (v3 + 2) L ∧ wX8_turn (fun r_294 M_293 => (vp_in (v3 + 1) L ∧ (vp_in (v3 + 2) L ∧ wX9_turn (fun r_298 M_297 => ((r_294 = r_298 → ∀ x3_300 : Int32, x3_300 = v3 + 6 → lpL_law xs L n x3_300 M_297) ∧ (¬ r_294 = r_298 → False))) (xs (v3 + 1).toNatClampNeg) (xs (v3 + 2).toNatClampNeg) M_293))) (xs (v3 + 1).toNatClampNeg) (xs (v3 + 2).toNatClampNeg) M))) ∧ (¬ sw = 18 → ((sw = 19 → (vp_in (v3 + 1) L ∧ wX8_stake (fun r_304 M_303 => (vp_in (v3 + 1) L ∧ wX9_stake (fun r_307 M_306 => ((r_304 = r_307 → ∀ x3_309 : Int32, x3_309 = v3 + 6 → lpL_law xs L n x3_309 M_306) ∧ (¬ r_304 = r_307 → False))) (xs (v3 + 1).toNatClampNeg) M_303)) (xs (v3 + 1).toNatClampNeg) M)) ∧ (¬ sw = 19 → ((sw = 20 → (vp_in (v3 + 1) L ∧ (vp_in (v3 + 2) L ∧ (vp_in (v3 + 3) L ∧ (vp_in (v3 + 4) L ∧ wX8_ticket (fun r_316 M_315 => (vp_in (v3 + 1) L ∧ (vp_in (v3 + 2) L ∧ (vp_in (v3 + 3) L ∧ (vp_in (v3 + 4) L ∧ wX9_ticket (fun r_322 M_321 => ((r_316 = r_322 → ∀ x3_324 : Int32, x3_324 = v3 + 6 → lpL_law xs L n x3_324 M_321) ∧ (¬ r_316 = r_322 → False))) (xs (v3 + 1).toNatClampNeg) (xs (v3 + 2).toNatClampNeg) (xs (v3 + 3).toNatClampNeg) (xs (v3 + 4).toNatClampNeg) M_315))))) (xs (v3 + 1).toNatClampNeg) (xs (v3 + 2).toNatClampNeg) (xs (v3 + 3).toNatClampNeg) (xs (v3 + 4).toNatClampNeg) M))))) ∧ (¬ sw = 20 → ((sw = 21 → (vp_in (v3 + 1) L ∧ (vp_in (v3 + 2) L ∧ wX8_of (fun r_329 M_328 => (vp_in (v3 + 1) L ∧ (vp_in (v3 + 2) L ∧ wX9_of (fun r_333 M_332 => ((r_329 = r_333 → ∀ x3_335 : Int32, x3_335 = v3 + 6 → lpL_law xs L n x3_335 M_332) ∧ (¬ r_329 = r_333 → False))) (xs (v3 + 1).toNatClampNeg) (xs (v3 + 2).toNatClampNeg) M_328))) (xs (v3 + 1).toNatClampNeg) (xs (v3 + 2).toNatClampNeg) M))) ∧ (¬ sw = 21 → ((sw = 22 → (vp_in (v3 + 1) L ∧ wX8_many (fun r_339 M_338 => (vp_in (v3 + 1) L ∧ wX9_many (fun r_342 M_341 => ((r_339 = r_342 → ∀ x3_344 : Int32, x3_344 = v3 + 6 → lpL_law xs L n x3_344 M_341) ∧ (¬ r_339 = r_342 → False))) (xs (v3 + 1).toNatClampNeg) M_338)) (xs (v3 + 1).toNatClampNeg) M)) ∧ (¬ sw = 22 → ∀ x3_345 : Int32, x3_345 = v3 + 6 → lpL_law xs L n x3_345 M)))))))))))))))))))))))))))))))))))))))))))))))))
set_option maxRecDepth 100000 in
set_option maxHeartbeats 8000000 in
theorem stL_law {p : Program} {l : Launch} {e : Env} {s : State} {m : MethodId} {below : List Frame} {meth : Method} {c : Code} {b L : Nat} {xs : Nat → Int32} {D : va_G} {g : pd_G} {t : Nat} (C0 : lw_At p s m meth c b L xs) :
    ∀ (n : Nat), n ≤ 513 → ∀ (v3 : Int32) (M : pd_M) (H : Heap) (locs : List Loc) (ls : Array Slot), pd_W D g t M [] (fun q : Nat => s.heap.size ≤ q) s H locs → lv_has ls 4 [(0, .ref b), (1, .ref (g.1 0)), (2, .ref (g.1 82)), (3, .int v3)] → lpL_law xs L n v3 M → W p l e room_1 s m #[Value.ref b] below meth c H locs (107 + 8 * (513 - n)) (902 + 16 * (513 - n)) (lw_Z below #[Value.ref b] s) (F0 m 18 ls []) := by
  obtain ⟨hx, hb, hr, hml, hown, hts, hX, hbl, hlocks, hgv⟩ := C0
  have hbA : ¬ (fun q : Nat => s.heap.size ≤ q) b := Nat.not_le.mpr hbl
  have C : pd_C p m c cL_law 4 s #[Value.ref b] RL meth ret := ⟨⟨hx, hb, hml, hown, fun w hw => hts w (tb_of hw)⟩, hr, hlocks⟩
  intro n
  induction n with
  | zero => intro hn v3 M H locs ls hW hl h; exact h.elim
  | succ n ih =>
    intro hn v3 M H locs ls hW hl h
    refine lv_iload_n hx hb dL_law_18 rfl (lv_at hl 3 rfl) ?_
    refine lv_aload_n hx hb dL_law_19 rfl (lv_at hl 0 rfl) ?_
    refine va_slen hx hb hX hbl hbA hW.2.2.2.1 dL_law_20 ?_
    refine lv_bipush (v := 6) hx hb dL_law_21 (by decide) ?_
    refine lv_isub hx hb dL_law_23 ?_
    refine lv_icmp_gt (tgt := 1083) hx hb dL_law_24 (by decide) (fun c_1 => ?_) (fun c_1 => ?_)
    · have h := h.1 c_1
      refine lv_iconst (v := 1) hx hb dL_law_1083 (by decide) ?_
      refine va_forget (fun q hq => hW.2.2.2.1.2.2 q hq) ?_
      refine W.widen (k := 600000) (n := 7302250) (by omega) (by omega) ?_
      exact lw_ret hx hb hr hlocks dL_law_1084
    · have h := h.2 c_1
      refine lv_aload_n hx hb dL_law_27 rfl (lv_at hl 0 rfl) ?_
      refine lv_iload_n hx hb dL_law_28 rfl (lv_at hl 3 rfl) ?_
      have hi_2 := h.1
      have h := h.2
      refine va_sld hx hb hX hbl hbA hW.2.2.2.1 hi_2 dL_law_29 ?_
      refine lv_bipush (v := 31) hx hb dL_law_30 (by decide) ?_
      refine lv_iand hx hb dL_law_32 ?_
      refine lv_topi (fun sw esw => ?_)
      have h := h sw esw
      by_cases c_3 : sw = 0
      · have h := h.1 c_3
        refine lv_tableIn (off := 107) (tgt := 140) hx hb dL_law_33 (by rw [c_3]; decide) (by rw [c_3]; decide) (by rw [c_3]; rfl) (by decide) ?_
        refine lv_aload_n hx hb dL_law_140 rfl (lv_at hl 1 rfl) ?_
        refine lv_aload_n hx hb dL_law_141 rfl (lv_at hl 0 rfl) ?_
        refine lv_iload_n hx hb dL_law_142 rfl (lv_at hl 3 rfl) ?_
        refine lv_iconst (v := 1) hx hb dL_law_143 (by decide) ?_
        refine lv_iadd hx hb dL_law_144 ?_
        have hi_4 := h.1
        have h := h.2
        refine va_sld hx hb hX hbl hbA hW.2.2.2.1 hi_4 dL_law_145 ?_
        refine lv_aload_n hx hb dL_law_146 rfl (lv_at hl 0 rfl) ?_
        refine lv_iload_n hx hb dL_law_147 rfl (lv_at hl 3 rfl) ?_
        refine lv_iconst (v := 2) hx hb dL_law_148 (by decide) ?_
        refine lv_iadd hx hb dL_law_149 ?_
        have hi_5 := h.1
        have h := h.2
        refine va_sld hx hb hX hbl hbA hW.2.2.2.1 hi_5 dL_law_150 ?_
        refine cl_L_13 C hW h ⟨by decide, by decide⟩ ⟨by show _ ≤ 600000; omega, by show _ ≤ 7302250; omega⟩ hl.1 (Nat.le_of_ble_eq_true rfl) dL_law_151 (fun r_7 M_6 H locs h hW => ?_)
        refine lv_aload_n hx hb dL_law_154 rfl (lv_at hl 2 rfl) ?_
        refine lv_aload_n hx hb dL_law_155 rfl (lv_at hl 0 rfl) ?_
        refine lv_iload_n hx hb dL_law_156 rfl (lv_at hl 3 rfl) ?_
        refine lv_iconst (v := 1) hx hb dL_law_157 (by decide) ?_
        refine lv_iadd hx hb dL_law_158 ?_
        have hi_8 := h.1
        have h := h.2
        refine va_sld hx hb hX hbl hbA hW.2.2.2.1 hi_8 dL_law_159 ?_
        refine lv_aload_n hx hb dL_law_160 rfl (lv_at hl 0 rfl) ?_
        refine lv_iload_n hx hb dL_law_161 rfl (lv_at hl 3 rfl) ?_
        refine lv_iconst (v := 2) hx hb dL_law_162 (by decide) ?_
        refine lv_iadd hx hb dL_law_163 ?_
        have hi_9 := h.1
        have h := h.2
        refine va_sld hx hb hX hbl hbA hW.2.2.2.1 hi_9 dL_law_164 ?_
        refine cl_L_17 C hW h ⟨by decide, by decide⟩ ⟨by show _ ≤ 600000; omega, by show _ ≤ 7302250; omega⟩ hl.1 (Nat.le_of_ble_eq_true rfl) dL_law_165 (fun r_11 M_10 H locs h hW => ?_)
        refine lv_icmp_eq (tgt := 1077) hx hb dL_law_168 (by decide) (fun c_12 => ?_) (fun c_12 => ?_)
        · have h := h.1 c_12
          obtain ⟨x3_13, ex3_13⟩ : ∃ y : Int32, y = v3 + 6 := ⟨_, rfl⟩
          have h := h x3_13 ex3_13
          refine lv_iinc (v := x3_13) (lv' := [(3, .int x3_13), (0, .ref b), (1, .ref (g.1 0)), (2, .ref (g.1 82))]) hx hb dL_law_1077 hl (k := 3) rfl (by rw [ex3_13]; rfl) (by decide) rfl (fun ls hl => ?_)
          refine lv_goto (tgt := 18) hx hb dL_law_1080 (by decide) ?_
          refine W.widen (k := 107 + 8 * (513 - n)) (n := 902 + 16 * (513 - n)) (by omega) (by omega) ?_
          exact ih (by omega) x3_13 M_10 _ _ _ hW (lv_sub hl [1, 2, 3, 0] rfl) h
        · have h := h.2 c_12
          refine lv_iconst (v := 0) hx hb dL_law_171 (by decide) ?_
          exact h.elim
      have h := h.2 c_3
      by_cases c_14 : sw = 1
      · have h := h.1 c_14
        refine lv_tableIn (off := 140) (tgt := 173) hx hb dL_law_33 (by rw [c_14]; decide) (by rw [c_14]; decide) (by rw [c_14]; rfl) (by decide) ?_
        refine lv_aload_n hx hb dL_law_173 rfl (lv_at hl 1 rfl) ?_
        refine lv_aload_n hx hb dL_law_174 rfl (lv_at hl 0 rfl) ?_
        refine lv_iload_n hx hb dL_law_175 rfl (lv_at hl 3 rfl) ?_
        refine lv_iconst (v := 1) hx hb dL_law_176 (by decide) ?_
        refine lv_iadd hx hb dL_law_177 ?_
        have hi_15 := h.1
        have h := h.2
        refine va_sld hx hb hX hbl hbA hW.2.2.2.1 hi_15 dL_law_178 ?_
        refine lv_aload_n hx hb dL_law_179 rfl (lv_at hl 0 rfl) ?_
        refine lv_iload_n hx hb dL_law_180 rfl (lv_at hl 3 rfl) ?_
        refine lv_iconst (v := 2) hx hb dL_law_181 (by decide) ?_
        refine lv_iadd hx hb dL_law_182 ?_
        have hi_16 := h.1
        have h := h.2
        refine va_sld hx hb hX hbl hbA hW.2.2.2.1 hi_16 dL_law_183 ?_
        refine cl_L_18 C hW h ⟨by decide, by decide⟩ ⟨by show _ ≤ 600000; omega, by show _ ≤ 7302250; omega⟩ hl.1 (Nat.le_of_ble_eq_true rfl) dL_law_184 (fun r_18 M_17 H locs h hW => ?_)
        refine lv_aload_n hx hb dL_law_187 rfl (lv_at hl 2 rfl) ?_
        refine lv_aload_n hx hb dL_law_188 rfl (lv_at hl 0 rfl) ?_
        refine lv_iload_n hx hb dL_law_189 rfl (lv_at hl 3 rfl) ?_
        refine lv_iconst (v := 1) hx hb dL_law_190 (by decide) ?_
        refine lv_iadd hx hb dL_law_191 ?_
        have hi_19 := h.1
        have h := h.2
        refine va_sld hx hb hX hbl hbA hW.2.2.2.1 hi_19 dL_law_192 ?_
        refine lv_aload_n hx hb dL_law_193 rfl (lv_at hl 0 rfl) ?_
        refine lv_iload_n hx hb dL_law_194 rfl (lv_at hl 3 rfl) ?_
        refine lv_iconst (v := 2) hx hb dL_law_195 (by decide) ?_
        refine lv_iadd hx hb dL_law_196 ?_
        have hi_20 := h.1
        have h := h.2
        refine va_sld hx hb hX hbl hbA hW.2.2.2.1 hi_20 dL_law_197 ?_
        refine cl_L_21 C hW h ⟨by decide, by decide⟩ ⟨by show _ ≤ 600000; omega, by show _ ≤ 7302250; omega⟩ hl.1 (Nat.le_of_ble_eq_true rfl) dL_law_198 (fun r_22 M_21 H locs h hW => ?_)
        refine lv_icmp_eq (tgt := 1077) hx hb dL_law_201 (by decide) (fun c_23 => ?_) (fun c_23 => ?_)
        · have h := h.1 c_23
          obtain ⟨x3_24, ex3_24⟩ : ∃ y : Int32, y = v3 + 6 := ⟨_, rfl⟩
          have h := h x3_24 ex3_24
          refine lv_iinc (v := x3_24) (lv' := [(3, .int x3_24), (0, .ref b), (1, .ref (g.1 0)), (2, .ref (g.1 82))]) hx hb dL_law_1077 hl (k := 3) rfl (by rw [ex3_24]; rfl) (by decide) rfl (fun ls hl => ?_)
          refine lv_goto (tgt := 18) hx hb dL_law_1080 (by decide) ?_
          refine W.widen (k := 107 + 8 * (513 - n)) (n := 902 + 16 * (513 - n)) (by omega) (by omega) ?_
          exact ih (by omega) x3_24 M_21 _ _ _ hW (lv_sub hl [1, 2, 3, 0] rfl) h
        · have h := h.2 c_23
          refine lv_iconst (v := 0) hx hb dL_law_204 (by decide) ?_
          exact h.elim
      have h := h.2 c_14
      by_cases c_25 : sw = 2
      · have h := h.1 c_25
        refine lv_tableIn (off := 173) (tgt := 206) hx hb dL_law_33 (by rw [c_25]; decide) (by rw [c_25]; decide) (by rw [c_25]; rfl) (by decide) ?_
        refine lv_aload_n hx hb dL_law_206 rfl (lv_at hl 1 rfl) ?_
        refine lv_aload_n hx hb dL_law_207 rfl (lv_at hl 0 rfl) ?_
        refine lv_iload_n hx hb dL_law_208 rfl (lv_at hl 3 rfl) ?_
        refine lv_iconst (v := 1) hx hb dL_law_209 (by decide) ?_
        refine lv_iadd hx hb dL_law_210 ?_
        have hi_26 := h.1
        have h := h.2
        refine va_sld hx hb hX hbl hbA hW.2.2.2.1 hi_26 dL_law_211 ?_
        refine lv_aload_n hx hb dL_law_212 rfl (lv_at hl 0 rfl) ?_
        refine lv_iload_n hx hb dL_law_213 rfl (lv_at hl 3 rfl) ?_
        refine lv_iconst (v := 2) hx hb dL_law_214 (by decide) ?_
        refine lv_iadd hx hb dL_law_215 ?_
        have hi_27 := h.1
        have h := h.2
        refine va_sld hx hb hX hbl hbA hW.2.2.2.1 hi_27 dL_law_216 ?_
        refine lv_aload_n hx hb dL_law_217 rfl (lv_at hl 0 rfl) ?_
        refine lv_iload_n hx hb dL_law_218 rfl (lv_at hl 3 rfl) ?_
        refine lv_iconst (v := 3) hx hb dL_law_219 (by decide) ?_
        refine lv_iadd hx hb dL_law_220 ?_
        have hi_28 := h.1
        have h := h.2
        refine va_sld hx hb hX hbl hbA hW.2.2.2.1 hi_28 dL_law_221 ?_
        refine cl_L_22 C hW h ⟨by decide, by decide⟩ ⟨by show _ ≤ 600000; omega, by show _ ≤ 7302250; omega⟩ hl.1 (Nat.le_of_ble_eq_true rfl) dL_law_222 (fun r_30 M_29 H locs h hW => ?_)
        refine lv_aload_n hx hb dL_law_225 rfl (lv_at hl 2 rfl) ?_
        refine lv_aload_n hx hb dL_law_226 rfl (lv_at hl 0 rfl) ?_
        refine lv_iload_n hx hb dL_law_227 rfl (lv_at hl 3 rfl) ?_
        refine lv_iconst (v := 1) hx hb dL_law_228 (by decide) ?_
        refine lv_iadd hx hb dL_law_229 ?_
        have hi_31 := h.1
        have h := h.2
        refine va_sld hx hb hX hbl hbA hW.2.2.2.1 hi_31 dL_law_230 ?_
        refine lv_aload_n hx hb dL_law_231 rfl (lv_at hl 0 rfl) ?_
        refine lv_iload_n hx hb dL_law_232 rfl (lv_at hl 3 rfl) ?_
        refine lv_iconst (v := 2) hx hb dL_law_233 (by decide) ?_
        refine lv_iadd hx hb dL_law_234 ?_
        have hi_32 := h.1
        have h := h.2
        refine va_sld hx hb hX hbl hbA hW.2.2.2.1 hi_32 dL_law_235 ?_
        refine lv_aload_n hx hb dL_law_236 rfl (lv_at hl 0 rfl) ?_
        refine lv_iload_n hx hb dL_law_237 rfl (lv_at hl 3 rfl) ?_
        refine lv_iconst (v := 3) hx hb dL_law_238 (by decide) ?_
        refine lv_iadd hx hb dL_law_239 ?_
        have hi_33 := h.1
        have h := h.2
        refine va_sld hx hb hX hbl hbA hW.2.2.2.1 hi_33 dL_law_240 ?_
        refine cl_L_26 C hW h ⟨by decide, by decide⟩ ⟨by show _ ≤ 600000; omega, by show _ ≤ 7302250; omega⟩ hl.1 (Nat.le_of_ble_eq_true rfl) dL_law_241 (fun r_35 M_34 H locs h hW => ?_)
        refine lv_icmp_eq (tgt := 1077) hx hb dL_law_244 (by decide) (fun c_36 => ?_) (fun c_36 => ?_)
        · have h := h.1 c_36
          obtain ⟨x3_37, ex3_37⟩ : ∃ y : Int32, y = v3 + 6 := ⟨_, rfl⟩
          have h := h x3_37 ex3_37
          refine lv_iinc (v := x3_37) (lv' := [(3, .int x3_37), (0, .ref b), (1, .ref (g.1 0)), (2, .ref (g.1 82))]) hx hb dL_law_1077 hl (k := 3) rfl (by rw [ex3_37]; rfl) (by decide) rfl (fun ls hl => ?_)
          refine lv_goto (tgt := 18) hx hb dL_law_1080 (by decide) ?_
          refine W.widen (k := 107 + 8 * (513 - n)) (n := 902 + 16 * (513 - n)) (by omega) (by omega) ?_
          exact ih (by omega) x3_37 M_34 _ _ _ hW (lv_sub hl [1, 2, 3, 0] rfl) h
        · have h := h.2 c_36
          refine lv_iconst (v := 0) hx hb dL_law_247 (by decide) ?_
          exact h.elim
      have h := h.2 c_25
      by_cases c_38 : sw = 3
      · have h := h.1 c_38
        refine lv_tableIn (off := 216) (tgt := 249) hx hb dL_law_33 (by rw [c_38]; decide) (by rw [c_38]; decide) (by rw [c_38]; rfl) (by decide) ?_
        refine lv_aload_n hx hb dL_law_249 rfl (lv_at hl 1 rfl) ?_
        refine lv_aload_n hx hb dL_law_250 rfl (lv_at hl 0 rfl) ?_
        refine lv_iload_n hx hb dL_law_251 rfl (lv_at hl 3 rfl) ?_
        refine lv_iconst (v := 1) hx hb dL_law_252 (by decide) ?_
        refine lv_iadd hx hb dL_law_253 ?_
        have hi_39 := h.1
        have h := h.2
        refine va_sld hx hb hX hbl hbA hW.2.2.2.1 hi_39 dL_law_254 ?_
        refine lv_aload_n hx hb dL_law_255 rfl (lv_at hl 0 rfl) ?_
        refine lv_iload_n hx hb dL_law_256 rfl (lv_at hl 3 rfl) ?_
        refine lv_iconst (v := 2) hx hb dL_law_257 (by decide) ?_
        refine lv_iadd hx hb dL_law_258 ?_
        have hi_40 := h.1
        have h := h.2
        refine va_sld hx hb hX hbl hbA hW.2.2.2.1 hi_40 dL_law_259 ?_
        refine lv_aload_n hx hb dL_law_260 rfl (lv_at hl 0 rfl) ?_
        refine lv_iload_n hx hb dL_law_261 rfl (lv_at hl 3 rfl) ?_
        refine lv_iconst (v := 3) hx hb dL_law_262 (by decide) ?_
        refine lv_iadd hx hb dL_law_263 ?_
        have hi_41 := h.1
        have h := h.2
        refine va_sld hx hb hX hbl hbA hW.2.2.2.1 hi_41 dL_law_264 ?_
        refine cl_L_27 C hW h ⟨by decide, by decide⟩ ⟨by show _ ≤ 600000; omega, by show _ ≤ 7302250; omega⟩ hl.1 (Nat.le_of_ble_eq_true rfl) dL_law_265 (fun r_43 M_42 H locs h hW => ?_)
        refine lv_aload_n hx hb dL_law_268 rfl (lv_at hl 2 rfl) ?_
        refine lv_aload_n hx hb dL_law_269 rfl (lv_at hl 0 rfl) ?_
        refine lv_iload_n hx hb dL_law_270 rfl (lv_at hl 3 rfl) ?_
        refine lv_iconst (v := 1) hx hb dL_law_271 (by decide) ?_
        refine lv_iadd hx hb dL_law_272 ?_
        have hi_44 := h.1
        have h := h.2
        refine va_sld hx hb hX hbl hbA hW.2.2.2.1 hi_44 dL_law_273 ?_
        refine lv_aload_n hx hb dL_law_274 rfl (lv_at hl 0 rfl) ?_
        refine lv_iload_n hx hb dL_law_275 rfl (lv_at hl 3 rfl) ?_
        refine lv_iconst (v := 2) hx hb dL_law_276 (by decide) ?_
        refine lv_iadd hx hb dL_law_277 ?_
        have hi_45 := h.1
        have h := h.2
        refine va_sld hx hb hX hbl hbA hW.2.2.2.1 hi_45 dL_law_278 ?_
        refine lv_aload_n hx hb dL_law_279 rfl (lv_at hl 0 rfl) ?_
        refine lv_iload_n hx hb dL_law_280 rfl (lv_at hl 3 rfl) ?_
        refine lv_iconst (v := 3) hx hb dL_law_281 (by decide) ?_
        refine lv_iadd hx hb dL_law_282 ?_
        have hi_46 := h.1
        have h := h.2
        refine va_sld hx hb hX hbl hbA hW.2.2.2.1 hi_46 dL_law_283 ?_
        refine cl_L_30 C hW h ⟨by decide, by decide⟩ ⟨by show _ ≤ 600000; omega, by show _ ≤ 7302250; omega⟩ hl.1 (Nat.le_of_ble_eq_true rfl) dL_law_284 (fun r_48 M_47 H locs h hW => ?_)
        refine lv_icmp_eq (tgt := 1077) hx hb dL_law_287 (by decide) (fun c_49 => ?_) (fun c_49 => ?_)
        · have h := h.1 c_49
          obtain ⟨x3_50, ex3_50⟩ : ∃ y : Int32, y = v3 + 6 := ⟨_, rfl⟩
          have h := h x3_50 ex3_50
          refine lv_iinc (v := x3_50) (lv' := [(3, .int x3_50), (0, .ref b), (1, .ref (g.1 0)), (2, .ref (g.1 82))]) hx hb dL_law_1077 hl (k := 3) rfl (by rw [ex3_50]; rfl) (by decide) rfl (fun ls hl => ?_)
          refine lv_goto (tgt := 18) hx hb dL_law_1080 (by decide) ?_
          refine W.widen (k := 107 + 8 * (513 - n)) (n := 902 + 16 * (513 - n)) (by omega) (by omega) ?_
          exact ih (by omega) x3_50 M_47 _ _ _ hW (lv_sub hl [1, 2, 3, 0] rfl) h
        · have h := h.2 c_49
          refine lv_iconst (v := 0) hx hb dL_law_290 (by decide) ?_
          exact h.elim
      have h := h.2 c_38
      by_cases c_51 : sw = 4
      · have h := h.1 c_51
        refine lv_tableIn (off := 259) (tgt := 292) hx hb dL_law_33 (by rw [c_51]; decide) (by rw [c_51]; decide) (by rw [c_51]; rfl) (by decide) ?_
        refine lv_aload_n hx hb dL_law_292 rfl (lv_at hl 1 rfl) ?_
        refine lv_aload_n hx hb dL_law_293 rfl (lv_at hl 0 rfl) ?_
        refine lv_iload_n hx hb dL_law_294 rfl (lv_at hl 3 rfl) ?_
        refine lv_iconst (v := 1) hx hb dL_law_295 (by decide) ?_
        refine lv_iadd hx hb dL_law_296 ?_
        have hi_52 := h.1
        have h := h.2
        refine va_sld hx hb hX hbl hbA hW.2.2.2.1 hi_52 dL_law_297 ?_
        refine lv_aload_n hx hb dL_law_298 rfl (lv_at hl 0 rfl) ?_
        refine lv_iload_n hx hb dL_law_299 rfl (lv_at hl 3 rfl) ?_
        refine lv_iconst (v := 2) hx hb dL_law_300 (by decide) ?_
        refine lv_iadd hx hb dL_law_301 ?_
        have hi_53 := h.1
        have h := h.2
        refine va_sld hx hb hX hbl hbA hW.2.2.2.1 hi_53 dL_law_302 ?_
        refine lv_aload_n hx hb dL_law_303 rfl (lv_at hl 0 rfl) ?_
        refine lv_iload_n hx hb dL_law_304 rfl (lv_at hl 3 rfl) ?_
        refine lv_iconst (v := 3) hx hb dL_law_305 (by decide) ?_
        refine lv_iadd hx hb dL_law_306 ?_
        have hi_54 := h.1
        have h := h.2
        refine va_sld hx hb hX hbl hbA hW.2.2.2.1 hi_54 dL_law_307 ?_
        refine cl_L_31 C hW h ⟨by decide, by decide⟩ ⟨by show _ ≤ 600000; omega, by show _ ≤ 7302250; omega⟩ hl.1 (Nat.le_of_ble_eq_true rfl) dL_law_308 (fun r_56 M_55 H locs h hW => ?_)
        refine lv_aload_n hx hb dL_law_311 rfl (lv_at hl 2 rfl) ?_
        refine lv_aload_n hx hb dL_law_312 rfl (lv_at hl 0 rfl) ?_
        refine lv_iload_n hx hb dL_law_313 rfl (lv_at hl 3 rfl) ?_
        refine lv_iconst (v := 1) hx hb dL_law_314 (by decide) ?_
        refine lv_iadd hx hb dL_law_315 ?_
        have hi_57 := h.1
        have h := h.2
        refine va_sld hx hb hX hbl hbA hW.2.2.2.1 hi_57 dL_law_316 ?_
        refine lv_aload_n hx hb dL_law_317 rfl (lv_at hl 0 rfl) ?_
        refine lv_iload_n hx hb dL_law_318 rfl (lv_at hl 3 rfl) ?_
        refine lv_iconst (v := 2) hx hb dL_law_319 (by decide) ?_
        refine lv_iadd hx hb dL_law_320 ?_
        have hi_58 := h.1
        have h := h.2
        refine va_sld hx hb hX hbl hbA hW.2.2.2.1 hi_58 dL_law_321 ?_
        refine lv_aload_n hx hb dL_law_322 rfl (lv_at hl 0 rfl) ?_
        refine lv_iload_n hx hb dL_law_323 rfl (lv_at hl 3 rfl) ?_
        refine lv_iconst (v := 3) hx hb dL_law_324 (by decide) ?_
        refine lv_iadd hx hb dL_law_325 ?_
        have hi_59 := h.1
        have h := h.2
        refine va_sld hx hb hX hbl hbA hW.2.2.2.1 hi_59 dL_law_326 ?_
        refine cl_L_34 C hW h ⟨by decide, by decide⟩ ⟨by show _ ≤ 600000; omega, by show _ ≤ 7302250; omega⟩ hl.1 (Nat.le_of_ble_eq_true rfl) dL_law_327 (fun r_61 M_60 H locs h hW => ?_)
        refine lv_icmp_eq (tgt := 1077) hx hb dL_law_330 (by decide) (fun c_62 => ?_) (fun c_62 => ?_)
        · have h := h.1 c_62
          obtain ⟨x3_63, ex3_63⟩ : ∃ y : Int32, y = v3 + 6 := ⟨_, rfl⟩
          have h := h x3_63 ex3_63
          refine lv_iinc (v := x3_63) (lv' := [(3, .int x3_63), (0, .ref b), (1, .ref (g.1 0)), (2, .ref (g.1 82))]) hx hb dL_law_1077 hl (k := 3) rfl (by rw [ex3_63]; rfl) (by decide) rfl (fun ls hl => ?_)
          refine lv_goto (tgt := 18) hx hb dL_law_1080 (by decide) ?_
          refine W.widen (k := 107 + 8 * (513 - n)) (n := 902 + 16 * (513 - n)) (by omega) (by omega) ?_
          exact ih (by omega) x3_63 M_60 _ _ _ hW (lv_sub hl [1, 2, 3, 0] rfl) h
        · have h := h.2 c_62
          refine lv_iconst (v := 0) hx hb dL_law_333 (by decide) ?_
          exact h.elim
      have h := h.2 c_51
      by_cases c_64 : sw = 5
      · have h := h.1 c_64
        refine lv_tableIn (off := 302) (tgt := 335) hx hb dL_law_33 (by rw [c_64]; decide) (by rw [c_64]; decide) (by rw [c_64]; rfl) (by decide) ?_
        refine lv_aload_n hx hb dL_law_335 rfl (lv_at hl 1 rfl) ?_
        refine lv_aload_n hx hb dL_law_336 rfl (lv_at hl 0 rfl) ?_
        refine lv_iload_n hx hb dL_law_337 rfl (lv_at hl 3 rfl) ?_
        refine lv_iconst (v := 1) hx hb dL_law_338 (by decide) ?_
        refine lv_iadd hx hb dL_law_339 ?_
        have hi_65 := h.1
        have h := h.2
        refine va_sld hx hb hX hbl hbA hW.2.2.2.1 hi_65 dL_law_340 ?_
        refine lv_aload_n hx hb dL_law_341 rfl (lv_at hl 0 rfl) ?_
        refine lv_iload_n hx hb dL_law_342 rfl (lv_at hl 3 rfl) ?_
        refine lv_iconst (v := 2) hx hb dL_law_343 (by decide) ?_
        refine lv_iadd hx hb dL_law_344 ?_
        have hi_66 := h.1
        have h := h.2
        refine va_sld hx hb hX hbl hbA hW.2.2.2.1 hi_66 dL_law_345 ?_
        refine lv_aload_n hx hb dL_law_346 rfl (lv_at hl 0 rfl) ?_
        refine lv_iload_n hx hb dL_law_347 rfl (lv_at hl 3 rfl) ?_
        refine lv_iconst (v := 3) hx hb dL_law_348 (by decide) ?_
        refine lv_iadd hx hb dL_law_349 ?_
        have hi_67 := h.1
        have h := h.2
        refine va_sld hx hb hX hbl hbA hW.2.2.2.1 hi_67 dL_law_350 ?_
        refine lv_aload_n hx hb dL_law_351 rfl (lv_at hl 0 rfl) ?_
        refine lv_iload_n hx hb dL_law_352 rfl (lv_at hl 3 rfl) ?_
        refine lv_iconst (v := 4) hx hb dL_law_353 (by decide) ?_
        refine lv_iadd hx hb dL_law_354 ?_
        have hi_68 := h.1
        have h := h.2
        refine va_sld hx hb hX hbl hbA hW.2.2.2.1 hi_68 dL_law_355 ?_
        refine cl_L_35 C hW h ⟨by decide, by decide⟩ ⟨by show _ ≤ 600000; omega, by show _ ≤ 7302250; omega⟩ hl.1 (Nat.le_of_ble_eq_true rfl) dL_law_356 (fun r_70 M_69 H locs h hW => ?_)
        refine lv_aload_n hx hb dL_law_359 rfl (lv_at hl 2 rfl) ?_
        refine lv_aload_n hx hb dL_law_360 rfl (lv_at hl 0 rfl) ?_
        refine lv_iload_n hx hb dL_law_361 rfl (lv_at hl 3 rfl) ?_
        refine lv_iconst (v := 1) hx hb dL_law_362 (by decide) ?_
        refine lv_iadd hx hb dL_law_363 ?_
        have hi_71 := h.1
        have h := h.2
        refine va_sld hx hb hX hbl hbA hW.2.2.2.1 hi_71 dL_law_364 ?_
        refine lv_aload_n hx hb dL_law_365 rfl (lv_at hl 0 rfl) ?_
        refine lv_iload_n hx hb dL_law_366 rfl (lv_at hl 3 rfl) ?_
        refine lv_iconst (v := 2) hx hb dL_law_367 (by decide) ?_
        refine lv_iadd hx hb dL_law_368 ?_
        have hi_72 := h.1
        have h := h.2
        refine va_sld hx hb hX hbl hbA hW.2.2.2.1 hi_72 dL_law_369 ?_
        refine lv_aload_n hx hb dL_law_370 rfl (lv_at hl 0 rfl) ?_
        refine lv_iload_n hx hb dL_law_371 rfl (lv_at hl 3 rfl) ?_
        refine lv_iconst (v := 3) hx hb dL_law_372 (by decide) ?_
        refine lv_iadd hx hb dL_law_373 ?_
        have hi_73 := h.1
        have h := h.2
        refine va_sld hx hb hX hbl hbA hW.2.2.2.1 hi_73 dL_law_374 ?_
        refine lv_aload_n hx hb dL_law_375 rfl (lv_at hl 0 rfl) ?_
        refine lv_iload_n hx hb dL_law_376 rfl (lv_at hl 3 rfl) ?_
        refine lv_iconst (v := 4) hx hb dL_law_377 (by decide) ?_
        refine lv_iadd hx hb dL_law_378 ?_
        have hi_74 := h.1
        have h := h.2
        refine va_sld hx hb hX hbl hbA hW.2.2.2.1 hi_74 dL_law_379 ?_
        refine cl_L_39 C hW h ⟨by decide, by decide⟩ ⟨by show _ ≤ 600000; omega, by show _ ≤ 7302250; omega⟩ hl.1 (Nat.le_of_ble_eq_true rfl) dL_law_380 (fun r_76 M_75 H locs h hW => ?_)
        refine lv_icmp_eq (tgt := 1077) hx hb dL_law_383 (by decide) (fun c_77 => ?_) (fun c_77 => ?_)
        · have h := h.1 c_77
          obtain ⟨x3_78, ex3_78⟩ : ∃ y : Int32, y = v3 + 6 := ⟨_, rfl⟩
          have h := h x3_78 ex3_78
          refine lv_iinc (v := x3_78) (lv' := [(3, .int x3_78), (0, .ref b), (1, .ref (g.1 0)), (2, .ref (g.1 82))]) hx hb dL_law_1077 hl (k := 3) rfl (by rw [ex3_78]; rfl) (by decide) rfl (fun ls hl => ?_)
          refine lv_goto (tgt := 18) hx hb dL_law_1080 (by decide) ?_
          refine W.widen (k := 107 + 8 * (513 - n)) (n := 902 + 16 * (513 - n)) (by omega) (by omega) ?_
          exact ih (by omega) x3_78 M_75 _ _ _ hW (lv_sub hl [1, 2, 3, 0] rfl) h
        · have h := h.2 c_77
          refine lv_iconst (v := 0) hx hb dL_law_386 (by decide) ?_
          exact h.elim
      have h := h.2 c_64
      by_cases c_79 : sw = 6
      · have h := h.1 c_79
        refine lv_tableIn (off := 355) (tgt := 388) hx hb dL_law_33 (by rw [c_79]; decide) (by rw [c_79]; decide) (by rw [c_79]; rfl) (by decide) ?_
        refine lv_aload_n hx hb dL_law_388 rfl (lv_at hl 1 rfl) ?_
        refine lv_aload_n hx hb dL_law_389 rfl (lv_at hl 0 rfl) ?_
        refine lv_iload_n hx hb dL_law_390 rfl (lv_at hl 3 rfl) ?_
        refine lv_iconst (v := 1) hx hb dL_law_391 (by decide) ?_
        refine lv_iadd hx hb dL_law_392 ?_
        have hi_80 := h.1
        have h := h.2
        refine va_sld hx hb hX hbl hbA hW.2.2.2.1 hi_80 dL_law_393 ?_
        refine cl_L_40 C hW h ⟨by decide, by decide⟩ ⟨by show _ ≤ 600000; omega, by show _ ≤ 7302250; omega⟩ hl.1 (Nat.le_of_ble_eq_true rfl) dL_law_394 (fun r_82 M_81 H locs h hW => ?_)
        refine lv_aload_n hx hb dL_law_397 rfl (lv_at hl 2 rfl) ?_
        refine lv_aload_n hx hb dL_law_398 rfl (lv_at hl 0 rfl) ?_
        refine lv_iload_n hx hb dL_law_399 rfl (lv_at hl 3 rfl) ?_
        refine lv_iconst (v := 1) hx hb dL_law_400 (by decide) ?_
        refine lv_iadd hx hb dL_law_401 ?_
        have hi_83 := h.1
        have h := h.2
        refine va_sld hx hb hX hbl hbA hW.2.2.2.1 hi_83 dL_law_402 ?_
        refine cl_L_44 C hW h ⟨by decide, by decide⟩ ⟨by show _ ≤ 600000; omega, by show _ ≤ 7302250; omega⟩ hl.1 (Nat.le_of_ble_eq_true rfl) dL_law_403 (fun r_85 M_84 H locs h hW => ?_)
        refine lv_icmp_eq (tgt := 1077) hx hb dL_law_406 (by decide) (fun c_86 => ?_) (fun c_86 => ?_)
        · have h := h.1 c_86
          obtain ⟨x3_87, ex3_87⟩ : ∃ y : Int32, y = v3 + 6 := ⟨_, rfl⟩
          have h := h x3_87 ex3_87
          refine lv_iinc (v := x3_87) (lv' := [(3, .int x3_87), (0, .ref b), (1, .ref (g.1 0)), (2, .ref (g.1 82))]) hx hb dL_law_1077 hl (k := 3) rfl (by rw [ex3_87]; rfl) (by decide) rfl (fun ls hl => ?_)
          refine lv_goto (tgt := 18) hx hb dL_law_1080 (by decide) ?_
          refine W.widen (k := 107 + 8 * (513 - n)) (n := 902 + 16 * (513 - n)) (by omega) (by omega) ?_
          exact ih (by omega) x3_87 M_84 _ _ _ hW (lv_sub hl [1, 2, 3, 0] rfl) h
        · have h := h.2 c_86
          refine lv_iconst (v := 0) hx hb dL_law_409 (by decide) ?_
          exact h.elim
      have h := h.2 c_79
      by_cases c_88 : sw = 7
      · have h := h.1 c_88
        refine lv_tableIn (off := 378) (tgt := 411) hx hb dL_law_33 (by rw [c_88]; decide) (by rw [c_88]; decide) (by rw [c_88]; rfl) (by decide) ?_
        refine lv_aload_n hx hb dL_law_411 rfl (lv_at hl 1 rfl) ?_
        refine lv_aload_n hx hb dL_law_412 rfl (lv_at hl 0 rfl) ?_
        refine lv_iload_n hx hb dL_law_413 rfl (lv_at hl 3 rfl) ?_
        refine lv_iconst (v := 1) hx hb dL_law_414 (by decide) ?_
        refine lv_iadd hx hb dL_law_415 ?_
        have hi_89 := h.1
        have h := h.2
        refine va_sld hx hb hX hbl hbA hW.2.2.2.1 hi_89 dL_law_416 ?_
        refine lv_aload_n hx hb dL_law_417 rfl (lv_at hl 0 rfl) ?_
        refine lv_iload_n hx hb dL_law_418 rfl (lv_at hl 3 rfl) ?_
        refine lv_iconst (v := 2) hx hb dL_law_419 (by decide) ?_
        refine lv_iadd hx hb dL_law_420 ?_
        have hi_90 := h.1
        have h := h.2
        refine va_sld hx hb hX hbl hbA hW.2.2.2.1 hi_90 dL_law_421 ?_
        refine lv_aload_n hx hb dL_law_422 rfl (lv_at hl 0 rfl) ?_
        refine lv_iload_n hx hb dL_law_423 rfl (lv_at hl 3 rfl) ?_
        refine lv_iconst (v := 3) hx hb dL_law_424 (by decide) ?_
        refine lv_iadd hx hb dL_law_425 ?_
        have hi_91 := h.1
        have h := h.2
        refine va_sld hx hb hX hbl hbA hW.2.2.2.1 hi_91 dL_law_426 ?_
        refine lv_aload_n hx hb dL_law_427 rfl (lv_at hl 0 rfl) ?_
        refine lv_iload_n hx hb dL_law_428 rfl (lv_at hl 3 rfl) ?_
        refine lv_iconst (v := 4) hx hb dL_law_429 (by decide) ?_
        refine lv_iadd hx hb dL_law_430 ?_
        have hi_92 := h.1
        have h := h.2
        refine va_sld hx hb hX hbl hbA hW.2.2.2.1 hi_92 dL_law_431 ?_
        refine lv_if_eq (tgt := 439) hx hb dL_law_432 (by decide) (fun c_93 => ?_) (fun c_93 => ?_)
        · have h := h.1 c_93
          refine lv_iconst (v := 0) hx hb dL_law_439 (by decide) ?_
          refine cl_L_45 C hW h ⟨by decide, by decide⟩ ⟨by show _ ≤ 600000; omega, by show _ ≤ 7302250; omega⟩ hl.1 (Nat.le_of_ble_eq_true rfl) dL_law_440 (fun r_95 M_94 H locs h hW => ?_)
          refine lv_aload_n hx hb dL_law_443 rfl (lv_at hl 2 rfl) ?_
          refine lv_aload_n hx hb dL_law_444 rfl (lv_at hl 0 rfl) ?_
          refine lv_iload_n hx hb dL_law_445 rfl (lv_at hl 3 rfl) ?_
          refine lv_iconst (v := 1) hx hb dL_law_446 (by decide) ?_
          refine lv_iadd hx hb dL_law_447 ?_
          have hi_96 := h.1
          have h := h.2
          refine va_sld hx hb hX hbl hbA hW.2.2.2.1 hi_96 dL_law_448 ?_
          refine lv_aload_n hx hb dL_law_449 rfl (lv_at hl 0 rfl) ?_
          refine lv_iload_n hx hb dL_law_450 rfl (lv_at hl 3 rfl) ?_
          refine lv_iconst (v := 2) hx hb dL_law_451 (by decide) ?_
          refine lv_iadd hx hb dL_law_452 ?_
          have hi_97 := h.1
          have h := h.2
          refine va_sld hx hb hX hbl hbA hW.2.2.2.1 hi_97 dL_law_453 ?_
          refine lv_aload_n hx hb dL_law_454 rfl (lv_at hl 0 rfl) ?_
          refine lv_iload_n hx hb dL_law_455 rfl (lv_at hl 3 rfl) ?_
          refine lv_iconst (v := 3) hx hb dL_law_456 (by decide) ?_
          refine lv_iadd hx hb dL_law_457 ?_
          have hi_98 := h.1
          have h := h.2
          refine va_sld hx hb hX hbl hbA hW.2.2.2.1 hi_98 dL_law_458 ?_
          refine lv_aload_n hx hb dL_law_459 rfl (lv_at hl 0 rfl) ?_
          refine lv_iload_n hx hb dL_law_460 rfl (lv_at hl 3 rfl) ?_
          refine lv_iconst (v := 4) hx hb dL_law_461 (by decide) ?_
          refine lv_iadd hx hb dL_law_462 ?_
          have hi_99 := h.1
          have h := h.2
          refine va_sld hx hb hX hbl hbA hW.2.2.2.1 hi_99 dL_law_463 ?_
          refine lv_if_eq (tgt := 471) hx hb dL_law_464 (by decide) (fun c_100 => ?_) (fun c_100 => ?_)
          · have h := h.1 c_100
            refine lv_iconst (v := 0) hx hb dL_law_471 (by decide) ?_
            refine cl_L_49 C hW h ⟨by decide, by decide⟩ ⟨by show _ ≤ 600000; omega, by show _ ≤ 7302250; omega⟩ hl.1 (Nat.le_of_ble_eq_true rfl) dL_law_472 (fun r_102 M_101 H locs h hW => ?_)
            refine lv_icmp_eq (tgt := 1077) hx hb dL_law_475 (by decide) (fun c_103 => ?_) (fun c_103 => ?_)
            · have h := h.1 c_103
              obtain ⟨x3_104, ex3_104⟩ : ∃ y : Int32, y = v3 + 6 := ⟨_, rfl⟩
              have h := h x3_104 ex3_104
              refine lv_iinc (v := x3_104) (lv' := [(3, .int x3_104), (0, .ref b), (1, .ref (g.1 0)), (2, .ref (g.1 82))]) hx hb dL_law_1077 hl (k := 3) rfl (by rw [ex3_104]; rfl) (by decide) rfl (fun ls hl => ?_)
              refine lv_goto (tgt := 18) hx hb dL_law_1080 (by decide) ?_
              refine W.widen (k := 107 + 8 * (513 - n)) (n := 902 + 16 * (513 - n)) (by omega) (by omega) ?_
              exact ih (by omega) x3_104 M_101 _ _ _ hW (lv_sub hl [1, 2, 3, 0] rfl) h
            · have h := h.2 c_103
              refine lv_iconst (v := 0) hx hb dL_law_478 (by decide) ?_
              exact h.elim
          · have h := h.2 c_100
            refine lv_iconst (v := 1) hx hb dL_law_467 (by decide) ?_
            refine lv_goto (tgt := 472) hx hb dL_law_468 (by decide) ?_
            refine cl_L_49 C hW h ⟨by decide, by decide⟩ ⟨by show _ ≤ 600000; omega, by show _ ≤ 7302250; omega⟩ hl.1 (Nat.le_of_ble_eq_true rfl) dL_law_472 (fun r_106 M_105 H locs h hW => ?_)
            refine lv_icmp_eq (tgt := 1077) hx hb dL_law_475 (by decide) (fun c_107 => ?_) (fun c_107 => ?_)
            · have h := h.1 c_107
              obtain ⟨x3_108, ex3_108⟩ : ∃ y : Int32, y = v3 + 6 := ⟨_, rfl⟩
              have h := h x3_108 ex3_108
              refine lv_iinc (v := x3_108) (lv' := [(3, .int x3_108), (0, .ref b), (1, .ref (g.1 0)), (2, .ref (g.1 82))]) hx hb dL_law_1077 hl (k := 3) rfl (by rw [ex3_108]; rfl) (by decide) rfl (fun ls hl => ?_)
              refine lv_goto (tgt := 18) hx hb dL_law_1080 (by decide) ?_
              refine W.widen (k := 107 + 8 * (513 - n)) (n := 902 + 16 * (513 - n)) (by omega) (by omega) ?_
              exact ih (by omega) x3_108 M_105 _ _ _ hW (lv_sub hl [1, 2, 3, 0] rfl) h
            · have h := h.2 c_107
              refine lv_iconst (v := 0) hx hb dL_law_478 (by decide) ?_
              exact h.elim
        · have h := h.2 c_93
          refine lv_iconst (v := 1) hx hb dL_law_435 (by decide) ?_
          refine lv_goto (tgt := 440) hx hb dL_law_436 (by decide) ?_
          refine cl_L_45 C hW h ⟨by decide, by decide⟩ ⟨by show _ ≤ 600000; omega, by show _ ≤ 7302250; omega⟩ hl.1 (Nat.le_of_ble_eq_true rfl) dL_law_440 (fun r_110 M_109 H locs h hW => ?_)
          refine lv_aload_n hx hb dL_law_443 rfl (lv_at hl 2 rfl) ?_
          refine lv_aload_n hx hb dL_law_444 rfl (lv_at hl 0 rfl) ?_
          refine lv_iload_n hx hb dL_law_445 rfl (lv_at hl 3 rfl) ?_
          refine lv_iconst (v := 1) hx hb dL_law_446 (by decide) ?_
          refine lv_iadd hx hb dL_law_447 ?_
          have hi_111 := h.1
          have h := h.2
          refine va_sld hx hb hX hbl hbA hW.2.2.2.1 hi_111 dL_law_448 ?_
          refine lv_aload_n hx hb dL_law_449 rfl (lv_at hl 0 rfl) ?_
          refine lv_iload_n hx hb dL_law_450 rfl (lv_at hl 3 rfl) ?_
          refine lv_iconst (v := 2) hx hb dL_law_451 (by decide) ?_
          refine lv_iadd hx hb dL_law_452 ?_
          have hi_112 := h.1
          have h := h.2
          refine va_sld hx hb hX hbl hbA hW.2.2.2.1 hi_112 dL_law_453 ?_
          refine lv_aload_n hx hb dL_law_454 rfl (lv_at hl 0 rfl) ?_
          refine lv_iload_n hx hb dL_law_455 rfl (lv_at hl 3 rfl) ?_
          refine lv_iconst (v := 3) hx hb dL_law_456 (by decide) ?_
          refine lv_iadd hx hb dL_law_457 ?_
          have hi_113 := h.1
          have h := h.2
          refine va_sld hx hb hX hbl hbA hW.2.2.2.1 hi_113 dL_law_458 ?_
          refine lv_aload_n hx hb dL_law_459 rfl (lv_at hl 0 rfl) ?_
          refine lv_iload_n hx hb dL_law_460 rfl (lv_at hl 3 rfl) ?_
          refine lv_iconst (v := 4) hx hb dL_law_461 (by decide) ?_
          refine lv_iadd hx hb dL_law_462 ?_
          have hi_114 := h.1
          have h := h.2
          refine va_sld hx hb hX hbl hbA hW.2.2.2.1 hi_114 dL_law_463 ?_
          refine lv_if_eq (tgt := 471) hx hb dL_law_464 (by decide) (fun c_115 => ?_) (fun c_115 => ?_)
          · have h := h.1 c_115
            refine lv_iconst (v := 0) hx hb dL_law_471 (by decide) ?_
            refine cl_L_49 C hW h ⟨by decide, by decide⟩ ⟨by show _ ≤ 600000; omega, by show _ ≤ 7302250; omega⟩ hl.1 (Nat.le_of_ble_eq_true rfl) dL_law_472 (fun r_117 M_116 H locs h hW => ?_)
            refine lv_icmp_eq (tgt := 1077) hx hb dL_law_475 (by decide) (fun c_118 => ?_) (fun c_118 => ?_)
            · have h := h.1 c_118
              obtain ⟨x3_119, ex3_119⟩ : ∃ y : Int32, y = v3 + 6 := ⟨_, rfl⟩
              have h := h x3_119 ex3_119
              refine lv_iinc (v := x3_119) (lv' := [(3, .int x3_119), (0, .ref b), (1, .ref (g.1 0)), (2, .ref (g.1 82))]) hx hb dL_law_1077 hl (k := 3) rfl (by rw [ex3_119]; rfl) (by decide) rfl (fun ls hl => ?_)
              refine lv_goto (tgt := 18) hx hb dL_law_1080 (by decide) ?_
              refine W.widen (k := 107 + 8 * (513 - n)) (n := 902 + 16 * (513 - n)) (by omega) (by omega) ?_
              exact ih (by omega) x3_119 M_116 _ _ _ hW (lv_sub hl [1, 2, 3, 0] rfl) h
            · have h := h.2 c_118
              refine lv_iconst (v := 0) hx hb dL_law_478 (by decide) ?_
              exact h.elim
          · have h := h.2 c_115
            refine lv_iconst (v := 1) hx hb dL_law_467 (by decide) ?_
            refine lv_goto (tgt := 472) hx hb dL_law_468 (by decide) ?_
            refine cl_L_49 C hW h ⟨by decide, by decide⟩ ⟨by show _ ≤ 600000; omega, by show _ ≤ 7302250; omega⟩ hl.1 (Nat.le_of_ble_eq_true rfl) dL_law_472 (fun r_121 M_120 H locs h hW => ?_)
            refine lv_icmp_eq (tgt := 1077) hx hb dL_law_475 (by decide) (fun c_122 => ?_) (fun c_122 => ?_)
            · have h := h.1 c_122
              obtain ⟨x3_123, ex3_123⟩ : ∃ y : Int32, y = v3 + 6 := ⟨_, rfl⟩
              have h := h x3_123 ex3_123
              refine lv_iinc (v := x3_123) (lv' := [(3, .int x3_123), (0, .ref b), (1, .ref (g.1 0)), (2, .ref (g.1 82))]) hx hb dL_law_1077 hl (k := 3) rfl (by rw [ex3_123]; rfl) (by decide) rfl (fun ls hl => ?_)
              refine lv_goto (tgt := 18) hx hb dL_law_1080 (by decide) ?_
              refine W.widen (k := 107 + 8 * (513 - n)) (n := 902 + 16 * (513 - n)) (by omega) (by omega) ?_
              exact ih (by omega) x3_123 M_120 _ _ _ hW (lv_sub hl [1, 2, 3, 0] rfl) h
            · have h := h.2 c_122
              refine lv_iconst (v := 0) hx hb dL_law_478 (by decide) ?_
              exact h.elim
      have h := h.2 c_88
      by_cases c_124 : sw = 8
      · have h := h.1 c_124
        refine lv_tableIn (off := 447) (tgt := 480) hx hb dL_law_33 (by rw [c_124]; decide) (by rw [c_124]; decide) (by rw [c_124]; rfl) (by decide) ?_
        refine lv_aload_n hx hb dL_law_480 rfl (lv_at hl 1 rfl) ?_
        refine lv_aload_n hx hb dL_law_481 rfl (lv_at hl 0 rfl) ?_
        refine lv_iload_n hx hb dL_law_482 rfl (lv_at hl 3 rfl) ?_
        refine lv_iconst (v := 1) hx hb dL_law_483 (by decide) ?_
        refine lv_iadd hx hb dL_law_484 ?_
        have hi_125 := h.1
        have h := h.2
        refine va_sld hx hb hX hbl hbA hW.2.2.2.1 hi_125 dL_law_485 ?_
        refine lv_aload_n hx hb dL_law_486 rfl (lv_at hl 0 rfl) ?_
        refine lv_iload_n hx hb dL_law_487 rfl (lv_at hl 3 rfl) ?_
        refine lv_iconst (v := 2) hx hb dL_law_488 (by decide) ?_
        refine lv_iadd hx hb dL_law_489 ?_
        have hi_126 := h.1
        have h := h.2
        refine va_sld hx hb hX hbl hbA hW.2.2.2.1 hi_126 dL_law_490 ?_
        refine lv_aload_n hx hb dL_law_491 rfl (lv_at hl 0 rfl) ?_
        refine lv_iload_n hx hb dL_law_492 rfl (lv_at hl 3 rfl) ?_
        refine lv_iconst (v := 3) hx hb dL_law_493 (by decide) ?_
        refine lv_iadd hx hb dL_law_494 ?_
        have hi_127 := h.1
        have h := h.2
        refine va_sld hx hb hX hbl hbA hW.2.2.2.1 hi_127 dL_law_495 ?_
        refine cl_L_50 C hW h ⟨by decide, by decide⟩ ⟨by show _ ≤ 600000; omega, by show _ ≤ 7302250; omega⟩ hl.1 (Nat.le_of_ble_eq_true rfl) dL_law_496 (fun r_129 M_128 H locs h hW => ?_)
        refine lv_aload_n hx hb dL_law_499 rfl (lv_at hl 2 rfl) ?_
        refine lv_aload_n hx hb dL_law_500 rfl (lv_at hl 0 rfl) ?_
        refine lv_iload_n hx hb dL_law_501 rfl (lv_at hl 3 rfl) ?_
        refine lv_iconst (v := 1) hx hb dL_law_502 (by decide) ?_
        refine lv_iadd hx hb dL_law_503 ?_
        have hi_130 := h.1
        have h := h.2
        refine va_sld hx hb hX hbl hbA hW.2.2.2.1 hi_130 dL_law_504 ?_
        refine lv_aload_n hx hb dL_law_505 rfl (lv_at hl 0 rfl) ?_
        refine lv_iload_n hx hb dL_law_506 rfl (lv_at hl 3 rfl) ?_
        refine lv_iconst (v := 2) hx hb dL_law_507 (by decide) ?_
        refine lv_iadd hx hb dL_law_508 ?_
        have hi_131 := h.1
        have h := h.2
        refine va_sld hx hb hX hbl hbA hW.2.2.2.1 hi_131 dL_law_509 ?_
        refine lv_aload_n hx hb dL_law_510 rfl (lv_at hl 0 rfl) ?_
        refine lv_iload_n hx hb dL_law_511 rfl (lv_at hl 3 rfl) ?_
        refine lv_iconst (v := 3) hx hb dL_law_512 (by decide) ?_
        refine lv_iadd hx hb dL_law_513 ?_
        have hi_132 := h.1
        have h := h.2
        refine va_sld hx hb hX hbl hbA hW.2.2.2.1 hi_132 dL_law_514 ?_
        refine cl_L_53 C hW h ⟨by decide, by decide⟩ ⟨by show _ ≤ 600000; omega, by show _ ≤ 7302250; omega⟩ hl.1 (Nat.le_of_ble_eq_true rfl) dL_law_515 (fun r_134 M_133 H locs h hW => ?_)
        refine lv_icmp_eq (tgt := 1077) hx hb dL_law_518 (by decide) (fun c_135 => ?_) (fun c_135 => ?_)
        · have h := h.1 c_135
          obtain ⟨x3_136, ex3_136⟩ : ∃ y : Int32, y = v3 + 6 := ⟨_, rfl⟩
          have h := h x3_136 ex3_136
          refine lv_iinc (v := x3_136) (lv' := [(3, .int x3_136), (0, .ref b), (1, .ref (g.1 0)), (2, .ref (g.1 82))]) hx hb dL_law_1077 hl (k := 3) rfl (by rw [ex3_136]; rfl) (by decide) rfl (fun ls hl => ?_)
          refine lv_goto (tgt := 18) hx hb dL_law_1080 (by decide) ?_
          refine W.widen (k := 107 + 8 * (513 - n)) (n := 902 + 16 * (513 - n)) (by omega) (by omega) ?_
          exact ih (by omega) x3_136 M_133 _ _ _ hW (lv_sub hl [1, 2, 3, 0] rfl) h
        · have h := h.2 c_135
          refine lv_iconst (v := 0) hx hb dL_law_521 (by decide) ?_
          exact h.elim
      have h := h.2 c_124
      by_cases c_137 : sw = 9
      · have h := h.1 c_137
        refine lv_tableIn (off := 490) (tgt := 523) hx hb dL_law_33 (by rw [c_137]; decide) (by rw [c_137]; decide) (by rw [c_137]; rfl) (by decide) ?_
        refine lv_aload_n hx hb dL_law_523 rfl (lv_at hl 1 rfl) ?_
        refine lv_aload_n hx hb dL_law_524 rfl (lv_at hl 0 rfl) ?_
        refine lv_iload_n hx hb dL_law_525 rfl (lv_at hl 3 rfl) ?_
        refine lv_iconst (v := 1) hx hb dL_law_526 (by decide) ?_
        refine lv_iadd hx hb dL_law_527 ?_
        have hi_138 := h.1
        have h := h.2
        refine va_sld hx hb hX hbl hbA hW.2.2.2.1 hi_138 dL_law_528 ?_
        refine lv_aload_n hx hb dL_law_529 rfl (lv_at hl 0 rfl) ?_
        refine lv_iload_n hx hb dL_law_530 rfl (lv_at hl 3 rfl) ?_
        refine lv_iconst (v := 2) hx hb dL_law_531 (by decide) ?_
        refine lv_iadd hx hb dL_law_532 ?_
        have hi_139 := h.1
        have h := h.2
        refine va_sld hx hb hX hbl hbA hW.2.2.2.1 hi_139 dL_law_533 ?_
        refine cl_L_54 C hW h ⟨by decide, by decide⟩ ⟨by show _ ≤ 600000; omega, by show _ ≤ 7302250; omega⟩ hl.1 (Nat.le_of_ble_eq_true rfl) dL_law_534 (fun r_141 M_140 H locs h hW => ?_)
        refine lv_aload_n hx hb dL_law_537 rfl (lv_at hl 2 rfl) ?_
        refine lv_aload_n hx hb dL_law_538 rfl (lv_at hl 0 rfl) ?_
        refine lv_iload_n hx hb dL_law_539 rfl (lv_at hl 3 rfl) ?_
        refine lv_iconst (v := 1) hx hb dL_law_540 (by decide) ?_
        refine lv_iadd hx hb dL_law_541 ?_
        have hi_142 := h.1
        have h := h.2
        refine va_sld hx hb hX hbl hbA hW.2.2.2.1 hi_142 dL_law_542 ?_
        refine lv_aload_n hx hb dL_law_543 rfl (lv_at hl 0 rfl) ?_
        refine lv_iload_n hx hb dL_law_544 rfl (lv_at hl 3 rfl) ?_
        refine lv_iconst (v := 2) hx hb dL_law_545 (by decide) ?_
        refine lv_iadd hx hb dL_law_546 ?_
        have hi_143 := h.1
        have h := h.2
        refine va_sld hx hb hX hbl hbA hW.2.2.2.1 hi_143 dL_law_547 ?_
        refine cl_L_57 C hW h ⟨by decide, by decide⟩ ⟨by show _ ≤ 600000; omega, by show _ ≤ 7302250; omega⟩ hl.1 (Nat.le_of_ble_eq_true rfl) dL_law_548 (fun r_145 M_144 H locs h hW => ?_)
        refine lv_icmp_eq (tgt := 1077) hx hb dL_law_551 (by decide) (fun c_146 => ?_) (fun c_146 => ?_)
        · have h := h.1 c_146
          obtain ⟨x3_147, ex3_147⟩ : ∃ y : Int32, y = v3 + 6 := ⟨_, rfl⟩
          have h := h x3_147 ex3_147
          refine lv_iinc (v := x3_147) (lv' := [(3, .int x3_147), (0, .ref b), (1, .ref (g.1 0)), (2, .ref (g.1 82))]) hx hb dL_law_1077 hl (k := 3) rfl (by rw [ex3_147]; rfl) (by decide) rfl (fun ls hl => ?_)
          refine lv_goto (tgt := 18) hx hb dL_law_1080 (by decide) ?_
          refine W.widen (k := 107 + 8 * (513 - n)) (n := 902 + 16 * (513 - n)) (by omega) (by omega) ?_
          exact ih (by omega) x3_147 M_144 _ _ _ hW (lv_sub hl [1, 2, 3, 0] rfl) h
        · have h := h.2 c_146
          refine lv_iconst (v := 0) hx hb dL_law_554 (by decide) ?_
          exact h.elim
      have h := h.2 c_137
      by_cases c_148 : sw = 10
      · have h := h.1 c_148
        refine lv_tableIn (off := 523) (tgt := 556) hx hb dL_law_33 (by rw [c_148]; decide) (by rw [c_148]; decide) (by rw [c_148]; rfl) (by decide) ?_
        refine lv_aload_n hx hb dL_law_556 rfl (lv_at hl 1 rfl) ?_
        refine lv_aload_n hx hb dL_law_557 rfl (lv_at hl 0 rfl) ?_
        refine lv_iload_n hx hb dL_law_558 rfl (lv_at hl 3 rfl) ?_
        refine lv_iconst (v := 1) hx hb dL_law_559 (by decide) ?_
        refine lv_iadd hx hb dL_law_560 ?_
        have hi_149 := h.1
        have h := h.2
        refine va_sld hx hb hX hbl hbA hW.2.2.2.1 hi_149 dL_law_561 ?_
        refine cl_L_58 C hW h ⟨by decide, by decide⟩ ⟨by show _ ≤ 600000; omega, by show _ ≤ 7302250; omega⟩ hl.1 (Nat.le_of_ble_eq_true rfl) dL_law_562 (fun r_151 M_150 H locs h hW => ?_)
        refine lv_aload_n hx hb dL_law_565 rfl (lv_at hl 2 rfl) ?_
        refine lv_aload_n hx hb dL_law_566 rfl (lv_at hl 0 rfl) ?_
        refine lv_iload_n hx hb dL_law_567 rfl (lv_at hl 3 rfl) ?_
        refine lv_iconst (v := 1) hx hb dL_law_568 (by decide) ?_
        refine lv_iadd hx hb dL_law_569 ?_
        have hi_152 := h.1
        have h := h.2
        refine va_sld hx hb hX hbl hbA hW.2.2.2.1 hi_152 dL_law_570 ?_
        refine cl_L_61 C hW h ⟨by decide, by decide⟩ ⟨by show _ ≤ 600000; omega, by show _ ≤ 7302250; omega⟩ hl.1 (Nat.le_of_ble_eq_true rfl) dL_law_571 (fun r_154 M_153 H locs h hW => ?_)
        refine lv_icmp_eq (tgt := 1077) hx hb dL_law_574 (by decide) (fun c_155 => ?_) (fun c_155 => ?_)
        · have h := h.1 c_155
          obtain ⟨x3_156, ex3_156⟩ : ∃ y : Int32, y = v3 + 6 := ⟨_, rfl⟩
          have h := h x3_156 ex3_156
          refine lv_iinc (v := x3_156) (lv' := [(3, .int x3_156), (0, .ref b), (1, .ref (g.1 0)), (2, .ref (g.1 82))]) hx hb dL_law_1077 hl (k := 3) rfl (by rw [ex3_156]; rfl) (by decide) rfl (fun ls hl => ?_)
          refine lv_goto (tgt := 18) hx hb dL_law_1080 (by decide) ?_
          refine W.widen (k := 107 + 8 * (513 - n)) (n := 902 + 16 * (513 - n)) (by omega) (by omega) ?_
          exact ih (by omega) x3_156 M_153 _ _ _ hW (lv_sub hl [1, 2, 3, 0] rfl) h
        · have h := h.2 c_155
          refine lv_iconst (v := 0) hx hb dL_law_577 (by decide) ?_
          exact h.elim
      have h := h.2 c_148
      by_cases c_157 : sw = 11
      · have h := h.1 c_157
        refine lv_tableIn (off := 546) (tgt := 579) hx hb dL_law_33 (by rw [c_157]; decide) (by rw [c_157]; decide) (by rw [c_157]; rfl) (by decide) ?_
        refine lv_aload_n hx hb dL_law_579 rfl (lv_at hl 1 rfl) ?_
        refine lv_aload_n hx hb dL_law_580 rfl (lv_at hl 0 rfl) ?_
        refine lv_iload_n hx hb dL_law_581 rfl (lv_at hl 3 rfl) ?_
        refine lv_iconst (v := 1) hx hb dL_law_582 (by decide) ?_
        refine lv_iadd hx hb dL_law_583 ?_
        have hi_158 := h.1
        have h := h.2
        refine va_sld hx hb hX hbl hbA hW.2.2.2.1 hi_158 dL_law_584 ?_
        refine lv_aload_n hx hb dL_law_585 rfl (lv_at hl 0 rfl) ?_
        refine lv_iload_n hx hb dL_law_586 rfl (lv_at hl 3 rfl) ?_
        refine lv_iconst (v := 2) hx hb dL_law_587 (by decide) ?_
        refine lv_iadd hx hb dL_law_588 ?_
        have hi_159 := h.1
        have h := h.2
        refine va_sld hx hb hX hbl hbA hW.2.2.2.1 hi_159 dL_law_589 ?_
        refine lv_aload_n hx hb dL_law_590 rfl (lv_at hl 0 rfl) ?_
        refine lv_iload_n hx hb dL_law_591 rfl (lv_at hl 3 rfl) ?_
        refine lv_iconst (v := 3) hx hb dL_law_592 (by decide) ?_
        refine lv_iadd hx hb dL_law_593 ?_
        have hi_160 := h.1
        have h := h.2
        refine va_sld hx hb hX hbl hbA hW.2.2.2.1 hi_160 dL_law_594 ?_
        refine cl_L_62 C hW h ⟨by decide, by decide⟩ ⟨by show _ ≤ 600000; omega, by show _ ≤ 7302250; omega⟩ hl.1 (Nat.le_of_ble_eq_true rfl) dL_law_595 (fun r_162 M_161 H locs h hW => ?_)
        refine lv_aload_n hx hb dL_law_598 rfl (lv_at hl 2 rfl) ?_
        refine lv_aload_n hx hb dL_law_599 rfl (lv_at hl 0 rfl) ?_
        refine lv_iload_n hx hb dL_law_600 rfl (lv_at hl 3 rfl) ?_
        refine lv_iconst (v := 1) hx hb dL_law_601 (by decide) ?_
        refine lv_iadd hx hb dL_law_602 ?_
        have hi_163 := h.1
        have h := h.2
        refine va_sld hx hb hX hbl hbA hW.2.2.2.1 hi_163 dL_law_603 ?_
        refine lv_aload_n hx hb dL_law_604 rfl (lv_at hl 0 rfl) ?_
        refine lv_iload_n hx hb dL_law_605 rfl (lv_at hl 3 rfl) ?_
        refine lv_iconst (v := 2) hx hb dL_law_606 (by decide) ?_
        refine lv_iadd hx hb dL_law_607 ?_
        have hi_164 := h.1
        have h := h.2
        refine va_sld hx hb hX hbl hbA hW.2.2.2.1 hi_164 dL_law_608 ?_
        refine lv_aload_n hx hb dL_law_609 rfl (lv_at hl 0 rfl) ?_
        refine lv_iload_n hx hb dL_law_610 rfl (lv_at hl 3 rfl) ?_
        refine lv_iconst (v := 3) hx hb dL_law_611 (by decide) ?_
        refine lv_iadd hx hb dL_law_612 ?_
        have hi_165 := h.1
        have h := h.2
        refine va_sld hx hb hX hbl hbA hW.2.2.2.1 hi_165 dL_law_613 ?_
        refine cl_L_65 C hW h ⟨by decide, by decide⟩ ⟨by show _ ≤ 600000; omega, by show _ ≤ 7302250; omega⟩ hl.1 (Nat.le_of_ble_eq_true rfl) dL_law_614 (fun r_167 M_166 H locs h hW => ?_)
        refine lv_icmp_eq (tgt := 1077) hx hb dL_law_617 (by decide) (fun c_168 => ?_) (fun c_168 => ?_)
        · have h := h.1 c_168
          obtain ⟨x3_169, ex3_169⟩ : ∃ y : Int32, y = v3 + 6 := ⟨_, rfl⟩
          have h := h x3_169 ex3_169
          refine lv_iinc (v := x3_169) (lv' := [(3, .int x3_169), (0, .ref b), (1, .ref (g.1 0)), (2, .ref (g.1 82))]) hx hb dL_law_1077 hl (k := 3) rfl (by rw [ex3_169]; rfl) (by decide) rfl (fun ls hl => ?_)
          refine lv_goto (tgt := 18) hx hb dL_law_1080 (by decide) ?_
          refine W.widen (k := 107 + 8 * (513 - n)) (n := 902 + 16 * (513 - n)) (by omega) (by omega) ?_
          exact ih (by omega) x3_169 M_166 _ _ _ hW (lv_sub hl [1, 2, 3, 0] rfl) h
        · have h := h.2 c_168
          refine lv_iconst (v := 0) hx hb dL_law_620 (by decide) ?_
          exact h.elim
      have h := h.2 c_157
      by_cases c_170 : sw = 12
      · have h := h.1 c_170
        refine lv_tableIn (off := 589) (tgt := 622) hx hb dL_law_33 (by rw [c_170]; decide) (by rw [c_170]; decide) (by rw [c_170]; rfl) (by decide) ?_
        refine lv_aload_n hx hb dL_law_622 rfl (lv_at hl 1 rfl) ?_
        refine lv_aload_n hx hb dL_law_623 rfl (lv_at hl 0 rfl) ?_
        refine lv_iload_n hx hb dL_law_624 rfl (lv_at hl 3 rfl) ?_
        refine lv_iconst (v := 1) hx hb dL_law_625 (by decide) ?_
        refine lv_iadd hx hb dL_law_626 ?_
        have hi_171 := h.1
        have h := h.2
        refine va_sld hx hb hX hbl hbA hW.2.2.2.1 hi_171 dL_law_627 ?_
        refine lv_aload_n hx hb dL_law_628 rfl (lv_at hl 0 rfl) ?_
        refine lv_iload_n hx hb dL_law_629 rfl (lv_at hl 3 rfl) ?_
        refine lv_iconst (v := 2) hx hb dL_law_630 (by decide) ?_
        refine lv_iadd hx hb dL_law_631 ?_
        have hi_172 := h.1
        have h := h.2
        refine va_sld hx hb hX hbl hbA hW.2.2.2.1 hi_172 dL_law_632 ?_
        refine lv_aload_n hx hb dL_law_633 rfl (lv_at hl 0 rfl) ?_
        refine lv_iload_n hx hb dL_law_634 rfl (lv_at hl 3 rfl) ?_
        refine lv_iconst (v := 3) hx hb dL_law_635 (by decide) ?_
        refine lv_iadd hx hb dL_law_636 ?_
        have hi_173 := h.1
        have h := h.2
        refine va_sld hx hb hX hbl hbA hW.2.2.2.1 hi_173 dL_law_637 ?_
        refine lv_aload_n hx hb dL_law_638 rfl (lv_at hl 0 rfl) ?_
        refine lv_iload_n hx hb dL_law_639 rfl (lv_at hl 3 rfl) ?_
        refine lv_iconst (v := 4) hx hb dL_law_640 (by decide) ?_
        refine lv_iadd hx hb dL_law_641 ?_
        have hi_174 := h.1
        have h := h.2
        refine va_sld hx hb hX hbl hbA hW.2.2.2.1 hi_174 dL_law_642 ?_
        refine lv_if_eq (tgt := 650) hx hb dL_law_643 (by decide) (fun c_175 => ?_) (fun c_175 => ?_)
        · have h := h.1 c_175
          refine lv_iconst (v := 0) hx hb dL_law_650 (by decide) ?_
          refine cl_L_66 C hW h ⟨by decide, by decide⟩ ⟨by show _ ≤ 600000; omega, by show _ ≤ 7302250; omega⟩ hl.1 (Nat.le_of_ble_eq_true rfl) dL_law_651 (fun r_177 M_176 H locs h hW => ?_)
          refine lv_aload_n hx hb dL_law_654 rfl (lv_at hl 2 rfl) ?_
          refine lv_aload_n hx hb dL_law_655 rfl (lv_at hl 0 rfl) ?_
          refine lv_iload_n hx hb dL_law_656 rfl (lv_at hl 3 rfl) ?_
          refine lv_iconst (v := 1) hx hb dL_law_657 (by decide) ?_
          refine lv_iadd hx hb dL_law_658 ?_
          have hi_178 := h.1
          have h := h.2
          refine va_sld hx hb hX hbl hbA hW.2.2.2.1 hi_178 dL_law_659 ?_
          refine lv_aload_n hx hb dL_law_660 rfl (lv_at hl 0 rfl) ?_
          refine lv_iload_n hx hb dL_law_661 rfl (lv_at hl 3 rfl) ?_
          refine lv_iconst (v := 2) hx hb dL_law_662 (by decide) ?_
          refine lv_iadd hx hb dL_law_663 ?_
          have hi_179 := h.1
          have h := h.2
          refine va_sld hx hb hX hbl hbA hW.2.2.2.1 hi_179 dL_law_664 ?_
          refine lv_aload_n hx hb dL_law_665 rfl (lv_at hl 0 rfl) ?_
          refine lv_iload_n hx hb dL_law_666 rfl (lv_at hl 3 rfl) ?_
          refine lv_iconst (v := 3) hx hb dL_law_667 (by decide) ?_
          refine lv_iadd hx hb dL_law_668 ?_
          have hi_180 := h.1
          have h := h.2
          refine va_sld hx hb hX hbl hbA hW.2.2.2.1 hi_180 dL_law_669 ?_
          refine lv_aload_n hx hb dL_law_670 rfl (lv_at hl 0 rfl) ?_
          refine lv_iload_n hx hb dL_law_671 rfl (lv_at hl 3 rfl) ?_
          refine lv_iconst (v := 4) hx hb dL_law_672 (by decide) ?_
          refine lv_iadd hx hb dL_law_673 ?_
          have hi_181 := h.1
          have h := h.2
          refine va_sld hx hb hX hbl hbA hW.2.2.2.1 hi_181 dL_law_674 ?_
          refine lv_if_eq (tgt := 682) hx hb dL_law_675 (by decide) (fun c_182 => ?_) (fun c_182 => ?_)
          · have h := h.1 c_182
            refine lv_iconst (v := 0) hx hb dL_law_682 (by decide) ?_
            refine cl_L_69 C hW h ⟨by decide, by decide⟩ ⟨by show _ ≤ 600000; omega, by show _ ≤ 7302250; omega⟩ hl.1 (Nat.le_of_ble_eq_true rfl) dL_law_683 (fun r_184 M_183 H locs h hW => ?_)
            refine lv_icmp_eq (tgt := 1077) hx hb dL_law_686 (by decide) (fun c_185 => ?_) (fun c_185 => ?_)
            · have h := h.1 c_185
              obtain ⟨x3_186, ex3_186⟩ : ∃ y : Int32, y = v3 + 6 := ⟨_, rfl⟩
              have h := h x3_186 ex3_186
              refine lv_iinc (v := x3_186) (lv' := [(3, .int x3_186), (0, .ref b), (1, .ref (g.1 0)), (2, .ref (g.1 82))]) hx hb dL_law_1077 hl (k := 3) rfl (by rw [ex3_186]; rfl) (by decide) rfl (fun ls hl => ?_)
              refine lv_goto (tgt := 18) hx hb dL_law_1080 (by decide) ?_
              refine W.widen (k := 107 + 8 * (513 - n)) (n := 902 + 16 * (513 - n)) (by omega) (by omega) ?_
              exact ih (by omega) x3_186 M_183 _ _ _ hW (lv_sub hl [1, 2, 3, 0] rfl) h
            · have h := h.2 c_185
              refine lv_iconst (v := 0) hx hb dL_law_689 (by decide) ?_
              exact h.elim
          · have h := h.2 c_182
            refine lv_iconst (v := 1) hx hb dL_law_678 (by decide) ?_
            refine lv_goto (tgt := 683) hx hb dL_law_679 (by decide) ?_
            refine cl_L_69 C hW h ⟨by decide, by decide⟩ ⟨by show _ ≤ 600000; omega, by show _ ≤ 7302250; omega⟩ hl.1 (Nat.le_of_ble_eq_true rfl) dL_law_683 (fun r_188 M_187 H locs h hW => ?_)
            refine lv_icmp_eq (tgt := 1077) hx hb dL_law_686 (by decide) (fun c_189 => ?_) (fun c_189 => ?_)
            · have h := h.1 c_189
              obtain ⟨x3_190, ex3_190⟩ : ∃ y : Int32, y = v3 + 6 := ⟨_, rfl⟩
              have h := h x3_190 ex3_190
              refine lv_iinc (v := x3_190) (lv' := [(3, .int x3_190), (0, .ref b), (1, .ref (g.1 0)), (2, .ref (g.1 82))]) hx hb dL_law_1077 hl (k := 3) rfl (by rw [ex3_190]; rfl) (by decide) rfl (fun ls hl => ?_)
              refine lv_goto (tgt := 18) hx hb dL_law_1080 (by decide) ?_
              refine W.widen (k := 107 + 8 * (513 - n)) (n := 902 + 16 * (513 - n)) (by omega) (by omega) ?_
              exact ih (by omega) x3_190 M_187 _ _ _ hW (lv_sub hl [1, 2, 3, 0] rfl) h
            · have h := h.2 c_189
              refine lv_iconst (v := 0) hx hb dL_law_689 (by decide) ?_
              exact h.elim
        · have h := h.2 c_175
          refine lv_iconst (v := 1) hx hb dL_law_646 (by decide) ?_
          refine lv_goto (tgt := 651) hx hb dL_law_647 (by decide) ?_
          refine cl_L_66 C hW h ⟨by decide, by decide⟩ ⟨by show _ ≤ 600000; omega, by show _ ≤ 7302250; omega⟩ hl.1 (Nat.le_of_ble_eq_true rfl) dL_law_651 (fun r_192 M_191 H locs h hW => ?_)
          refine lv_aload_n hx hb dL_law_654 rfl (lv_at hl 2 rfl) ?_
          refine lv_aload_n hx hb dL_law_655 rfl (lv_at hl 0 rfl) ?_
          refine lv_iload_n hx hb dL_law_656 rfl (lv_at hl 3 rfl) ?_
          refine lv_iconst (v := 1) hx hb dL_law_657 (by decide) ?_
          refine lv_iadd hx hb dL_law_658 ?_
          have hi_193 := h.1
          have h := h.2
          refine va_sld hx hb hX hbl hbA hW.2.2.2.1 hi_193 dL_law_659 ?_
          refine lv_aload_n hx hb dL_law_660 rfl (lv_at hl 0 rfl) ?_
          refine lv_iload_n hx hb dL_law_661 rfl (lv_at hl 3 rfl) ?_
          refine lv_iconst (v := 2) hx hb dL_law_662 (by decide) ?_
          refine lv_iadd hx hb dL_law_663 ?_
          have hi_194 := h.1
          have h := h.2
          refine va_sld hx hb hX hbl hbA hW.2.2.2.1 hi_194 dL_law_664 ?_
          refine lv_aload_n hx hb dL_law_665 rfl (lv_at hl 0 rfl) ?_
          refine lv_iload_n hx hb dL_law_666 rfl (lv_at hl 3 rfl) ?_
          refine lv_iconst (v := 3) hx hb dL_law_667 (by decide) ?_
          refine lv_iadd hx hb dL_law_668 ?_
          have hi_195 := h.1
          have h := h.2
          refine va_sld hx hb hX hbl hbA hW.2.2.2.1 hi_195 dL_law_669 ?_
          refine lv_aload_n hx hb dL_law_670 rfl (lv_at hl 0 rfl) ?_
          refine lv_iload_n hx hb dL_law_671 rfl (lv_at hl 3 rfl) ?_
          refine lv_iconst (v := 4) hx hb dL_law_672 (by decide) ?_
          refine lv_iadd hx hb dL_law_673 ?_
          have hi_196 := h.1
          have h := h.2
          refine va_sld hx hb hX hbl hbA hW.2.2.2.1 hi_196 dL_law_674 ?_
          refine lv_if_eq (tgt := 682) hx hb dL_law_675 (by decide) (fun c_197 => ?_) (fun c_197 => ?_)
          · have h := h.1 c_197
            refine lv_iconst (v := 0) hx hb dL_law_682 (by decide) ?_
            refine cl_L_69 C hW h ⟨by decide, by decide⟩ ⟨by show _ ≤ 600000; omega, by show _ ≤ 7302250; omega⟩ hl.1 (Nat.le_of_ble_eq_true rfl) dL_law_683 (fun r_199 M_198 H locs h hW => ?_)
            refine lv_icmp_eq (tgt := 1077) hx hb dL_law_686 (by decide) (fun c_200 => ?_) (fun c_200 => ?_)
            · have h := h.1 c_200
              obtain ⟨x3_201, ex3_201⟩ : ∃ y : Int32, y = v3 + 6 := ⟨_, rfl⟩
              have h := h x3_201 ex3_201
              refine lv_iinc (v := x3_201) (lv' := [(3, .int x3_201), (0, .ref b), (1, .ref (g.1 0)), (2, .ref (g.1 82))]) hx hb dL_law_1077 hl (k := 3) rfl (by rw [ex3_201]; rfl) (by decide) rfl (fun ls hl => ?_)
              refine lv_goto (tgt := 18) hx hb dL_law_1080 (by decide) ?_
              refine W.widen (k := 107 + 8 * (513 - n)) (n := 902 + 16 * (513 - n)) (by omega) (by omega) ?_
              exact ih (by omega) x3_201 M_198 _ _ _ hW (lv_sub hl [1, 2, 3, 0] rfl) h
            · have h := h.2 c_200
              refine lv_iconst (v := 0) hx hb dL_law_689 (by decide) ?_
              exact h.elim
          · have h := h.2 c_197
            refine lv_iconst (v := 1) hx hb dL_law_678 (by decide) ?_
            refine lv_goto (tgt := 683) hx hb dL_law_679 (by decide) ?_
            refine cl_L_69 C hW h ⟨by decide, by decide⟩ ⟨by show _ ≤ 600000; omega, by show _ ≤ 7302250; omega⟩ hl.1 (Nat.le_of_ble_eq_true rfl) dL_law_683 (fun r_203 M_202 H locs h hW => ?_)
            refine lv_icmp_eq (tgt := 1077) hx hb dL_law_686 (by decide) (fun c_204 => ?_) (fun c_204 => ?_)
            · have h := h.1 c_204
              obtain ⟨x3_205, ex3_205⟩ : ∃ y : Int32, y = v3 + 6 := ⟨_, rfl⟩
              have h := h x3_205 ex3_205
              refine lv_iinc (v := x3_205) (lv' := [(3, .int x3_205), (0, .ref b), (1, .ref (g.1 0)), (2, .ref (g.1 82))]) hx hb dL_law_1077 hl (k := 3) rfl (by rw [ex3_205]; rfl) (by decide) rfl (fun ls hl => ?_)
              refine lv_goto (tgt := 18) hx hb dL_law_1080 (by decide) ?_
              refine W.widen (k := 107 + 8 * (513 - n)) (n := 902 + 16 * (513 - n)) (by omega) (by omega) ?_
              exact ih (by omega) x3_205 M_202 _ _ _ hW (lv_sub hl [1, 2, 3, 0] rfl) h
            · have h := h.2 c_204
              refine lv_iconst (v := 0) hx hb dL_law_689 (by decide) ?_
              exact h.elim
      have h := h.2 c_170
      by_cases c_206 : sw = 13
      · have h := h.1 c_206
        refine lv_tableIn (off := 658) (tgt := 691) hx hb dL_law_33 (by rw [c_206]; decide) (by rw [c_206]; decide) (by rw [c_206]; rfl) (by decide) ?_
        refine lv_aload_n hx hb dL_law_691 rfl (lv_at hl 1 rfl) ?_
        refine lv_aload_n hx hb dL_law_692 rfl (lv_at hl 0 rfl) ?_
        refine lv_iload_n hx hb dL_law_693 rfl (lv_at hl 3 rfl) ?_
        refine lv_iconst (v := 1) hx hb dL_law_694 (by decide) ?_
        refine lv_iadd hx hb dL_law_695 ?_
        have hi_207 := h.1
        have h := h.2
        refine va_sld hx hb hX hbl hbA hW.2.2.2.1 hi_207 dL_law_696 ?_
        refine lv_aload_n hx hb dL_law_697 rfl (lv_at hl 0 rfl) ?_
        refine lv_iload_n hx hb dL_law_698 rfl (lv_at hl 3 rfl) ?_
        refine lv_iconst (v := 2) hx hb dL_law_699 (by decide) ?_
        refine lv_iadd hx hb dL_law_700 ?_
        have hi_208 := h.1
        have h := h.2
        refine va_sld hx hb hX hbl hbA hW.2.2.2.1 hi_208 dL_law_701 ?_
        refine lv_aload_n hx hb dL_law_702 rfl (lv_at hl 0 rfl) ?_
        refine lv_iload_n hx hb dL_law_703 rfl (lv_at hl 3 rfl) ?_
        refine lv_iconst (v := 3) hx hb dL_law_704 (by decide) ?_
        refine lv_iadd hx hb dL_law_705 ?_
        have hi_209 := h.1
        have h := h.2
        refine va_sld hx hb hX hbl hbA hW.2.2.2.1 hi_209 dL_law_706 ?_
        refine lv_aload_n hx hb dL_law_707 rfl (lv_at hl 0 rfl) ?_
        refine lv_iload_n hx hb dL_law_708 rfl (lv_at hl 3 rfl) ?_
        refine lv_iconst (v := 4) hx hb dL_law_709 (by decide) ?_
        refine lv_iadd hx hb dL_law_710 ?_
        have hi_210 := h.1
        have h := h.2
        refine va_sld hx hb hX hbl hbA hW.2.2.2.1 hi_210 dL_law_711 ?_
        refine lv_if_eq (tgt := 719) hx hb dL_law_712 (by decide) (fun c_211 => ?_) (fun c_211 => ?_)
        · have h := h.1 c_211
          refine lv_iconst (v := 0) hx hb dL_law_719 (by decide) ?_
          refine cl_L_70 C hW h ⟨by decide, by decide⟩ ⟨by show _ ≤ 600000; omega, by show _ ≤ 7302250; omega⟩ hl.1 (Nat.le_of_ble_eq_true rfl) dL_law_720 (fun r_213 M_212 H locs h hW => ?_)
          refine lv_aload_n hx hb dL_law_723 rfl (lv_at hl 2 rfl) ?_
          refine lv_aload_n hx hb dL_law_724 rfl (lv_at hl 0 rfl) ?_
          refine lv_iload_n hx hb dL_law_725 rfl (lv_at hl 3 rfl) ?_
          refine lv_iconst (v := 1) hx hb dL_law_726 (by decide) ?_
          refine lv_iadd hx hb dL_law_727 ?_
          have hi_214 := h.1
          have h := h.2
          refine va_sld hx hb hX hbl hbA hW.2.2.2.1 hi_214 dL_law_728 ?_
          refine lv_aload_n hx hb dL_law_729 rfl (lv_at hl 0 rfl) ?_
          refine lv_iload_n hx hb dL_law_730 rfl (lv_at hl 3 rfl) ?_
          refine lv_iconst (v := 2) hx hb dL_law_731 (by decide) ?_
          refine lv_iadd hx hb dL_law_732 ?_
          have hi_215 := h.1
          have h := h.2
          refine va_sld hx hb hX hbl hbA hW.2.2.2.1 hi_215 dL_law_733 ?_
          refine lv_aload_n hx hb dL_law_734 rfl (lv_at hl 0 rfl) ?_
          refine lv_iload_n hx hb dL_law_735 rfl (lv_at hl 3 rfl) ?_
          refine lv_iconst (v := 3) hx hb dL_law_736 (by decide) ?_
          refine lv_iadd hx hb dL_law_737 ?_
          have hi_216 := h.1
          have h := h.2
          refine va_sld hx hb hX hbl hbA hW.2.2.2.1 hi_216 dL_law_738 ?_
          refine lv_aload_n hx hb dL_law_739 rfl (lv_at hl 0 rfl) ?_
          refine lv_iload_n hx hb dL_law_740 rfl (lv_at hl 3 rfl) ?_
          refine lv_iconst (v := 4) hx hb dL_law_741 (by decide) ?_
          refine lv_iadd hx hb dL_law_742 ?_
          have hi_217 := h.1
          have h := h.2
          refine va_sld hx hb hX hbl hbA hW.2.2.2.1 hi_217 dL_law_743 ?_
          refine lv_if_eq (tgt := 751) hx hb dL_law_744 (by decide) (fun c_218 => ?_) (fun c_218 => ?_)
          · have h := h.1 c_218
            refine lv_iconst (v := 0) hx hb dL_law_751 (by decide) ?_
            refine cl_L_73 C hW h ⟨by decide, by decide⟩ ⟨by show _ ≤ 600000; omega, by show _ ≤ 7302250; omega⟩ hl.1 (Nat.le_of_ble_eq_true rfl) dL_law_752 (fun r_220 M_219 H locs h hW => ?_)
            refine lv_icmp_eq (tgt := 1077) hx hb dL_law_755 (by decide) (fun c_221 => ?_) (fun c_221 => ?_)
            · have h := h.1 c_221
              obtain ⟨x3_222, ex3_222⟩ : ∃ y : Int32, y = v3 + 6 := ⟨_, rfl⟩
              have h := h x3_222 ex3_222
              refine lv_iinc (v := x3_222) (lv' := [(3, .int x3_222), (0, .ref b), (1, .ref (g.1 0)), (2, .ref (g.1 82))]) hx hb dL_law_1077 hl (k := 3) rfl (by rw [ex3_222]; rfl) (by decide) rfl (fun ls hl => ?_)
              refine lv_goto (tgt := 18) hx hb dL_law_1080 (by decide) ?_
              refine W.widen (k := 107 + 8 * (513 - n)) (n := 902 + 16 * (513 - n)) (by omega) (by omega) ?_
              exact ih (by omega) x3_222 M_219 _ _ _ hW (lv_sub hl [1, 2, 3, 0] rfl) h
            · have h := h.2 c_221
              refine lv_iconst (v := 0) hx hb dL_law_758 (by decide) ?_
              exact h.elim
          · have h := h.2 c_218
            refine lv_iconst (v := 1) hx hb dL_law_747 (by decide) ?_
            refine lv_goto (tgt := 752) hx hb dL_law_748 (by decide) ?_
            refine cl_L_73 C hW h ⟨by decide, by decide⟩ ⟨by show _ ≤ 600000; omega, by show _ ≤ 7302250; omega⟩ hl.1 (Nat.le_of_ble_eq_true rfl) dL_law_752 (fun r_224 M_223 H locs h hW => ?_)
            refine lv_icmp_eq (tgt := 1077) hx hb dL_law_755 (by decide) (fun c_225 => ?_) (fun c_225 => ?_)
            · have h := h.1 c_225
              obtain ⟨x3_226, ex3_226⟩ : ∃ y : Int32, y = v3 + 6 := ⟨_, rfl⟩
              have h := h x3_226 ex3_226
              refine lv_iinc (v := x3_226) (lv' := [(3, .int x3_226), (0, .ref b), (1, .ref (g.1 0)), (2, .ref (g.1 82))]) hx hb dL_law_1077 hl (k := 3) rfl (by rw [ex3_226]; rfl) (by decide) rfl (fun ls hl => ?_)
              refine lv_goto (tgt := 18) hx hb dL_law_1080 (by decide) ?_
              refine W.widen (k := 107 + 8 * (513 - n)) (n := 902 + 16 * (513 - n)) (by omega) (by omega) ?_
              exact ih (by omega) x3_226 M_223 _ _ _ hW (lv_sub hl [1, 2, 3, 0] rfl) h
            · have h := h.2 c_225
              refine lv_iconst (v := 0) hx hb dL_law_758 (by decide) ?_
              exact h.elim
        · have h := h.2 c_211
          refine lv_iconst (v := 1) hx hb dL_law_715 (by decide) ?_
          refine lv_goto (tgt := 720) hx hb dL_law_716 (by decide) ?_
          refine cl_L_70 C hW h ⟨by decide, by decide⟩ ⟨by show _ ≤ 600000; omega, by show _ ≤ 7302250; omega⟩ hl.1 (Nat.le_of_ble_eq_true rfl) dL_law_720 (fun r_228 M_227 H locs h hW => ?_)
          refine lv_aload_n hx hb dL_law_723 rfl (lv_at hl 2 rfl) ?_
          refine lv_aload_n hx hb dL_law_724 rfl (lv_at hl 0 rfl) ?_
          refine lv_iload_n hx hb dL_law_725 rfl (lv_at hl 3 rfl) ?_
          refine lv_iconst (v := 1) hx hb dL_law_726 (by decide) ?_
          refine lv_iadd hx hb dL_law_727 ?_
          have hi_229 := h.1
          have h := h.2
          refine va_sld hx hb hX hbl hbA hW.2.2.2.1 hi_229 dL_law_728 ?_
          refine lv_aload_n hx hb dL_law_729 rfl (lv_at hl 0 rfl) ?_
          refine lv_iload_n hx hb dL_law_730 rfl (lv_at hl 3 rfl) ?_
          refine lv_iconst (v := 2) hx hb dL_law_731 (by decide) ?_
          refine lv_iadd hx hb dL_law_732 ?_
          have hi_230 := h.1
          have h := h.2
          refine va_sld hx hb hX hbl hbA hW.2.2.2.1 hi_230 dL_law_733 ?_
          refine lv_aload_n hx hb dL_law_734 rfl (lv_at hl 0 rfl) ?_
          refine lv_iload_n hx hb dL_law_735 rfl (lv_at hl 3 rfl) ?_
          refine lv_iconst (v := 3) hx hb dL_law_736 (by decide) ?_
          refine lv_iadd hx hb dL_law_737 ?_
          have hi_231 := h.1
          have h := h.2
          refine va_sld hx hb hX hbl hbA hW.2.2.2.1 hi_231 dL_law_738 ?_
          refine lv_aload_n hx hb dL_law_739 rfl (lv_at hl 0 rfl) ?_
          refine lv_iload_n hx hb dL_law_740 rfl (lv_at hl 3 rfl) ?_
          refine lv_iconst (v := 4) hx hb dL_law_741 (by decide) ?_
          refine lv_iadd hx hb dL_law_742 ?_
          have hi_232 := h.1
          have h := h.2
          refine va_sld hx hb hX hbl hbA hW.2.2.2.1 hi_232 dL_law_743 ?_
          refine lv_if_eq (tgt := 751) hx hb dL_law_744 (by decide) (fun c_233 => ?_) (fun c_233 => ?_)
          · have h := h.1 c_233
            refine lv_iconst (v := 0) hx hb dL_law_751 (by decide) ?_
            refine cl_L_73 C hW h ⟨by decide, by decide⟩ ⟨by show _ ≤ 600000; omega, by show _ ≤ 7302250; omega⟩ hl.1 (Nat.le_of_ble_eq_true rfl) dL_law_752 (fun r_235 M_234 H locs h hW => ?_)
            refine lv_icmp_eq (tgt := 1077) hx hb dL_law_755 (by decide) (fun c_236 => ?_) (fun c_236 => ?_)
            · have h := h.1 c_236
              obtain ⟨x3_237, ex3_237⟩ : ∃ y : Int32, y = v3 + 6 := ⟨_, rfl⟩
              have h := h x3_237 ex3_237
              refine lv_iinc (v := x3_237) (lv' := [(3, .int x3_237), (0, .ref b), (1, .ref (g.1 0)), (2, .ref (g.1 82))]) hx hb dL_law_1077 hl (k := 3) rfl (by rw [ex3_237]; rfl) (by decide) rfl (fun ls hl => ?_)
              refine lv_goto (tgt := 18) hx hb dL_law_1080 (by decide) ?_
              refine W.widen (k := 107 + 8 * (513 - n)) (n := 902 + 16 * (513 - n)) (by omega) (by omega) ?_
              exact ih (by omega) x3_237 M_234 _ _ _ hW (lv_sub hl [1, 2, 3, 0] rfl) h
            · have h := h.2 c_236
              refine lv_iconst (v := 0) hx hb dL_law_758 (by decide) ?_
              exact h.elim
          · have h := h.2 c_233
            refine lv_iconst (v := 1) hx hb dL_law_747 (by decide) ?_
            refine lv_goto (tgt := 752) hx hb dL_law_748 (by decide) ?_
            refine cl_L_73 C hW h ⟨by decide, by decide⟩ ⟨by show _ ≤ 600000; omega, by show _ ≤ 7302250; omega⟩ hl.1 (Nat.le_of_ble_eq_true rfl) dL_law_752 (fun r_239 M_238 H locs h hW => ?_)
            refine lv_icmp_eq (tgt := 1077) hx hb dL_law_755 (by decide) (fun c_240 => ?_) (fun c_240 => ?_)
            · have h := h.1 c_240
              obtain ⟨x3_241, ex3_241⟩ : ∃ y : Int32, y = v3 + 6 := ⟨_, rfl⟩
              have h := h x3_241 ex3_241
              refine lv_iinc (v := x3_241) (lv' := [(3, .int x3_241), (0, .ref b), (1, .ref (g.1 0)), (2, .ref (g.1 82))]) hx hb dL_law_1077 hl (k := 3) rfl (by rw [ex3_241]; rfl) (by decide) rfl (fun ls hl => ?_)
              refine lv_goto (tgt := 18) hx hb dL_law_1080 (by decide) ?_
              refine W.widen (k := 107 + 8 * (513 - n)) (n := 902 + 16 * (513 - n)) (by omega) (by omega) ?_
              exact ih (by omega) x3_241 M_238 _ _ _ hW (lv_sub hl [1, 2, 3, 0] rfl) h
            · have h := h.2 c_240
              refine lv_iconst (v := 0) hx hb dL_law_758 (by decide) ?_
              exact h.elim
      have h := h.2 c_206
      by_cases c_242 : sw = 14
      · have h := h.1 c_242
        refine lv_tableIn (off := 727) (tgt := 760) hx hb dL_law_33 (by rw [c_242]; decide) (by rw [c_242]; decide) (by rw [c_242]; rfl) (by decide) ?_
        refine lv_aload_n hx hb dL_law_760 rfl (lv_at hl 1 rfl) ?_
        refine lv_aload_n hx hb dL_law_761 rfl (lv_at hl 0 rfl) ?_
        refine lv_iload_n hx hb dL_law_762 rfl (lv_at hl 3 rfl) ?_
        refine lv_iconst (v := 1) hx hb dL_law_763 (by decide) ?_
        refine lv_iadd hx hb dL_law_764 ?_
        have hi_243 := h.1
        have h := h.2
        refine va_sld hx hb hX hbl hbA hW.2.2.2.1 hi_243 dL_law_765 ?_
        refine lv_aload_n hx hb dL_law_766 rfl (lv_at hl 0 rfl) ?_
        refine lv_iload_n hx hb dL_law_767 rfl (lv_at hl 3 rfl) ?_
        refine lv_iconst (v := 2) hx hb dL_law_768 (by decide) ?_
        refine lv_iadd hx hb dL_law_769 ?_
        have hi_244 := h.1
        have h := h.2
        refine va_sld hx hb hX hbl hbA hW.2.2.2.1 hi_244 dL_law_770 ?_
        refine cl_L_74 C hW h ⟨by decide, by decide⟩ ⟨by show _ ≤ 600000; omega, by show _ ≤ 7302250; omega⟩ hl.1 (Nat.le_of_ble_eq_true rfl) dL_law_771 (fun r_246 M_245 H locs h hW => ?_)
        refine lv_aload_n hx hb dL_law_774 rfl (lv_at hl 2 rfl) ?_
        refine lv_aload_n hx hb dL_law_775 rfl (lv_at hl 0 rfl) ?_
        refine lv_iload_n hx hb dL_law_776 rfl (lv_at hl 3 rfl) ?_
        refine lv_iconst (v := 1) hx hb dL_law_777 (by decide) ?_
        refine lv_iadd hx hb dL_law_778 ?_
        have hi_247 := h.1
        have h := h.2
        refine va_sld hx hb hX hbl hbA hW.2.2.2.1 hi_247 dL_law_779 ?_
        refine lv_aload_n hx hb dL_law_780 rfl (lv_at hl 0 rfl) ?_
        refine lv_iload_n hx hb dL_law_781 rfl (lv_at hl 3 rfl) ?_
        refine lv_iconst (v := 2) hx hb dL_law_782 (by decide) ?_
        refine lv_iadd hx hb dL_law_783 ?_
        have hi_248 := h.1
        have h := h.2
        refine va_sld hx hb hX hbl hbA hW.2.2.2.1 hi_248 dL_law_784 ?_
        refine cl_L_77 C hW h ⟨by decide, by decide⟩ ⟨by show _ ≤ 600000; omega, by show _ ≤ 7302250; omega⟩ hl.1 (Nat.le_of_ble_eq_true rfl) dL_law_785 (fun r_250 M_249 H locs h hW => ?_)
        refine lv_icmp_eq (tgt := 1077) hx hb dL_law_788 (by decide) (fun c_251 => ?_) (fun c_251 => ?_)
        · have h := h.1 c_251
          obtain ⟨x3_252, ex3_252⟩ : ∃ y : Int32, y = v3 + 6 := ⟨_, rfl⟩
          have h := h x3_252 ex3_252
          refine lv_iinc (v := x3_252) (lv' := [(3, .int x3_252), (0, .ref b), (1, .ref (g.1 0)), (2, .ref (g.1 82))]) hx hb dL_law_1077 hl (k := 3) rfl (by rw [ex3_252]; rfl) (by decide) rfl (fun ls hl => ?_)
          refine lv_goto (tgt := 18) hx hb dL_law_1080 (by decide) ?_
          refine W.widen (k := 107 + 8 * (513 - n)) (n := 902 + 16 * (513 - n)) (by omega) (by omega) ?_
          exact ih (by omega) x3_252 M_249 _ _ _ hW (lv_sub hl [1, 2, 3, 0] rfl) h
        · have h := h.2 c_251
          refine lv_iconst (v := 0) hx hb dL_law_791 (by decide) ?_
          exact h.elim
      have h := h.2 c_242
      by_cases c_253 : sw = 15
      · have h := h.1 c_253
        refine lv_tableIn (off := 760) (tgt := 793) hx hb dL_law_33 (by rw [c_253]; decide) (by rw [c_253]; decide) (by rw [c_253]; rfl) (by decide) ?_
        refine lv_aload_n hx hb dL_law_793 rfl (lv_at hl 1 rfl) ?_
        refine lv_aload_n hx hb dL_law_794 rfl (lv_at hl 0 rfl) ?_
        refine lv_iload_n hx hb dL_law_795 rfl (lv_at hl 3 rfl) ?_
        refine lv_iconst (v := 1) hx hb dL_law_796 (by decide) ?_
        refine lv_iadd hx hb dL_law_797 ?_
        have hi_254 := h.1
        have h := h.2
        refine va_sld hx hb hX hbl hbA hW.2.2.2.1 hi_254 dL_law_798 ?_
        refine lv_aload_n hx hb dL_law_799 rfl (lv_at hl 0 rfl) ?_
        refine lv_iload_n hx hb dL_law_800 rfl (lv_at hl 3 rfl) ?_
        refine lv_iconst (v := 2) hx hb dL_law_801 (by decide) ?_
        refine lv_iadd hx hb dL_law_802 ?_
        have hi_255 := h.1
        have h := h.2
        refine va_sld hx hb hX hbl hbA hW.2.2.2.1 hi_255 dL_law_803 ?_
        refine lv_aload_n hx hb dL_law_804 rfl (lv_at hl 0 rfl) ?_
        refine lv_iload_n hx hb dL_law_805 rfl (lv_at hl 3 rfl) ?_
        refine lv_iconst (v := 3) hx hb dL_law_806 (by decide) ?_
        refine lv_iadd hx hb dL_law_807 ?_
        have hi_256 := h.1
        have h := h.2
        refine va_sld hx hb hX hbl hbA hW.2.2.2.1 hi_256 dL_law_808 ?_
        refine lv_aload_n hx hb dL_law_809 rfl (lv_at hl 0 rfl) ?_
        refine lv_iload_n hx hb dL_law_810 rfl (lv_at hl 3 rfl) ?_
        refine lv_iconst (v := 4) hx hb dL_law_811 (by decide) ?_
        refine lv_iadd hx hb dL_law_812 ?_
        have hi_257 := h.1
        have h := h.2
        refine va_sld hx hb hX hbl hbA hW.2.2.2.1 hi_257 dL_law_813 ?_
        refine lv_aload_n hx hb dL_law_814 rfl (lv_at hl 0 rfl) ?_
        refine lv_iload_n hx hb dL_law_815 rfl (lv_at hl 3 rfl) ?_
        refine lv_iconst (v := 5) hx hb dL_law_816 (by decide) ?_
        refine lv_iadd hx hb dL_law_817 ?_
        have hi_258 := h.1
        have h := h.2
        refine va_sld hx hb hX hbl hbA hW.2.2.2.1 hi_258 dL_law_818 ?_
        refine cl_L_78 C hW h ⟨by decide, by decide⟩ ⟨by show _ ≤ 600000; omega, by show _ ≤ 7302250; omega⟩ hl.1 (Nat.le_of_ble_eq_true rfl) dL_law_819 (fun r_260 M_259 H locs h hW => ?_)
        refine lv_aload_n hx hb dL_law_822 rfl (lv_at hl 2 rfl) ?_
        refine lv_aload_n hx hb dL_law_823 rfl (lv_at hl 0 rfl) ?_
        refine lv_iload_n hx hb dL_law_824 rfl (lv_at hl 3 rfl) ?_
        refine lv_iconst (v := 1) hx hb dL_law_825 (by decide) ?_
        refine lv_iadd hx hb dL_law_826 ?_
        have hi_261 := h.1
        have h := h.2
        refine va_sld hx hb hX hbl hbA hW.2.2.2.1 hi_261 dL_law_827 ?_
        refine lv_aload_n hx hb dL_law_828 rfl (lv_at hl 0 rfl) ?_
        refine lv_iload_n hx hb dL_law_829 rfl (lv_at hl 3 rfl) ?_
        refine lv_iconst (v := 2) hx hb dL_law_830 (by decide) ?_
        refine lv_iadd hx hb dL_law_831 ?_
        have hi_262 := h.1
        have h := h.2
        refine va_sld hx hb hX hbl hbA hW.2.2.2.1 hi_262 dL_law_832 ?_
        refine lv_aload_n hx hb dL_law_833 rfl (lv_at hl 0 rfl) ?_
        refine lv_iload_n hx hb dL_law_834 rfl (lv_at hl 3 rfl) ?_
        refine lv_iconst (v := 3) hx hb dL_law_835 (by decide) ?_
        refine lv_iadd hx hb dL_law_836 ?_
        have hi_263 := h.1
        have h := h.2
        refine va_sld hx hb hX hbl hbA hW.2.2.2.1 hi_263 dL_law_837 ?_
        refine lv_aload_n hx hb dL_law_838 rfl (lv_at hl 0 rfl) ?_
        refine lv_iload_n hx hb dL_law_839 rfl (lv_at hl 3 rfl) ?_
        refine lv_iconst (v := 4) hx hb dL_law_840 (by decide) ?_
        refine lv_iadd hx hb dL_law_841 ?_
        have hi_264 := h.1
        have h := h.2
        refine va_sld hx hb hX hbl hbA hW.2.2.2.1 hi_264 dL_law_842 ?_
        refine lv_aload_n hx hb dL_law_843 rfl (lv_at hl 0 rfl) ?_
        refine lv_iload_n hx hb dL_law_844 rfl (lv_at hl 3 rfl) ?_
        refine lv_iconst (v := 5) hx hb dL_law_845 (by decide) ?_
        refine lv_iadd hx hb dL_law_846 ?_
        have hi_265 := h.1
        have h := h.2
        refine va_sld hx hb hX hbl hbA hW.2.2.2.1 hi_265 dL_law_847 ?_
        refine cl_L_82 C hW h ⟨by decide, by decide⟩ ⟨by show _ ≤ 600000; omega, by show _ ≤ 7302250; omega⟩ hl.1 (Nat.le_of_ble_eq_true rfl) dL_law_848 (fun r_267 M_266 H locs h hW => ?_)
        refine lv_icmp_eq (tgt := 1077) hx hb dL_law_851 (by decide) (fun c_268 => ?_) (fun c_268 => ?_)
        · have h := h.1 c_268
          obtain ⟨x3_269, ex3_269⟩ : ∃ y : Int32, y = v3 + 6 := ⟨_, rfl⟩
          have h := h x3_269 ex3_269
          refine lv_iinc (v := x3_269) (lv' := [(3, .int x3_269), (0, .ref b), (1, .ref (g.1 0)), (2, .ref (g.1 82))]) hx hb dL_law_1077 hl (k := 3) rfl (by rw [ex3_269]; rfl) (by decide) rfl (fun ls hl => ?_)
          refine lv_goto (tgt := 18) hx hb dL_law_1080 (by decide) ?_
          refine W.widen (k := 107 + 8 * (513 - n)) (n := 902 + 16 * (513 - n)) (by omega) (by omega) ?_
          exact ih (by omega) x3_269 M_266 _ _ _ hW (lv_sub hl [1, 2, 3, 0] rfl) h
        · have h := h.2 c_268
          refine lv_iconst (v := 0) hx hb dL_law_854 (by decide) ?_
          exact h.elim
      have h := h.2 c_253
      by_cases c_270 : sw = 16
      · have h := h.1 c_270
        refine lv_tableIn (off := 823) (tgt := 856) hx hb dL_law_33 (by rw [c_270]; decide) (by rw [c_270]; decide) (by rw [c_270]; rfl) (by decide) ?_
        refine lv_aload_n hx hb dL_law_856 rfl (lv_at hl 1 rfl) ?_
        refine lv_aload_n hx hb dL_law_857 rfl (lv_at hl 0 rfl) ?_
        refine lv_iload_n hx hb dL_law_858 rfl (lv_at hl 3 rfl) ?_
        refine lv_iconst (v := 1) hx hb dL_law_859 (by decide) ?_
        refine lv_iadd hx hb dL_law_860 ?_
        have hi_271 := h.1
        have h := h.2
        refine va_sld hx hb hX hbl hbA hW.2.2.2.1 hi_271 dL_law_861 ?_
        refine lv_aload_n hx hb dL_law_862 rfl (lv_at hl 0 rfl) ?_
        refine lv_iload_n hx hb dL_law_863 rfl (lv_at hl 3 rfl) ?_
        refine lv_iconst (v := 2) hx hb dL_law_864 (by decide) ?_
        refine lv_iadd hx hb dL_law_865 ?_
        have hi_272 := h.1
        have h := h.2
        refine va_sld hx hb hX hbl hbA hW.2.2.2.1 hi_272 dL_law_866 ?_
        refine cl_L_83 C hW h ⟨by decide, by decide⟩ ⟨by show _ ≤ 600000; omega, by show _ ≤ 7302250; omega⟩ hl.1 (Nat.le_of_ble_eq_true rfl) dL_law_867 (fun r_274 M_273 H locs h hW => ?_)
        refine lv_aload_n hx hb dL_law_870 rfl (lv_at hl 2 rfl) ?_
        refine lv_aload_n hx hb dL_law_871 rfl (lv_at hl 0 rfl) ?_
        refine lv_iload_n hx hb dL_law_872 rfl (lv_at hl 3 rfl) ?_
        refine lv_iconst (v := 1) hx hb dL_law_873 (by decide) ?_
        refine lv_iadd hx hb dL_law_874 ?_
        have hi_275 := h.1
        have h := h.2
        refine va_sld hx hb hX hbl hbA hW.2.2.2.1 hi_275 dL_law_875 ?_
        refine lv_aload_n hx hb dL_law_876 rfl (lv_at hl 0 rfl) ?_
        refine lv_iload_n hx hb dL_law_877 rfl (lv_at hl 3 rfl) ?_
        refine lv_iconst (v := 2) hx hb dL_law_878 (by decide) ?_
        refine lv_iadd hx hb dL_law_879 ?_
        have hi_276 := h.1
        have h := h.2
        refine va_sld hx hb hX hbl hbA hW.2.2.2.1 hi_276 dL_law_880 ?_
        refine cl_L_86 C hW h ⟨by decide, by decide⟩ ⟨by show _ ≤ 600000; omega, by show _ ≤ 7302250; omega⟩ hl.1 (Nat.le_of_ble_eq_true rfl) dL_law_881 (fun r_278 M_277 H locs h hW => ?_)
        refine lv_icmp_eq (tgt := 1077) hx hb dL_law_884 (by decide) (fun c_279 => ?_) (fun c_279 => ?_)
        · have h := h.1 c_279
          obtain ⟨x3_280, ex3_280⟩ : ∃ y : Int32, y = v3 + 6 := ⟨_, rfl⟩
          have h := h x3_280 ex3_280
          refine lv_iinc (v := x3_280) (lv' := [(3, .int x3_280), (0, .ref b), (1, .ref (g.1 0)), (2, .ref (g.1 82))]) hx hb dL_law_1077 hl (k := 3) rfl (by rw [ex3_280]; rfl) (by decide) rfl (fun ls hl => ?_)
          refine lv_goto (tgt := 18) hx hb dL_law_1080 (by decide) ?_
          refine W.widen (k := 107 + 8 * (513 - n)) (n := 902 + 16 * (513 - n)) (by omega) (by omega) ?_
          exact ih (by omega) x3_280 M_277 _ _ _ hW (lv_sub hl [1, 2, 3, 0] rfl) h
        · have h := h.2 c_279
          refine lv_iconst (v := 0) hx hb dL_law_887 (by decide) ?_
          exact h.elim
      have h := h.2 c_270
      by_cases c_281 : sw = 17
      · have h := h.1 c_281
        refine lv_tableIn (off := 856) (tgt := 889) hx hb dL_law_33 (by rw [c_281]; decide) (by rw [c_281]; decide) (by rw [c_281]; rfl) (by decide) ?_
        refine lv_aload_n hx hb dL_law_889 rfl (lv_at hl 1 rfl) ?_
        refine lv_aload_n hx hb dL_law_890 rfl (lv_at hl 0 rfl) ?_
        refine lv_iload_n hx hb dL_law_891 rfl (lv_at hl 3 rfl) ?_
        refine lv_iconst (v := 1) hx hb dL_law_892 (by decide) ?_
        refine lv_iadd hx hb dL_law_893 ?_
        have hi_282 := h.1
        have h := h.2
        refine va_sld hx hb hX hbl hbA hW.2.2.2.1 hi_282 dL_law_894 ?_
        refine cl_L_87 C hW h ⟨by decide, by decide⟩ ⟨by show _ ≤ 600000; omega, by show _ ≤ 7302250; omega⟩ hl.1 (Nat.le_of_ble_eq_true rfl) dL_law_895 (fun r_284 M_283 H locs h hW => ?_)
        refine lv_aload_n hx hb dL_law_898 rfl (lv_at hl 2 rfl) ?_
        refine lv_aload_n hx hb dL_law_899 rfl (lv_at hl 0 rfl) ?_
        refine lv_iload_n hx hb dL_law_900 rfl (lv_at hl 3 rfl) ?_
        refine lv_iconst (v := 1) hx hb dL_law_901 (by decide) ?_
        refine lv_iadd hx hb dL_law_902 ?_
        have hi_285 := h.1
        have h := h.2
        refine va_sld hx hb hX hbl hbA hW.2.2.2.1 hi_285 dL_law_903 ?_
        refine cl_L_90 C hW h ⟨by decide, by decide⟩ ⟨by show _ ≤ 600000; omega, by show _ ≤ 7302250; omega⟩ hl.1 (Nat.le_of_ble_eq_true rfl) dL_law_904 (fun r_287 M_286 H locs h hW => ?_)
        refine lv_icmp_eq (tgt := 1077) hx hb dL_law_907 (by decide) (fun c_288 => ?_) (fun c_288 => ?_)
        · have h := h.1 c_288
          obtain ⟨x3_289, ex3_289⟩ : ∃ y : Int32, y = v3 + 6 := ⟨_, rfl⟩
          have h := h x3_289 ex3_289
          refine lv_iinc (v := x3_289) (lv' := [(3, .int x3_289), (0, .ref b), (1, .ref (g.1 0)), (2, .ref (g.1 82))]) hx hb dL_law_1077 hl (k := 3) rfl (by rw [ex3_289]; rfl) (by decide) rfl (fun ls hl => ?_)
          refine lv_goto (tgt := 18) hx hb dL_law_1080 (by decide) ?_
          refine W.widen (k := 107 + 8 * (513 - n)) (n := 902 + 16 * (513 - n)) (by omega) (by omega) ?_
          exact ih (by omega) x3_289 M_286 _ _ _ hW (lv_sub hl [1, 2, 3, 0] rfl) h
        · have h := h.2 c_288
          refine lv_iconst (v := 0) hx hb dL_law_910 (by decide) ?_
          exact h.elim
      have h := h.2 c_281
      by_cases c_290 : sw = 18
      · have h := h.1 c_290
        refine lv_tableIn (off := 879) (tgt := 912) hx hb dL_law_33 (by rw [c_290]; decide) (by rw [c_290]; decide) (by rw [c_290]; rfl) (by decide) ?_
        refine lv_aload_n hx hb dL_law_912 rfl (lv_at hl 1 rfl) ?_
        refine lv_aload_n hx hb dL_law_913 rfl (lv_at hl 0 rfl) ?_
        refine lv_iload_n hx hb dL_law_914 rfl (lv_at hl 3 rfl) ?_
        refine lv_iconst (v := 1) hx hb dL_law_915 (by decide) ?_
        refine lv_iadd hx hb dL_law_916 ?_
        have hi_291 := h.1
        have h := h.2
        refine va_sld hx hb hX hbl hbA hW.2.2.2.1 hi_291 dL_law_917 ?_
        refine lv_aload_n hx hb dL_law_918 rfl (lv_at hl 0 rfl) ?_
        refine lv_iload_n hx hb dL_law_919 rfl (lv_at hl 3 rfl) ?_
        refine lv_iconst (v := 2) hx hb dL_law_920 (by decide) ?_
        refine lv_iadd hx hb dL_law_921 ?_
        have hi_292 := h.1
        have h := h.2
        refine va_sld hx hb hX hbl hbA hW.2.2.2.1 hi_292 dL_law_922 ?_
        refine cl_L_91 C hW h ⟨by decide, by decide⟩ ⟨by show _ ≤ 600000; omega, by show _ ≤ 7302250; omega⟩ hl.1 (Nat.le_of_ble_eq_true rfl) dL_law_923 (fun r_294 M_293 H locs h hW => ?_)
        refine lv_aload_n hx hb dL_law_926 rfl (lv_at hl 2 rfl) ?_
        refine lv_aload_n hx hb dL_law_927 rfl (lv_at hl 0 rfl) ?_
        refine lv_iload_n hx hb dL_law_928 rfl (lv_at hl 3 rfl) ?_
        refine lv_iconst (v := 1) hx hb dL_law_929 (by decide) ?_
        refine lv_iadd hx hb dL_law_930 ?_
        have hi_295 := h.1
        have h := h.2
        refine va_sld hx hb hX hbl hbA hW.2.2.2.1 hi_295 dL_law_931 ?_
        refine lv_aload_n hx hb dL_law_932 rfl (lv_at hl 0 rfl) ?_
        refine lv_iload_n hx hb dL_law_933 rfl (lv_at hl 3 rfl) ?_
        refine lv_iconst (v := 2) hx hb dL_law_934 (by decide) ?_
        refine lv_iadd hx hb dL_law_935 ?_
        have hi_296 := h.1
        have h := h.2
        refine va_sld hx hb hX hbl hbA hW.2.2.2.1 hi_296 dL_law_936 ?_
        refine cl_L_94 C hW h ⟨by decide, by decide⟩ ⟨by show _ ≤ 600000; omega, by show _ ≤ 7302250; omega⟩ hl.1 (Nat.le_of_ble_eq_true rfl) dL_law_937 (fun r_298 M_297 H locs h hW => ?_)
        refine lv_icmp_eq (tgt := 1077) hx hb dL_law_940 (by decide) (fun c_299 => ?_) (fun c_299 => ?_)
        · have h := h.1 c_299
          obtain ⟨x3_300, ex3_300⟩ : ∃ y : Int32, y = v3 + 6 := ⟨_, rfl⟩
          have h := h x3_300 ex3_300
          refine lv_iinc (v := x3_300) (lv' := [(3, .int x3_300), (0, .ref b), (1, .ref (g.1 0)), (2, .ref (g.1 82))]) hx hb dL_law_1077 hl (k := 3) rfl (by rw [ex3_300]; rfl) (by decide) rfl (fun ls hl => ?_)
          refine lv_goto (tgt := 18) hx hb dL_law_1080 (by decide) ?_
          refine W.widen (k := 107 + 8 * (513 - n)) (n := 902 + 16 * (513 - n)) (by omega) (by omega) ?_
          exact ih (by omega) x3_300 M_297 _ _ _ hW (lv_sub hl [1, 2, 3, 0] rfl) h
        · have h := h.2 c_299
          refine lv_iconst (v := 0) hx hb dL_law_943 (by decide) ?_
          exact h.elim
      have h := h.2 c_290
      by_cases c_301 : sw = 19
      · have h := h.1 c_301
        refine lv_tableIn (off := 912) (tgt := 945) hx hb dL_law_33 (by rw [c_301]; decide) (by rw [c_301]; decide) (by rw [c_301]; rfl) (by decide) ?_
        refine lv_aload_n hx hb dL_law_945 rfl (lv_at hl 1 rfl) ?_
        refine lv_aload_n hx hb dL_law_946 rfl (lv_at hl 0 rfl) ?_
        refine lv_iload_n hx hb dL_law_947 rfl (lv_at hl 3 rfl) ?_
        refine lv_iconst (v := 1) hx hb dL_law_948 (by decide) ?_
        refine lv_iadd hx hb dL_law_949 ?_
        have hi_302 := h.1
        have h := h.2
        refine va_sld hx hb hX hbl hbA hW.2.2.2.1 hi_302 dL_law_950 ?_
        refine cl_L_95 C hW h ⟨by decide, by decide⟩ ⟨by show _ ≤ 600000; omega, by show _ ≤ 7302250; omega⟩ hl.1 (Nat.le_of_ble_eq_true rfl) dL_law_951 (fun r_304 M_303 H locs h hW => ?_)
        refine lv_aload_n hx hb dL_law_954 rfl (lv_at hl 2 rfl) ?_
        refine lv_aload_n hx hb dL_law_955 rfl (lv_at hl 0 rfl) ?_
        refine lv_iload_n hx hb dL_law_956 rfl (lv_at hl 3 rfl) ?_
        refine lv_iconst (v := 1) hx hb dL_law_957 (by decide) ?_
        refine lv_iadd hx hb dL_law_958 ?_
        have hi_305 := h.1
        have h := h.2
        refine va_sld hx hb hX hbl hbA hW.2.2.2.1 hi_305 dL_law_959 ?_
        refine cl_L_98 C hW h ⟨by decide, by decide⟩ ⟨by show _ ≤ 600000; omega, by show _ ≤ 7302250; omega⟩ hl.1 (Nat.le_of_ble_eq_true rfl) dL_law_960 (fun r_307 M_306 H locs h hW => ?_)
        refine lv_icmp_eq (tgt := 1077) hx hb dL_law_963 (by decide) (fun c_308 => ?_) (fun c_308 => ?_)
        · have h := h.1 c_308
          obtain ⟨x3_309, ex3_309⟩ : ∃ y : Int32, y = v3 + 6 := ⟨_, rfl⟩
          have h := h x3_309 ex3_309
          refine lv_iinc (v := x3_309) (lv' := [(3, .int x3_309), (0, .ref b), (1, .ref (g.1 0)), (2, .ref (g.1 82))]) hx hb dL_law_1077 hl (k := 3) rfl (by rw [ex3_309]; rfl) (by decide) rfl (fun ls hl => ?_)
          refine lv_goto (tgt := 18) hx hb dL_law_1080 (by decide) ?_
          refine W.widen (k := 107 + 8 * (513 - n)) (n := 902 + 16 * (513 - n)) (by omega) (by omega) ?_
          exact ih (by omega) x3_309 M_306 _ _ _ hW (lv_sub hl [1, 2, 3, 0] rfl) h
        · have h := h.2 c_308
          refine lv_iconst (v := 0) hx hb dL_law_966 (by decide) ?_
          exact h.elim
      have h := h.2 c_301
      by_cases c_310 : sw = 20
      · have h := h.1 c_310
        refine lv_tableIn (off := 935) (tgt := 968) hx hb dL_law_33 (by rw [c_310]; decide) (by rw [c_310]; decide) (by rw [c_310]; rfl) (by decide) ?_
        refine lv_aload_n hx hb dL_law_968 rfl (lv_at hl 1 rfl) ?_
        refine lv_aload_n hx hb dL_law_969 rfl (lv_at hl 0 rfl) ?_
        refine lv_iload_n hx hb dL_law_970 rfl (lv_at hl 3 rfl) ?_
        refine lv_iconst (v := 1) hx hb dL_law_971 (by decide) ?_
        refine lv_iadd hx hb dL_law_972 ?_
        have hi_311 := h.1
        have h := h.2
        refine va_sld hx hb hX hbl hbA hW.2.2.2.1 hi_311 dL_law_973 ?_
        refine lv_aload_n hx hb dL_law_974 rfl (lv_at hl 0 rfl) ?_
        refine lv_iload_n hx hb dL_law_975 rfl (lv_at hl 3 rfl) ?_
        refine lv_iconst (v := 2) hx hb dL_law_976 (by decide) ?_
        refine lv_iadd hx hb dL_law_977 ?_
        have hi_312 := h.1
        have h := h.2
        refine va_sld hx hb hX hbl hbA hW.2.2.2.1 hi_312 dL_law_978 ?_
        refine lv_aload_n hx hb dL_law_979 rfl (lv_at hl 0 rfl) ?_
        refine lv_iload_n hx hb dL_law_980 rfl (lv_at hl 3 rfl) ?_
        refine lv_iconst (v := 3) hx hb dL_law_981 (by decide) ?_
        refine lv_iadd hx hb dL_law_982 ?_
        have hi_313 := h.1
        have h := h.2
        refine va_sld hx hb hX hbl hbA hW.2.2.2.1 hi_313 dL_law_983 ?_
        refine lv_aload_n hx hb dL_law_984 rfl (lv_at hl 0 rfl) ?_
        refine lv_iload_n hx hb dL_law_985 rfl (lv_at hl 3 rfl) ?_
        refine lv_iconst (v := 4) hx hb dL_law_986 (by decide) ?_
        refine lv_iadd hx hb dL_law_987 ?_
        have hi_314 := h.1
        have h := h.2
        refine va_sld hx hb hX hbl hbA hW.2.2.2.1 hi_314 dL_law_988 ?_
        refine cl_L_99 C hW h ⟨by decide, by decide⟩ ⟨by show _ ≤ 600000; omega, by show _ ≤ 7302250; omega⟩ hl.1 (Nat.le_of_ble_eq_true rfl) dL_law_989 (fun r_316 M_315 H locs h hW => ?_)
        refine lv_aload_n hx hb dL_law_992 rfl (lv_at hl 2 rfl) ?_
        refine lv_aload_n hx hb dL_law_993 rfl (lv_at hl 0 rfl) ?_
        refine lv_iload_n hx hb dL_law_994 rfl (lv_at hl 3 rfl) ?_
        refine lv_iconst (v := 1) hx hb dL_law_995 (by decide) ?_
        refine lv_iadd hx hb dL_law_996 ?_
        have hi_317 := h.1
        have h := h.2
        refine va_sld hx hb hX hbl hbA hW.2.2.2.1 hi_317 dL_law_997 ?_
        refine lv_aload_n hx hb dL_law_998 rfl (lv_at hl 0 rfl) ?_
        refine lv_iload_n hx hb dL_law_999 rfl (lv_at hl 3 rfl) ?_
        refine lv_iconst (v := 2) hx hb dL_law_1000 (by decide) ?_
        refine lv_iadd hx hb dL_law_1001 ?_
        have hi_318 := h.1
        have h := h.2
        refine va_sld hx hb hX hbl hbA hW.2.2.2.1 hi_318 dL_law_1002 ?_
        refine lv_aload_n hx hb dL_law_1003 rfl (lv_at hl 0 rfl) ?_
        refine lv_iload_n hx hb dL_law_1004 rfl (lv_at hl 3 rfl) ?_
        refine lv_iconst (v := 3) hx hb dL_law_1005 (by decide) ?_
        refine lv_iadd hx hb dL_law_1006 ?_
        have hi_319 := h.1
        have h := h.2
        refine va_sld hx hb hX hbl hbA hW.2.2.2.1 hi_319 dL_law_1007 ?_
        refine lv_aload_n hx hb dL_law_1008 rfl (lv_at hl 0 rfl) ?_
        refine lv_iload_n hx hb dL_law_1009 rfl (lv_at hl 3 rfl) ?_
        refine lv_iconst (v := 4) hx hb dL_law_1010 (by decide) ?_
        refine lv_iadd hx hb dL_law_1011 ?_
        have hi_320 := h.1
        have h := h.2
        refine va_sld hx hb hX hbl hbA hW.2.2.2.1 hi_320 dL_law_1012 ?_
        refine cl_L_102 C hW h ⟨by decide, by decide⟩ ⟨by show _ ≤ 600000; omega, by show _ ≤ 7302250; omega⟩ hl.1 (Nat.le_of_ble_eq_true rfl) dL_law_1013 (fun r_322 M_321 H locs h hW => ?_)
        refine lv_icmp_eq (tgt := 1077) hx hb dL_law_1016 (by decide) (fun c_323 => ?_) (fun c_323 => ?_)
        · have h := h.1 c_323
          obtain ⟨x3_324, ex3_324⟩ : ∃ y : Int32, y = v3 + 6 := ⟨_, rfl⟩
          have h := h x3_324 ex3_324
          refine lv_iinc (v := x3_324) (lv' := [(3, .int x3_324), (0, .ref b), (1, .ref (g.1 0)), (2, .ref (g.1 82))]) hx hb dL_law_1077 hl (k := 3) rfl (by rw [ex3_324]; rfl) (by decide) rfl (fun ls hl => ?_)
          refine lv_goto (tgt := 18) hx hb dL_law_1080 (by decide) ?_
          refine W.widen (k := 107 + 8 * (513 - n)) (n := 902 + 16 * (513 - n)) (by omega) (by omega) ?_
          exact ih (by omega) x3_324 M_321 _ _ _ hW (lv_sub hl [1, 2, 3, 0] rfl) h
        · have h := h.2 c_323
          refine lv_iconst (v := 0) hx hb dL_law_1019 (by decide) ?_
          exact h.elim
      have h := h.2 c_310
      by_cases c_325 : sw = 21
      · have h := h.1 c_325
        refine lv_tableIn (off := 988) (tgt := 1021) hx hb dL_law_33 (by rw [c_325]; decide) (by rw [c_325]; decide) (by rw [c_325]; rfl) (by decide) ?_
        refine lv_aload_n hx hb dL_law_1021 rfl (lv_at hl 1 rfl) ?_
        refine lv_aload_n hx hb dL_law_1022 rfl (lv_at hl 0 rfl) ?_
        refine lv_iload_n hx hb dL_law_1023 rfl (lv_at hl 3 rfl) ?_
        refine lv_iconst (v := 1) hx hb dL_law_1024 (by decide) ?_
        refine lv_iadd hx hb dL_law_1025 ?_
        have hi_326 := h.1
        have h := h.2
        refine va_sld hx hb hX hbl hbA hW.2.2.2.1 hi_326 dL_law_1026 ?_
        refine lv_aload_n hx hb dL_law_1027 rfl (lv_at hl 0 rfl) ?_
        refine lv_iload_n hx hb dL_law_1028 rfl (lv_at hl 3 rfl) ?_
        refine lv_iconst (v := 2) hx hb dL_law_1029 (by decide) ?_
        refine lv_iadd hx hb dL_law_1030 ?_
        have hi_327 := h.1
        have h := h.2
        refine va_sld hx hb hX hbl hbA hW.2.2.2.1 hi_327 dL_law_1031 ?_
        refine cl_L_103 C hW h ⟨by decide, by decide⟩ ⟨by show _ ≤ 600000; omega, by show _ ≤ 7302250; omega⟩ hl.1 (Nat.le_of_ble_eq_true rfl) dL_law_1032 (fun r_329 M_328 H locs h hW => ?_)
        refine lv_aload_n hx hb dL_law_1035 rfl (lv_at hl 2 rfl) ?_
        refine lv_aload_n hx hb dL_law_1036 rfl (lv_at hl 0 rfl) ?_
        refine lv_iload_n hx hb dL_law_1037 rfl (lv_at hl 3 rfl) ?_
        refine lv_iconst (v := 1) hx hb dL_law_1038 (by decide) ?_
        refine lv_iadd hx hb dL_law_1039 ?_
        have hi_330 := h.1
        have h := h.2
        refine va_sld hx hb hX hbl hbA hW.2.2.2.1 hi_330 dL_law_1040 ?_
        refine lv_aload_n hx hb dL_law_1041 rfl (lv_at hl 0 rfl) ?_
        refine lv_iload_n hx hb dL_law_1042 rfl (lv_at hl 3 rfl) ?_
        refine lv_iconst (v := 2) hx hb dL_law_1043 (by decide) ?_
        refine lv_iadd hx hb dL_law_1044 ?_
        have hi_331 := h.1
        have h := h.2
        refine va_sld hx hb hX hbl hbA hW.2.2.2.1 hi_331 dL_law_1045 ?_
        refine cl_L_106 C hW h ⟨by decide, by decide⟩ ⟨by show _ ≤ 600000; omega, by show _ ≤ 7302250; omega⟩ hl.1 (Nat.le_of_ble_eq_true rfl) dL_law_1046 (fun r_333 M_332 H locs h hW => ?_)
        refine lv_icmp_eq (tgt := 1077) hx hb dL_law_1049 (by decide) (fun c_334 => ?_) (fun c_334 => ?_)
        · have h := h.1 c_334
          obtain ⟨x3_335, ex3_335⟩ : ∃ y : Int32, y = v3 + 6 := ⟨_, rfl⟩
          have h := h x3_335 ex3_335
          refine lv_iinc (v := x3_335) (lv' := [(3, .int x3_335), (0, .ref b), (1, .ref (g.1 0)), (2, .ref (g.1 82))]) hx hb dL_law_1077 hl (k := 3) rfl (by rw [ex3_335]; rfl) (by decide) rfl (fun ls hl => ?_)
          refine lv_goto (tgt := 18) hx hb dL_law_1080 (by decide) ?_
          refine W.widen (k := 107 + 8 * (513 - n)) (n := 902 + 16 * (513 - n)) (by omega) (by omega) ?_
          exact ih (by omega) x3_335 M_332 _ _ _ hW (lv_sub hl [1, 2, 3, 0] rfl) h
        · have h := h.2 c_334
          refine lv_iconst (v := 0) hx hb dL_law_1052 (by decide) ?_
          exact h.elim
      have h := h.2 c_325
      by_cases c_336 : sw = 22
      · have h := h.1 c_336
        refine lv_tableIn (off := 1021) (tgt := 1054) hx hb dL_law_33 (by rw [c_336]; decide) (by rw [c_336]; decide) (by rw [c_336]; rfl) (by decide) ?_
        refine lv_aload_n hx hb dL_law_1054 rfl (lv_at hl 1 rfl) ?_
        refine lv_aload_n hx hb dL_law_1055 rfl (lv_at hl 0 rfl) ?_
        refine lv_iload_n hx hb dL_law_1056 rfl (lv_at hl 3 rfl) ?_
        refine lv_iconst (v := 1) hx hb dL_law_1057 (by decide) ?_
        refine lv_iadd hx hb dL_law_1058 ?_
        have hi_337 := h.1
        have h := h.2
        refine va_sld hx hb hX hbl hbA hW.2.2.2.1 hi_337 dL_law_1059 ?_
        refine cl_L_107 C hW h ⟨by decide, by decide⟩ ⟨by show _ ≤ 600000; omega, by show _ ≤ 7302250; omega⟩ hl.1 (Nat.le_of_ble_eq_true rfl) dL_law_1060 (fun r_339 M_338 H locs h hW => ?_)
        refine lv_aload_n hx hb dL_law_1063 rfl (lv_at hl 2 rfl) ?_
        refine lv_aload_n hx hb dL_law_1064 rfl (lv_at hl 0 rfl) ?_
        refine lv_iload_n hx hb dL_law_1065 rfl (lv_at hl 3 rfl) ?_
        refine lv_iconst (v := 1) hx hb dL_law_1066 (by decide) ?_
        refine lv_iadd hx hb dL_law_1067 ?_
        have hi_340 := h.1
        have h := h.2
        refine va_sld hx hb hX hbl hbA hW.2.2.2.1 hi_340 dL_law_1068 ?_
        refine cl_L_110 C hW h ⟨by decide, by decide⟩ ⟨by show _ ≤ 600000; omega, by show _ ≤ 7302250; omega⟩ hl.1 (Nat.le_of_ble_eq_true rfl) dL_law_1069 (fun r_342 M_341 H locs h hW => ?_)
        refine lv_icmp_eq (tgt := 1077) hx hb dL_law_1072 (by decide) (fun c_343 => ?_) (fun c_343 => ?_)
        · have h := h.1 c_343
          obtain ⟨x3_344, ex3_344⟩ : ∃ y : Int32, y = v3 + 6 := ⟨_, rfl⟩
          have h := h x3_344 ex3_344
          refine lv_iinc (v := x3_344) (lv' := [(3, .int x3_344), (0, .ref b), (1, .ref (g.1 0)), (2, .ref (g.1 82))]) hx hb dL_law_1077 hl (k := 3) rfl (by rw [ex3_344]; rfl) (by decide) rfl (fun ls hl => ?_)
          refine lv_goto (tgt := 18) hx hb dL_law_1080 (by decide) ?_
          refine W.widen (k := 107 + 8 * (513 - n)) (n := 902 + 16 * (513 - n)) (by omega) (by omega) ?_
          exact ih (by omega) x3_344 M_341 _ _ _ hW (lv_sub hl [1, 2, 3, 0] rfl) h
        · have h := h.2 c_343
          refine lv_iconst (v := 0) hx hb dL_law_1075 (by decide) ?_
          exact h.elim
      have h := h.2 c_336
      refine lv_tableOut (tgt := 1077) hx hb dL_law_33 (pd_sw22 c_3 c_14 c_25 c_38 c_51 c_64 c_79 c_88 c_124 c_137 c_148 c_157 c_170 c_206 c_242 c_253 c_270 c_281 c_290 c_301 c_310 c_325 c_336) (by decide) ?_
      obtain ⟨x3_345, ex3_345⟩ : ∃ y : Int32, y = v3 + 6 := ⟨_, rfl⟩
      have h := h x3_345 ex3_345
      refine lv_iinc (v := x3_345) (lv' := [(3, .int x3_345), (0, .ref b), (1, .ref (g.1 0)), (2, .ref (g.1 82))]) hx hb dL_law_1077 hl (k := 3) rfl (by rw [ex3_345]; rfl) (by decide) rfl (fun ls hl => ?_)
      refine lv_goto (tgt := 18) hx hb dL_law_1080 (by decide) ?_
      refine W.widen (k := 107 + 8 * (513 - n)) (n := 902 + 16 * (513 - n)) (by omega) (by omega) ?_
      exact ih (by omega) x3_345 M _ _ _ hW (lv_sub hl [1, 2, 3, 0] rfl) h
