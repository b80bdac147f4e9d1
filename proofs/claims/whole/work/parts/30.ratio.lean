/-! ratios: cells beside the fixed ones -/
def pd_rc (q : Nat) (u w : Int32) : Nat × va_E := (q, .inr (3, [.int u, .int w]))
theorem pd_atX {g : pd_G} {M : pd_M} {X : va_W} {i : Nat} : (pd_WL g M ++ X)[pd_N + i]? = X[i]? := by
  rw [List.getElem?_append_right (by rw [pd_len]; omega), pd_len]
  congr 1
  omega
theorem pd_setX {g : pd_G} {M : pd_M} {X : va_W} {x x' : Nat × va_E} : (pd_WL g M ++ (X ++ [x])).set (pd_N + X.length) x' = pd_WL g M ++ (X ++ [x']) := by
  rw [List.set_append_right _ _ (by rw [pd_len]; omega), pd_len, List.set_append_right _ _ (by omega)]
  congr 2
  rw [show pd_N + X.length - pd_N - X.length = 0 by omega]
  rfl
/-- one further cell is forgotten -/
theorem pd_drop {D : va_G} {g : pd_G} {t : Nat} {M : pd_M} {x y : Nat × va_E} {A : Nat → Prop} {s : State} {H : Heap} {locs : List Loc} (hW : pd_W D g t M ([x] ++ [y]) A s H locs) : pd_W D g t M [y] A s H locs := by
  obtain ⟨hK, hP, hD, hS, hA, hZ⟩ := hW
  have key : ∀ k q, (pd_WL g M ++ [y])[k]? = some q → (pd_WL g M ++ ([x] ++ [y]))[if k < pd_N then k else k + 1]? = some q := by
    intro k q hk
    by_cases h : k < pd_N
    · rw [if_pos h, pd_at h]
      rw [pd_at h] at hk
      exact hk
    · rw [if_neg h]
      obtain ⟨j, rfl⟩ : ∃ j, k = pd_N + j := ⟨k - pd_N, by omega⟩
      rw [pd_atX] at hk
      rw [show pd_N + j + 1 = pd_N + (j + 1) by omega, pd_atX]
      exact hk
  refine ⟨hK, fun k q hk => hP _ _ (key k q hk), ⟨fun i j p q hi hj e => ?_, fun k q hk => hD.2 _ _ (key k q hk)⟩, hS, hA, hZ⟩
  have := hD.1 _ _ p q (key i p hi) (key j q hj) e
  by_cases h1 : i < pd_N <;> by_cases h2 : j < pd_N
  · rw [if_pos h1, if_pos h2] at this; exact this
  · rw [if_pos h1, if_neg h2] at this; omega
  · rw [if_neg h1, if_pos h2] at this; omega
  · rw [if_neg h1, if_neg h2] at this; omega
theorem pd_drop0 {D : va_G} {g : pd_G} {t : Nat} {M : pd_M} {X : va_W} {A : Nat → Prop} {s : State} {H : Heap} {locs : List Loc} (hW : pd_W D g t M X A s H locs) : pd_W D g t M [] A s H locs := by
  obtain ⟨hK, hP, hD, hS, hA, hZ⟩ := hW
  have key : ∀ (k : Nat) (q : Nat × va_E), (pd_WL g M ++ [])[k]? = some q → (pd_WL g M ++ X)[k]? = some q := by
    intro k q hk
    have h : k < pd_N := by
      have := (List.getElem?_eq_some_iff.mp hk).1
      rw [List.append_nil, pd_len] at this
      exact this
    rw [pd_at h] at hk ⊢
    exact hk
  exact ⟨hK, fun k q hk => hP _ _ (key k q hk), ⟨fun i j p q hi hj e => hD.1 _ _ p q (key i p hi) (key j q hj) e, fun k q hk => hD.2 _ _ (key k q hk)⟩, hS, hA, hZ⟩
abbrev pd_Br (D : va_G) (g : pd_G) (A : Nat → Prop) (X : va_W) (q : Nat) (u : Int32 × Int32 × pd_M) (t : State) : Prop := va_P D vwCl (pd_WL g u.2.2 ++ (X ++ [pd_rc q u.1 u.2.1])) t.heap ∧ va_K D vwCl (pd_ty g) t ∧ va_D A (pd_WL g u.2.2 ++ (X ++ [pd_rc q u.1 u.2.1]))
/-- the constructor's end: the new cell is filled -/
abbrev pd_Qn (D : va_G) (g : pd_G) (M : pd_M) (X : va_W) (q sz : Nat) (Q : Int32 → Int32 → pd_M → Prop) := va_Qv (fun u : Int32 × Int32 × pd_M => Q u.1 u.2.1 u.2.2) (pd_Br D g (va_A (pd_WL g M ++ (X ++ [pd_rc q 0 0])) sz) X q) (va_A (pd_WL g M ++ (X ++ [pd_rc q 0 0])) sz)
/-- a ratio is answered -/
abbrev pd_Qr (D : va_G) (g : pd_G) (M : pd_M) (sz : Nat) (Q : Int32 → Int32 → pd_M → Prop) := va_Qr (fun u : Int32 × Int32 × pd_M => Q u.1 u.2.1 u.2.2) (fun u q t => pd_Br D g (va_A (pd_WL g M ++ []) sz) [] q u t) (va_A (pd_WL g M ++ []) sz)
section PDR
variable {p : Program} {l : Launch} {e : Env} {R : Room} {s : State} {m : MethodId} {args : Array Value} {below : List Frame} {meth : Method} {c : Code} {H : Heap} {locs : List Loc} {cells slots : Nat} {Q : State → Prop}
variable {cc bytes : ByteArray} {pc : Nat} {ls : Array Slot} {rest : List Value} {D : va_G} {g : pd_G} {t : Nat} {M : pd_M} {X : va_W} {A : Nat → Prop} {nL maxL : Nat} {own : String} {ret ret' : Option FieldType} {y : MethodName} {rm : Room} {As : List Value} {idx q : Nat} {u w : Int32}
theorem pd_getR (C : pd_C p m c cc nL s args own meth ret) (hW : pd_W D g t M X A s H locs) (i : Nat) (hX : X[i]? = some (pd_rc q u w)) (j : Nat) (hj : j < 2) (hl : Cond.fieldLink own idx (TX3 j).1 (TX3 j).2.1 (TX3 j).2.2.1 ∈ TB) {v : Value} (hv : ([.int u, .int w] : List Value)[j]? = some v) (hdg : decode cc pc = .ok (.getfield idx, 3))
    (kk : W p l e R s m args below meth c H locs cells slots Q (F0 m (pc + 3) ls (v :: rest))) : W p l e R s m args below meth c H locs cells slots Q (F0 m pc ls (.ref q :: rest)) := by
  obtain ⟨⟨hx, hb, -, hown, hts⟩, -, -⟩ := C
  obtain ⟨hK, hP, -⟩ := hW
  exact va_get (ci := 3) hx hb hts inX3 hown hK hP (pd_N + i) (by rw [pd_atX, hX]; rfl) rfl j hj (hts _ hl) (fun _ h9 => h9) hv hdg kk
theorem pd_putR (C : pd_C p m c cc nL s args RX3 meth ret) (hin2 : meth.name = "<init>") (hW : pd_W D g t M (X ++ [pd_rc q u w]) A s H locs) (j : Nat) (hj : j < 2) (hl : Cond.fieldLink RX3 idx (TX3 j).1 (TX3 j).2.1 (TX3 j).2.2.1 ∈ TB) {v u' w' : Int32} (hfin : (TX3 j).2.2.2 = true) (hdecl : (TX3 j).1 = RX3) (hd : parseFieldDescriptor (TX3 j).2.2.1 = some .int) (hv : ([.int u, .int w] : List Value).set j (.int v) = [.int u', .int w']) (hdg : decode cc pc = .ok (.putfield idx, 3))
    (kk : ∀ (H1 : Heap) (locs1 : List Loc), pd_W D g t M (X ++ [pd_rc q u' w']) A s H1 locs1 → W p l e R s m args below meth c H1 locs1 cells slots Q (F0 m (pc + 3) ls rest)) : W p l e R s m args below meth c H locs cells slots Q (F0 m pc ls (.int v :: .ref q :: rest)) := by
  obtain ⟨⟨hx, hb, -, hown, hts⟩, -, -⟩ := C
  obtain ⟨hK, hP, hD, hS, hA, hZ⟩ := hW
  refine va_putF (ci := 3) (ty := .int) (v := .int v) hx hb hts inX3 tyX3 tyX3_ok nmX3 hown hK hP hD hS (pd_N + X.length) (by rw [pd_atX, List.getElem?_append_right (Nat.le_refl _), Nat.sub_self]; rfl) rfl j hj (hts _ hl) (fun _ h9 => h9) hfin hin2 hdecl hd rfl rfl (by exact hj) hdg (fun H1 locs1 hP1 hD1 hS1 => ?_)
  rw [hv, pd_setX] at hP1 hD1
  exact kk H1 locs1 ⟨hK, hP1, hD1, hS1, hA, hZ⟩
theorem pd_newR (C : pd_C p m c cc nL s args own meth ret) (hW : pd_W D g t M X A s H locs) (hl : Cond.classLink own idx RX3 ∈ TB) (hcells : cells + 1 ≤ R.cells) (hslots : slots + 2 ≤ R.slots) (hdg : decode cc pc = .ok (.new idx, 3))
    (kk : ∀ (q : Nat) (H1 : Heap), pd_W D g t M (X ++ [pd_rc q 0 0]) A s H1 locs → W p l e R s m args below meth c H1 locs (cells + 1) (slots + 2) Q (F0 m (pc + 3) ls (.ref q :: rest))) : W p l e R s m args below meth c H locs cells slots Q (F0 m pc ls rest) := by
  obtain ⟨⟨hx, hb, -, hown, hts⟩, -, -⟩ := C
  obtain ⟨hK, hP, hD, hS, hA, hZ⟩ := hW
  refine va_new (ci := 3) (fs := [.int 0, .int 0]) hx hb hts inX3 tyX3 tyX3_ok hown (hts _ hl) (hts _ mN_X3) (hts _ mI_X3) hK hP hD hS hA rfl (fun j hj => by rcases (show j = 0 ∨ j = 1 by omega) with rfl | rfl <;> rfl) hcells hslots hdg (fun q H1 hP1 hD1 hS1 => ?_)
  rw [List.append_assoc] at hP1 hD1
  exact kk q H1 ⟨hK, hP1, hD1, hS1, hA, hZ⟩
/-- a call of a ratio's method that makes nothing -/
theorem pd_callRi {Qc : Int32 → pd_M → Prop} {i : Nat} (C : pd_C p m c cc nL s args own meth ret) (hW : pd_W D g t M X A s H locs) (hX : X[i]? = some (pd_rc q u w))
    (hM : Met l y (Cond.code y bytes maxL ret' :: TB) rm (pd_Pre D g t M X H.size (.ref q :: As)) (pd_Qi D g M X H.size Qc) 0 0 (va_A (pd_WL g M ++ X) H.size))
    (hc : y.cls = RX3) (h1 : Cond.methodLink own idx y ∈ TB) (h2 : Cond.instanceMethod y ∈ TB) (h3 : Cond.selects y.cls y y ∈ TB) (h4 : Cond.initialized y.cls ∈ TB) (h5 : Cond.code y bytes maxL ret' ∈ TB)
    (hd : y.cls ≠ "java/lang/invoke/MethodHandle" ∧ y.cls ≠ "java/lang/invoke/VarHandle" ∧ (parseMethodDescriptor y.desc).map (fun d => d.parameters.length) = some As.length) (hrm : rm.cells = 0 ∧ rm.slots = 0) (hR : rm.frames + 1 ≤ R.frames ∧ 8 + (maxL + 11) + rm.locals ≤ R.locals) (hcs : cells ≤ R.cells ∧ slots ≤ R.slots)
    (hls : ls.size = nL) {st : List Value} (hst : st = As.reverse ++ .ref q :: rest) (hw8 : (rest.map fun v => v.category).sum ≤ 8) (hdg : decode cc pc = .ok (.invokevirtual idx, 3))
    (kk : ∀ (r : Int32) (M1 : pd_M) (H1 : Heap) (locs1 : List Loc), Qc r M1 → pd_W D g t M1 X A s H1 locs1 → W p l e R s m args below meth c H1 locs1 cells slots Q (F0 m (pc + 3) ls (.int r :: rest))) : W p l e R s m args below meth c H locs cells slots Q (F0 m pc ls st) := by
  subst hst
  have hF := pd_free hW.2.2.1 hW.2.2.2.1 hW.2.2.2.2.1
  have he : (pd_WL g M ++ X)[pd_N + i]? = some (q, .inr (3, [.int u, .int w])) := by rw [pd_atX, hX]; rfl
  refine va_calli (va_runV (As := As) (rest := rest) C.1 hM (cwV As.length C.1.2.2.2.2 (pd_goodV h1 h2 h3 h4 h5) rfl hrm.1 hrm.2 ⟨rfl, hd⟩ hR) ⟨pd_blind, va_recv (q := (y.cls, TX3, 2)) hW.1 hW.2.1 (by rw [hc]; rfl) he, fun U hU hw => pd_pre hW hU hw _⟩ rfl rfl hls rfl (lv_room hw8) hdg hcs) hW.2.2.2.1 (fun q _ h => hF q h) hF (fun r M1 tt H1 locs1 ht hvm hq hB hz hk1 hS1 => ?_)
  exact kk r M1 H1 locs1 hq (pd_back hW ht hvm hB hS1)
theorem pd_backR {u' : Int32 × Int32 × pd_M} {X' : va_W} {tt : State} {H1 : Heap} {locs1 : List Loc} {A1 : Nat → Prop} (hW : pd_W D g t M X A s H locs) (hF : ∀ q, A1 q → A q) (ht : tt.heap = H1) (hB : pd_Br D g A1 X' q u' tt) (hS1 : va_S A s.heap H1 locs1) : pd_W D g t u'.2.2 (X' ++ [pd_rc q u'.1 u'.2.1]) A s H1 locs1 := by
  obtain ⟨hP1, hK1, hD1⟩ := hB
  obtain ⟨hK, hP, hD, hS, hA, hZ⟩ := hW
  rw [ht] at hP1
  exact ⟨hK, hP1, ⟨hD1.1, fun k q hk => hF _ (hD1.2 k q hk)⟩, hS1, hA, hZ⟩
/-- the call of the constructor -/
theorem pd_callN {Qc : Int32 → Int32 → pd_M → Prop} {a1 a2 : Int32} (C : pd_C p m c cc nL s args own meth ret) (hW : pd_W D g t M (X ++ [pd_rc q 0 0]) A s H locs)
    (hM : Met l yX3_init (Cond.code yX3_init bytes maxL none :: TB) rm (pd_Pre D g t M (X ++ [pd_rc q 0 0]) H.size [.ref q, .int a1, .int a2]) (pd_Qn D g M X q H.size Qc) 0 0 (va_A (pd_WL g M ++ (X ++ [pd_rc q 0 0])) H.size))
    (h1 : Cond.methodLink own idx yX3_init ∈ TB) (h5 : Cond.code yX3_init bytes maxL none ∈ TB) (hrm : rm.cells = 0 ∧ rm.slots = 0) (hR : rm.frames + 1 ≤ R.frames ∧ 8 + (maxL + 11) + rm.locals ≤ R.locals) (hcs : cells ≤ R.cells ∧ slots ≤ R.slots)
    (hls : ls.size = nL) (hw8 : (rest.map fun v => v.category).sum ≤ 8) (hdg : decode cc pc = .ok (.invokespecial idx, 3))
    (kk : ∀ (u w : Int32) (M1 : pd_M) (H1 : Heap) (locs1 : List Loc), Qc u w M1 → pd_W D g t M1 (X ++ [pd_rc q u w]) A s H1 locs1 → W p l e R s m args below meth c H1 locs1 cells slots Q (F0 m (pc + 3) ls rest)) : W p l e R s m args below meth c H locs cells slots Q (F0 m pc ls (.int a2 :: .int a1 :: .ref q :: rest)) := by
  have hF := pd_free hW.2.2.1 hW.2.2.2.1 hW.2.2.2.2.1
  have hG : GoodIn TB (Cond.code yX3_init bytes maxL none :: TB) := fun v hv => tb_good v (by rcases List.mem_cons.mp hv with rfl | hv; exact h5; exact hv)
  refine va_callv (va_runI (As := [.int a1, .int a2]) (rest := rest) C.1 hM (cwI 2 C.1.2.2.2.2 hG rfl hrm.1 hrm.2 (C.1.2.2.2.2 _ mI_X3) (C.1.2.2.2.2 _ h1) (C.1.2.2.2.2 _ mO_yX3_init) rfl (by decide +kernel) hR) ⟨pd_blind, fun U hU hw => pd_pre hW hU hw _⟩ rfl rfl hls rfl (lv_room hw8) hdg hcs) hW.2.2.2.1 (fun q _ h => hF q h) hF (fun u' tt H1 locs1 ht hvm hq hB hz hk1 hS1 => ?_)
  exact kk u'.1 u'.2.1 u'.2.2 H1 locs1 hq (pd_backR hW hF ht hB hS1)
/-- a call that answers a ratio -/
theorem pd_callQ {Qc : Int32 → Int32 → pd_M → Prop} {k ci b mc ms : Nat} {fs : List Nat} {T : u_T} {N : Nat} (C : pd_C p m c cc nL s args own meth ret) (hW : pd_W D g t M [] A s H locs)
    (hM : Met l y (Cond.code y bytes maxL ret' :: TB) rm (pd_Pre D g t M [] H.size (.ref (g.1 k) :: As)) (pd_Qr D g M H.size Qc) mc ms (va_A (pd_WL g M ++ []) H.size))
    (hk : pd_kind k = (5, ci, b, fs)) (hc : vwCl[ci]? = some (y.cls, T, N)) (h1 : Cond.methodLink own idx y ∈ TB) (h2 : Cond.instanceMethod y ∈ TB) (h3 : Cond.selects y.cls y y ∈ TB) (h4 : Cond.initialized y.cls ∈ TB) (h5 : Cond.code y bytes maxL ret' ∈ TB)
    (hd : y.cls ≠ "java/lang/invoke/MethodHandle" ∧ y.cls ≠ "java/lang/invoke/VarHandle" ∧ (parseMethodDescriptor y.desc).map (fun d => d.parameters.length) = some As.length) (hrm : rm.cells = mc ∧ rm.slots = ms) (hR : rm.frames + 1 ≤ R.frames ∧ 8 + (maxL + 11) + rm.locals ≤ R.locals) (hcs : cells + mc ≤ R.cells ∧ slots + ms ≤ R.slots)
    (hls : ls.size = nL) {st : List Value} (hst : st = As.reverse ++ .ref (g.1 k) :: rest) (hw8 : (rest.map fun v => v.category).sum ≤ 8) (hdg : decode cc pc = .ok (.invokevirtual idx, 3))
    (kk : ∀ (q : Nat) (u w : Int32) (M1 : pd_M) (H1 : Heap) (locs1 : List Loc), Qc u w M1 → pd_W D g t M1 [pd_rc q u w] A s H1 locs1 → W p l e R s m args below meth c H1 locs1 (cells + mc) (slots + ms) Q (F0 m (pc + 3) ls (.ref q :: rest))) : W p l e R s m args below meth c H locs cells slots Q (F0 m pc ls st) := by
  subst hst
  have hF := pd_free hW.2.2.1 hW.2.2.2.1 hW.2.2.2.2.1
  have he : (pd_WL g M ++ [])[k]? = some (g.1 k, .inr (ci, pd_fv g (M.1 k) 0 fs)) := by rw [pd_at (pd_kN hk (by decide)), pd_cell_5 hk]
  refine va_callr (va_runV (As := As) (rest := rest) C.1 hM (cwV As.length C.1.2.2.2.2 (pd_goodV h1 h2 h3 h4 h5) rfl hrm.1 hrm.2 ⟨rfl, hd⟩ hR) ⟨pd_blind, va_recv hW.1 hW.2.1 hc he, fun U hU hw => pd_pre hW hU hw _⟩ rfl rfl hls rfl (lv_room hw8) hdg hcs) hW.2.2.2.1 (fun q _ h => hF q h) hF (fun u' q tt H1 locs1 ht hvm hq hB hz hk1 hS1 => ?_)
  exact kk q u'.1 u'.2.1 u'.2.2 H1 locs1 hq (pd_backR hW hF ht hB hS1)
/-- the end of a method that answers a ratio -/
theorem pd_aret {Qc : Int32 → Int32 → pd_M → Prop} {M0 : pd_M} {sz : Nat} (C : pd_C p m c cc nL s args own meth (some (.object "ParkDesk$Ratio"))) (hA0 : A = va_A (pd_WL g M0 ++ []) sz) (hW : pd_W D g t M [pd_rc q u w] A s H locs) (hq : Qc u w M) (hdg : decode cc pc = .ok (.areturn, 1)) :
    W p l e R s m args below meth c H locs cells slots (MQ below (pd_Qr D g M0 sz Qc) args s cells slots (va_A (pd_WL g M0 ++ []) sz)) (F0 m pc ls [.ref q]) := by
  obtain ⟨⟨hx, hb, -, hown, hts⟩, hr, hlocks⟩ := C
  obtain ⟨hK, hP, hD, hS, hA, hZ⟩ := hW
  subst hA0
  exact W.aret hx hb hr (Or.inl ⟨_, rfl⟩) (Or.inr ⟨q, rfl⟩) (fun tt ht hw => ⟨⟨(u, w, M), q, rfl, hq, by rw [ht]; exact hP, va_K.moved hw.alike hK, hD⟩, hS.F ht⟩) hS.2.2 hdg hlocks
theorem pd_nret {Qc : Int32 → Int32 → pd_M → Prop} {M0 : pd_M} {sz : Nat} (C : pd_C p m c cc nL s args own meth none) (hA0 : A = va_A (pd_WL g M0 ++ (X ++ [pd_rc q 0 0])) sz) (hW : pd_W D g t M (X ++ [pd_rc q u w]) A s H locs) (hq : Qc u w M) (hdg : decode cc pc = .ok (.return_, 1)) :
    W p l e R s m args below meth c H locs cells slots (MQ below (pd_Qn D g M0 X q sz Qc) args s cells slots (va_A (pd_WL g M0 ++ (X ++ [pd_rc q 0 0])) sz)) (F0 m pc ls []) := by
  obtain ⟨⟨hx, hb, -, hown, hts⟩, hr, hlocks⟩ := C
  obtain ⟨hK, hP, hD, hS, hA, hZ⟩ := hW
  subst hA0
  exact W.vret hx hb hr (fun tt ht hw => ⟨⟨(u, w, M), rfl, hq, by rw [ht]; exact hP, va_K.moved hw.alike hK, hD⟩, hS.F ht⟩) hS.2.2 hdg hlocks
theorem pd_objInit (C : pd_C p m c cc nL s args own meth ret) (hls : ls.size = nL) (h1 : Cond.methodLink own idx objectInit ∈ TB) (hdg : decode cc pc = .ok (.invokespecial idx, 3)) {a : Nat} (hw : (rest.map fun v => v.category).sum ≤ 8) (hf : 1 ≤ R.frames) (hlo : 20 ≤ R.locals)
    (kk : W p l e R s m args below meth c H locs cells slots Q (F0 m (pc + 3) ls rest)) : W p l e R s m args below meth c H locs cells slots Q (F0 m pc ls (.ref a :: rest)) := by
  obtain ⟨⟨hx, hb, hml, hown, hts⟩, -, -⟩ := C
  exact W.objInit hx hb hown (hts _ h1) (hts _ mO_objectInit) (hts _ mC_objectInit) rfl (by rw [hml]; exact hls) rfl hdg hf (by have := lv_room (m := m) (pc := pc) (ls := ls) (rest := .ref a :: rest) hw; omega) kk
/-- as pd_met, with the method's name -/
theorem pd_metN {av : List Value} {sz mc ms : Nat} {Qc : Array Value → State → Outcome → State → Prop} (hy : plainName y.cls = true) (hlen : (lg_sl av).length ≤ maxL)
    (body : ∀ (p : Program) (e : Env) (s : State) (m : MethodId) (below : List Frame) (meth : Method) (c : Code) (A : Nat → Prop) (ls : Array Slot), meth.name = y.name → pd_C p m c cc maxL s av.toArray y.cls meth ret → A = va_A (pd_WL g M ++ X) sz → pd_W D g t M X A s s.heap [] → lv_has ls maxL (lv_args 0 av) →
      W p l e rm s m av.toArray below meth c s.heap [] 0 0 (MQ below Qc av.toArray s mc ms (va_A (pd_WL g M ++ X) sz)) (F0 m 0 ls [])) :
    Met l y (Cond.code y cc maxL ret :: TB) rm (pd_Pre D g t M X sz av) Qc mc ms (va_A (pd_WL g M ++ X) sz) := by
  refine Met.ofW (cc := cc) (maxL := maxL) (ret := ret) hy rfl ?_
  intro p e s m args below meth c s₁ B hml hv
  obtain ⟨rfl, hsz, hP, hK, hD0, hZ⟩ := hv
  have hts := atoms_spec (ws := Cond.code y cc maxL ret :: TB) B.pre
  have hown : s.vm.findClass y.cls = some m.cls := findClass_of_methodNamed B.named
  subst hsz
  have hD := hD0.self (sz := s.heap.size)
  have hl := lv_entry av (n := maxL) hlen
  rw [lg_entry_eq]
  exact body p e s m below meth c _ _ (name_of_methodNamed B.named B.method).1 ⟨⟨B.exec, B.bytes, hml, hown, fun w hw => hts w (List.mem_cons_of_mem _ hw)⟩, B.returns, B.notSynchronized⟩ rfl ⟨hK, hP, hD, va_S.rf, fun q h => Or.inr h, hZ⟩ hl
end PDR
