/-! the making of the objects: the cells lie one behind the other from h0 on, in the order of their places -/
abbrev pc_g (h0 : Nat) (cy : Nat → ClassId) : pd_G := (fun k => h0 + k, cy)
def pc_cell (h0 : Nat) (cy : Nat → ClassId) (F : Nat → List Value) (M : pd_M) (k : Nat) : va_E := match pd_kind k with
  | (5, c, _, _) => .inr (c, F k)
  | _ => pd_cell (pc_g h0 cy) M k
theorem pc_cell_5 {h0 : Nat} {cy : Nat → ClassId} {F : Nat → List Value} {M : pd_M} {k c b : Nat} {fs : List Nat} (h : pd_kind k = (5, c, b, fs)) : pc_cell h0 cy F M k = .inr (c, F k) := by
  unfold pc_cell; rw [h]; rfl
theorem pc_cell_n {h0 : Nat} {cy : Nat → ClassId} {F : Nat → List Value} {M : pd_M} {k t n b : Nat} {fs : List Nat} (h : pd_kind k = (t, n, b, fs)) (ht : t ≠ 5) : pc_cell h0 cy F M k = pd_cell (pc_g h0 cy) M k := by
  unfold pc_cell; rw [h]
  split
  · next heq => exact absurd (by cases heq; rfl) ht
  · rfl
theorem pc_congr {h0 : Nat} {cy : Nat → ClassId} {F F' : Nat → List Value} {M M' : pd_M} {k : Nat} (hF : F' k = F k) (h1 : M'.1 k = M.1 k) (h2 : M'.2 k = M.2 k) : pc_cell h0 cy F' M' k = pc_cell h0 cy F M k := by
  unfold pc_cell
  rw [hF, pd_cell_congr h1 h2]
def pc_WL (h0 : Nat) (cy : Nat → ClassId) (F : Nat → List Value) (M : pd_M) (n : Nat) : va_W := (List.range n).map (fun k => (h0 + k, pc_cell h0 cy F M k))
theorem pc_at {h0 : Nat} {cy : Nat → ClassId} {F : Nat → List Value} {M : pd_M} {n k : Nat} (hk : k < n) : (pc_WL h0 cy F M n)[k]? = some (h0 + k, pc_cell h0 cy F M k) := by
  unfold pc_WL
  rw [List.getElem?_map, List.getElem?_range hk]
  rfl
theorem pc_lt {h0 : Nat} {cy : Nat → ClassId} {F : Nat → List Value} {M : pd_M} {n k : Nat} {q : Nat × va_E} (h : (pc_WL h0 cy F M n)[k]? = some q) : k < n := by
  have := (List.getElem?_eq_some_iff.mp h).1
  unfold pc_WL at this
  rw [List.length_map, List.length_range] at this
  exact this
theorem pc_D {h0 : Nat} {cy : Nat → ClassId} {F : Nat → List Value} {M : pd_M} {n : Nat} {A : Nat → Prop} (hA : ∀ q, h0 ≤ q → A q) : va_D A (pc_WL h0 cy F M n) := by
  refine ⟨fun i j p q hi hj e => ?_, fun k q hk => ?_⟩
  · have h1 := pc_lt hi
    have h2 := pc_lt hj
    rw [pc_at h1] at hi
    rw [pc_at h2] at hj
    cases hi; cases hj
    have e : h0 + i = h0 + j := e
    omega
  · rw [pc_at (pc_lt hk)] at hk
    cases hk
    exact hA _ (Nat.le_add_right _ _)
/-- what the tables say beyond the good words: the private constructors, the rows of rows -/
def pc_Nw (cy : Nat → ClassId) (s : State) : Prop := va_Nw (.methodLinkNest RX8 11 yX7_init RX8) s ∧ va_Nw (.methodLinkNest RX2 25 yX1_init RX8) s ∧ va_Nw (.methodLinkNest RX8 52 yX5_init RX8) s ∧ (∃ kA : Class, s.vm.classes[cy 3]? = some kA ∧ kA.kind = .array (cy 0) (.array .int)) ∧ ∃ kA : Class, s.vm.classes[cy 4]? = some kA ∧ kA.kind = .array (cy 1) (.array .long)
theorem pc_Nw.warm {cy : Nat → ClassId} {s U : State} (hw : s.WarmedH U.vm) (h : pc_Nw cy s) : pc_Nw cy U := by
  obtain ⟨h1, h2, h3, ⟨k1, a1, b1⟩, k2, a2, b2⟩ := h
  have hal : s.vm.Alike U.vm := hw.alike
  obtain ⟨k1', c1, e1⟩ := hal.2.2 _ _ a1
  obtain ⟨k2', c2, e2⟩ := hal.2.2 _ _ a2
  exact ⟨va_Nw.warmM hw h1, va_Nw.warmM hw h2, va_Nw.warmM hw h3, ⟨k1', c1, by rw [e1]; exact b1⟩, k2', c2, by rw [e2]; exact b2⟩
theorem pc_Nw.same {cy : Nat → ClassId} {s U : State} (hw : s.vm = U.vm) (h : pc_Nw cy s) : pc_Nw cy U := by
  obtain ⟨h1, h2, h3, h4, h5⟩ := h
  exact ⟨va_Nw.same rfl hw h1, va_Nw.same rfl hw h2, va_Nw.same rfl hw h3, by rw [← hw]; exact h4, by rw [← hw]; exact h5⟩
def pc_W (D : va_G) (h0 : Nat) (cy : Nat → ClassId) (F : Nat → List Value) (M : pd_M) (n : Nat) (A : Nat → Prop) (s : State) (H : Heap) (locs : List Loc) : Prop :=
  va_K D vwCl (pd_ty (pc_g h0 cy)) s ∧ va_P D vwCl (pc_WL h0 cy F M n) H ∧ H.size = h0 + n ∧ va_S A s.heap H locs ∧ (∀ q, h0 ≤ q → A q) ∧ (∀ k, n ≤ k → M.1 k = (fun _ => 0) ∧ M.2 k = (fun _ => 0)) ∧ pc_Nw cy s
abbrev pc_A (h0 : Nat) : Nat → Prop := fun q => h0 ≤ q
def pc_Pre (D : va_G) (h0 : Nat) (cy : Nat → ClassId) (F : Nat → List Value) (M : pd_M) (n : Nat) (av : List Value) : Array Value → State → Prop :=
  va_Pc av (fun U => va_K D vwCl (pd_ty (pc_g h0 cy)) U ∧ va_P D vwCl (pc_WL h0 cy F M n) U.heap ∧ U.heap.size = h0 + n ∧ (∀ k, n ≤ k → M.1 k = (fun _ => 0) ∧ M.2 k = (fun _ => 0)) ∧ pc_Nw cy U)
abbrev pc_Qv (D : va_G) (h0 : Nat) (cy : Nat → ClassId) (F' : Nat → List Value) (n' : Nat) (Q : pd_M → Prop) := va_Qv Q (fun M' t => va_P D vwCl (pc_WL h0 cy F' M' n') t.heap ∧ t.heap.size = h0 + n' ∧ ∀ k, n' ≤ k → M'.1 k = (fun _ => 0) ∧ M'.2 k = (fun _ => 0)) (pc_A h0)
theorem pc_blind {D : va_G} {h0 : Nat} {cy : Nat → ClassId} {F : Nat → List Value} {M : pd_M} {n : Nat} {av : List Value} : FrameBlind (pc_Pre D h0 cy F M n av) := by
  intro a U f mk q
  obtain ⟨q0, qK, qP, q1, q2, q3⟩ := q
  exact ⟨q0, va_K.moved (u := U) (U := U.calling f mk a) (Vm.Alike.refl U.vm) qK, qP, q1, q2, pc_Nw.same (s := U) (U := U.calling f mk a) rfl q3⟩
theorem pc_pre {D : va_G} {h0 : Nat} {cy : Nat → ClassId} {F : Nat → List Value} {M : pd_M} {n : Nat} {A : Nat → Prop} {s U : State} {H : Heap} {locs : List Loc} (hW : pc_W D h0 cy F M n A s H locs) (hU : U.heap = H) (hw : s.WarmedH U.vm) (av : List Value) : pc_Pre D h0 cy F M n av av.toArray U := by
  obtain ⟨hK, hP, hz, hS, hA, hM, hN⟩ := hW
  exact ⟨rfl, va_K.moved hw.alike hK, by rw [hU]; exact hP, by rw [hU]; exact hz, hM, hN.warm hw⟩
/-- the world grows by one cell -/
theorem pc_grow {D : va_G} {h0 : Nat} {cy : Nat → ClassId} {F F' : Nat → List Value} {M : pd_M} {n : Nat} {H H1 : Heap} (hP : va_P D vwCl (pc_WL h0 cy F M n) H) (hz : H.size = h0 + n) (ho : ∀ q : Nat, q < H.size → H1[q]? = H[q]?) (hF : ∀ k, k < n → F' k = F k) (hn : va_at D vwCl (h0 + n, pc_cell h0 cy F' M n) H1) : va_P D vwCl (pc_WL h0 cy F' M (n + 1)) H1 := by
  intro k q hk
  have hl := pc_lt hk
  rw [pc_at hl] at hk
  cases hk
  by_cases e : k = n
  · subst e; exact hn
  · have hl2 : k < n := by omega
    have h := hP k _ (pc_at hl2)
    rw [← pc_congr (h0 := h0) (cy := cy) (hF k hl2) rfl rfl] at h
    exact h.kept (ho _ (h.lt))
section PCW
variable {p : Program} {l : Launch} {e : Env} {R : Room} {s : State} {m : MethodId} {args : Array Value} {below : List Frame} {meth : Method} {c : Code} {H : Heap} {locs : List Loc} {cells slots : Nat} {Q : State → Prop}
variable {cc bytes : ByteArray} {pc : Nat} {ls : Array Slot} {rest : List Value} {D : va_G} {h0 : Nat} {cy : Nat → ClassId} {F F' : Nat → List Value} {M : pd_M} {n : Nat} {A : Nat → Prop} {nL maxL : Nat} {own : String} {ret ret' : Option FieldType} {y : MethodName} {rm : Room} {As : List Value} {idx : Nat}
theorem pc_new {Cn : String} {T : u_T} {N ci b : Nat} {fs : List Nat} {dv : List Value} {ty : Nat → FieldType} (C : pd_C p m c cc nL s args own meth ret) (hW : pc_W D h0 cy F M n A s H locs) (hk : pd_kind n = (5, ci, b, fs)) (hc : vwCl[ci]? = some (Cn, T, N)) (hin : ∀ w ∈ u_ws Cn T N, w ∈ TB) (hty : ∀ k, k < N → parseFieldDescriptor (T k).2.2.1 = some (ty k)) (hl : Cond.classLink own idx Cn ∈ TB) (hi : Cond.instantiable Cn N ∈ TB) (hini : Cond.initialized Cn ∈ TB) (hfs : ∀ j, j < N → defaultValue (ty j) = vp_V dv j) (hcells : cells + 1 ≤ R.cells) (hslots : slots + N ≤ R.slots) (hdg : decode cc pc = .ok (.new idx, 3))
    (kk : ∀ (H1 : Heap), pc_W D h0 cy (va_up F n dv) M (n + 1) A s H1 locs → W p l e R s m args below meth c H1 locs (cells + 1) (slots + N) Q (F0 m (pc + 3) ls (.ref (h0 + n) :: rest))) : W p l e R s m args below meth c H locs cells slots Q (F0 m pc ls rest) := by
  obtain ⟨⟨hx, hb, -, hown, hts⟩, -, -⟩ := C
  obtain ⟨hK, hP, hz, hS, hA, hM, hN⟩ := hW
  have hKn := hK.1 ci _ hc
  refine W.newcK hx hb hown (hts _ hl) (hts _ hi) (hts _ hini) rfl hdg hcells hslots hKn.2.1 rfl fun H1 kC hkC e1 z1 o1 => ?_
  rw [hz] at e1 z1 ⊢
  refine kk H1 ⟨hK, pc_grow hP hz (fun q hq => o1 q hq) (fun k hk => by rw [va_up_ne _ _ (by omega)]) ?_, by omega, ⟨by have := hS.1; omega, fun q h1 h2 => (o1 q (Nat.lt_of_lt_of_le h1 hS.1)).trans (hS.2.1 q h1 h2), hS.2.2⟩, hA, fun k hk => hM k (by omega), hN⟩
  rw [pc_cell_5 hk]
  refine ⟨_, hc, ?_⟩
  rw [va_up_self]
  exact (u_born ty hts hin hKn hkC e1 hty).to hfs
theorem pc_newaI {nn : Int32} {N b : Nat} {fs : List Nat} (C : pd_C p m c cc nL s args own meth ret) (hW : pc_W D h0 cy F M n A s H locs) (hk : pd_kind n = (0, N, b, fs)) (hn : ¬ nn < 0) (hN : nn.toNatClampNeg = N) (hby : N * 4 ≤ 536870912) (hcells : cells + 1 ≤ R.cells) (hslots : slots + N ≤ R.slots) (hdg : decode cc pc = .ok (.newarray .int, 2))
    (kk : ∀ (H1 : Heap), pc_W D h0 cy F M (n + 1) A s H1 locs → W p l e R s m args below meth c H1 locs (cells + 1) (slots + N) Q (F0 m (pc + 2) ls (.ref (h0 + n) :: rest))) : W p l e R s m args below meth c H locs cells slots Q (F0 m pc ls (.int nn :: rest)) := by
  obtain ⟨⟨hx, hb, -, hown, hts⟩, -, -⟩ := C
  obtain ⟨hK, hP, hz, hS, hA, hM, hN'⟩ := hW
  refine va_newaK hx hb (atype := .int) (hts _ mA_int) rfl hdg rfl hn hN hby hcells hslots hz fun H1 cA e1 z1 o1 hAr hNm => ?_
  have ec : s.vm.findClass ("[" ++ (FieldType.int).toString) = some (cy 0) := (hK.2 0 (cy 0, .int) rfl).2
  have ec2 : cA = cy 0 := Option.some.inj (hNm.symm.trans ec)
  subst ec2
  rw [← hz] at o1
  refine kk H1 ⟨hK, pc_grow hP hz (fun q hq => o1 q hq) (fun k hk => rfl) ?_, by omega, ⟨by have := hS.1; omega, fun q h1 h2 => (o1 q (Nat.lt_of_lt_of_le h1 hS.1)).trans (hS.2.1 q h1 h2), hS.2.2⟩, hA, fun k hk => hM k (by omega), hN'⟩
  rw [pc_cell_n hk (by decide), pd_cell_0 hk, (hM n (Nat.le_refl _)).1]
  exact e1
theorem pc_newaJ {nn : Int32} {N b : Nat} {fs : List Nat} (C : pd_C p m c cc nL s args own meth ret) (hW : pc_W D h0 cy F M n A s H locs) (hk : pd_kind n = (1, N, b, fs)) (hn : ¬ nn < 0) (hN : nn.toNatClampNeg = N) (hby : N * 8 ≤ 536870912) (hcells : cells + 1 ≤ R.cells) (hslots : slots + N ≤ R.slots) (hdg : decode cc pc = .ok (.newarray .long, 2))
    (kk : ∀ (H1 : Heap), pc_W D h0 cy F M (n + 1) A s H1 locs → W p l e R s m args below meth c H1 locs (cells + 1) (slots + N) Q (F0 m (pc + 2) ls (.ref (h0 + n) :: rest))) : W p l e R s m args below meth c H locs cells slots Q (F0 m pc ls (.int nn :: rest)) := by
  obtain ⟨⟨hx, hb, -, hown, hts⟩, -, -⟩ := C
  obtain ⟨hK, hP, hz, hS, hA, hM, hN'⟩ := hW
  refine va_newaK hx hb (atype := .long) (hts _ mA_long) rfl hdg rfl hn hN hby hcells hslots hz fun H1 cA e1 z1 o1 hAr hNm => ?_
  have ec : s.vm.findClass ("[" ++ (FieldType.long).toString) = some (cy 1) := (hK.2 1 (cy 1, .long) rfl).2
  have ec2 : cA = cy 1 := Option.some.inj (hNm.symm.trans ec)
  subst ec2
  rw [← hz] at o1
  refine kk H1 ⟨hK, pc_grow hP hz (fun q hq => o1 q hq) (fun k hk => rfl) ?_, by omega, ⟨by have := hS.1; omega, fun q h1 h2 => (o1 q (Nat.lt_of_lt_of_le h1 hS.1)).trans (hS.2.1 q h1 h2), hS.2.2⟩, hA, fun k hk => hM k (by omega), hN'⟩
  rw [pc_cell_n hk (by decide), pd_cell_1 hk, (hM n (Nat.le_refl _)).2]
  exact e1
theorem pc_newaZ {nn : Int32} {N b : Nat} {fs : List Nat} (C : pd_C p m c cc nL s args own meth ret) (hW : pc_W D h0 cy F M n A s H locs) (hk : pd_kind n = (2, N, b, fs)) (hn : ¬ nn < 0) (hN : nn.toNatClampNeg = N) (hby : N * 1 ≤ 536870912) (hcells : cells + 1 ≤ R.cells) (hslots : slots + N ≤ R.slots) (hdg : decode cc pc = .ok (.newarray .boolean, 2))
    (kk : ∀ (H1 : Heap), pc_W D h0 cy F M (n + 1) A s H1 locs → W p l e R s m args below meth c H1 locs (cells + 1) (slots + N) Q (F0 m (pc + 2) ls (.ref (h0 + n) :: rest))) : W p l e R s m args below meth c H locs cells slots Q (F0 m pc ls (.int nn :: rest)) := by
  obtain ⟨⟨hx, hb, -, hown, hts⟩, -, -⟩ := C
  obtain ⟨hK, hP, hz, hS, hA, hM, hN'⟩ := hW
  refine va_newaK hx hb (atype := .boolean) (hts _ mA_boolean) rfl hdg rfl hn hN hby hcells hslots hz fun H1 cA e1 z1 o1 hAr hNm => ?_
  have ec : s.vm.findClass ("[" ++ (FieldType.boolean).toString) = some (cy 2) := (hK.2 2 (cy 2, .boolean) rfl).2
  have ec2 : cA = cy 2 := Option.some.inj (hNm.symm.trans ec)
  subst ec2
  rw [← hz] at o1
  refine kk H1 ⟨hK, pc_grow hP hz (fun q hq => o1 q hq) (fun k hk => rfl) ?_, by omega, ⟨by have := hS.1; omega, fun q h1 h2 => (o1 q (Nat.lt_of_lt_of_le h1 hS.1)).trans (hS.2.1 q h1 h2), hS.2.2⟩, hA, fun k hk => hM k (by omega), hN'⟩
  rw [pc_cell_n hk (by decide), pd_cell_2 hk, (hM n (Nat.le_refl _)).1]
  exact e1
theorem pc_growN {N K : Nat} {H1 : Heap} {cA : Nat} (hP : va_P D vwCl (pc_WL h0 cy F M n) H) (hz : H.size = h0 + n) (ho : ∀ q : Nat, q < H.size → H1[q]? = H[q]?) (hh : va_at D vwCl (h0 + n, pc_cell h0 cy F M n) H1) (hr : ∀ j : Nat, j < N → va_at D vwCl (h0 + (n + 1 + j), pc_cell h0 cy F M (n + 1 + j)) H1) : va_P D vwCl (pc_WL h0 cy F M (n + 1 + N)) H1 := by
  intro k q hk
  have hl := pc_lt hk
  rw [pc_at hl] at hk
  cases hk
  by_cases e : k = n
  · subst e; exact hh
  · by_cases e2 : k < n
    · have h := hP k _ (pc_at e2)
      exact h.kept (ho _ h.lt)
    · have h := hr (k - (n + 1)) (by omega)
      rw [show n + 1 + (k - (n + 1)) = k by omega] at h
      exact h
theorem pc_mnaI {nn kn : Int32} {N K : Nat} {fs : List Nat} (C : pd_C p m c cc nL s args own meth ret) (hW : pc_W D h0 cy F M n A s H locs) (hk : pd_kind n = (3, N, n + 1, fs)) (hr : ∀ i, i < N → pd_kind (n + 1 + i) = (0, K, 0, [])) (hn : ¬ nn < 0) (hkn : ¬ kn < 0) (hN : nn.toNatClampNeg = N) (hK : kn.toNatClampNeg = K) (hb1 : N * 4 ≤ 536870912) (hb2 : K * 4 ≤ 536870912) (hl : Cond.classLink own idx "[[I" ∈ TB) (hcells : cells + (1 + N) ≤ R.cells) (hslots : slots + (N + N * K) ≤ R.slots) (hdg : decode cc pc = .ok (.multianewarray idx 2, 4))
    (kk : ∀ (H1 : Heap) (locs1 : List Loc), pc_W D h0 cy F M (n + 1 + N) A s H1 locs1 → W p l e R s m args below meth c H1 locs1 (cells + 1 + N) (slots + N + N * K) Q (F0 m (pc + 4) ls (.ref (h0 + n) :: rest))) : W p l e R s m args below meth c H locs cells slots Q (F0 m pc ls (.int kn :: .int nn :: rest)) := by
  obtain ⟨⟨hx, hb, -, hown, hts⟩, -, -⟩ := C
  obtain ⟨hKK, hP, hz, hS, hA, hM, hN'⟩ := hW
  obtain ⟨-, -, -, ⟨kA, a1, b1⟩, -⟩ := id hN'
  obtain ⟨-, kC, a2, c2, b2⟩ := (hKK.2 0 (cy 0, .int) rfl).1 0 (fun _ => .int 0)
  refine mn_W (ty := .int) (cA := cy 3) (comp := cy 0) (c2 := c2) hx hb hown (hts _ hl) (hKK.2 3 (cy 3, .array .int) rfl).2 a1 b1 a2 b2 hn hkn hN hK hb1 hb2 (by omega) rfl rfl hcells hslots hdg (fun H1 z1 o1 e1 r1 => ?_)
  rw [hz] at z1 e1 r1 ⊢
  refine kk H1 _ ⟨hKK, pc_growN (K := K) (cA := 0) hP hz o1 ?_ (fun j hj => ?_), by omega, ⟨by have := hS.1; omega, fun q h1 h2 => (o1 q (Nat.lt_of_lt_of_le h1 hS.1)).trans (hS.2.1 q h1 h2), fun q hq => ?_⟩, hA, fun k hk => hM k (by omega), hN'⟩
  · rw [pc_cell_n hk (by decide), pd_cell_3 hk]
    show H1[h0 + n]? = some (vp_cell _ _)
    rw [vp_cell_q, e1]
    refine congrArg (fun f => some (arrV (cy 3) N f)) (funext fun j => ?_)
    by_cases hj : j < N
    · show (if j < N then Value.ref (h0 + n + 1 + j) else .null) = va_rf (if j < N then some (h0 + (n + 1 + j)) else none)
      rw [if_pos hj, if_pos hj]
      exact congrArg Value.ref (show (h0 + n + 1 + j : Nat) = h0 + (n + 1 + j) by omega)
    · simp [hj, va_rf]
  · rw [pc_cell_n (hr j hj) (by decide), pd_cell_0 (hr j hj), (hM (n + 1 + j) (by omega)).1]
    show H1[h0 + (n + 1 + j)]? = some (vp_cell _ _)
    rw [vp_cell_i, show h0 + (n + 1 + j) = h0 + n + 1 + j by omega, r1 j hj]
    rfl
  · rcases List.mem_append.mp hq with h | h
    · exact hS.2.2 q h
    · obtain ⟨j, -, rfl⟩ := List.mem_map.mp h
      exact hA _ (Nat.le_add_right _ _)
theorem pc_mnaJ {nn kn : Int32} {N K : Nat} {fs : List Nat} (C : pd_C p m c cc nL s args own meth ret) (hW : pc_W D h0 cy F M n A s H locs) (hk : pd_kind n = (4, N, n + 1, fs)) (hr : ∀ i, i < N → pd_kind (n + 1 + i) = (1, K, 0, [])) (hn : ¬ nn < 0) (hkn : ¬ kn < 0) (hN : nn.toNatClampNeg = N) (hK : kn.toNatClampNeg = K) (hb1 : N * 4 ≤ 536870912) (hb2 : K * 8 ≤ 536870912) (hl : Cond.classLink own idx "[[J" ∈ TB) (hcells : cells + (1 + N) ≤ R.cells) (hslots : slots + (N + N * K) ≤ R.slots) (hdg : decode cc pc = .ok (.multianewarray idx 2, 4))
    (kk : ∀ (H1 : Heap) (locs1 : List Loc), pc_W D h0 cy F M (n + 1 + N) A s H1 locs1 → W p l e R s m args below meth c H1 locs1 (cells + 1 + N) (slots + N + N * K) Q (F0 m (pc + 4) ls (.ref (h0 + n) :: rest))) : W p l e R s m args below meth c H locs cells slots Q (F0 m pc ls (.int kn :: .int nn :: rest)) := by
  obtain ⟨⟨hx, hb, -, hown, hts⟩, -, -⟩ := C
  obtain ⟨hKK, hP, hz, hS, hA, hM, hN'⟩ := hW
  obtain ⟨-, -, -, -, kA, a1, b1⟩ := id hN'
  obtain ⟨-, kC, a2, c2, b2⟩ := (hKK.2 1 (cy 1, .long) rfl).1 0 (fun _ => .int 0)
  refine mn_W (ty := .long) (cA := cy 4) (comp := cy 1) (c2 := c2) hx hb hown (hts _ hl) (hKK.2 4 (cy 4, .array .long) rfl).2 a1 b1 a2 b2 hn hkn hN hK hb1 hb2 (by omega) rfl rfl hcells hslots hdg (fun H1 z1 o1 e1 r1 => ?_)
  rw [hz] at z1 e1 r1 ⊢
  refine kk H1 _ ⟨hKK, pc_growN (K := K) (cA := 0) hP hz o1 ?_ (fun j hj => ?_), by omega, ⟨by have := hS.1; omega, fun q h1 h2 => (o1 q (Nat.lt_of_lt_of_le h1 hS.1)).trans (hS.2.1 q h1 h2), fun q hq => ?_⟩, hA, fun k hk => hM k (by omega), hN'⟩
  · rw [pc_cell_n hk (by decide), pd_cell_4 hk]
    show H1[h0 + n]? = some (vp_cell _ _)
    rw [vp_cell_q, e1]
    refine congrArg (fun f => some (arrV (cy 4) N f)) (funext fun j => ?_)
    by_cases hj : j < N
    · show (if j < N then Value.ref (h0 + n + 1 + j) else .null) = va_rf (if j < N then some (h0 + (n + 1 + j)) else none)
      rw [if_pos hj, if_pos hj]
      exact congrArg Value.ref (show (h0 + n + 1 + j : Nat) = h0 + (n + 1 + j) by omega)
    · simp [hj, va_rf]
  · rw [pc_cell_n (hr j hj) (by decide), pd_cell_1 (hr j hj), (hM (n + 1 + j) (by omega)).2]
    show H1[h0 + (n + 1 + j)]? = some (vp_cell _ _)
    rw [vp_cell_l, show h0 + (n + 1 + j) = h0 + n + 1 + j by omega, r1 j hj]
    rfl
  · rcases List.mem_append.mp hq with h | h
    · exact hS.2.2 q h
    · obtain ⟨j, -, rfl⟩ := List.mem_map.mp h
      exact hA _ (Nat.le_add_right _ _)
/-- a world with other contents -/
theorem pc_world {M' : pd_M} {k : Nat} {H1 : Heap} {ee : va_E} (hkn : k < n) (hP1 : va_P D vwCl ((pc_WL h0 cy F M n).set k (h0 + k, ee)) H1) (h1 : pc_cell h0 cy F' M' k = ee) (h2 : ∀ j, j ≠ k → pc_cell h0 cy F' M' j = pc_cell h0 cy F M j) : va_P D vwCl (pc_WL h0 cy F' M' n) H1 := by
  intro i q hi
  have hl := pc_lt hi
  rw [pc_at hl] at hi
  cases hi
  by_cases e1 : i = k
  · subst e1
    exact hP1 i _ (by rw [List.getElem?_set_self (by unfold pc_WL; simpa using hl), h1])
  · exact hP1 i _ (by rw [List.getElem?_set_ne (Ne.symm e1), pc_at hl, h2 i e1])
theorem pc_put {Cn : String} {T : u_T} {N ci b k : Nat} {fs : List Nat} {vs vs' : List Value} {ty0 : Nat → FieldType} {ty : FieldType} {v : Value} (C : pd_C p m c cc nL s args Cn meth ret) (hin2 : meth.name = "<init>") (hW : pc_W D h0 cy F M n A s H locs) (hk : pd_kind k = (5, ci, b, fs)) (hkn : k < n) (hc : vwCl[ci]? = some (Cn, T, N)) (hin : ∀ w ∈ u_ws Cn T N, w ∈ TB) (hty : ∀ k, k < N → parseFieldDescriptor (T k).2.2.1 = some (ty0 k)) (hnm : ∀ a, a < N → ∀ b, b < N → a ≠ b → (T a).2.1 ≠ (T b).2.1) (j : Nat) (hj : j < N) (hl : Cond.fieldLink Cn idx (T j).1 (T j).2.1 (T j).2.2.1 ∈ TB) (hdecl : (T j).1 = Cn) (hd : parseFieldDescriptor (T j).2.2.1 = some ty) (hnr : narrow ty v = v) (hft : fits ty v = true) (hF : F k = vs) (hF1 : F' k = vs') (hvs : vs.set j v = vs') (hjl : j < vs.length) (hne : ∀ i, i ≠ k → F' i = F i) (hdg : decode cc pc = .ok (.putfield idx, 3))
    (kk : ∀ (H1 : Heap) (locs1 : List Loc), pc_W D h0 cy F' M n A s H1 locs1 → W p l e R s m args below meth c H1 locs1 cells slots Q (F0 m (pc + 3) ls rest)) : W p l e R s m args below meth c H locs cells slots Q (F0 m pc ls (v :: .ref (h0 + k) :: rest)) := by
  obtain ⟨⟨hx, hb, -, hown, hts⟩, -, -⟩ := C
  obtain ⟨hK, hP, hz, hS, hA, hM, hN⟩ := hW
  have he : (pc_WL h0 cy F M n)[k]? = some (h0 + k, .inr (ci, vs)) := by rw [pc_at hkn, pc_cell_5 hk, hF]
  have hD : va_D A (pc_WL h0 cy F M n) := pc_D hA
  have fin : ∀ (H1 : Heap) (locs1 : List Loc), va_P D vwCl ((pc_WL h0 cy F M n).set k (h0 + k, .inr (ci, vs.set j v))) H1 → va_S A s.heap H1 locs1 → H1.size = H.size → W p l e R s m args below meth c H1 locs1 cells slots Q (F0 m (pc + 3) ls rest) := by
    intro H1 locs1 hP1 hS1 hz1
    refine kk H1 locs1 ⟨hK, pc_world hkn hP1 (by rw [pc_cell_5 hk, hF1, hvs]) (fun i hi => pc_congr (hne i hi) rfl rfl), by omega, hS1, hA, hM, hN⟩
  have hap := va_apart (own := Cn) hts hin ty0 hty hnm hK hc
  obtain ⟨r, h1, cell, q1, q2, q3, q4⟩ := hP k _ he
  have hr : r = (Cn, T, N) := Option.some.inj (h1.symm.trans hc)
  subst hr
  obtain ⟨hSl, hfc, kC, hkC, hkind⟩ := hK.1 ci _ hc
  obtain ⟨cf, kf, fi, f, hi, hsl⟩ := hSl j hj
  have hlay := hts _ (hin _ (u_in_lay hj))
  have hst := (u_facts hfc hkC (u_lays hts hin hj) hi).1
  unfold u_lay at hlay
  by_cases hfin : (T j).2.2.2 = true
  · rw [if_pos hfin] at hlay
    have hcf : m.cls = cf := by
      obtain ⟨_, _, c', _, _, _, -, -, hf', -, -, -, hown2, -⟩ := Cond.laysFinal_spec hlay
      have e1 : c' = cf := by have := hi.symm.trans hf'; simp at this; exact this.1.symm
      rw [hdecl] at hown2
      rw [← e1]; exact Option.some.inj (hown.symm.trans hown2)
    have h6 := u_fits hfc hkC hkind (Or.inr hlay) hi hd hnr hft
    refine W.putFinK hx hb hown (hts _ hl) hi hst hcf hin2 (by rw [q2]; exact h6) q1 q3 (by rw [hsl]; exact k2_hasslot (q4 j hj)) rfl rfl hdg fun H' e1 e2 e3 => ?_
    rw [hsl] at e1 ⊢
    exact fin H' _ (hP.set hD he ⟨_, hc, t_OB.to (V := updV (vp_V vs) j v) ⟨_, e1, q2, q3, t_set q4 hap hj v⟩ (fun i _ => vp_updV_set hjl v i)⟩ e3) (hS.put e2 e3 (hA _ (Nat.le_add_right _ _))) e2
  · rw [if_neg hfin] at hlay
    have h6 := u_store hfc hkC hkind hlay hi hd hnr hft
    refine W.putK hx hb (f := f) ⟨hown, hts _ hl, ⟨_, _, _, hi⟩, hst⟩ (by rw [q2]; exact h6) q1 q3 (by rw [hsl]; exact k2_hasslot (q4 j hj)) rfl rfl hdg fun H' e1 e2 e3 => ?_
    rw [hsl] at e1 ⊢
    exact fin H' _ (hP.set hD he ⟨_, hc, t_OB.to (V := updV (vp_V vs) j v) ⟨_, e1, q2, q3, t_set q4 hap hj v⟩ (fun i _ => vp_updV_set hjl v i)⟩ e3) (hS.put e2 e3 (hA _ (Nat.le_add_right _ _))) e2
theorem pc_get {Cn : String} {T : u_T} {N ci b k : Nat} {fs : List Nat} {vs : List Value} (C : pd_C p m c cc nL s args own meth ret) (hW : pc_W D h0 cy F M n A s H locs) (hk : pd_kind k = (5, ci, b, fs)) (hkn : k < n) (hc : vwCl[ci]? = some (Cn, T, N)) (hin : ∀ w ∈ u_ws Cn T N, w ∈ TB) (j : Nat) (hj : j < N) (hl : Cond.fieldLink own idx (T j).1 (T j).2.1 (T j).2.2.1 ∈ TB) (hF : F k = vs) {v : Value} (hv : vs[j]? = some v) (hdg : decode cc pc = .ok (.getfield idx, 3))
    (kk : W p l e R s m args below meth c H locs cells slots Q (F0 m (pc + 3) ls (v :: rest))) : W p l e R s m args below meth c H locs cells slots Q (F0 m pc ls (.ref (h0 + k) :: rest)) := by
  obtain ⟨⟨hx, hb, -, hown, hts⟩, -, -⟩ := C
  obtain ⟨hK, hP, -⟩ := hW
  exact va_get hx hb hts hin hown hK hP k (by rw [pc_at hkn, pc_cell_5 hk, hF]) hc j hj (hts _ hl) (fun _ h9 => h9) hv hdg kk
theorem pc_aald {k N b : Nat} {fs : List Nat} {i : Int32} (C : pd_C p m c cc nL s args own meth ret) (hW : pc_W D h0 cy F M n A s H locs) (hk : pd_kind k = (3, N, b, fs)) (hkn : k < n) (hin : vp_in i N) (hdg : decode cc pc = .ok (.aaload, 1))
    (kk : W p l e R s m args below meth c H locs cells slots Q (F0 m (pc + 1) ls (.ref (h0 + (b + i.toNatClampNeg)) :: rest))) : W p l e R s m args below meth c H locs cells slots Q (F0 m pc ls (.int i :: .ref (h0 + k) :: rest)) := by
  obtain ⟨⟨hx, hb, -, hown, hts⟩, -, -⟩ := C
  obtain ⟨hK, hP, -⟩ := hW
  have hlt := pd_lt hin
  have he : (pc_WL h0 cy F M n)[k]? = some (h0 + k, .inl (cy 3, N, .inr (.inr (.inr (.inr (fun i => if i < N then some (h0 + (b + i)) else none)))))) := by rw [pc_at hkn, pc_cell_n hk (by decide), pd_cell_3 hk]
  exact W.aald (v := .ref (h0 + (b + i.toNatClampNeg))) (ty := .array .int) hx hb (hP k _ he) ((hK.2 3 (cy 3, .array .int) rfl).1 N (fun j => va_rf ((fun i => if i < N then some (h0 + (b + i)) else none) j))) rfl (fun q => by cases q) (by show ¬ (i < 0 ∨ (arrV _ _ _).slots.size ≤ _); rw [arrV_size]; exact hin) (by show (arrV _ _ _).slots[_]? = _; rw [arrV_read _ _ hlt]; simp [hlt, va_rf]) rfl rfl hdg kk
theorem pc_iast {k N b : Nat} {fs : List Nat} {i x : Int32} (C : pd_C p m c cc nL s args own meth ret) (hW : pc_W D h0 cy F M n A s H locs) (hk : pd_kind k = (0, N, b, fs)) (hkn : k < n) (hin : vp_in i N) (hdg : decode cc pc = .ok (.iastore, 1))
    (kk : ∀ (M1 : pd_M) (H1 : Heap) (locs1 : List Loc), M1 = sI M k i.toNatClampNeg x → pc_W D h0 cy F M1 n A s H1 locs1 → W p l e R s m args below meth c H1 locs1 cells slots Q (F0 m (pc + 1) ls rest)) : W p l e R s m args below meth c H locs cells slots Q (F0 m pc ls (.int x :: .int i :: .ref (h0 + k) :: rest)) := by
  obtain ⟨⟨hx, hb, -, hown, hts⟩, -, -⟩ := C
  obtain ⟨hK, hP, hz, hS, hA, hM, hN⟩ := hW
  have he : (pc_WL h0 cy F M n)[k]? = some (h0 + k, .inl (cy 0, N, .inl (M.1 k))) := by rw [pc_at hkn, pc_cell_n hk (by decide), pd_cell_0 hk]
  refine W.iast hx hb (hP k _ he) ((hK.2 0 (cy 0, .int) rfl).1 N (fun j => .int (M.1 k j))) (fun q => by cases q) (by show ¬ (i < 0 ∨ (arrV _ _ _).slots.size ≤ _); rw [arrV_size]; exact hin) rfl rfl hdg fun H1 e1 z1 oq => ?_
  refine kk _ H1 _ rfl ⟨hK, ?_, by omega, hS.put z1 oq (hA _ (Nat.le_add_right _ _)), hA, fun j hj => ?_, hN⟩
  · refine pc_world hkn (ee := .inl (cy 0, N, .inl (upd (M.1 k) i.toNatClampNeg x))) (hP.set (pc_D hA) he ?_ oq) ?_ (fun j hj => pc_congr rfl (by simp [sI, va_up, hj]) rfl)
    · show H1[h0 + k]? = some (vp_cell _ _)
      rw [e1]
      rw [vp_cell_i, vp_cell_i, arrV_store]
      congr 2
      funext j
      by_cases h : j = i.toNatClampNeg <;> simp [updV, upd, h]
    · rw [pc_cell_n hk (by decide), pd_cell_0 hk]
      simp [sI, va_up]
  · have e1 : (sI M k i.toNatClampNeg x).1 j = M.1 j := by simp [sI, va_up, show j ≠ k by omega]
    rw [e1]
    exact hM j hj
theorem pc_vret {Qc : pd_M → Prop} (C : pd_C p m c cc nL s args own meth none) (hA0 : A = pc_A h0) (hW : pc_W D h0 cy F M n A s H locs) (hq : Qc M) (hdg : decode cc pc = .ok (.return_, 1)) :
    W p l e R s m args below meth c H locs cells slots (MQ below (pc_Qv D h0 cy F n Qc) args s cells slots (pc_A h0)) (F0 m pc ls []) := by
  obtain ⟨⟨hx, hb, -, hown, hts⟩, hr, hlocks⟩ := C
  obtain ⟨hK, hP, hz, hS, hA, hM, hN⟩ := hW
  subst hA0
  exact W.vret hx hb hr (fun tt ht hw => ⟨⟨M, rfl, hq, by rw [ht]; exact hP, by rw [ht]; exact hz, hM⟩, hS.F ht⟩) hS.2.2 hdg hlocks
theorem pc_back {M1 : pd_M} {n1 : Nat} {tt : State} {H1 : Heap} {locs1 : List Loc} (hW : pc_W D h0 cy F M n A s H locs) (ht : tt.heap = H1) (hB : va_P D vwCl (pc_WL h0 cy F' M1 n1) tt.heap ∧ tt.heap.size = h0 + n1 ∧ ∀ k, n1 ≤ k → M1.1 k = (fun _ => 0) ∧ M1.2 k = (fun _ => 0)) (hS1 : va_S A s.heap H1 locs1) : pc_W D h0 cy F' M1 n1 A s H1 locs1 := by
  obtain ⟨hP1, hz1, hM1⟩ := hB
  obtain ⟨hK, hP, hz, hS, hA, hM, hN⟩ := hW
  rw [ht] at hP1 hz1
  exact ⟨hK, hP1, hz1, hS1, hA, hM1, hN⟩
/-- the call of a constructor -/
theorem pc_callI {Qc : pd_M → Prop} {n1 k mc ms : Nat} (C : pd_C p m c cc nL s args own meth ret) (hW : pc_W D h0 cy F M n A s H locs)
    (hM : Met l y (Cond.code y bytes maxL none :: TB) rm (pc_Pre D h0 cy F M n (.ref (h0 + k) :: As)) (pc_Qv D h0 cy F' n1 Qc) mc ms (pc_A h0))
    (h1 : Cond.methodLink own idx y ∈ TB) (h2 : Cond.instanceMethod y ∈ TB) (h4 : Cond.initialized y.cls ∈ TB) (h5 : Cond.code y bytes maxL none ∈ TB) (hy1 : y.name = "<init>")
    (hd : y.cls ≠ "java/lang/invoke/MethodHandle" ∧ y.cls ≠ "java/lang/invoke/VarHandle" ∧ (parseMethodDescriptor y.desc).map (fun d => d.parameters.length) = some As.length) (hrm : rm.cells = mc ∧ rm.slots = ms) (hR : rm.frames + 1 ≤ R.frames ∧ 8 + (maxL + 11) + rm.locals ≤ R.locals) (hcs : cells + mc ≤ R.cells ∧ slots + ms ≤ R.slots)
    (hls : ls.size = nL) {st : List Value} (hst : st = As.reverse ++ .ref (h0 + k) :: rest) (hw8 : (rest.map fun v => v.category).sum ≤ 8) (hdg : decode cc pc = .ok (.invokespecial idx, 3))
    (kk : ∀ (M1 : pd_M) (H1 : Heap) (locs1 : List Loc), Qc M1 → pc_W D h0 cy F' M1 n1 A s H1 locs1 → W p l e R s m args below meth c H1 locs1 (cells + mc) (slots + ms) Q (F0 m (pc + 3) ls rest)) : W p l e R s m args below meth c H locs cells slots Q (F0 m pc ls st) := by
  subst hst
  have hts := C.1.2.2.2.2
  have hG : GoodIn TB (Cond.code y bytes maxL none :: TB) := fun v hv => tb_good v (by rcases List.mem_cons.mp hv with rfl | hv; exact h5; exact hv)
  refine va_callv (va_runI (As := As) (rest := rest) C.1 hM (cwI As.length hts hG rfl hrm.1 hrm.2 (hts _ h4) (hts _ h1) (hts _ h2) hy1 hd hR) ⟨pc_blind, fun U hU hw => pc_pre hW hU hw _⟩ rfl rfl hls rfl (lv_room hw8) hdg hcs) hW.2.2.2.1 (fun q _ h => hW.2.2.2.2.1 q h) (fun q h => hW.2.2.2.2.1 q h) (fun M1 tt H1 locs1 ht hvm hq hB hz hk1 hS1 => ?_)
  exact kk M1 H1 locs1 hq (pc_back hW ht hB hS1)
theorem pc_callIN {Qc : pd_M → Prop} {n1 k mc ms : Nat} {host : String} (C : pd_C p m c cc nL s args own meth ret) (hW : pc_W D h0 cy F M n A s H locs)
    (hM : Met l y (Cond.code y bytes maxL none :: TB) rm (pc_Pre D h0 cy F M n (.ref (h0 + k) :: As)) (pc_Qv D h0 cy F' n1 Qc) mc ms (pc_A h0))
    (h1 : va_Nw (.methodLinkNest own idx y host) s) (h2 : Cond.instanceMethod y ∈ TB) (h4 : Cond.initialized y.cls ∈ TB) (h5 : Cond.code y bytes maxL none ∈ TB) (hy1 : y.name = "<init>")
    (hd : y.cls ≠ "java/lang/invoke/MethodHandle" ∧ y.cls ≠ "java/lang/invoke/VarHandle" ∧ (parseMethodDescriptor y.desc).map (fun d => d.parameters.length) = some As.length) (hrm : rm.cells = mc ∧ rm.slots = ms) (hR : rm.frames + 1 ≤ R.frames ∧ 8 + (maxL + 11) + rm.locals ≤ R.locals) (hcs : cells + mc ≤ R.cells ∧ slots + ms ≤ R.slots)
    (hls : ls.size = nL) {st : List Value} (hst : st = As.reverse ++ .ref (h0 + k) :: rest) (hw8 : (rest.map fun v => v.category).sum ≤ 8) (hdg : decode cc pc = .ok (.invokespecial idx, 3))
    (kk : ∀ (M1 : pd_M) (H1 : Heap) (locs1 : List Loc), Qc M1 → pc_W D h0 cy F' M1 n1 A s H1 locs1 → W p l e R s m args below meth c H1 locs1 (cells + mc) (slots + ms) Q (F0 m (pc + 3) ls rest)) : W p l e R s m args below meth c H locs cells slots Q (F0 m pc ls st) := by
  subst hst
  have hts := C.1.2.2.2.2
  have hG : GoodIn TB (Cond.code y bytes maxL none :: TB) := fun v hv => tb_good v (by rcases List.mem_cons.mp hv with rfl | hv; exact h5; exact hv)
  refine va_callv (va_runIN (host := host) (As := As) (rest := rest) C.1 hM ⟨va_cnB As.length hts hG rfl hrm.1 hrm.2 h1 (hts _ h4) hd hR, hy1, hts _ h2⟩ ⟨pc_blind, fun U hU hw => pc_pre hW hU hw _⟩ rfl rfl hls rfl (lv_room hw8) hdg hcs) hW.2.2.2.1 (fun q _ h => hW.2.2.2.2.1 q h) (fun q h => hW.2.2.2.2.1 q h) (fun M1 tt H1 locs1 ht hvm hq hB hz hk1 hS1 => ?_)
  exact kk M1 H1 locs1 hq (pc_back hW ht hB hS1)
theorem pc_met {av : List Value} {mc ms : Nat} {Qc : Array Value → State → Outcome → State → Prop} (hy : plainName y.cls = true) (hlen : (lg_sl av).length ≤ maxL)
    (body : ∀ (p : Program) (e : Env) (s : State) (m : MethodId) (below : List Frame) (meth : Method) (c : Code) (A : Nat → Prop) (ls : Array Slot), meth.name = y.name → pd_C p m c cc maxL s av.toArray y.cls meth ret → A = pc_A h0 → pc_W D h0 cy F M n A s s.heap [] → lv_has ls maxL (lv_args 0 av) →
      W p l e rm s m av.toArray below meth c s.heap [] 0 0 (MQ below Qc av.toArray s mc ms (pc_A h0)) (F0 m 0 ls [])) :
    Met l y (Cond.code y cc maxL ret :: TB) rm (pc_Pre D h0 cy F M n av) Qc mc ms (pc_A h0) := by
  refine Met.ofW (cc := cc) (maxL := maxL) (ret := ret) hy rfl ?_
  intro p e s m args below meth c s₁ B hml hv
  obtain ⟨rfl, hK, hP, hz, hM, hN⟩ := hv
  have hts := atoms_spec (ws := Cond.code y cc maxL ret :: TB) B.pre
  have hown : s.vm.findClass y.cls = some m.cls := findClass_of_methodNamed B.named
  have hl := lv_entry av (n := maxL) hlen
  rw [lg_entry_eq]
  exact body p e s m below meth c _ _ (name_of_methodNamed B.named B.method).1 ⟨⟨B.exec, B.bytes, hml, hown, fun w hw => hts w (List.mem_cons_of_mem _ hw)⟩, B.returns, B.notSynchronized⟩ rfl ⟨hK, hP, hz, va_S.rf, fun q h => h, hM, hN⟩ hl
end PCW
