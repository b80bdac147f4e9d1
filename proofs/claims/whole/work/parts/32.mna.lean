/-! a new row of rows: the machine's own making of it, step by step -/
def mn_out (cA : ClassId) (n h0 i : Nat) : Cell := arrV cA n (fun j => if j < i then Value.ref (h0 + 1 + j) else .null)
theorem mn_out_next (cA : ClassId) (n h0 i : Nat) : (mn_out cA n h0 i).setSlot i (.ref (h0 + 1 + i)) = mn_out cA n h0 (i + 1) := by
  unfold mn_out
  rw [arrV_store]
  refine congrArg (arrV cA n) (funext fun j => ?_)
  unfold updV
  by_cases h1 : j = i
  · subst h1; simp
  · by_cases h2 : j < i
    · simp [h1, h2, show j < i + 1 by omega]
    · simp [h1, h2, show ¬ j < i + 1 by omega]
def mn_st (T : State) (cA comp : ClassId) (n k : Nat) (dv : Value) : Nat → State
  | 0 => T.pushCell (mn_out cA n T.heap.size 0)
  | i + 1 => ((mn_st T cA comp n k dv i).pushCell (arrV comp k (fun _ => dv))).setCell T.heap.size (mn_out cA n T.heap.size (i + 1))
theorem mn_size (T : State) (cA comp : ClassId) (n k : Nat) (dv : Value) : ∀ i, (mn_st T cA comp n k dv i).heap.size = T.heap.size + 1 + i
  | 0 => by simp [mn_st]
  | i + 1 => by
    have h := mn_size T cA comp n k dv i
    simp [mn_st, State.setCell, h]; omega
theorem mn_vm (T : State) (cA comp : ClassId) (n k : Nat) (dv : Value) : ∀ i, (mn_st T cA comp n k dv i).vm = T.vm
  | 0 => rfl
  | i + 1 => by
    have h := mn_vm T cA comp n k dv i
    simp [mn_st, h]
theorem mn_used (T : State) (cA comp : ClassId) (n k : Nat) (dv : Value) : ∀ i, (mn_st T cA comp n k dv i).slotsUsed = T.slotsUsed + n + i * k
  | 0 => by simp [mn_st, mn_out, arrV_size]
  | i + 1 => by
    have h := mn_used T cA comp n k dv i
    simp [mn_st, h, arrV_size, Nat.succ_mul]; omega
theorem mn_head (T : State) (cA comp : ClassId) (n k : Nat) (dv : Value) : ∀ i, (mn_st T cA comp n k dv i).heap[T.heap.size]? = some (mn_out cA n T.heap.size i)
  | 0 => by simp [mn_st]
  | i + 1 => by
    have h := mn_head T cA comp n k dv i
    have hs := mn_size T cA comp n k dv i
    have hlt : T.heap.size < (mn_st T cA comp n k dv i).heap.size := by omega
    exact State.heap_setCell_self (c := mn_out cA n T.heap.size i) (by rw [State.heap_pushCell_of_lt (h := hlt)]; exact h)
theorem mn_old (T : State) (cA comp : ClassId) (n k : Nat) (dv : Value) {a : Addr} (ha : a < T.heap.size) : ∀ i, (mn_st T cA comp n k dv i).heap[a]? = T.heap[a]?
  | 0 => State.heap_pushCell_of_lt _ _ ha
  | i + 1 => by
    have h := mn_old T cA comp n k dv ha i
    have hs := mn_size T cA comp n k dv i
    have hlt : a < (mn_st T cA comp n k dv i).heap.size := Nat.lt_of_lt_of_le ha (by rw [hs]; omega)
    show (((mn_st T cA comp n k dv i).pushCell _).setCell T.heap.size _).heap[a]? = _
    rw [State.heap_setCell_other (Nat.ne_of_gt ha), State.heap_pushCell_of_lt (h := hlt)]
    exact h
theorem mn_row (T : State) (cA comp : ClassId) (n k : Nat) (dv : Value) : ∀ i j, j < i → (mn_st T cA comp n k dv i).heap[T.heap.size + 1 + j]? = some (arrV comp k (fun _ => dv))
  | 0, _, h => absurd h (Nat.not_lt_zero _)
  | i + 1, j, hj => by
    have hs := mn_size T cA comp n k dv i
    show (((mn_st T cA comp n k dv i).pushCell _).setCell T.heap.size _).heap[T.heap.size + 1 + j]? = _
    rw [State.heap_setCell_other (show T.heap.size ≠ T.heap.size + 1 + j by omega)]
    by_cases e : j = i
    · subst e
      rw [← hs]
      exact State.heap_pushCell_size _ _
    · have hlt : T.heap.size + 1 + j < (mn_st T cA comp n k dv i).heap.size := by omega
      rw [State.heap_pushCell_of_lt (h := hlt)]
      exact mn_row T cA comp n k dv i j (by omega)
theorem mn_top (T : State) (f : JFrame) (cA comp : ClassId) (n k : Nat) (dv : Value) : ∀ i, mn_st (T.setTop f) cA comp n k dv i = (mn_st T cA comp n k dv i).setTop f
  | 0 => rfl
  | i + 1 => by
    have h := mn_top T f cA comp n k dv i
    simp only [mn_st, h, State.heap_setTop, State.pushCell_setTop, State.setCell_setTop]
section MNS
variable {E : CtlPost} {e : Env} {d : Bool} {acts : List Action} {s : State}
theorem mn_alloc {c comp : ClassId} {kc : Class} {ty : FieldType} {len : Nat} {dv : Value} (hk : s.vm.classes[c]? = some kc) (hkind : kc.kind = .array comp ty)
    (hl : ¬ len > e.platform.arrayLengthLimit) (hh : ¬ len * componentBytes ty > e.platform.maxHeapBytes) (hfit : fits ty dv = true) (hdef : dv.isDefault = true) {Q : Addr → Pre}
    (h1 : s.heap.size < e.platform.maxCells) (h2 : s.slotsUsed + len ≤ e.platform.maxSlots)
    (hq : Q s.heap.size d acts (s.pushCell (arrV c len (fun _ => dv)))) : wp (Jvm.newArray c len dv) Q E e d acts s := by
  rw [← arrV_new] at hq
  have hf : ∀ i v, (Array.replicate len dv)[i]? = some v → s.fitsSlot c .none i v = true := by
    intro i v hv
    rw [Array.getElem?_replicate] at hv
    split at hv
    · cases hv; simp [State.fitsSlot, State.slotType?, hk, hkind, hfit]
    · cases hv
  have ha : allocActs (Array.replicate len dv) s.heap.size acts = acts := by
    unfold allocActs
    rw [if_pos]
    rw [Array.all_replicate]
    split <;> simp [hdef]
  simp only [Jvm.newArray, Jvm.arrayFits, wp_bind', W.ask, W.ite, hl, if_false, wp_pure', W.theClass, hk, hkind, hh, W.alloc, W.stop, Option.some.injEq, exists_eq_left', Array.size_replicate, ha]
  rw [if_neg (by omega)]
  exact ⟨h1, h2, hf, hq⟩
theorem mn_fits {ty : FieldType} (h : ty.isReference = true) {v : Value} (hv : v = .null ∨ ∃ a, v = .ref a) : fits ty v = true := by
  rcases hv with rfl | ⟨a, rfl⟩ <;> cases ty <;> simp [FieldType.isReference] at h <;> rfl
theorem mn_make {c comp cc : ClassId} {kA kc : Class} {ty : FieldType} {n m : Int32} (hk : s.vm.classes[c]? = some kA) (hkind : kA.kind = .array comp (.array ty))
    (hkc : s.vm.classes[comp]? = some kc) (hkindc : kc.kind = .array cc ty) (hn : ¬ n < 0) (hm : ¬ m < 0)
    (hl1 : ¬ n.toNatClampNeg > e.platform.arrayLengthLimit) (hh1 : ¬ n.toNatClampNeg * componentBytes (.array ty) > e.platform.maxHeapBytes)
    (hl2 : ¬ m.toNatClampNeg > e.platform.arrayLengthLimit) (hh2 : ¬ m.toNatClampNeg * componentBytes ty > e.platform.maxHeapBytes)
    (hdf : fits ty (defaultValue ty) = true) (hdd : (defaultValue ty).isDefault = true)
    (hc : s.heap.size + 1 + n.toNatClampNeg ≤ e.platform.maxCells) (hs : s.slotsUsed + n.toNatClampNeg + n.toNatClampNeg * m.toNatClampNeg ≤ e.platform.maxSlots)
    {Q : Addr → Pre} (hq : ∀ d' acts', Q s.heap.size d' acts' (mn_st s c comp n.toNatClampNeg m.toNatClampNeg (defaultValue ty) n.toNatClampNeg)) :
    wp (multianewarray.make c [n, m]) Q E e d acts s := by
  have hfind : ([m].find? (· < 0)) = none := by simp [hm]
  have hzero : (fun j : Nat => if j < 0 then Value.ref (s.heap.size + 1 + j) else .null) = fun _ => Value.null := funext fun j => by simp
  rw [multianewarray.make]
  simp only [wp_bind', W.ite, hn, if_false, wp_pure', W.theClass, hk, hkind, Option.some.injEq, exists_eq_left']
  refine mn_alloc hk hkind hl1 hh1 (mn_fits rfl (Or.inl rfl)) rfl (by omega) (by have := Nat.zero_le (n.toNatClampNeg * m.toNatClampNeg); omega) ?_
  simp only [hfind]
  rw [ite_self, wp_bind', Std.Legacy.Range.forIn_eq_forIn_range']
  rw [show ([:n.toNatClampNeg] : Std.Legacy.Range).size = n.toNatClampNeg by simp [Std.Legacy.Range.size]]
  show wp (forIn (List.range' 0 n.toNatClampNeg 1) PUnit.unit _) _ E e d acts _
  refine wp_forIn_inv (fun rest s' => ∃ i, i ≤ n.toNatClampNeg ∧ rest = List.range' i (n.toNatClampNeg - i) ∧ s' = mn_st s c comp n.toNatClampNeg m.toNatClampNeg (defaultValue ty) i) _ _ ⟨0, Nat.zero_le _, rfl, by simp only [mn_st, mn_out, hzero]⟩ ?_ ?_
  · rintro x rest s' d' acts' Q' ⟨i, hi, hl, rfl⟩ hnext
    have hlt : i < n.toNatClampNeg := by
      rcases Nat.lt_or_ge i n.toNatClampNeg with h | h
      · exact h
      · rw [show n.toNatClampNeg - i = 0 from by omega] at hl; simp at hl
    obtain ⟨rfl, hrest⟩ : x = i ∧ rest = List.range' (i + 1) (n.toNatClampNeg - (i + 1)) := by
      rw [show n.toNatClampNeg - i = (n.toNatClampNeg - (i + 1)) + 1 from by omega, List.range'_succ] at hl
      exact ⟨(List.cons.inj hl).1, (List.cons.inj hl).2⟩
    have z1 := mn_size s c comp n.toNatClampNeg m.toNatClampNeg (defaultValue ty) x
    have z2 := mn_head s c comp n.toNatClampNeg m.toNatClampNeg (defaultValue ty) x
    have z3 := mn_vm s c comp n.toNatClampNeg m.toNatClampNeg (defaultValue ty) x
    have z4 := mn_used s c comp n.toNatClampNeg m.toNatClampNeg (defaultValue ty) x
    have hmul : x * m.toNatClampNeg + m.toNatClampNeg ≤ n.toNatClampNeg * m.toNatClampNeg := by
      have := Nat.mul_le_mul_right m.toNatClampNeg (show x + 1 ≤ n.toNatClampNeg from hlt)
      rw [Nat.succ_mul] at this; exact this
    simp only [wp_bind']
    rw [multianewarray.make]
    simp only [wp_bind', W.ite, hm, if_false, wp_pure', W.theClass, z3, hkc, hkindc, Option.some.injEq, exists_eq_left']
    refine mn_alloc (by rw [z3]; exact hkc) hkindc hl2 hh2 hdf hdd (by rw [z1]; omega) (by rw [z4]; omega) ?_
    simp only [wp_bind', W.writeLoc, wp_pure']
    have hlt0 : s.heap.size < (mn_st s c comp n.toNatClampNeg m.toNatClampNeg (defaultValue ty) x).heap.size := by omega
    refine ⟨mn_out c n.toNatClampNeg s.heap.size x, by rw [State.heap_pushCell_of_lt (h := hlt0)]; exact z2, by unfold mn_out arrV; simp, by unfold mn_out; rw [arrV_size]; exact hlt, ?_, hnext _ _ _ ⟨x + 1, hlt, hrest, ?_⟩⟩
    · show State.fitsSlot _ c .none x _ = true
      simp [State.fitsSlot, State.slotType?, z3, hk, hkind, mn_fits (ty := .array ty) rfl (Or.inr ⟨_, rfl⟩)]
    · rw [z1, mn_out_next]; rfl
  · rintro s' d' acts' ⟨i, hi, hl, rfl⟩
    have hiN : i = n.toNatClampNeg := by
      rcases Nat.lt_or_ge i n.toNatClampNeg with h | h
      · rw [show n.toNatClampNeg - i = (n.toNatClampNeg - (i + 1)) + 1 from by omega, List.range'_succ] at hl; cases hl
      · omega
    subst hiN
    simp only [wp_pure']
    exact hq _ _
end MNS
section MNW
variable {p : Program} {l : Launch} {e : Env} {R : Room} {s : State} {m : MethodId} {args : Array Value} {below : List Frame} {meth : Method} {c : Code} {T : State} {H : Heap} {locs : List Loc} {cells slots : Nat} {Q : State → Prop}
theorem mn_stand (X : Stand p l e R s m args below meth c T locs cells slots) (cA comp : ClassId) (n k : Nat) (dv : Value) :
    ∀ i, Stand p l e R s m args below meth c (mn_st T cA comp n k dv i) (locs ++ (List.range i).map fun j => ⟨T.heap.size, j⟩) (cells + 1 + i) (slots + n + i * k)
  | 0 => by
    have h := X.pushed (mn_out cA n T.heap.size 0)
    have e0 : (mn_out cA n T.heap.size 0).slots.size = n := by unfold mn_out; exact arrV_size _ _ _
    rw [e0] at h
    simpa [mn_st] using h
  | i + 1 => by
    have Xi := mn_stand X cA comp n k dv i
    have z1 := mn_size T cA comp n k dv i
    have hlt : T.heap.size < (mn_st T cA comp n k dv i).heap.size := by omega
    have hcell : ((mn_st T cA comp n k dv i).pushCell (arrV comp k (fun _ => dv))).heap[T.heap.size]? = some (mn_out cA n T.heap.size i) := by rw [State.heap_pushCell_of_lt (h := hlt)]; exact mn_head T cA comp n k dv i
    have h := (Xi.pushed (arrV comp k (fun _ => dv))).stored hcell i (.ref (T.heap.size + 1 + i))
    rw [arrV_size, mn_out_next] at h
    rw [show (locs ++ (List.range (i + 1)).map fun j => (⟨T.heap.size, j⟩ : Loc)) = (locs ++ (List.range i).map fun j => (⟨T.heap.size, j⟩ : Loc)) ++ [⟨T.heap.size, i⟩] by simp [List.range_succ, List.append_assoc], show slots + n + (i + 1) * k = slots + n + i * k + k by rw [Nat.succ_mul]; omega]
    exact h
/-- new T[n][k] -/
theorem mn_W {cc : ByteArray} (hexec : p.tables.exec = Jvm.exec) (hb : c.code = cc) {own : String} {index : Nat} {ty : FieldType} {cA comp c2 : ClassId} {kA kC : Class} (hown : s.vm.findClass own = some m.cls) (hclink : (Cond.classLink own index ("[" ++ (FieldType.array ty).toString)).before args s = true)
    (hname : s.vm.findClass ("[" ++ (FieldType.array ty).toString) = some cA) (hkA : s.vm.classes[cA]? = some kA) (hkindA : kA.kind = .array comp (.array ty)) (hkC : s.vm.classes[comp]? = some kC) (hkindC : kC.kind = .array c2 ty)
    {pc : Nat} {ls : Array Slot} {n k : Int32} {N K : Nat} {rest : List Value} (hn : ¬ n < 0) (hk : ¬ k < 0) (hN : n.toNatClampNeg = N) (hK : k.toNatClampNeg = K) (hb1 : N * 4 ≤ 536870912) (hb2 : K * componentBytes ty ≤ 536870912) (hb3 : K ≤ 536870912)
    (hdf : fits ty (defaultValue ty) = true) (hdd : (defaultValue ty).isDefault = true) (hcells : cells + (1 + N) ≤ R.cells) (hslots : slots + (N + N * K) ≤ R.slots) (hdg : decode cc pc = .ok (.multianewarray index 2, 4))
    (kk : ∀ (H1 : Heap), H1.size = H.size + 1 + N → (∀ q : Nat, q < H.size → H1[q]? = H[q]?) → H1[H.size]? = some (arrV cA N (fun j => if j < N then Value.ref (H.size + 1 + j) else .null)) → (∀ j : Nat, j < N → H1[H.size + 1 + j]? = some (arrV comp K (fun _ => defaultValue ty))) →
      W p l e R s m args below meth c H1 (locs ++ (List.range N).map fun j => ⟨H.size, j⟩) (cells + 1 + N) (slots + N + N * K) Q (F0 m (pc + 4) ls (.ref H.size :: rest))) : W p l e R s m args below meth c H locs cells slots Q (F0 m pc ls (.int k :: .int n :: rest)) := by
  subst hN
  subst hK
  intro T hT X
  subst hT
  have hpl : e.platform.magicAccessors = ({} : Platform).magicAccessors := by rw [X.admits.platform]
  obtain ⟨c0, hfc0, hcl⟩ := Cond.classLink_spec hown hclink e.platform hpl
  cases hname.symm.trans hfc0
  obtain ⟨hg1, hwarm, hready⟩ := State.classEntry (e := e) X.warmed hcl
  generalize T.vm.noted m.cls index (.cls cA) = vm1 at hg1 hwarm hready
  have hal : s.vm.Alike vm1 := hwarm.alike
  obtain ⟨kA1, hkA1, heA⟩ := hal.2.2 _ _ hkA
  obtain ⟨kC1, hkC1, heC⟩ := hal.2.2 _ _ hkC
  have hkindA1 : kA1.kind = .array comp (.array ty) := by rw [heA]; exact hkindA
  have hkindC1 : kC1.kind = .array c2 ty := by rw [heC]; exact hkindC
  have X1 := X.noted hwarm
  obtain ⟨hr1, hr2⟩ := X.roomAbove hcells hslots
  have XF := mn_stand X1 cA comp n.toNatClampNeg k.toNatClampNeg (defaultValue ty) n.toNatClampNeg
  obtain ⟨t, a1, b1⟩ := kk (mn_st (T.setVm vm1) cA comp n.toNatClampNeg k.toNatClampNeg (defaultValue ty) n.toNatClampNeg).heap (mn_size (T.setVm vm1) _ _ _ _ _ _) (fun q hq => mn_old (T.setVm vm1) _ _ _ _ _ hq _) (mn_head (T.setVm vm1) _ _ _ _ _ _) (fun j hj => mn_row (T.setVm vm1) _ _ _ _ _ _ j hj) _ rfl XF
  refine ⟨t, ?_, b1⟩
  have hl1 : ¬ n.toNatClampNeg > e.platform.arrayLengthLimit := by rw [Launch.admits_arrayLengthLimit X.admits]; omega
  have hh1 : ¬ n.toNatClampNeg * componentBytes (.array ty) > e.platform.maxHeapBytes := by
    rw [Launch.admits_maxHeapBytes X.admits]; show ¬ n.toNatClampNeg * 4 > 536870912; omega
  have hl2 : ¬ k.toNatClampNeg > e.platform.arrayLengthLimit := by rw [Launch.admits_arrayLengthLimit X.admits]; omega
  have hh2 : ¬ k.toNatClampNeg * componentBytes ty > e.platform.maxHeapBytes := by rw [Launch.admits_maxHeapBytes X.admits]; omega
  subst hb
  have hg1' := hg1
  jvm_step X.here [hexec, hdg]
  simp only [multianewarray.sem, wp_bind', W.resolveClassAt_links (State.method?_setTop (F0 m pc ls (.int k :: .int n :: rest)) X.here.top) hg1]
  rw [W.popN, if_neg (by decide)]
  refine ⟨F0 m pc ls (.int k :: .int n :: rest), State.topJava?_setTop' (s := T.setVm vm1) _ X.here.top, [.int n, .int k], rest, rfl, rfl, ?_⟩
  simp only [List.mapM_cons, List.mapM_nil, wp_bind', wp_pure']
  refine mn_make hkA1 hkindA1 hkC1 hkindC1 hn hk hl1 hh1 hl2 hh2 hdf hdd (by show T.heap.size + 1 + _ ≤ _; omega) (by show T.slotsUsed + _ + _ ≤ _; omega) (fun d' acts' => ?_)
  have eS : ((T.setTop (F0 m pc ls (.int k :: .int n :: rest))).setVm vm1).setTop { F0 m pc ls (.int k :: .int n :: rest) with stack := rest } = (T.setVm vm1).setTop { F0 m pc ls (.int k :: .int n :: rest) with stack := rest } := by
    show ((T.setVm vm1).setTop _).setTop _ = _
    rw [State.setTop_setTop]
  rw [eS, mn_top]
  simp only [wp_bind', W.mark, W.pushRef, State.topJava?_setTop' _ XF.here.top, Option.some.injEq, exists_eq_left', State.setTop_setTop, State.heap_setTop]
  intro acts
  simp [jvm, XF.here.top]
  exact a1
end MNW
