/-! the memory: whole numbers by place and index; longs likewise; the cells by their places -/
abbrev pd_M : Type := (Nat → Nat → Int32) × (Nat → Nat → Int64)
abbrev pd_G : Type := (Nat → Nat) × (Nat → ClassId)
def pd_KT : List (Nat × Nat × Nat × List Nat) := [(5, 8, 0, [2, 9, 25, 38, 60, 61]), (5, 7, 0, [3, 4]), (0, 4, 0, []), (3, 4, 4, []), (0, 3, 0, []), (0, 3, 0, []), (0, 3, 0, []), (0, 3, 0, []), (5, 4, 0, [0, 10, 11, 12, 18, 24]), (0, 5, 0, []), (0, 5, 0, []), (3, 5, 12, []), (0, 7, 0, []), (0, 7, 0, []), (0, 7, 0, []), (0, 7, 0, []), (0, 7, 0, []), (3, 5, 18, []), (0, 5, 0, []), (0, 5, 0, []), (0, 5, 0, []), (0, 5, 0, []), (0, 5, 0, []), (0, 5, 0, []), (5, 0, 0, [2, 0, 26, 27, 28, 29, 37]), (0, 7, 0, []), (0, 7, 0, []), (0, 7, 0, []), (3, 7, 29, []), (0, 4, 0, []), (0, 4, 0, []), (0, 4, 0, []), (0, 4, 0, []), (0, 4, 0, []), (0, 4, 0, []), (0, 4, 0, []), (0, 7, 0, []), (5, 2, 0, [9, 25, 39, 40, 48, 49]), (0, 7, 0, []), (3, 7, 40, []), (0, 5, 0, []), (0, 5, 0, []), (0, 5, 0, []), (0, 5, 0, []), (0, 5, 0, []), (0, 5, 0, []), (0, 5, 0, []), (0, 6, 0, []), (5, 1, 0, [50, 58, 59]), (4, 7, 50, []), (1, 6, 0, []), (1, 6, 0, []), (1, 6, 0, []), (1, 6, 0, []), (1, 6, 0, []), (1, 6, 0, []), (1, 6, 0, []), (1, 6, 0, []), (0, 6, 0, []), (5, 6, 0, [9, 0]), (5, 5, 0, [0, 62]), (3, 20, 62, []), (0, 6, 0, []), (0, 6, 0, []), (0, 6, 0, []), (0, 6, 0, []), (0, 6, 0, []), (0, 6, 0, []), (0, 6, 0, []), (0, 6, 0, []), (0, 6, 0, []), (0, 6, 0, []), (0, 6, 0, []), (0, 6, 0, []), (0, 6, 0, []), (0, 6, 0, []), (0, 6, 0, []), (0, 6, 0, []), (0, 6, 0, []), (0, 6, 0, []), (0, 6, 0, []), (0, 6, 0, []), (5, 9, 0, [0, 84, 85, 86, 87, 88, 0, 89, 90, 91, 92, 93, 94, 95, 96, 97, 0, 0, 98, 99, 100, 101, 102, 103, 104, 105, 106, 107, 0, 0]), (0, 5, 0, []), (0, 5, 0, []), (0, 35, 0, []), (0, 25, 0, []), (0, 5, 0, []), (0, 7, 0, []), (2, 84, 0, []), (0, 28, 0, []), (0, 7, 0, []), (0, 7, 0, []), (0, 4, 0, []), (0, 4, 0, []), (0, 12, 0, []), (0, 12, 0, []), (0, 20, 0, []), (0, 20, 0, []), (0, 20, 0, []), (0, 20, 0, []), (0, 20, 0, []), (0, 20, 0, []), (0, 7, 0, []), (0, 7, 0, []), (0, 5, 0, []), (0, 35, 0, [])]
def pd_kind (k : Nat) : Nat × Nat × Nat × List Nat := pd_KT.getD k (9, 0, 0, [])
def pd_fv (g : pd_G) (r : Nat → Int32) : Nat → List Nat → List Value
  | _, [] => []
  | j, q :: fs => (match q with
    | 0 => Value.int (r j)
    | k + 1 => Value.ref (g.1 k)) :: pd_fv g r (j + 1) fs
def pd_cell (g : pd_G) (M : pd_M) (k : Nat) : va_E := match pd_kind k with
  | (0, n, _, _) => .inl (g.2 0, n, .inl (M.1 k))
  | (1, n, _, _) => .inl (g.2 1, n, .inr (.inl (M.2 k)))
  | (2, n, _, _) => .inl (g.2 2, n, .inl (M.1 k))
  | (3, n, b, _) => .inl (g.2 3, n, .inr (.inr (.inr (.inr (fun i => if i < n then some (g.1 (b + i)) else none)))))
  | (4, n, b, _) => .inl (g.2 4, n, .inr (.inr (.inr (.inr (fun i => if i < n then some (g.1 (b + i)) else none)))))
  | (_, c, _, fs) => .inr (c, pd_fv g (M.1 k) 0 fs)
abbrev pd_N : Nat := 107
def pd_WL (g : pd_G) (M : pd_M) : va_W := (List.range pd_N).map (fun k => (g.1 k, pd_cell g M k))
abbrev pd_ty (g : pd_G) : List (ClassId × FieldType) := [(g.2 0, .int), (g.2 1, .long), (g.2 2, .boolean), (g.2 3, .array .int), (g.2 4, .array .long)]
def sI (M : pd_M) (k i : Nat) (v : Int32) : pd_M := (va_up M.1 k (upd (M.1 k) i v), M.2)
def sJ (M : pd_M) (k i : Nat) (v : Int64) : pd_M := (M.1, va_up M.2 k (vp_updL (M.2 k) i v))
theorem sI_at (M : pd_M) (k i : Nat) (v : Int32) (k' i' : Nat) : (sI M k i v).1 k' i' = if k' = k ∧ i' = i then v else M.1 k' i' := by
  by_cases h : k' = k
  · subst h
    by_cases hi : i' = i
    · subst hi; simp [sI, va_up, upd]
    · simp [sI, va_up, upd, hi]
  · simp [sI, va_up, h]
theorem sI_2 (M : pd_M) (k i : Nat) (v : Int32) : (sI M k i v).2 = M.2 := rfl
theorem sJ_1 (M : pd_M) (k i : Nat) (v : Int64) : (sJ M k i v).1 = M.1 := rfl
theorem sJ_at (M : pd_M) (k i : Nat) (v : Int64) (k' i' : Nat) : (sJ M k i v).2 k' i' = if k' = k ∧ i' = i then v else M.2 k' i' := by
  by_cases h : k' = k
  · subst h
    by_cases hi : i' = i
    · subst hi; simp [sJ, va_up, vp_updL]
    · simp [sJ, va_up, vp_updL, hi]
  · simp [sJ, va_up, h]
theorem pd_cell_congr {g : pd_G} {M M' : pd_M} {k : Nat} (h1 : M'.1 k = M.1 k) (h2 : M'.2 k = M.2 k) : pd_cell g M' k = pd_cell g M k := by
  unfold pd_cell
  rw [h1, h2]
theorem pd_cell_0 {g : pd_G} {M : pd_M} {k n b : Nat} {fs : List Nat} (h : pd_kind k = (0, n, b, fs)) : pd_cell g M k = .inl (g.2 0, n, .inl (M.1 k)) := by
  unfold pd_cell; rw [h]; rfl
theorem pd_cell_1 {g : pd_G} {M : pd_M} {k n b : Nat} {fs : List Nat} (h : pd_kind k = (1, n, b, fs)) : pd_cell g M k = .inl (g.2 1, n, .inr (.inl (M.2 k))) := by
  unfold pd_cell; rw [h]; rfl
theorem pd_cell_2 {g : pd_G} {M : pd_M} {k n b : Nat} {fs : List Nat} (h : pd_kind k = (2, n, b, fs)) : pd_cell g M k = .inl (g.2 2, n, .inl (M.1 k)) := by
  unfold pd_cell; rw [h]; rfl
theorem pd_cell_3 {g : pd_G} {M : pd_M} {k n b : Nat} {fs : List Nat} (h : pd_kind k = (3, n, b, fs)) : pd_cell g M k = .inl (g.2 3, n, .inr (.inr (.inr (.inr (fun i => if i < n then some (g.1 (b + i)) else none))))) := by
  unfold pd_cell; rw [h]; rfl
theorem pd_cell_4 {g : pd_G} {M : pd_M} {k n b : Nat} {fs : List Nat} (h : pd_kind k = (4, n, b, fs)) : pd_cell g M k = .inl (g.2 4, n, .inr (.inr (.inr (.inr (fun i => if i < n then some (g.1 (b + i)) else none))))) := by
  unfold pd_cell; rw [h]; rfl
theorem pd_cell_5 {g : pd_G} {M : pd_M} {k c b : Nat} {fs : List Nat} (h : pd_kind k = (5, c, b, fs)) : pd_cell g M k = .inr (c, pd_fv g (M.1 k) 0 fs) := by
  unfold pd_cell; rw [h]; rfl
theorem pd_kN {k t n b : Nat} {fs : List Nat} (h : pd_kind k = (t, n, b, fs)) (ht : t < 9) : k < pd_N := by
  rcases Nat.lt_or_ge k pd_N with q | q
  · exact q
  · have e : pd_kind k = (9, 0, 0, []) := by
      unfold pd_kind
      rw [List.getD_eq_getElem?_getD, List.getElem?_eq_none (by exact q)]; rfl
    rw [e] at h
    cases h
    omega
theorem pd_len (g : pd_G) (M : pd_M) : (pd_WL g M).length = pd_N := by simp [pd_WL]
theorem pd_at {g : pd_G} {M : pd_M} {X : va_W} {k : Nat} (hk : k < pd_N) : (pd_WL g M ++ X)[k]? = some (g.1 k, pd_cell g M k) := by
  rw [List.getElem?_append_left (by rw [pd_len]; exact hk)]
  unfold pd_WL
  rw [List.getElem?_map, List.getElem?_range hk]
  rfl
theorem pd_set {g : pd_G} {M M' : pd_M} {X : va_W} {k : Nat} {e : va_E} (hk : k < pd_N) (h1 : pd_cell g M' k = e) (h2 : ∀ j, j ≠ k → pd_cell g M' j = pd_cell g M j) : (pd_WL g M ++ X).set k (g.1 k, e) = pd_WL g M' ++ X := by
  apply List.ext_getElem?
  intro i
  by_cases hi : i < pd_N
  · rw [pd_at hi]
    by_cases e1 : i = k
    · subst e1
      rw [List.getElem?_set_self (by rw [List.length_append, pd_len]; omega), h1]
    · rw [List.getElem?_set_ne (Ne.symm e1), pd_at hi, h2 i e1]
  · rw [List.getElem?_set_ne (by omega), List.getElem?_append_right (by rw [pd_len]; omega), List.getElem?_append_right (by rw [pd_len]; omega), pd_len, pd_len]
theorem pd_setI {g : pd_G} {M : pd_M} {X : va_W} {k i : Nat} {v : Int32} {e : va_E} (hk : k < pd_N) (h1 : pd_cell g (sI M k i v) k = e) : (pd_WL g M ++ X).set k (g.1 k, e) = pd_WL g (sI M k i v) ++ X :=
  pd_set hk h1 (fun j hj => pd_cell_congr (by simp [sI, va_up, hj]) rfl)
theorem pd_setJ {g : pd_G} {M : pd_M} {X : va_W} {k i : Nat} {v : Int64} {e : va_E} (hk : k < pd_N) (h1 : pd_cell g (sJ M k i v) k = e) : (pd_WL g M ++ X).set k (g.1 k, e) = pd_WL g (sJ M k i v) ++ X :=
  pd_set hk h1 (fun j hj => pd_cell_congr rfl (by simp [sJ, va_up, hj]))
theorem pd_fv_get (g : pd_G) (r : Nat → Int32) : ∀ (fs : List Nat) (j0 j : Nat), (pd_fv g r j0 fs)[j]? = (fs[j]?).map (fun q => match q with | 0 => Value.int (r (j0 + j)) | k + 1 => Value.ref (g.1 k))
  | [], j0, j => by simp [pd_fv]
  | q :: fs, j0, 0 => by cases q <;> simp [pd_fv]
  | q :: fs, j0, j + 1 => by
    have h := pd_fv_get g r fs (j0 + 1) j
    simp only [pd_fv, List.getElem?_cons_succ]
    rw [h, show j0 + 1 + j = j0 + (j + 1) by omega]
theorem pd_fv_set (g : pd_G) (r : Nat → Int32) (v : Int32) : ∀ (fs : List Nat) (j0 j : Nat), fs[j]? = some 0 → (pd_fv g r j0 fs).set j (.int v) = pd_fv g (upd r (j0 + j) v) j0 fs
  | [], j0, j, h => by simp at h
  | q :: fs, j0, 0, h => by
    have e : q = 0 := by simpa using h
    subst e
    have hr : ∀ (fs : List Nat) (j1 : Nat), j0 < j1 → pd_fv g r j1 fs = pd_fv g (upd r (j0 + 0) v) j1 fs := by
      intro fs
      induction fs with
      | nil => intro j1 _; rfl
      | cons q fs ih =>
        intro j1 hj
        simp only [pd_fv]
        rw [ih (j1 + 1) (by omega)]
        have e2 : upd r (j0 + 0) v j1 = r j1 := by simp [upd]; omega
        rw [e2]
    simp only [pd_fv, List.set_cons_zero]
    rw [← hr fs (j0 + 1) (by omega)]
    simp [upd]
  | q :: fs, j0, j + 1, h => by
    have h' : fs[j]? = some 0 := by simpa using h
    have ih := pd_fv_set g r v fs (j0 + 1) j h'
    simp only [pd_fv, List.set_cons_succ]
    rw [ih, show j0 + 1 + j = j0 + (j + 1) by omega]
    have e2 : upd r (j0 + (j + 1)) v j0 = r j0 := by simp [upd]
    rw [e2]
def pd_pp (j : Nat) : Int32 := match j with
  | 0 => 46656
  | 1 => 7776
  | 2 => 1296
  | 3 => 216
  | 4 => 36
  | 5 => 6
  | _ => 1
/-- the one static row, which nothing changes -/
def pd_St (t : Nat) (A : Nat → Prop) (U : State) (H : Heap) : Prop := va_Z RX1 "PLACE_PRICE" "[I" (.ref t) A U H ∧ va_T .int t 7 (fun j => .int (pd_pp j)) A U H
/-- the whole picture at a point of a walk -/
def pd_W (D : va_G) (g : pd_G) (t : Nat) (M : pd_M) (X : va_W) (A : Nat → Prop) (s : State) (H : Heap) (locs : List Loc) : Prop :=
  va_K D vwCl (pd_ty g) s ∧ va_P D vwCl (pd_WL g M ++ X) H ∧ va_D A (pd_WL g M ++ X) ∧ va_S A s.heap H locs ∧ (∀ q, s.heap.size ≤ q → A q) ∧ pd_St t A s s.heap
/-- what a method may take as given -/
def pd_Pre (D : va_G) (g : pd_G) (t : Nat) (M : pd_M) (X : va_W) (sz : Nat) (av : List Value) : Array Value → State → Prop :=
  va_Pc av (fun U => U.heap.size = sz ∧ va_P D vwCl (pd_WL g M ++ X) U.heap ∧ va_K D vwCl (pd_ty g) U ∧ va_D (fun _ => True) (pd_WL g M ++ X) ∧ pd_St t (va_A (pd_WL g M ++ X) sz) U U.heap)
abbrev pd_B (D : va_G) (g : pd_G) (M : pd_M) (X : va_W) (sz : Nat) (M' : pd_M) (t : State) : Prop := va_P D vwCl (pd_WL g M' ++ X) t.heap ∧ va_K D vwCl (pd_ty g) t ∧ va_D (va_A (pd_WL g M ++ X) sz) (pd_WL g M' ++ X)
abbrev pd_Qi (D : va_G) (g : pd_G) (M : pd_M) (X : va_W) (sz : Nat) (Q : Int32 → pd_M → Prop) := va_Qi Q (pd_B D g M X sz) (va_A (pd_WL g M ++ X) sz)
abbrev pd_Qv (D : va_G) (g : pd_G) (M : pd_M) (X : va_W) (sz : Nat) (Q : pd_M → Prop) := va_Qv Q (pd_B D g M X sz) (va_A (pd_WL g M ++ X) sz)
/-- what stays fixed along a method's walk -/
def pd_C (p : Program) (m : MethodId) (c : Code) (cc : ByteArray) (nL : Nat) (s : State) (args : Array Value) (own : String) (meth : Method) (ret : Option FieldType) : Prop :=
  CallFix p m c cc nL s args TB own ∧ meth.sig.returnType = ret ∧ meth.locks = false
theorem pd_all_map {ws : va_W} : (List.range ws.length).map (fun i => ws[i]?) = ws.map some := by
  apply List.ext_getElem?
  intro i
  by_cases h : i < ws.length
  · simp [h]
  · simp [h]
theorem pd_free {A : Nat → Prop} {ws : va_W} {H0 H : Heap} {locs : List Loc} (hD : va_D A ws) (hS : va_S A H0 H locs) (hA : ∀ q, H0.size ≤ q → A q) : ∀ q, va_A ws H.size q → A q := va_free hD hS hA (List.range ws.length) pd_all_map
theorem pd_blind {D : va_G} {g : pd_G} {t : Nat} {M : pd_M} {X : va_W} {sz : Nat} {av : List Value} : FrameBlind (pd_Pre D g t M X sz av) := by
  intro a U f mk q
  obtain ⟨q0, q1, qP, qK, qD, qZ, qT⟩ := q
  exact ⟨q0, q1, qP, va_K.moved (u := U) (U := U.calling f mk a) (Vm.Alike.refl U.vm) qK, qD, va_Z.moved (u := U) (U := U.calling f mk a) (Vm.Alike.refl U.vm) qZ, va_T.moved (u := U) (U := U.calling f mk a) (Vm.Alike.refl U.vm) qT⟩
theorem pd_pre {D : va_G} {g : pd_G} {t : Nat} {M : pd_M} {X : va_W} {A : Nat → Prop} {s U : State} {H : Heap} {locs : List Loc} (hW : pd_W D g t M X A s H locs) (hU : U.heap = H) (hw : s.WarmedH U.vm) (av : List Value) : pd_Pre D g t M X H.size av av.toArray U := by
  obtain ⟨hK, hP, hD, hS, hA, hZ, hT⟩ := hW
  have hF := pd_free hD hS hA
  refine ⟨rfl, by rw [hU], by rw [hU]; exact hP, va_K.moved hw.alike hK, hD.weaken (fun _ _ _ _ => trivial), ?_, ?_⟩
  · rw [hU]; exact ((hZ.kept hS.2.1).narrow hF).moved hw.alike
  · rw [hU]; exact ((hT.kept hS.2.1).narrow hF).moved hw.alike
theorem pd_goodV {own C : String} {idx : Nat} {y : MethodName} {w : Cond} (h1 : Cond.methodLink own idx y ∈ TB) (h2 : Cond.instanceMethod y ∈ TB) (h3 : Cond.selects C y y ∈ TB) (h4 : Cond.initialized C ∈ TB) (h5 : w ∈ TB) : GoodIn TB (wsV own idx C y (w :: TB)) := by
  intro v hv
  have hm : v ∈ TB := by
    unfold wsV at hv
    simp only [List.cons_append, List.nil_append, List.mem_cons] at hv
    rcases hv with rfl | rfl | rfl | rfl | rfl | hv
    · exact h1
    · exact h2
    · exact h3
    · exact h4
    · exact h5
    · exact hv
  exact tb_good v hm
theorem pd_goodS {own : String} {idx : Nat} {y : MethodName} {w : Cond} (h1 : Cond.methodLink own idx y ∈ TB) (h2 : Cond.static y ∈ TB) (h4 : Cond.initialized y.cls ∈ TB) (h5 : w ∈ TB) : GoodIn TB (va_wsS own idx y (w :: TB)) := by
  intro v hv
  have hm : v ∈ TB := by
    unfold va_wsS at hv
    simp only [List.cons_append, List.nil_append, List.mem_cons] at hv
    rcases hv with rfl | rfl | rfl | rfl | hv
    · exact h1
    · exact h2
    · exact h4
    · exact h5
    · exact hv
  exact tb_good v hm
theorem pd_lt {i : Int32} {n : Nat} (h : vp_in i n) : i.toNatClampNeg < n := Nat.not_le.mp fun q => h (Or.inr q)
section PDW
variable {p : Program} {l : Launch} {e : Env} {R : Room} {s : State} {m : MethodId} {args : Array Value} {below : List Frame} {meth : Method} {c : Code} {H : Heap} {locs : List Loc} {cells slots : Nat} {Q : State → Prop}
variable {cc : ByteArray} {pc : Nat} {ls : Array Slot} {rest : List Value} {D : va_G} {g : pd_G} {t : Nat} {M : pd_M} {X : va_W} {A : Nat → Prop} {nL : Nat} {own : String} {ret : Option FieldType}
theorem pd_get (C : pd_C p m c cc nL s args own meth ret) (hW : pd_W D g t M X A s H locs) {k ci b : Nat} {fs : List Nat} (hk : pd_kind k = (5, ci, b, fs)) {Cn : String} {T : u_T} {N : Nat} (hc : vwCl[ci]? = some (Cn, T, N)) (hin : ∀ w ∈ u_ws Cn T N, w ∈ TB) (j : Nat) (hj : j < N) {idx : Nat} (hl : Cond.fieldLink own idx (T j).1 (T j).2.1 (T j).2.2.1 ∈ TB) {v : Value} (hv : (pd_fv g (M.1 k) 0 fs)[j]? = some v) (hdg : decode cc pc = .ok (.getfield idx, 3))
    (kk : W p l e R s m args below meth c H locs cells slots Q (F0 m (pc + 3) ls (v :: rest))) : W p l e R s m args below meth c H locs cells slots Q (F0 m pc ls (.ref (g.1 k) :: rest)) := by
  obtain ⟨⟨hx, hb, -, hown, hts⟩, -, -⟩ := C
  obtain ⟨hK, hP, -⟩ := hW
  exact va_get hx hb hts hin hown hK hP k (by rw [pd_at (pd_kN hk (by decide)), pd_cell_5 hk]) hc j hj (hts _ hl) (fun _ h9 => h9) hv hdg kk
theorem pd_put (C : pd_C p m c cc nL s args own meth ret) (hW : pd_W D g t M X A s H locs) {k ci b : Nat} {fs : List Nat} (hk : pd_kind k = (5, ci, b, fs)) {Cn : String} {T : u_T} {N : Nat} (hc : vwCl[ci]? = some (Cn, T, N)) (hin : ∀ w ∈ u_ws Cn T N, w ∈ TB) {ty0 : Nat → FieldType} (hty : ∀ k, k < N → parseFieldDescriptor (T k).2.2.1 = some (ty0 k)) (hnm : ∀ a, a < N → ∀ b, b < N → a ≠ b → (T a).2.1 ≠ (T b).2.1) (j : Nat) (hj : j < N) {idx : Nat} (hl : Cond.fieldLink own idx (T j).1 (T j).2.1 (T j).2.2.1 ∈ TB) (hfin : (T j).2.2.2 = false) (hd : parseFieldDescriptor (T j).2.2.1 = some .int) (hv : fs[j]? = some 0) {v : Int32} (hdg : decode cc pc = .ok (.putfield idx, 3))
    (kk : ∀ (M1 : pd_M) (H1 : Heap) (locs1 : List Loc), M1 = sI M k j v → pd_W D g t M1 X A s H1 locs1 → W p l e R s m args below meth c H1 locs1 cells slots Q (F0 m (pc + 3) ls rest)) : W p l e R s m args below meth c H locs cells slots Q (F0 m pc ls (.int v :: .ref (g.1 k) :: rest)) := by
  obtain ⟨⟨hx, hb, -, hown, hts⟩, -, -⟩ := C
  obtain ⟨hK, hP, hD, hS, hA, hZ⟩ := hW
  have hkn := pd_kN hk (by decide)
  have hlen : j < (pd_fv g (M.1 k) 0 fs).length := by
    have h9 := pd_fv_get g (M.1 k) fs 0 j
    rw [hv] at h9
    exact (List.getElem?_eq_some_iff.mp h9).1
  refine va_put (ty := .int) (v := .int v) hx hb hts hin ty0 hty hnm hown hK hP hD hS k (by rw [pd_at hkn, pd_cell_5 hk]) hc j hj (hts _ hl) (fun _ h9 => h9) hfin hd rfl rfl hlen hdg (fun H1 locs1 hP1 hD1 hS1 => ?_)
  have e : (pd_WL g M ++ X).set k (g.1 k, .inr (ci, (pd_fv g (M.1 k) 0 fs).set j (.int v))) = pd_WL g (sI M k j v) ++ X := pd_setI hkn (by
    rw [pd_cell_5 hk, pd_fv_set g (M.1 k) v fs 0 j hv]
    simp [sI, va_up])
  rw [e] at hP1 hD1
  exact kk _ H1 locs1 rfl ⟨hK, hP1, hD1, hS1, hA, hZ⟩
theorem pd_iald (C : pd_C p m c cc nL s args own meth ret) (hW : pd_W D g t M X A s H locs) {k n b : Nat} {fs : List Nat} (hk : pd_kind k = (0, n, b, fs)) {i : Int32} (hin : vp_in i n) (hdg : decode cc pc = .ok (.iaload, 1))
    (kk : W p l e R s m args below meth c H locs cells slots Q (F0 m (pc + 1) ls (.int (M.1 k i.toNatClampNeg) :: rest))) : W p l e R s m args below meth c H locs cells slots Q (F0 m pc ls (.int i :: .ref (g.1 k) :: rest)) := by
  obtain ⟨⟨hx, hb, -, hown, hts⟩, -, -⟩ := C
  obtain ⟨hK, hP, -⟩ := hW
  exact va_iald hx hb hK hP k 0 (by rw [pd_at (pd_kN hk (by decide)), pd_cell_0 hk]) rfl hin hdg kk
theorem pd_lald (C : pd_C p m c cc nL s args own meth ret) (hW : pd_W D g t M X A s H locs) {k n b : Nat} {fs : List Nat} (hk : pd_kind k = (1, n, b, fs)) {i : Int32} (hin : vp_in i n) (hdg : decode cc pc = .ok (.laload, 1))
    (kk : W p l e R s m args below meth c H locs cells slots Q (F0 m (pc + 1) ls (.long (M.2 k i.toNatClampNeg) :: rest))) : W p l e R s m args below meth c H locs cells slots Q (F0 m pc ls (.int i :: .ref (g.1 k) :: rest)) := by
  obtain ⟨⟨hx, hb, -, hown, hts⟩, -, -⟩ := C
  obtain ⟨hK, hP, -⟩ := hW
  exact va_lald hx hb hK hP k 1 (by rw [pd_at (pd_kN hk (by decide)), pd_cell_1 hk]) rfl hin hdg kk
theorem pd_zald (C : pd_C p m c cc nL s args own meth ret) (hW : pd_W D g t M X A s H locs) {k n b : Nat} {fs : List Nat} (hk : pd_kind k = (2, n, b, fs)) {i : Int32} (hin : vp_in i n) (hdg : decode cc pc = .ok (.baload, 1))
    (kk : W p l e R s m args below meth c H locs cells slots Q (F0 m (pc + 1) ls (.int (M.1 k i.toNatClampNeg) :: rest))) : W p l e R s m args below meth c H locs cells slots Q (F0 m pc ls (.int i :: .ref (g.1 k) :: rest)) := by
  obtain ⟨⟨hx, hb, -, hown, hts⟩, -, -⟩ := C
  obtain ⟨hK, hP, -⟩ := hW
  exact va_zald hx hb hK hP k 2 (by rw [pd_at (pd_kN hk (by decide)), pd_cell_2 hk]) rfl hin hdg kk
theorem pd_aald (C : pd_C p m c cc nL s args own meth ret) (hW : pd_W D g t M X A s H locs) {k n b : Nat} {fs : List Nat} (hk : pd_kind k = (3, n, b, fs)) {i : Int32} (hin : vp_in i n) (hdg : decode cc pc = .ok (.aaload, 1))
    (kk : W p l e R s m args below meth c H locs cells slots Q (F0 m (pc + 1) ls (.ref (g.1 (b + i.toNatClampNeg)) :: rest))) : W p l e R s m args below meth c H locs cells slots Q (F0 m pc ls (.int i :: .ref (g.1 k) :: rest)) := by
  obtain ⟨⟨hx, hb, -, hown, hts⟩, -, -⟩ := C
  obtain ⟨hK, hP, -⟩ := hW
  have hlt := pd_lt hin
  have he : (pd_WL g M ++ X)[k]? = some (g.1 k, .inl (g.2 3, n, .inr (.inr (.inr (.inr (fun i => if i < n then some (g.1 (b + i)) else none)))))) := by rw [pd_at (pd_kN hk (by decide)), pd_cell_3 hk]
  exact W.aald (v := .ref (g.1 (b + i.toNatClampNeg))) (ty := .array .int) hx hb (hP k _ he) ((hK.2 3 (g.2 3, .array .int) rfl).1 n (fun j => va_rf ((fun i => if i < n then some (g.1 (b + i)) else none) j))) rfl (fun q => by cases q) (by show ¬ (i < 0 ∨ (arrV _ _ _).slots.size ≤ _); rw [arrV_size]; exact hin) (by show (arrV _ _ _).slots[_]? = _; rw [arrV_read _ _ hlt]; simp [hlt, va_rf]) rfl rfl hdg kk
theorem pd_aaldJ (C : pd_C p m c cc nL s args own meth ret) (hW : pd_W D g t M X A s H locs) {k n b : Nat} {fs : List Nat} (hk : pd_kind k = (4, n, b, fs)) {i : Int32} (hin : vp_in i n) (hdg : decode cc pc = .ok (.aaload, 1))
    (kk : W p l e R s m args below meth c H locs cells slots Q (F0 m (pc + 1) ls (.ref (g.1 (b + i.toNatClampNeg)) :: rest))) : W p l e R s m args below meth c H locs cells slots Q (F0 m pc ls (.int i :: .ref (g.1 k) :: rest)) := by
  obtain ⟨⟨hx, hb, -, hown, hts⟩, -, -⟩ := C
  obtain ⟨hK, hP, -⟩ := hW
  have hlt := pd_lt hin
  have he : (pd_WL g M ++ X)[k]? = some (g.1 k, .inl (g.2 4, n, .inr (.inr (.inr (.inr (fun i => if i < n then some (g.1 (b + i)) else none)))))) := by rw [pd_at (pd_kN hk (by decide)), pd_cell_4 hk]
  exact W.aald (v := .ref (g.1 (b + i.toNatClampNeg))) (ty := .array .long) hx hb (hP k _ he) ((hK.2 4 (g.2 4, .array .long) rfl).1 n (fun j => va_rf ((fun i => if i < n then some (g.1 (b + i)) else none) j))) rfl (fun q => by cases q) (by show ¬ (i < 0 ∨ (arrV _ _ _).slots.size ≤ _); rw [arrV_size]; exact hin) (by show (arrV _ _ _).slots[_]? = _; rw [arrV_read _ _ hlt]; simp [hlt, va_rf]) rfl rfl hdg kk
theorem pd_iast (C : pd_C p m c cc nL s args own meth ret) (hW : pd_W D g t M X A s H locs) {k n b : Nat} {fs : List Nat} (hk : pd_kind k = (0, n, b, fs)) {i x : Int32} (hin : vp_in i n) (hdg : decode cc pc = .ok (.iastore, 1))
    (kk : ∀ (M1 : pd_M) (H1 : Heap) (locs1 : List Loc), M1 = sI M k i.toNatClampNeg x → pd_W D g t M1 X A s H1 locs1 → W p l e R s m args below meth c H1 locs1 cells slots Q (F0 m (pc + 1) ls rest)) : W p l e R s m args below meth c H locs cells slots Q (F0 m pc ls (.int x :: .int i :: .ref (g.1 k) :: rest)) := by
  obtain ⟨⟨hx, hb, -, hown, hts⟩, -, -⟩ := C
  obtain ⟨hK, hP, hD, hS, hA, hZ⟩ := hW
  have hkn := pd_kN hk (by decide)
  refine va_iast hx hb hK hP hD hS k 0 (by rw [pd_at hkn, pd_cell_0 hk]) rfl hin hdg (fun H1 locs1 hP1 hD1 hS1 => ?_)
  have e : (pd_WL g M ++ X).set k (g.1 k, .inl (g.2 0, n, .inl (upd (M.1 k) i.toNatClampNeg x))) = pd_WL g (sI M k i.toNatClampNeg x) ++ X := pd_setI hkn (by
    rw [pd_cell_0 hk]
    simp [sI, va_up])
  rw [e] at hP1 hD1
  exact kk _ H1 locs1 rfl ⟨hK, hP1, hD1, hS1, hA, hZ⟩
theorem pd_zast (C : pd_C p m c cc nL s args own meth ret) (hW : pd_W D g t M X A s H locs) {k n b : Nat} {fs : List Nat} (hk : pd_kind k = (2, n, b, fs)) {i x : Int32} (hin : vp_in i n) (hdg : decode cc pc = .ok (.bastore, 1))
    (kk : ∀ (M1 : pd_M) (H1 : Heap) (locs1 : List Loc), M1 = sI M k i.toNatClampNeg (vp_nar .boolean x) → pd_W D g t M1 X A s H1 locs1 → W p l e R s m args below meth c H1 locs1 cells slots Q (F0 m (pc + 1) ls rest)) : W p l e R s m args below meth c H locs cells slots Q (F0 m pc ls (.int x :: .int i :: .ref (g.1 k) :: rest)) := by
  obtain ⟨⟨hx, hb, -, hown, hts⟩, -, -⟩ := C
  obtain ⟨hK, hP, hD, hS, hA, hZ⟩ := hW
  have hkn := pd_kN hk (by decide)
  refine va_zast hx hb hK hP hD hS k 2 (by rw [pd_at hkn, pd_cell_2 hk]) rfl hin hdg (fun H1 locs1 hP1 hD1 hS1 => ?_)
  have e : (pd_WL g M ++ X).set k (g.1 k, .inl (g.2 2, n, .inl (upd (M.1 k) i.toNatClampNeg (vp_nar .boolean x)))) = pd_WL g (sI M k i.toNatClampNeg (vp_nar .boolean x)) ++ X := pd_setI hkn (by
    rw [pd_cell_2 hk]
    simp [sI, va_up])
  rw [e] at hP1 hD1
  exact kk _ H1 locs1 rfl ⟨hK, hP1, hD1, hS1, hA, hZ⟩
theorem pd_last (C : pd_C p m c cc nL s args own meth ret) (hW : pd_W D g t M X A s H locs) {k n b : Nat} {fs : List Nat} (hk : pd_kind k = (1, n, b, fs)) {i : Int32} {x : Int64} (hin : vp_in i n) (hdg : decode cc pc = .ok (.lastore, 1))
    (kk : ∀ (M1 : pd_M) (H1 : Heap) (locs1 : List Loc), M1 = sJ M k i.toNatClampNeg x → pd_W D g t M1 X A s H1 locs1 → W p l e R s m args below meth c H1 locs1 cells slots Q (F0 m (pc + 1) ls rest)) : W p l e R s m args below meth c H locs cells slots Q (F0 m pc ls (.long x :: .int i :: .ref (g.1 k) :: rest)) := by
  obtain ⟨⟨hx, hb, -, hown, hts⟩, -, -⟩ := C
  obtain ⟨hK, hP, hD, hS, hA, hZ⟩ := hW
  have hkn := pd_kN hk (by decide)
  refine va_last hx hb hK hP hD hS k 1 (by rw [pd_at hkn, pd_cell_1 hk]) rfl hin hdg (fun H1 locs1 hP1 hD1 hS1 => ?_)
  have e : (pd_WL g M ++ X).set k (g.1 k, .inl (g.2 1, n, .inr (.inl (vp_updL (M.2 k) i.toNatClampNeg x)))) = pd_WL g (sJ M k i.toNatClampNeg x) ++ X := pd_setJ hkn (by
    rw [pd_cell_1 hk]
    simp [sJ, va_up])
  rw [e] at hP1 hD1
  exact kk _ H1 locs1 rfl ⟨hK, hP1, hD1, hS1, hA, hZ⟩
/-- the static row -/
theorem pd_gets (C : pd_C p m c cc nL s args RX1 meth ret) (hW : pd_W D g t M X A s H locs) {idx : Nat} (hl : Cond.fieldLink RX1 idx RX1 "PLACE_PRICE" "[I" ∈ TB) (hdg : decode cc pc = .ok (.getstatic idx, 3))
    (kk : W p l e R s m args below meth c H locs cells slots Q (F0 m (pc + 3) ls (.ref t :: rest))) : W p l e R s m args below meth c H locs cells slots Q (F0 m pc ls rest) := by
  obtain ⟨⟨hx, hb, -, hown, hts⟩, -, -⟩ := C
  obtain ⟨-, -, -, hS, -, hZ, -⟩ := hW
  exact va_gets hx hb hZ hS hown (hts _ hl) (fun _ h => h) hdg kk
theorem pd_tald (C : pd_C p m c cc nL s args own meth ret) (hW : pd_W D g t M X A s H locs) {i : Int32} (hin : vp_in i 7) (hdg : decode cc pc = .ok (.iaload, 1))
    (kk : W p l e R s m args below meth c H locs cells slots Q (F0 m (pc + 1) ls (.int (pd_pp i.toNatClampNeg) :: rest))) : W p l e R s m args below meth c H locs cells slots Q (F0 m pc ls (.int i :: .ref t :: rest)) := by
  obtain ⟨⟨hx, hb, -, hown, hts⟩, -, -⟩ := C
  obtain ⟨-, -, -, hS, -, -, hT⟩ := hW
  exact va_ti hx hb hT hS hin rfl hdg kk
end PDW
section PDC
variable {p : Program} {l : Launch} {e : Env} {R : Room} {s : State} {m : MethodId} {args : Array Value} {below : List Frame} {meth : Method} {c : Code} {H : Heap} {locs : List Loc} {cells slots : Nat} {Q : State → Prop}
variable {cc bytes : ByteArray} {pc : Nat} {ls : Array Slot} {rest : List Value} {D : va_G} {g : pd_G} {t : Nat} {M : pd_M} {X : va_W} {A : Nat → Prop} {nL maxL : Nat} {own : String} {ret ret' : Option FieldType} {y : MethodName} {rm : Room} {As : List Value} {idx : Nat}
theorem pd_back {M' : pd_M} {tt : State} {H1 : Heap} {locs1 : List Loc} (hW : pd_W D g t M X A s H locs) (ht : tt.heap = H1) (hvm : s.vm.Alike tt.vm) (hB : pd_B D g M X H.size M' tt) (hS1 : va_S A s.heap H1 locs1) : pd_W D g t M' X A s H1 locs1 := by
  obtain ⟨hP1, hK1, hD1⟩ := hB
  obtain ⟨hK, hP, hD, hS, hA, hZ⟩ := hW
  rw [ht] at hP1
  exact ⟨hK, hP1, ⟨hD1.1, fun k q hk => pd_free hD hS hA _ (hD1.2 k q hk)⟩, hS1, hA, hZ⟩
/-- a call of a method of an object at a place; it makes no cells -/
theorem pd_callVi {Qc : Int32 → pd_M → Prop} {k ci b : Nat} {fs : List Nat} {T : u_T} {N : Nat} (C : pd_C p m c cc nL s args own meth ret) (hW : pd_W D g t M X A s H locs)
    (hM : Met l y (Cond.code y bytes maxL ret' :: TB) rm (pd_Pre D g t M X H.size (.ref (g.1 k) :: As)) (pd_Qi D g M X H.size Qc) 0 0 (va_A (pd_WL g M ++ X) H.size))
    (hk : pd_kind k = (5, ci, b, fs)) (hc : vwCl[ci]? = some (y.cls, T, N)) (h1 : Cond.methodLink own idx y ∈ TB) (h2 : Cond.instanceMethod y ∈ TB) (h3 : Cond.selects y.cls y y ∈ TB) (h4 : Cond.initialized y.cls ∈ TB) (h5 : Cond.code y bytes maxL ret' ∈ TB)
    (hd : y.cls ≠ "java/lang/invoke/MethodHandle" ∧ y.cls ≠ "java/lang/invoke/VarHandle" ∧ (parseMethodDescriptor y.desc).map (fun d => d.parameters.length) = some As.length) (hrm : rm.cells = 0 ∧ rm.slots = 0) (hR : rm.frames + 1 ≤ R.frames ∧ 8 + (maxL + 11) + rm.locals ≤ R.locals) (hcs : cells ≤ R.cells ∧ slots ≤ R.slots)
    (hls : ls.size = nL) {st : List Value} (hst : st = As.reverse ++ .ref (g.1 k) :: rest) (hw8 : (rest.map fun v => v.category).sum ≤ 8) (hdg : decode cc pc = .ok (.invokevirtual idx, 3))
    (kk : ∀ (r : Int32) (M1 : pd_M) (H1 : Heap) (locs1 : List Loc), Qc r M1 → pd_W D g t M1 X A s H1 locs1 → W p l e R s m args below meth c H1 locs1 cells slots Q (F0 m (pc + 3) ls (.int r :: rest))) : W p l e R s m args below meth c H locs cells slots Q (F0 m pc ls st) := by
  subst hst
  have hF := pd_free hW.2.2.1 hW.2.2.2.1 hW.2.2.2.2.1
  have he : (pd_WL g M ++ X)[k]? = some (g.1 k, .inr (ci, pd_fv g (M.1 k) 0 fs)) := by rw [pd_at (pd_kN hk (by decide)), pd_cell_5 hk]
  refine va_calli (va_runV (As := As) (rest := rest) C.1 hM (cwV As.length C.1.2.2.2.2 (pd_goodV h1 h2 h3 h4 h5) rfl hrm.1 hrm.2 ⟨rfl, hd⟩ hR) ⟨pd_blind, va_recv hW.1 hW.2.1 hc he, fun U hU hw => pd_pre hW hU hw _⟩ rfl rfl hls rfl (lv_room hw8) hdg hcs) hW.2.2.2.1 (fun q _ h => hF q h) hF (fun r M1 tt H1 locs1 ht hvm hq hB hz hk1 hS1 => ?_)
  exact kk r M1 H1 locs1 hq (pd_back hW ht hvm hB hS1)
theorem pd_callVv {Qc : pd_M → Prop} {k ci b : Nat} {fs : List Nat} {T : u_T} {N : Nat} (C : pd_C p m c cc nL s args own meth ret) (hW : pd_W D g t M X A s H locs)
    (hM : Met l y (Cond.code y bytes maxL ret' :: TB) rm (pd_Pre D g t M X H.size (.ref (g.1 k) :: As)) (pd_Qv D g M X H.size Qc) 0 0 (va_A (pd_WL g M ++ X) H.size))
    (hk : pd_kind k = (5, ci, b, fs)) (hc : vwCl[ci]? = some (y.cls, T, N)) (h1 : Cond.methodLink own idx y ∈ TB) (h2 : Cond.instanceMethod y ∈ TB) (h3 : Cond.selects y.cls y y ∈ TB) (h4 : Cond.initialized y.cls ∈ TB) (h5 : Cond.code y bytes maxL ret' ∈ TB)
    (hd : y.cls ≠ "java/lang/invoke/MethodHandle" ∧ y.cls ≠ "java/lang/invoke/VarHandle" ∧ (parseMethodDescriptor y.desc).map (fun d => d.parameters.length) = some As.length) (hrm : rm.cells = 0 ∧ rm.slots = 0) (hR : rm.frames + 1 ≤ R.frames ∧ 8 + (maxL + 11) + rm.locals ≤ R.locals) (hcs : cells ≤ R.cells ∧ slots ≤ R.slots)
    (hls : ls.size = nL) {st : List Value} (hst : st = As.reverse ++ .ref (g.1 k) :: rest) (hw8 : (rest.map fun v => v.category).sum ≤ 8) (hdg : decode cc pc = .ok (.invokevirtual idx, 3))
    (kk : ∀ (M1 : pd_M) (H1 : Heap) (locs1 : List Loc), Qc M1 → pd_W D g t M1 X A s H1 locs1 → W p l e R s m args below meth c H1 locs1 cells slots Q (F0 m (pc + 3) ls rest)) : W p l e R s m args below meth c H locs cells slots Q (F0 m pc ls st) := by
  subst hst
  have hF := pd_free hW.2.2.1 hW.2.2.2.1 hW.2.2.2.2.1
  have he : (pd_WL g M ++ X)[k]? = some (g.1 k, .inr (ci, pd_fv g (M.1 k) 0 fs)) := by rw [pd_at (pd_kN hk (by decide)), pd_cell_5 hk]
  refine va_callv (va_runV (As := As) (rest := rest) C.1 hM (cwV As.length C.1.2.2.2.2 (pd_goodV h1 h2 h3 h4 h5) rfl hrm.1 hrm.2 ⟨rfl, hd⟩ hR) ⟨pd_blind, va_recv hW.1 hW.2.1 hc he, fun U hU hw => pd_pre hW hU hw _⟩ rfl rfl hls rfl (lv_room hw8) hdg hcs) hW.2.2.2.1 (fun q _ h => hF q h) hF (fun M1 tt H1 locs1 ht hvm hq hB hz hk1 hS1 => ?_)
  exact kk M1 H1 locs1 hq (pd_back hW ht hvm hB hS1)
theorem pd_callSi {Qc : Int32 → pd_M → Prop} (C : pd_C p m c cc nL s args own meth ret) (hW : pd_W D g t M X A s H locs)
    (hM : Met l y (Cond.code y bytes maxL ret' :: TB) rm (pd_Pre D g t M X H.size As) (pd_Qi D g M X H.size Qc) 0 0 (va_A (pd_WL g M ++ X) H.size))
    (h1 : Cond.methodLink own idx y ∈ TB) (h2 : Cond.static y ∈ TB) (h4 : Cond.initialized y.cls ∈ TB) (h5 : Cond.code y bytes maxL ret' ∈ TB)
    (hd : y.cls ≠ "java/lang/invoke/MethodHandle" ∧ y.cls ≠ "java/lang/invoke/VarHandle" ∧ (parseMethodDescriptor y.desc).map (fun d => d.parameters.length) = some As.length) (hrm : rm.cells = 0 ∧ rm.slots = 0) (hR : rm.frames + 1 ≤ R.frames ∧ 8 + (maxL + 11) + rm.locals ≤ R.locals) (hcs : cells ≤ R.cells ∧ slots ≤ R.slots)
    (hls : ls.size = nL) {st : List Value} (hst : st = As.reverse ++ rest) (hw8 : (rest.map fun v => v.category).sum ≤ 8) (hdg : decode cc pc = .ok (.invokestatic idx, 3))
    (kk : ∀ (r : Int32) (M1 : pd_M) (H1 : Heap) (locs1 : List Loc), Qc r M1 → pd_W D g t M1 X A s H1 locs1 → W p l e R s m args below meth c H1 locs1 cells slots Q (F0 m (pc + 3) ls (.int r :: rest))) : W p l e R s m args below meth c H locs cells slots Q (F0 m pc ls st) := by
  subst hst
  have hF := pd_free hW.2.2.1 hW.2.2.2.1 hW.2.2.2.2.1
  refine va_calli (va_runS (As := As) (rest := rest) C.1 hM (va_cwS As.length C.1.2.2.2.2 (pd_goodS h1 h2 h4 h5) rfl hrm.1 hrm.2 hd hR) ⟨pd_blind, fun U hU hw => pd_pre hW hU hw _⟩ rfl rfl hls rfl (lv_room hw8) hdg hcs) hW.2.2.2.1 (fun q _ h => hF q h) hF (fun r M1 tt H1 locs1 ht hvm hq hB hz hk1 hS1 => ?_)
  exact kk r M1 H1 locs1 hq (pd_back hW ht hvm hB hS1)
/-- the ends -/
theorem pd_iret {Qc : Int32 → pd_M → Prop} {M0 : pd_M} {sz : Nat} {v : Int32} (C : pd_C p m c cc nL s args own meth (some .int)) (hA0 : A = va_A (pd_WL g M0 ++ X) sz) (hW : pd_W D g t M X A s H locs) (hq : Qc v M) (hdg : decode cc pc = .ok (.ireturn, 1)) :
    W p l e R s m args below meth c H locs cells slots (MQ below (pd_Qi D g M0 X sz Qc) args s cells slots (va_A (pd_WL g M0 ++ X) sz)) (F0 m pc ls [.int v]) := by
  obtain ⟨⟨hx, hb, -, hown, hts⟩, hr, hlocks⟩ := C
  obtain ⟨hK, hP, hD, hS, hA, hZ⟩ := hW
  subst hA0
  exact W.iret hx hb hr (fun tt ht hw => ⟨⟨v, M, rfl, hq, by rw [ht]; exact hP, va_K.moved hw.alike hK, hD⟩, hS.F ht⟩) hS.2.2 hdg hlocks
theorem pd_zret {Qc : Int32 → pd_M → Prop} {M0 : pd_M} {sz : Nat} {v : Int32} (C : pd_C p m c cc nL s args own meth (some .boolean)) (hA0 : A = va_A (pd_WL g M0 ++ X) sz) (hW : pd_W D g t M X A s H locs) (hn : narrow .boolean (.int v) = .int v) (hq : Qc v M) (hdg : decode cc pc = .ok (.ireturn, 1)) :
    W p l e R s m args below meth c H locs cells slots (MQ below (pd_Qi D g M0 X sz Qc) args s cells slots (va_A (pd_WL g M0 ++ X) sz)) (F0 m pc ls [.int v]) := by
  obtain ⟨⟨hx, hb, -, hown, hts⟩, hr, hlocks⟩ := C
  obtain ⟨hK, hP, hD, hS, hA, hZ⟩ := hW
  subst hA0
  exact W.zret hx hb hr hn (fun tt ht hw => ⟨⟨v, M, rfl, hq, by rw [ht]; exact hP, va_K.moved hw.alike hK, hD⟩, hS.F ht⟩) hS.2.2 hdg hlocks
theorem pd_vret {Qc : pd_M → Prop} {M0 : pd_M} {sz : Nat} (C : pd_C p m c cc nL s args own meth none) (hA0 : A = va_A (pd_WL g M0 ++ X) sz) (hW : pd_W D g t M X A s H locs) (hq : Qc M) (hdg : decode cc pc = .ok (.return_, 1)) :
    W p l e R s m args below meth c H locs cells slots (MQ below (pd_Qv D g M0 X sz Qc) args s cells slots (va_A (pd_WL g M0 ++ X) sz)) (F0 m pc ls []) := by
  obtain ⟨⟨hx, hb, -, hown, hts⟩, hr, hlocks⟩ := C
  obtain ⟨hK, hP, hD, hS, hA, hZ⟩ := hW
  subst hA0
  exact W.vret hx hb hr (fun tt ht hw => ⟨⟨M, rfl, hq, by rw [ht]; exact hP, va_K.moved hw.alike hK, hD⟩, hS.F ht⟩) hS.2.2 hdg hlocks
/-- a contract out of a walk of the body -/
theorem pd_met {av : List Value} {sz mc ms : Nat} {Qc : Array Value → State → Outcome → State → Prop} (hy : plainName y.cls = true) (hlen : (lg_sl av).length ≤ maxL)
    (body : ∀ (p : Program) (e : Env) (s : State) (m : MethodId) (below : List Frame) (meth : Method) (c : Code) (A : Nat → Prop) (ls : Array Slot), pd_C p m c cc maxL s av.toArray y.cls meth ret → A = va_A (pd_WL g M ++ X) sz → pd_W D g t M X A s s.heap [] → lv_has ls maxL (lv_args 0 av) →
      W p l e rm s m av.toArray below meth c s.heap [] 0 0 (MQ below Qc av.toArray s mc ms (va_A (pd_WL g M ++ X) sz)) (F0 m 0 ls [])) :
    Met l y (Cond.code y cc maxL ret :: TB) rm (pd_Pre D g t M X sz av) Qc mc ms (va_A (pd_WL g M ++ X) sz) := by
  refine Met.ofW (cc := cc) (maxL := maxL) (ret := ret) hy rfl ?_
  intro p e s m args below meth c s₁ B hml hv
  obtain ⟨rfl, hsz, hP, hK, hD0, hZ⟩ := hv
  have hts := atoms_spec (ws := Cond.code y cc maxL ret :: TB) B.pre
  have hown : s.vm.findClass y.cls = some m.cls := findClass_of_methodNamed B.named
  subst hsz
  have hD := hD0.self (sz := s.heap.size)
  have hl := lv_entry av (n := maxL) hlen
  rw [lg_entry_eq]
  exact body p e s m below meth c _ _ ⟨⟨B.exec, B.bytes, hml, hown, fun w hw => hts w (List.mem_cons_of_mem _ hw)⟩, B.returns, B.notSynchronized⟩ rfl ⟨hK, hP, hD, va_S.rf, fun q h => Or.inr h, hZ⟩ hl
end PDC

theorem pd_k4 : ∀ i, i < 4 → pd_kind (4 + i) = (0, 3, 0, []) := by decide
theorem pd_k12 : ∀ i, i < 5 → pd_kind (12 + i) = (0, 7, 0, []) := by decide
theorem pd_k18 : ∀ i, i < 5 → pd_kind (18 + i) = (0, 5, 0, []) := by decide
theorem pd_k29 : ∀ i, i < 7 → pd_kind (29 + i) = (0, 4, 0, []) := by decide
theorem pd_k40 : ∀ i, i < 7 → pd_kind (40 + i) = (0, 5, 0, []) := by decide
theorem pd_k50 : ∀ i, i < 7 → pd_kind (50 + i) = (1, 6, 0, []) := by decide
theorem pd_k62 : ∀ i, i < 20 → pd_kind (62 + i) = (0, 6, 0, []) := by decide
