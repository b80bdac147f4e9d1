theorem nw_X7 : Cond.methodLinkNest RX8 11 yX7_init RX8 ∈ lw_tbl := (List.mem_append_right _ (show _ ∈ tables_1 from (List.mem_append_left _ (List.mem_of_getElem? (i := 21) rfl))))
theorem nw_X1 : Cond.methodLinkNest RX2 25 yX1_init RX8 ∈ lw_tbl := (List.mem_append_right _ (show _ ∈ tables_1 from (List.mem_append_left _ (List.mem_of_getElem? (i := 122) rfl))))
theorem nw_X5 : Cond.methodLinkNest RX8 52 yX5_init RX8 ∈ lw_tbl := (List.mem_append_right _ (show _ ∈ tables_1 from (List.mem_append_left _ (List.mem_of_getElem? (i := 175) rfl))))
theorem nw_AI : Cond.arrayOver (.array .int) ∈ lw_tbl := (List.mem_append_right _ (show _ ∈ tables_1 from (List.mem_append_left _ (List.mem_of_getElem? (i := 26) rfl))))
theorem nw_AJ : Cond.arrayOver (.array .long) ∈ lw_tbl := (List.mem_append_right _ (show _ ∈ tables_1 from (List.mem_append_left _ (List.mem_of_getElem? (i := 127) rfl))))
theorem nw_St : Cond.laysStatic RX1 "PLACE_PRICE" "[I" ∈ lw_tbl := (List.mem_append_right _ (show _ ∈ tables_1 from (List.mem_append_right _ (List.mem_append_left _ (List.mem_of_getElem? (i := 118) rfl)))))
theorem pd_over {args : Array Value} {first s : State} {o : Option Outcome} {idx : List Nat} {t : FieldType} (h : (Cond.arrayOver (.array t)).holds args first o s idx = true) :
    ∃ comp c k, s.vm.findClass (FieldType.array t).toString = some comp ∧ s.vm.classes[c]? = some k ∧ k.kind = .array comp (.array t) ∧ s.vm.findClass ("[" ++ (FieldType.array t).toString) = some c := by
  simp only [Cond.holds, Cond.value, beq_iff_eq] at h
  generalize hc : s.vm.findClass (FieldType.array t).toString = r at h
  cases r with
  | none => simp at h
  | some comp =>
    simp only [Option.bind_some, Option.bind_eq_some_iff, Option.map_eq_some_iff] at h
    obtain ⟨c, hi, k, hk, hb⟩ := h
    obtain ⟨hlt, hp, -⟩ := Array.findIdx?_eq_some_iff_getElem.mp hi
    rw [(Array.getElem?_eq_some_iff.mp hk).2] at hp
    cases hkind : k.kind with
    | array component ty =>
      rw [hkind] at hb hp
      simp at hb hp
      exact ⟨comp, c, k, rfl, hk, by rw [hkind, hp, hb.1], hb.2⟩
    | _ => rw [hkind] at hb; simp at hb
def pd_M0 : pd_M := (fun _ _ => 0, fun _ _ => 0)
/-- the memory of the start, of which the fields that are no rows are told -/
def pd_fin (M : pd_M) : pd_M := sI (sI M 59 1 100) 82 16 100
def wL_law (xs : Nat → Int32) (L : Nat) : Prop := wX8_init (fun M1 => wX9_init (fun M2 => (∀ k, k ∈ ([0, 1, 8, 24, 37, 48, 59, 60, 82] : List Nat) → M2.1 k = fun _ => 0) ∧ ∃ n : Nat, n ≤ 513 ∧ lpL_law xs L n 0 (pd_fin M2)) M1) pd_M0
theorem pd_kobj : ∀ k, k < 107 → (pd_kind k).1 = 5 → k ∈ ([0, 1, 8, 24, 37, 48, 59, 60, 82] : List Nat) := by decide
theorem pc_done {D : va_G} {h0 t : Nat} {cy : Nat → ClassId} {F : Nat → List Value} {M M' : pd_M} {A : Nat → Prop} {s : State} {H : Heap} {locs : List Loc} (hW : pc_W D h0 cy F M 107 A s H locs) (hh : h0 = s.heap.size) (hZ : pd_St t A s s.heap) (hc : ∀ k, k < 107 → pc_cell h0 cy F M k = pd_cell (pc_g h0 cy) M' k) : pd_W D (pc_g h0 cy) t M' [] A s H locs := by
  obtain ⟨hK, hP, hz, hS, hA, hM, hN⟩ := hW
  have he : pd_WL (pc_g h0 cy) M' ++ [] = pc_WL h0 cy F M 107 := by
    rw [List.append_nil]
    unfold pd_WL pc_WL
    apply List.map_congr_left
    intro k hk
    rw [hc k (List.mem_range.mp hk)]
  refine ⟨hK, by rw [he]; exact hP, by rw [he]; exact pc_D hA, hS, fun q hq => hA q (by omega), hZ⟩
theorem pd_fin_ne (M : pd_M) {k : Nat} (h1 : k ≠ 59) (h2 : k ≠ 82) : (pd_fin M).1 k = M.1 k := by
  simp [pd_fin, sI, va_up, h1, h2]
set_option maxRecDepth 100000 in
set_option maxHeartbeats 4000000 in
theorem pc_cells {h0 : Nat} {cy : Nat → ClassId} {F : Nat → List Value} {M : pd_M} (hz : ∀ k, k ∈ ([0, 1, 8, 24, 37, 48, 59, 60, 82] : List Nat) → M.1 k = fun _ => 0) : ∀ k, k < 107 → pc_cell h0 cy (va_up (va_up (va_up (va_up (va_up (va_up (va_up (va_up (va_up F 0 [.ref (h0 + 1), .ref (h0 + 8), .ref (h0 + 24), .ref (h0 + 37), .ref (h0 + 59), .ref (h0 + 60)]) 1 [.ref (h0 + 2), .ref (h0 + 3)]) 8 [.int 0, .ref (h0 + 9), .ref (h0 + 10), .ref (h0 + 11), .ref (h0 + 17), .ref (h0 + 23)]) 24 [.ref (h0 + 1), .int 0, .ref (h0 + 25), .ref (h0 + 26), .ref (h0 + 27), .ref (h0 + 28), .ref (h0 + 36)]) 37 [.ref (h0 + 8), .ref (h0 + 24), .ref (h0 + 38), .ref (h0 + 39), .ref (h0 + 47), .ref (h0 + 48)]) 48 [.ref (h0 + 49), .ref (h0 + 57), .ref (h0 + 58)]) 59 [.ref (h0 + 8), .int 100]) 60 [.int 0, .ref (h0 + 61)]) 82 [.int 0, .ref (h0 + 83), .ref (h0 + 84), .ref (h0 + 85), .ref (h0 + 86), .ref (h0 + 87), .int 0, .ref (h0 + 88), .ref (h0 + 89), .ref (h0 + 90), .ref (h0 + 91), .ref (h0 + 92), .ref (h0 + 93), .ref (h0 + 94), .ref (h0 + 95), .ref (h0 + 96), .int 100, .int 0, .ref (h0 + 97), .ref (h0 + 98), .ref (h0 + 99), .ref (h0 + 100), .ref (h0 + 101), .ref (h0 + 102), .ref (h0 + 103), .ref (h0 + 104), .ref (h0 + 105), .ref (h0 + 106), .int 0, .int 0]) M k = pd_cell (pc_g h0 cy) (pd_fin M) k := by
  intro k hk
  by_cases h5 : (pd_kind k).1 = 5
  · have hm := pd_kobj k hk h5
    have hzk := hz k hm
    simp only [List.mem_cons, List.not_mem_nil, or_false] at hm
    rcases hm with rfl | rfl | rfl | rfl | rfl | rfl | rfl | rfl | rfl
    · have e0 := pd_fin_ne M (k := 0) (by decide) (by decide)
      rw [pc_cell_5 kd_0, pd_cell_5 kd_0]
      rw [e0, hzk]
      rfl
    · have e0 := pd_fin_ne M (k := 1) (by decide) (by decide)
      rw [pc_cell_5 kd_1, pd_cell_5 kd_1]
      rw [e0, hzk]
      rfl
    · have e0 := pd_fin_ne M (k := 8) (by decide) (by decide)
      rw [pc_cell_5 kd_8, pd_cell_5 kd_8]
      rw [e0, hzk]
      rfl
    · have e0 := pd_fin_ne M (k := 24) (by decide) (by decide)
      rw [pc_cell_5 kd_24, pd_cell_5 kd_24]
      rw [e0, hzk]
      rfl
    · have e0 := pd_fin_ne M (k := 37) (by decide) (by decide)
      rw [pc_cell_5 kd_37, pd_cell_5 kd_37]
      rw [e0, hzk]
      rfl
    · have e0 := pd_fin_ne M (k := 48) (by decide) (by decide)
      rw [pc_cell_5 kd_48, pd_cell_5 kd_48]
      rw [e0, hzk]
      rfl
    · have e0 : (pd_fin M).1 59 1 = 100 := by simp [pd_fin, sI_at]
      rw [pc_cell_5 kd_59, pd_cell_5 kd_59]
      simp only [pd_fv, e0]
      rfl
    · have e0 := pd_fin_ne M (k := 60) (by decide) (by decide)
      rw [pc_cell_5 kd_60, pd_cell_5 kd_60]
      rw [e0, hzk]
      rfl
    · have e1 : ∀ j, j ≠ 16 → (pd_fin M).1 82 j = 0 := fun j hj => by simp [pd_fin, sI_at, hj, hzk]
      have e0 : (pd_fin M).1 82 16 = 100 := by simp [pd_fin, sI_at]
      rw [pc_cell_5 kd_82, pd_cell_5 kd_82]
      simp only [pd_fv, e0, e1 0 (by decide), e1 6 (by decide), e1 17 (by decide), e1 28 (by decide), e1 29 (by decide)]
      rfl
  · obtain ⟨t, n, b, fs⟩ : Nat × Nat × Nat × List Nat := pd_kind k
    have hk59 : k ≠ 59 := fun e => h5 (by rw [e]; rfl)
    have hk82 : k ≠ 82 := fun e => h5 (by rw [e]; rfl)
    rw [pc_cell_n (t := (pd_kind k).1) (n := (pd_kind k).2.1) (b := (pd_kind k).2.2.1) (fs := (pd_kind k).2.2.2) rfl h5]
    exact (pd_cell_congr (pd_fin_ne M hk59 hk82) rfl).symm
set_option maxRecDepth 100000 in
set_option maxHeartbeats 8000000 in
/-- from the law's entry to its loop -/
theorem start_open {p : Program} {e : Env} {s : State} {m : MethodId} {below : List Frame} {meth : Method} {c : Code} (l : Launch) {b L : Nat} {xs : Nat → Int32} (C0 : lw_At p s m meth c b L xs) (h : wL_law xs L) : W p l e room_1 s m #[Value.ref b] below meth c s.heap [] 0 0 (lw_Z below #[Value.ref b] s) (entryFrame m ([Value.ref b] : List Value).toArray 4) := by
  obtain ⟨hx, hb, hr, hml, hown, hts, hX, hbl, hlocks, hgv⟩ := id C0
  have hts0 : ∀ w ∈ TB, w.before #[Value.ref b] s = true := fun w hw => hts w (tb_of hw)
  have C : pd_C p m c cL_law 4 s #[Value.ref b] RL meth ret := ⟨⟨hx, hb, hml, hown, hts0⟩, hr, hlocks⟩
  obtain ⟨c0, iS0, hKn0⟩ := u_known (C := RX0) (T := TX0) (N := 7) (n := 7) hts0 inX0 (hts0 _ mN_X0)
  obtain ⟨c1, iS1, hKn1⟩ := u_known (C := RX1) (T := TX1) (N := 3) (n := 3) hts0 inX1 (hts0 _ mN_X1)
  obtain ⟨c2, iS2, hKn2⟩ := u_known (C := RX2) (T := TX2) (N := 6) (n := 6) hts0 inX2 (hts0 _ mN_X2)
  obtain ⟨c3, iS3, hKn3⟩ := u_known (C := RX3) (T := TX3) (N := 2) (n := 2) hts0 inX3 (hts0 _ mN_X3)
  obtain ⟨c4, iS4, hKn4⟩ := u_known (C := RX4) (T := TX4) (N := 6) (n := 6) hts0 inX4 (hts0 _ mN_X4)
  obtain ⟨c5, iS5, hKn5⟩ := u_known (C := RX5) (T := TX5) (N := 2) (n := 2) hts0 inX5 (hts0 _ mN_X5)
  obtain ⟨c6, iS6, hKn6⟩ := u_known (C := RX6) (T := TX6) (N := 2) (n := 2) hts0 inX6 (hts0 _ mN_X6)
  obtain ⟨c7, iS7, hKn7⟩ := u_known (C := RX7) (T := TX7) (N := 2) (n := 2) hts0 inX7 (hts0 _ mN_X7)
  obtain ⟨c8, iS8, hKn8⟩ := u_known (C := RX8) (T := TX8) (N := 6) (n := 6) hts0 inX8 (hts0 _ mN_X8)
  obtain ⟨c9, iS9, hKn9⟩ := u_known (C := RX9) (T := TX9) (N := 30) (n := 30) hts0 inX9 (hts0 _ mN_X9)
  obtain ⟨dC, dI, hKc⟩ : ∃ (dC : Nat → ClassId) (dI : Nat → Nat → Nat), ∀ (k : Nat) (q : vw_C), vwCl[k]? = some q → u_Kn s q.1 q.2.1 q.2.2 (dC k) (dI k) := by
    refine ⟨fun k => if k = 0 then c0 else if k = 1 then c1 else if k = 2 then c2 else if k = 3 then c3 else if k = 4 then c4 else if k = 5 then c5 else if k = 6 then c6 else if k = 7 then c7 else if k = 8 then c8 else c9, fun k => if k = 0 then iS0 else if k = 1 then iS1 else if k = 2 then iS2 else if k = 3 then iS3 else if k = 4 then iS4 else if k = 5 then iS5 else if k = 6 then iS6 else if k = 7 then iS7 else if k = 8 then iS8 else iS9, ?_⟩
    intro k q hq
    match k, hq with
    | 0, hq => cases hq; exact hKn0
    | 1, hq => cases hq; exact hKn1
    | 2, hq => cases hq; exact hKn2
    | 3, hq => cases hq; exact hKn3
    | 4, hq => cases hq; exact hKn4
    | 5, hq => cases hq; exact hKn5
    | 6, hq => cases hq; exact hKn6
    | 7, hq => cases hq; exact hKn7
    | 8, hq => cases hq; exact hKn8
    | 9, hq => cases hq; exact hKn9
    | k + 10, hq => simp [vwCl] at hq
  obtain ⟨aI, kI, pI, fI, gI, mI⟩ := Cond.arrayClass_spec (hts0 _ mA_int)
  obtain ⟨aJ, kJ, pJ, fJ, gJ, mJ⟩ := Cond.arrayClass_spec (hts0 _ mA_long)
  obtain ⟨aZ, kZ, pZ, fZ, gZ, mZ⟩ := Cond.arrayClass_spec (hts0 _ mA_boolean)
  obtain ⟨oI, aII, kII, fo, gII, mII, fII⟩ := pd_over (hts _ nw_AI)
  obtain ⟨oJ, aJJ, kJJ, fo2, gJJ, mJJ, fJJ⟩ := pd_over (hts _ nw_AJ)
  have eI : oI = aI := Option.some.inj (fo.symm.trans fI)
  have eJ : oJ = aJ := Option.some.inj (fo2.symm.trans fJ)
  subst eI
  subst eJ
  obtain ⟨cy, hcy⟩ : ∃ cy : Nat → ClassId, cy = fun i => if i = 0 then oI else if i = 1 then oJ else if i = 2 then aZ else if i = 3 then aII else aJJ := ⟨_, rfl⟩
  have y0 : cy 0 = oI := by rw [hcy]; rfl
  have y1 : cy 1 = oJ := by rw [hcy]; rfl
  have y2 : cy 2 = aZ := by rw [hcy]; rfl
  have y3 : cy 3 = aII := by rw [hcy]; rfl
  have y4 : cy 4 = aJJ := by rw [hcy]; rfl
  have hK : va_K (dC, dI) vwCl (pd_ty (pc_g s.heap.size cy)) s := by
    refine ⟨hKc, fun k q hq => ?_⟩
    match k, hq with
    | 0, hq => cases hq; exact ⟨fun n z => ⟨fun k h => (by cases h), kI, by show s.vm.classes[cy 0]? = _; rw [y0]; exact gI, pI, mI⟩, by show s.vm.findClass _ = some (cy 0); rw [y0]; exact fI⟩
    | 1, hq => cases hq; exact ⟨fun n z => ⟨fun k h => (by cases h), kJ, by show s.vm.classes[cy 1]? = _; rw [y1]; exact gJ, pJ, mJ⟩, by show s.vm.findClass _ = some (cy 1); rw [y1]; exact fJ⟩
    | 2, hq => cases hq; exact ⟨fun n z => ⟨fun k h => (by cases h), kZ, by show s.vm.classes[cy 2]? = _; rw [y2]; exact gZ, pZ, mZ⟩, by show s.vm.findClass _ = some (cy 2); rw [y2]; exact fZ⟩
    | 3, hq => cases hq; exact ⟨fun n z => ⟨fun k h => (by cases h), kII, by show s.vm.classes[cy 3]? = _; rw [y3]; exact gII, oI, mII⟩, by show s.vm.findClass _ = some (cy 3); rw [y3]; exact fII⟩
    | 4, hq => cases hq; exact ⟨fun n z => ⟨fun k h => (by cases h), kJJ, by show s.vm.classes[cy 4]? = _; rw [y4]; exact gJJ, oJ, mJJ⟩, by show s.vm.findClass _ = some (cy 4); rw [y4]; exact fJJ⟩
    | k + 5, hq => simp at hq
  have hNw : pc_Nw cy s := ⟨va_Nw.of rfl (hts _ nw_X7), va_Nw.of rfl (hts _ nw_X1), va_Nw.of rfl (hts _ nw_X5), ⟨kII, by rw [y3]; exact gII, by rw [y0]; exact mII⟩, kJJ, by rw [y4]; exact gJJ, by rw [y1]; exact mJJ⟩
  have hAn : ∀ a : Nat, a < s.heap.size → ¬ (fun q : Nat => s.heap.size ≤ q) a := fun a ha => Nat.not_le.mpr ha
  have hs := flat_of_before _ hgv
  obtain ⟨t, htv, hT⟩ := va_Tof (tm := .static "ParkDesk$Cheapest" "PLACE_PRICE" "[I") (ty := .int) (N := 7) (f := fun j => .int (pd_pp j)) (A := fun q : Nat => s.heap.size ≤ q) (by decide) (hs _ (by decide +kernel)) (va_eqt (z := 7) (hs _ (by decide +kernel))) (fun j hj => by
    rcases (show j = 0 ∨ j = 1 ∨ j = 2 ∨ j = 3 ∨ j = 4 ∨ j = 5 ∨ j = 6 by omega) with rfl | rfl | rfl | rfl | rfl | rfl | rfl
    · exact va_eqt (z := 46656) (hs _ (by decide +kernel))
    · exact va_eqt (z := 7776) (hs _ (by decide +kernel))
    · exact va_eqt (z := 1296) (hs _ (by decide +kernel))
    · exact va_eqt (z := 216) (hs _ (by decide +kernel))
    · exact va_eqt (z := 36) (hs _ (by decide +kernel))
    · exact va_eqt (z := 6) (hs _ (by decide +kernel))
    · exact va_eqt (z := 1) (hs _ (by decide +kernel))) hAn
  have hZ : pd_St t (fun q : Nat => s.heap.size ≤ q) s s.heap := ⟨va_Zof (hts _ nw_St) (hts0 _ mI_X1) htv hAn, hT⟩
  have hW : pc_W (dC, dI) s.heap.size cy (fun _ => []) pd_M0 0 (fun q : Nat => s.heap.size ≤ q) s s.heap [] := ⟨hK, fun k q hk => by simp [pc_WL] at hk, rfl, va_S.rf, fun q h => h, fun k _ => ⟨rfl, rfl⟩, hNw⟩
  generalize hh0 : s.heap.size = h0 at hW hZ
  have hl := lv_entry ([.ref b]) (n := 4) (Nat.le_of_ble_eq_true rfl)
  rw [lg_entry_eq]
  generalize (lg_sl ([.ref b]) ++ List.replicate (4 - (lg_sl ([.ref b])).length) Slot.unset).toArray = ls at hl ⊢
  have hl : lv_has ls 4 [(0, .ref b)] := hl
  refine pc_new (dv := [.null, .null, .null, .null, .null, .null]) C hW kd_0 rfl inX8 tyX8_ok mK_L_7 mN_X8 mI_X8 (fun j hj => by rcases (show j = 0 ∨ j = 1 ∨ j = 2 ∨ j = 3 ∨ j = 4 ∨ j = 5 by omega) with rfl | rfl | rfl | rfl | rfl | rfl <;> rfl) (by decide) (by decide) dL_law_0 (fun H hW => ?_)
  refine lv_dup hx hb dL_law_3 rfl ?_
  refine pc_callI (As := []) (k := 0) C hW (mX8_init h) mM_L_9 mO_yX8_init mI_X8 mC_yX8_init rfl dd_X8_init ⟨rfl, rfl⟩ ⟨by decide, by decide⟩ ⟨by decide, by decide⟩ hl.1 rfl (Nat.le_of_ble_eq_true rfl) dL_law_4 (fun M1 H locs h hW => ?_)
  refine lv_astore_n (lv' := [(1, .ref (h0 + 0)), (0, .ref b)]) hx hb dL_law_7 rfl hl (by decide) rfl (fun ls hl => ?_)
  refine pc_new (dv := [.int 0, .null, .null, .null, .null, .null, .int 0, .null, .null, .null, .null, .null, .null, .null, .null, .null, .int 0, .int 0, .null, .null, .null, .null, .null, .null, .null, .null, .null, .null, .int 0, .int 0]) C hW kd_82 rfl inX9 tyX9_ok mK_L_10 mN_X9 mI_X9 (fun j hj => by rcases (show j = 0 ∨ j = 1 ∨ j = 2 ∨ j = 3 ∨ j = 4 ∨ j = 5 ∨ j = 6 ∨ j = 7 ∨ j = 8 ∨ j = 9 ∨ j = 10 ∨ j = 11 ∨ j = 12 ∨ j = 13 ∨ j = 14 ∨ j = 15 ∨ j = 16 ∨ j = 17 ∨ j = 18 ∨ j = 19 ∨ j = 20 ∨ j = 21 ∨ j = 22 ∨ j = 23 ∨ j = 24 ∨ j = 25 ∨ j = 26 ∨ j = 27 ∨ j = 28 ∨ j = 29 by omega) with rfl | rfl | rfl | rfl | rfl | rfl | rfl | rfl | rfl | rfl | rfl | rfl | rfl | rfl | rfl | rfl | rfl | rfl | rfl | rfl | rfl | rfl | rfl | rfl | rfl | rfl | rfl | rfl | rfl | rfl <;> rfl) (by decide) (by decide) dL_law_8 (fun H hW => ?_)
  refine lv_dup hx hb dL_law_11 rfl ?_
  refine pc_callI (As := []) (k := 82) C hW (mX9_init h) mM_L_12 mO_yX9_init mI_X9 mC_yX9_init rfl dd_X9_init ⟨rfl, rfl⟩ ⟨by decide, by decide⟩ ⟨by decide, by decide⟩ hl.1 rfl (Nat.le_of_ble_eq_true rfl) dL_law_12 (fun M2 H locs h hW => ?_)
  obtain ⟨hz, n, hn, h⟩ := h
  refine lv_astore_n (lv' := [(2, .ref (h0 + 82)), (1, .ref (h0 + 0)), (0, .ref b)]) hx hb dL_law_15 rfl hl (by decide) rfl (fun ls hl => ?_)
  refine lv_iconst (v := 0) hx hb dL_law_16 (by decide) ?_
  refine lv_istore_n (lv' := [(3, .int 0), (2, .ref (h0 + 82)), (1, .ref (h0 + 0)), (0, .ref b)]) hx hb dL_law_17 rfl hl (by decide) rfl (fun ls hl => ?_)
  have hW := pc_done hW hh0.symm hZ (pc_cells hz)
  rw [← hh0] at hW hl
  refine W.widen (k := 107 + 8 * (513 - n)) (n := 902 + 16 * (513 - n)) (by omega) (by omega) ?_
  exact stL_law C0 n hn 0 _ _ _ _ hW (lv_sub hl [3, 2, 1, 0] rfl) h
