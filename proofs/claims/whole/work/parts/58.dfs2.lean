/-! the search itself -/
def CB (K : pd_M → Prop) (n : Nat) (v3 v4 v5 : Int32) : pd_M → Prop := (fun M_26 => (vp_in v5 7 ∧ (((M_26.1 103 v5.toNatClampNeg) ≤ (M_26.1 82 0) → (vp_in v5 7 ∧ wX9_costOf (fun r_31 M_30 => ∀ x4_32 : Int32, x4_32 = (v4 + r_31) → (vp_in v5 7 ∧ (((M_30.1 82 0) ≤ (M_30.1 103 v5.toNatClampNeg) → ∀ x5_35 : Int32, x5_35 = v5 + 1 → (((M_30.1 82 6) ≤ x5_35 → lpX9_parkLeast_22 K n v3 x4_32 x5_35 M_30) ∧ (¬ (M_30.1 82 6) ≤ x5_35 → (vp_in x5_35 7 ∧ ∀ M_38 : pd_M, M_38 = sI M_30 103 x5_35.toNatClampNeg (-1) → lpX9_parkLeast_22 K n v3 x4_32 x5_35 M_38)))) ∧ (¬ (M_30.1 82 0) ≤ (M_30.1 103 v5.toNatClampNeg) → (vp_in v5 7 ∧ (vp_in (M_30.1 103 v5.toNatClampNeg) 5 ∧ (vp_in (M_30.1 103 v5.toNatClampNeg) 5 ∧ ∀ M_42 : pd_M, M_42 = sI M_30 105 (M_30.1 103 v5.toNatClampNeg).toNatClampNeg ((M_30.1 105 (M_30.1 103 v5.toNatClampNeg).toNatClampNeg) - 1) → ∀ x5_43 : Int32, x5_43 = v5 + 1 → (((M_42.1 82 6) ≤ x5_43 → lpX9_parkLeast_22 K n v3 x4_32 x5_43 M_42) ∧ (¬ (M_42.1 82 6) ≤ x5_43 → (vp_in x5_43 7 ∧ ∀ M_46 : pd_M, M_46 = sI M_42 103 x5_43.toNatClampNeg (-1) → lpX9_parkLeast_22 K n v3 x4_32 x5_43 M_46)))))))))) v5 (M_26.1 103 v5.toNatClampNeg) M_26)) ∧ (¬ (M_26.1 103 v5.toNatClampNeg) ≤ (M_26.1 82 0) → (vp_in v5 7 ∧ ∀ M_48 : pd_M, M_48 = sI M_26 103 v5.toNatClampNeg (-1) → ∀ x5_49 : Int32, x5_49 = v5 + (-1) → lpX9_parkLeast_22 K n v3 v4 x5_49 M_48)))))
section S21
variable {nS nC : Nat} {hm L cap : Nat → Nat} {D R : Nat → Nat → Nat} {K : pd_M → Prop}
def ST (nS nC : Nat) (hm L : Nat → Nat) (D R : Nat → Nat → Nat) (cap : Nat → Nat) (car : Nat) (s : Nat → Nat) (M : pd_M) : Prop := DM nS nC hm L D R M ∧ (∀ c, c < car → M.1 103 c = nI (s c)) ∧ (∀ p, p < nS → M.1 105 p = nI (cap p - cnt (fun c => s c = p) 0 car)) ∧ FeM nS car hm L D R cap s
def BM' (nS nC : Nat) (hm L : Nat → Nat) (D R : Nat → Nat → Nat) (cap : Nat → Nat) (N lst : Int) (g : Nat → Nat) (M : pd_M) : Prop := BB nS nC hm L D R cap N lst g ∧ (lst = 1000000 ∨ ∀ c, c < nC → M.1 104 c = nI (g c))
abbrev P_F (car k j : Nat) : Prop := (k = 103 ∧ car ≤ j) ∨ k = 104 ∨ k = 105
theorem X9_costOf_w {Q : Int32 → pd_M → Prop} {M : pd_M} {c s : Nat} (hX : DM nS nC hm L D R M) (hc : c < nC) (hs : s ≤ nS) (hQ : Q (zI (cM nS hm D c s)) M) : wX9_costOf Q (nI c) (nI s) M := by
  obtain ⟨n5, n7, a3, a4, a5, a6, a7⟩ := hX
  unfold wX9_costOf
  rw [a3, nI_eq (by omega) (by omega), q_cl (by omega), (a5 c hc).1, q_c5']
  unfold cM at hQ
  refine ⟨fun ne => ⟨vp_in_nI (by omega) (by decide), vp_in_nI (by have := (a5 c hc).2; omega) (by decide), ?_⟩, fun e => ?_⟩
  · rw [if_neg ne, if_pos ⟨by omega, (a5 c hc).2⟩, ← z_n] at hQ
    rw [q_cl (by have := (a5 c hc).2; omega), (a6 _ s (a5 c hc).2 (by omega)).1]
    exact hQ
  · rw [if_pos e] at hQ; exact hQ
theorem X9_mayTake_w {Q : Int32 → pd_M → Prop} {M : pd_M} {c s v : Nat} (hX : DM nS nC hm L D R M) (hc : c < nC) (hs : s ≤ nS) (hv : s < nS → M.1 105 s = nI v ∧ v ≤ 5) (h1 : (s = nS ∨ (okb hm L D R c s = true ∧ 0 < v)) → Q 1 M) (h0 : ¬ (s = nS ∨ (okb hm L D R c s = true ∧ 0 < v)) → Q 0 M) : wX9_mayTake Q (nI c) (nI s) M := by
  obtain ⟨n5, n7, a3, a4, a5, a6, a7⟩ := hX
  unfold wX9_mayTake
  rw [a3, nI_eq (by omega) (by omega)]
  refine ⟨fun e => h1 (Or.inl e), fun ne => ?_⟩
  obtain ⟨v1, v2⟩ := hv (by omega)
  obtain ⟨t1, t2⟩ := a7 c s hc (by omega)
  rw [q_c5', q_cl (by omega), q_cl (by omega), t1, v1]
  refine ⟨vp_in_nI (by omega) (by decide), ?_⟩
  unfold tbl
  by_cases ho : okb hm L D R c s = true
  · rw [if_pos ho]
    have hr : ¬ R c s = 0 := by unfold okb at ho; simp at ho; exact ho.1
    rw [show (0 : Int32) = nI 0 from rfl, n_le (by omega) (by omega), n_le (by omega) (by omega)]
    exact ⟨fun h => by omega, fun _ => ⟨vp_in_nI (by omega) (by decide), fun h => h0 (fun q => q.elim ne (fun q => by omega)), fun h => h1 (Or.inr ⟨ho, by omega⟩)⟩⟩
  · rw [if_neg ho]
    exact ⟨fun _ => h0 (fun q => q.elim ne (fun q => ho q.1)), fun h => absurd (by decide) h⟩
theorem l_copy {f3 f4 f5 : Int32} : ∀ (d i : Nat) (M : pd_M), nC ≤ 7 → M.1 82 6 = nI nC → i + d = nC → (∀ M', frm (fun k j => k = 104 ∧ i ≤ j ∧ j < nC) M M' → (∀ j, i ≤ j → j < nC → M'.1 104 j = M.1 103 j) → K M') → lpX9_parkLeast_42 K f3 f4 f5 (d + 1) (nI i) M
  | 0, i, M, n7, h82, hd, hK => by
    unfold lpX9_parkLeast_42
    rw [h82, n_le (by omega) (by omega)]
    exact ⟨fun _ => hK M frm_rf (fun j h1 h2 => by omega), fun h => absurd (by omega) h⟩
  | d + 1, i, M, n7, h82, hd, hK => by
    unfold lpX9_parkLeast_42
    rw [h82, n_le (by omega) (by omega), q_cl (by omega)]
    have v7 : vp_in (nI i) 7 := vp_in_nI (by omega) (by decide)
    refine ⟨fun h => absurd h (by omega), fun _ => ⟨v7, v7, fun M1 e1 y ey => ?_⟩⟩
    rw [nI_1] at ey
    subst ey e1
    refine l_copy d (i + 1) _ n7 (by rw [sI_ni (by omega)]; exact h82) (by omega) (fun M' hf hv => hK M' (frm_sI (frm_mono hf (fun k j h => by omega)) (by omega)) (fun j h1 h2 => ?_))
    by_cases e : j = i
    · subst e; rw [hf 104 j (by omega), sI_hit]
    · rw [hv j (by omega) h2, sI_ni (by omega)]
def EXP (K : pd_M → Prop) (nS nC : Nat) (hm L : Nat → Nat) (D R : Nat → Nat → Nat) (cap : Nat → Nat) (car : Nat) : Prop := ∀ s lst g M, ST nS nC hm L D R cap car s M → (car < nC → M.1 103 car = -1) → BM' nS nC hm L D R cap (dg 0 car s) lst g M → csM nS hm D car s < lst → lst ≤ 1000000 → (∀ lst' g' M', frm (P_F car) M M' → ST nS nC hm L D R cap car s M' → BM' nS nC hm L D R cap (dg 0 car s + wtI car) lst' g' M' → lst' ≤ 1000000 → ∃ n, lpX9_parkLeast_22 K n (zI lst') (zI (csM nS hm D car s)) (zI ((car : Int) - 1)) M') → ∃ n, lpX9_parkLeast_22 K n (zI lst) (zI (csM nS hm D car s)) (nI car) M
theorem cnt_pre (s : Nat → Nat) (car x p : Nat) : cnt (fun c => up s car x c = p) 0 (car + 1) = cnt (fun c => s c = p) 0 car + (if x = p then 1 else 0) := by
  rw [cnt_succ, Nat.zero_add, cnt_congr (fun c => up s car x c = p) (fun c => s c = p) car 0 (fun j _ hj => by rw [up_ne s x (by omega)]), up_hit]
theorem cs_pre (s : Nat → Nat) (car x : Nat) : csM nS hm D (car + 1) (up s car x) = csM nS hm D car s + cM nS hm D car x := by
  unfold csM
  rw [sZ_succ, Nat.zero_add, up_hit, sZ_eq (fun c => cM nS hm D c (up s car x c)) (fun c => cM nS hm D c (s c)) car 0 (fun j _ hj => by
    show cM nS hm D j (up s car x j) = _
    rw [up_ne s x (by omega)])]
theorem dg_pre (s : Nat → Nat) (car x : Nat) : dg 0 (car + 1) (up s car x) = dg 0 car s + x * ppI car := by
  unfold dg
  rw [sZ_succ, Nat.zero_add, up_hit, sZ_eq (fun c => ((up s car x c : Nat) : Int) * ppI c) (fun c => (s c : Int) * ppI c) car 0 (fun j _ hj => by
    show ((up s car x j : Nat) : Int) * ppI j = _
    rw [up_ne s x (by omega)])]
theorem DM_F {car : Nat} {M M' : pd_M} (h : DM nS nC hm L D R M) (hf : frm (P_F car) M M') : DM nS nC hm L D R M' := h.fr (fun k j q => hf k j (by unfold P_M at q; unfold P_F; omega))
theorem lst_bd (hD : ∀ h s, h < nS → s < nS → D h s ≤ 50) {N lst : Int} {g : Nat → Nat} (hB : BB nS nC hm L D R cap N lst g) : 0 ≤ lst := by
  rcases hB.2 with e | ⟨-, e, -⟩
  · omega
  · have := csM_bd (hm := hm) hD nC g; omega
theorem node {car : Nat} {s : Nat → Nat} {M0 : pd_M} (hcar : car < nC) (hcap : ∀ p, p < nS → cap p ≤ 5) (hex : EXP K nS nC hm L D R cap (car + 1)) (hcont : ∀ lst' g' M', frm (P_F car) M0 M' → ST nS nC hm L D R cap car s M' → BM' nS nC hm L D R cap (dg 0 car s + wtI car) lst' g' M' → lst' ≤ 1000000 → ∃ n, lpX9_parkLeast_22 K n (zI lst') (zI (csM nS hm D car s)) (zI ((car : Int) - 1)) M') : ∀ (e x : Nat) (lst : Int) (g : Nat → Nat) (M : pd_M), x + e = nS + 1 → frm (P_F car) M0 M → ST nS nC hm L D R cap car s M → M.1 103 car = nI x → BM' nS nC hm L D R cap (dg 0 car s + x * ppI car) lst g M → lst ≤ 1000000 → ∃ n n', lpX9_parkLeast_146 (CB K n (zI lst) (zI (csM nS hm D car s)) (nI car)) (zI lst) (zI (csM nS hm D car s)) (nI car) n' M
  | 0, x, lst, g, M, hd, hf, hS, h103, hB, hl => by
    obtain ⟨hX, s1, s2, s3⟩ := id hS
    obtain ⟨n5, n7, a3, a4, a5, a6, a7⟩ := id hX
    have hD : ∀ h s, h < nS → s < nS → D h s ≤ 50 := fun h s h1 h2 => (a6 h s h1 h2).2
    have v7 : vp_in (nI car) 7 := vp_in_nI (by omega) (by decide)
    have f1 : frm (P_F car) M (sI M 103 car (-1)) := frm_sI frm_rf (by unfold P_F; omega)
    obtain ⟨n, hn⟩ := hcont lst g (sI M 103 car (-1)) (frm_tr hf f1) ⟨DM_F hX f1, fun c hc => by rw [sI_ni (by omega)]; exact s1 c hc, fun p hp => by rw [sI_ni (by omega)]; exact s2 p hp, s3⟩ ⟨BB_fill n5 n7 hD hcar (fun c hc => Nat.le_trans (s3.1 c hc).1 n5) (6 - x) x (by omega) (by omega) hB.1, hB.2.imp id (fun q c hc => by rw [sI_ni (by omega)]; exact q c hc)⟩ hl
    refine ⟨n, 1, v7, ?_⟩
    rw [q_cl (by omega), a3, h103, n_lt (by omega) (by omega)]
    refine q_pos (by omega) ⟨v7, ?_⟩
    rw [q_cl (by omega), a3, h103, n_le (by omega) (by omega)]
    refine q_neg (by omega) ⟨v7, fun M1 e1 y ey => ?_⟩
    rw [z_n, show (-1 : Int32) = zI (-1) from rfl, z_add] at ey
    subst e1 ey
    exact hn
  | e + 1, x, lst, g, M, hd, hf, hS, h103, hB, hl => by
    obtain ⟨hX, s1, s2, s3⟩ := id hS
    obtain ⟨n5, n7, a3, a4, a5, a6, a7⟩ := id hX
    have hD : ∀ h s, h < nS → s < nS → D h s ≤ 50 := fun h s h1 h2 => (a6 h s h1 h2).2
    have v7 : vp_in (nI car) 7 := vp_in_nI (by omega) (by decide)
    have hs5 : ∀ c, c < car → s c ≤ 5 := fun c hc => Nat.le_trans (s3.1 c hc).1 n5
    have lb := lst_bd hD hB.1
    have cb := cM_bd (hm := hm) hD car x
    have sb := csM_bd (hm := hm) hD car s
    -- to pass one by
    have skip : (∀ h, FeM nS nC hm L D R cap h → (∀ c, c < car → h c = s c) → h car = x → lst ≤ csM nS hm D nC h) → ∃ n n', lpX9_parkLeast_146 (CB K n (zI lst) (zI (csM nS hm D car s)) (nI car)) (zI lst) (zI (csM nS hm D car s)) (nI car) n' (sI M 103 car (nI (x + 1))) := fun hno => by
      have f1 : frm (P_F car) M (sI M 103 car (nI (x + 1))) := frm_sI frm_rf (by unfold P_F; omega)
      exact node hcar hcap hex hcont e (x + 1) lst g (sI M 103 car (nI (x + 1))) (by omega) (frm_tr hf f1) ⟨DM_F hX f1, fun c hc => by rw [sI_ni (by omega)]; exact s1 c hc, fun p hp => by rw [sI_ni (by omega)]; exact s2 p hp, s3⟩ (by rw [sI_hit]) ⟨BB_skip n5 n7 hD hcar hs5 (by omega) hB.1 hno, hB.2.imp id (fun q c hc => by rw [sI_ni (by omega)]; exact q c hc)⟩ hl
    have hv : x < nS → M.1 105 x = nI (cap x - cnt (fun c => s c = x) 0 car) ∧ cap x - cnt (fun c => s c = x) 0 car ≤ 5 := fun h => ⟨s2 x h, by have := hcap x h; omega⟩
    have pre : ∀ n n', wX9_mayTake (fun r_14 M_13 => ((r_14 = 0 → (vp_in (nI car) 7 ∧ (vp_in (nI car) 7 ∧ ∀ M_18 : pd_M, M_18 = sI M_13 103 car ((M_13.1 103 car) + 1) → lpX9_parkLeast_146 (CB K n (zI lst) (zI (csM nS hm D car s)) (nI car)) (zI lst) (zI (csM nS hm D car s)) (nI car) n' M_18))) ∧ (¬ r_14 = 0 → (vp_in (nI car) 7 ∧ wX9_costOf (fun r_21 M_20 => (((zI (csM nS hm D car s) + r_21) < zI lst → (CB K n (zI lst) (zI (csM nS hm D car s)) (nI car)) M_20) ∧ (¬ (zI (csM nS hm D car s) + r_21) < zI lst → (vp_in (nI car) 7 ∧ (vp_in (nI car) 7 ∧ ∀ M_25 : pd_M, M_25 = sI M_20 103 car ((M_20.1 103 car) + 1) → lpX9_parkLeast_146 (CB K n (zI lst) (zI (csM nS hm D car s)) (nI car)) (zI lst) (zI (csM nS hm D car s)) (nI car) n' M_25))))) (nI car) (M_13.1 103 car) M_13)))) (nI car) (nI x) M → lpX9_parkLeast_146 (CB K n (zI lst) (zI (csM nS hm D car s)) (nI car)) (zI lst) (zI (csM nS hm D car s)) (nI car) (n' + 1) M := fun n n' h => by
      unfold lpX9_parkLeast_146
      rw [q_cl (by omega), a3, h103, n_lt (by omega) (by omega)]
      exact ⟨v7, q_neg (by omega) ⟨v7, h⟩⟩
    by_cases ht : x = nS ∨ (okb hm L D R car x = true ∧ 0 < cap x - cnt (fun c => s c = x) 0 car)
    · by_cases hb : csM nS hm D car s + cM nS hm D car x < lst
      · -- go down
        have hFe : FeM nS (car + 1) hm L D R cap (up s car x) := by
          refine ⟨fun c hc => ?_, fun p hp => ?_⟩
          · by_cases ec : c = car
            · subst ec; rw [up_hit]; exact ⟨by omega, ht.imp id (fun q => q.1)⟩
            · rw [up_ne s x ec]; exact s3.1 c (by omega)
          · rw [cnt_pre]
            have := s3.2 p hp
            by_cases ep : x = p
            · subst ep; rw [if_pos rfl]; rcases ht with q | q <;> omega
            · rw [if_neg ep]; omega
        -- the memory below
        have down : ∀ Mx, frm (P_F car) M Mx → (∀ c, c ≤ car → Mx.1 103 c = M.1 103 c) → (∀ j, Mx.1 104 j = M.1 104 j) → (∀ p, p < nS → Mx.1 105 p = nI (cap p - cnt (fun c => up s car x c = p) 0 (car + 1))) → ∀ Mc, Mc = Mx ∨ Mc = sI Mx 103 (car + 1) (-1) → (car + 1 < nC → Mc = sI Mx 103 (car + 1) (-1)) → ∃ n, lpX9_parkLeast_22 K n (zI lst) (zI (csM nS hm D car s + cM nS hm D car x)) (nI (car + 1)) Mc := by
          intro Mx fx x103 x104 x105 Mc hMc hMc2
          have fc : frm (P_F car) M Mc := by
            rcases hMc with q | q
            · rw [q]; exact fx
            · rw [q]; exact frm_tr fx (frm_sI frm_rf (by unfold P_F; omega))
          have c103 : ∀ c, c ≤ car → Mc.1 103 c = M.1 103 c := fun c hc => by
            rcases hMc with q | q
            · rw [q]; exact x103 c hc
            · rw [q, sI_ni (by omega)]; exact x103 c hc
          have c104 : ∀ j, Mc.1 104 j = M.1 104 j := fun j => by
            rcases hMc with q | q
            · rw [q]; exact x104 j
            · rw [q, sI_ni (by omega)]; exact x104 j
          have c105 : ∀ p, p < nS → Mc.1 105 p = nI (cap p - cnt (fun c => up s car x c = p) 0 (car + 1)) := fun p hp => by
            rcases hMc with q | q
            · rw [q]; exact x105 p hp
            · rw [q, sI_ni (by omega)]; exact x105 p hp
          have key := hex (up s car x) lst g Mc ⟨DM_F hX fc, fun c hc => ?_, c105, hFe⟩ (fun h => by rw [hMc2 h, sI_hit]) ⟨by rw [dg_pre]; exact hB.1, hB.2.imp id (fun q c hc => by rw [c104]; exact q c hc)⟩ (by rw [cs_pre]; exact hb) hl
          · rw [cs_pre] at key
            refine key (fun lst' g' M' f' hS' hB' hl' => ?_)
            obtain ⟨hX', t1, t2, t3⟩ := id hS'
            have lb' := lst_bd hD hB'.1
            have m103 : M'.1 103 car = nI x := by rw [t1 car (by omega), up_hit]
            have f0' : frm (P_F car) M0 M' := frm_tr hf (frm_tr fc (frm_mono f' (fun k j q => by unfold P_F at *; omega)))
            have hB2 : BB nS nC hm L D R cap (dg 0 car s + ((x + 1 : Nat) : Int) * ppI car) lst' g' := by
              have := hB'.1
              rw [dg_pre, show wtI (car + 1) = ppI car from rfl] at this
              have e1 : ((x + 1 : Nat) : Int) * ppI car = x * ppI car + ppI car := by push_cast; rw [Int.add_mul, Int.one_mul]
              rw [e1, ← Int.add_assoc]
              exact this
            have next : ∀ M2, frm (P_F car) M' M2 → (∀ c, c < car → M2.1 103 c = M'.1 103 c) → (∀ j, M2.1 104 j = M'.1 104 j) → M2.1 103 car = nI (x + 1) → (∀ p, p < nS → M2.1 105 p = nI (cap p - cnt (fun c => s c = p) 0 car)) → ∃ n n', lpX9_parkLeast_146 (CB K n (zI lst') (zI (csM nS hm D car s)) (nI car)) (zI lst') (zI (csM nS hm D car s)) (nI car) n' M2 := by
              intro M2 f2 g103 g104 gx g105
              exact node hcar hcap hex hcont e (x + 1) lst' g' M2 (by omega) (frm_tr f0' f2) ⟨DM_F hX' f2, fun c hc => by rw [g103 c hc, t1 c (by omega), up_ne s x (by omega)], g105, s3⟩ gx ⟨hB2, hB'.2.imp id (fun q c hc => by rw [g104]; exact q c hc)⟩ hl'
            have e82 : M'.1 82 0 = nI nS := hX'.2.2.1
            have e826 : M'.1 82 6 = nI nC := hX'.2.2.2.1
            rw [show (((car + 1 : Nat) : Int) - 1) = (car : Int) by omega, ← z_n]
            have goo : ∀ n, (wX9_costOf (fun r_52 M_51 => ∀ x4_53 : Int32, x4_53 = (zI (csM nS hm D car s + cM nS hm D car x) - r_52) → (vp_in (nI car) 7 ∧ (((M_51.1 82 0) ≤ (M_51.1 103 (nI car).toNatClampNeg) → (vp_in (nI car) 7 ∧ (vp_in (nI car) 7 ∧ ∀ M_58 : pd_M, M_58 = sI M_51 103 (nI car).toNatClampNeg ((M_51.1 103 (nI car).toNatClampNeg) + 1) → (∃ k_146 : Nat, lpX9_parkLeast_146 (CB K n (zI lst') x4_53 (nI car)) (zI lst') x4_53 (nI car) k_146 M_58)))) ∧ (¬ (M_51.1 82 0) ≤ (M_51.1 103 (nI car).toNatClampNeg) → (vp_in (nI car) 7 ∧ (vp_in (M_51.1 103 (nI car).toNatClampNeg) 5 ∧ (vp_in (M_51.1 103 (nI car).toNatClampNeg) 5 ∧ ∀ M_86 : pd_M, M_86 = sI M_51 105 (M_51.1 103 (nI car).toNatClampNeg).toNatClampNeg ((M_51.1 105 (M_51.1 103 (nI car).toNatClampNeg).toNatClampNeg) + 1) → (vp_in (nI car) 7 ∧ (vp_in (nI car) 7 ∧ ∀ M_89 : pd_M, M_89 = sI M_86 103 (nI car).toNatClampNeg ((M_86.1 103 (nI car).toNatClampNeg) + 1) → (∃ k_146 : Nat, lpX9_parkLeast_146 (CB K n (zI lst') x4_53 (nI car)) (zI lst') x4_53 (nI car) k_146 M_89)))))))))) (nI car) (M'.1 103 (nI car).toNatClampNeg) M') → lpX9_parkLeast_22 K (n + 1) (zI lst') (zI (csM nS hm D car s + cM nS hm D car x)) (nI car) M' := fun n h => by
              have hz : ¬ nI car < 0 := by rw [show (0 : Int32) = nI 0 from rfl, n_lt (by omega) (by omega)]; omega
              have hz2 : ¬ M'.1 103 (nI car).toNatClampNeg < 0 := by rw [q_cl (by omega), m103, show (0 : Int32) = nI 0 from rfl, n_lt (by omega) (by omega)]; omega
              have hz3 : ¬ nI car = M'.1 82 6 := by rw [e826, nI_eq (by omega) (by omega)]; omega
              exact q_neg hz (q_negN hz3 ⟨v7, q_neg hz2 ⟨v7, h⟩⟩)
            by_cases hx : x = nS
            · obtain ⟨n, n', hh⟩ := next (sI M' 103 car (nI (x + 1))) (frm_sI frm_rf (by unfold P_F; omega)) (fun c hc => by rw [sI_ni (by omega)]) (fun j => by rw [sI_ni (by omega)]) (by rw [sI_hit]) (fun p hp => by rw [sI_ni (by omega), t2 p hp, cnt_pre, if_neg (by omega), Nat.add_zero])
              refine ⟨n + 1, goo n ?_⟩
              rw [q_cl (show car < 2 ^ 31 by omega), m103]
              refine X9_costOf_w hX' hcar (by omega) (fun y ey => ⟨v7, ?_⟩)
              rw [z_sub, show csM nS hm D car s + cM nS hm D car x - cM nS hm D car x = csM nS hm D car s by omega] at ey
              subst ey
              rw [e82, m103, n_le (by omega) (by omega)]
              refine q_pos (by omega) ⟨v7, v7, fun M2 e2 => ⟨n', ?_⟩⟩
              rw [nI_1] at e2
              subst e2
              exact hh
            · have hc1 := hFe.2 x (by omega)
              have hc2 := hcap x (by omega)
              have hc3 := cnt_pre s car x x
              rw [if_pos rfl] at hc3
              obtain ⟨n, n', hh⟩ := next (sI (sI M' 105 x (nI (cap x - cnt (fun c => s c = x) 0 car))) 103 car (nI (x + 1))) (frm_sI (frm_sI frm_rf (by unfold P_F; omega)) (by unfold P_F; omega)) (fun c hc => by rw [sI_ni (by omega), sI_ni (by omega)]) (fun j => by rw [sI_ni (by omega), sI_ni (by omega)]) (by rw [sI_hit]) (fun p hp => by
                by_cases ep : p = x
                · subst ep; rw [sI_ni (by omega), sI_hit]
                · rw [sI_ni (by omega), sI_ni (by omega), t2 p hp, cnt_pre, if_neg (by omega), Nat.add_zero])
              refine ⟨n + 1, goo n ?_⟩
              rw [q_cl (show car < 2 ^ 31 by omega), m103]
              refine X9_costOf_w hX' hcar (by omega) (fun y ey => ⟨v7, ?_⟩)
              rw [z_sub, show csM nS hm D car s + cM nS hm D car x - cM nS hm D car x = csM nS hm D car s by omega] at ey
              subst ey
              rw [e82, m103, n_le (by omega) (by omega), q_cl (by omega)]
              have v5 : vp_in (nI x) 5 := vp_in_nI (by omega) (by decide)
              refine q_neg (by omega) ⟨v7, v5, v5, fun M2 e2 => ⟨v7, v7, fun M3 e3 => ⟨n', ?_⟩⟩⟩
              rw [t2 x (by omega), hc3, nI_1, show cap x - (cnt (fun c => s c = x) 0 car + 1) + 1 = cap x - cnt (fun c => s c = x) 0 car by omega] at e2
              have g3 : M2.1 103 car = nI x := by rw [e2, sI_ni (by omega)]; exact m103
              rw [g3, nI_1] at e3
              subst e3 e2
              exact hh
          · by_cases ec : c = car
            · subst ec; rw [up_hit, c103 c (by omega)]; exact h103
            · rw [up_ne s x ec, c103 c (by omega)]; exact s1 c (by omega)
        by_cases hx : x = nS
        · obtain ⟨n, hn⟩ := down M frm_rf (fun _ _ => rfl) (fun _ => rfl) (fun p hp => by rw [cnt_pre, if_neg (by omega), Nat.add_zero]; exact s2 p hp) (if car + 1 < nC then sI M 103 (car + 1) (-1) else M) (by
              split
              · exact Or.inr rfl
              · exact Or.inl rfl) (fun h => if_pos h)
          refine ⟨n, 0 + 1, pre n 0 (X9_mayTake_w hX hcar (by omega) hv (fun _ => q_z1 ⟨v7, ?_⟩) (fun q => absurd ht q))⟩
          rw [h103]
          refine X9_costOf_w hX hcar (by omega) ?_
          rw [z_add, q_lt, z_toInt (by omega) (by omega), z_toInt (by omega) (by omega)]
          refine q_pos hb ⟨v7, ?_⟩
          rw [q_cl (by omega), a3, h103, n_le (by omega) (by omega)]
          refine q_pos (by omega) ⟨v7, X9_costOf_w hX hcar (by omega) (fun y ey => ⟨v7, ?_⟩)⟩
          rw [z_add] at ey
          subst ey
          rw [a3, h103, n_le (by omega) (by omega)]
          refine q_pos (by omega) (fun y ey => ?_)
          rw [nI_1] at ey
          subst ey
          rw [a4, n_le (by omega) (by omega), q_cl (by omega)]
          refine ⟨fun h => ?_, fun h => ⟨vp_in_nI (by omega) (by decide), fun M2 e2 => ?_⟩⟩
          · rw [if_neg (by omega)] at hn; exact hn
          · rw [if_pos (by omega)] at hn; subst e2; exact hn
        · have hc1 := hFe.2 x (by omega)
          have hc2 := hcap x (by omega)
          have hc3 := cnt_pre s car x x
          rw [if_pos rfl] at hc3
          obtain ⟨n, hn⟩ := down (sI M 105 x (nI (cap x - cnt (fun c => up s car x c = x) 0 (car + 1)))) (frm_sI frm_rf (by unfold P_F; omega)) (fun c _ => by rw [sI_ni (by omega)]) (fun j => by rw [sI_ni (by omega)]) (fun p hp => by
              by_cases ep : p = x
              · subst ep; rw [sI_hit]
              · rw [sI_ni (by omega), cnt_pre, if_neg (by omega), Nat.add_zero]; exact s2 p hp) (if car + 1 < nC then sI (sI M 105 x (nI (cap x - cnt (fun c => up s car x c = x) 0 (car + 1)))) 103 (car + 1) (-1) else sI M 105 x (nI (cap x - cnt (fun c => up s car x c = x) 0 (car + 1)))) (by
              split
              · exact Or.inr rfl
              · exact Or.inl rfl) (fun h => if_pos h)
          refine ⟨n, 0 + 1, pre n 0 (X9_mayTake_w hX hcar (by omega) hv (fun _ => q_z1 ⟨v7, ?_⟩) (fun q => absurd ht q))⟩
          rw [h103]
          refine X9_costOf_w hX hcar (by omega) ?_
          rw [z_add, q_lt, z_toInt (by omega) (by omega), z_toInt (by omega) (by omega)]
          refine q_pos hb ⟨v7, ?_⟩
          rw [q_cl (by omega), a3, h103, n_le (by omega) (by omega)]
          refine q_pos (by omega) ⟨v7, X9_costOf_w hX hcar (by omega) (fun y ey => ⟨v7, ?_⟩)⟩
          rw [z_add] at ey
          subst ey
          have v5 : vp_in (nI x) 5 := vp_in_nI (by omega) (by decide)
          rw [a3, h103, n_le (by omega) (by omega), q_cl (by omega), s2 x (by omega), show (1 : Int32) = nI 1 from rfl, n_sub (by omega) (by omega), show nI 1 = (1 : Int32) from rfl]
          refine q_neg (by omega) ⟨v7, v5, v5, fun M2 e2 y ey => ?_⟩
          rw [show cap x - cnt (fun c => s c = x) 0 car - 1 = cap x - cnt (fun c => up s car x c = x) 0 (car + 1) by omega] at e2
          rw [nI_1] at ey
          subst ey
          have g6 : M2.1 82 6 = nI nC := by rw [e2, sI_ni (by omega)]; exact a4
          rw [g6, n_le (by omega) (by omega), q_cl (by omega)]
          refine ⟨fun h => ?_, fun h => ⟨vp_in_nI (by omega) (by decide), fun M3 e3 => ?_⟩⟩
          · rw [if_neg (by omega)] at hn; subst e2; exact hn
          · rw [if_pos (by omega)] at hn; subst e3 e2; exact hn
      · -- too dear
        obtain ⟨n, n', hh⟩ := skip (fun h hF hpre hx => by
          have e1 : csM nS hm D (car + 1) h = csM nS hm D car s + cM nS hm D car x := by
            rw [← cs_pre]
            unfold csM
            exact sZ_eq _ _ (car + 1) 0 (fun j _ hj => by
              show cM nS hm D j (h j) = cM nS hm D j (up s car x j)
              by_cases ec : j = car
              · subst ec; rw [up_hit, hx]
              · rw [up_ne s x ec, hpre j (by omega)])
          have e2 := sZ_pre (fun c => cM nS hm D c (h c)) 0 (fun c => (cM_bd (hm := hm) hD c (h c)).1) (car + 1) nC (by omega)
          unfold csM at e1 ⊢
          unfold csM at hb
          omega)
        refine ⟨n, n' + 1, pre n n' (X9_mayTake_w hX hcar (by omega) hv (fun _ => q_z1 ⟨v7, ?_⟩) (fun q => absurd ht q))⟩
        rw [h103]
        refine X9_costOf_w hX hcar (by omega) ?_
        rw [z_add, q_lt, z_toInt (by omega) (by omega), z_toInt (by omega) (by omega)]
        refine q_neg hb ⟨v7, v7, fun M1 e1 => ?_⟩
        rw [h103, nI_1] at e1
        subst e1
        exact hh
    · -- not to be had
      obtain ⟨n, n', hh⟩ := skip (fun h hF hpre hx => absurd (hF.1 car hcar).2 (fun q => ht (by
        rw [hx] at q
        rcases q with q | q
        · exact Or.inl q
        · by_cases hxn : x = nS
          · exact Or.inl hxn
          · right
            refine ⟨q, ?_⟩
            have c1 := hF.2 x (by omega)
            have c2 : cnt (fun c => h c = x) 0 (car + 1) ≤ cnt (fun c => h c = x) 0 nC := by
              have : ∀ d, cnt (fun c => h c = x) 0 (car + 1) ≤ cnt (fun c => h c = x) 0 (car + 1 + d) := fun d => by
                induction d with
                | zero => exact Nat.le_refl _
                | succ d ih => have := cnt_succ (fun c => h c = x) (car + 1 + d) 0; rw [← Nat.add_assoc]; omega
              have := this (nC - (car + 1))
              rw [show car + 1 + (nC - (car + 1)) = nC by omega] at this
              exact this
            have c3 : cnt (fun c => h c = x) 0 (car + 1) = cnt (fun c => s c = x) 0 car + 1 := by
              rw [cnt_succ, Nat.zero_add, hx, if_pos rfl, cnt_congr (fun c => h c = x) (fun c => s c = x) car 0 (fun j _ hj => by rw [hpre j (by omega)])]
            omega)))
      refine ⟨n, n' + 1, pre n n' (X9_mayTake_w hX hcar (by omega) hv (fun q => absurd q ht) (fun _ => q_z0 ⟨v7, v7, fun M1 e1 => ?_⟩))⟩
      rw [h103, nI_1] at e1
      subst e1
      exact hh
end S21
