section S22
variable {nS nC : Nat} {hm L cap : Nat → Nat} {D R : Nat → Nat → Nat} {K : pd_M → Prop}
theorem dfs (hcap : ∀ p, p < nS → cap p ≤ 5) (h1 : 1 ≤ nC) : ∀ (d car : Nat), car + d = nC → EXP K nS nC hm L D R cap car
  | 0, car, hd => by
    intro s lst g M hS _ hB hcs hl hcont
    obtain rfl : car = nC := by omega
    obtain ⟨hX, s1, s2, s3⟩ := id hS
    obtain ⟨n5, n7, a3, a4, a5, a6, a7⟩ := id hX
    have hD : ∀ h s, h < nS → s < nS → D h s ≤ 50 := fun h s h1 h2 => (a6 h s h1 h2).2
    obtain ⟨m, rfl⟩ : ∃ m, car = m + 1 := ⟨car - 1, by omega⟩
    have hs5 : ∀ c, c < m + 1 → s c ≤ 5 := fun c hc => Nat.le_trans (s3.1 c hc).1 n5
    have es : dg 0 (m + 1) s = dg 0 m s + s m * ppI m := by unfold dg; rw [sZ_succ, Nat.zero_add]
    have pb := pp_bd m (by omega)
    have hBB : BB nS (m + 1) hm L D R cap (dg 0 (m + 1) s + wtI (m + 1)) (csM nS hm D (m + 1) s) s := by
      refine ⟨fun h hF hlt => ?_, Or.inr ⟨s3, rfl, by have e : wtI (m + 1) = ppI m := rfl; omega⟩⟩
      by_cases q : dg 0 (m + 1) h < dg 0 (m + 1) s
      · rcases hB.1.1 h hF q with h | h
        · exact Or.inl (by omega)
        · exact Or.inl (by omega)
      · have e : wtI (m + 1) = ppI m := rfl
        have hm' := dg_match h s (s m) (hs5 m (by omega)) m 0 (m + 1) (by omega) (by omega) (fun c _ h2 => Nat.le_trans (hF.1 c (by omega)).1 n5) (fun c _ h2 => hs5 c (by omega)) (by rw [Nat.zero_add]; omega) (by rw [Nat.zero_add]; omega)
        rw [Nat.zero_add] at hm'
        have heq : ∀ c, c < m + 1 → h c = s c := fun c hc => by
          by_cases ec : c = m
          · subst ec; exact hm'.2
          · exact hm'.1 c (by omega) (by omega)
        right
        refine ⟨sZ_eq _ _ (m + 1) 0 (fun j _ hj => ?_), Int.le_of_eq (sZ_eq _ _ (m + 1) 0 (fun j _ hj => ?_))⟩
        · show cM nS hm D j (s j) = cM nS hm D j (h j)
          rw [heq j (by omega)]
        · show (s j : Int) * ppI j = (h j : Int) * ppI j
          rw [heq j (by omega)]
    have nz : ¬ nI (m + 1) < 0 := by rw [show (0 : Int32) = nI 0 from rfl, n_lt (by omega) (by omega)]; omega
    -- the memory after the copying is known only within it
    have cop : ∀ M', frm (fun k j => k = 104 ∧ 0 ≤ j ∧ j < m + 1) M M' → (∀ j, 0 ≤ j → j < m + 1 → M'.1 104 j = M.1 103 j) → ∃ n, lpX9_parkLeast_22 K n (zI (csM nS hm D (m + 1) s)) (zI (csM nS hm D (m + 1) s)) (zI (((m + 1 : Nat) : Int) - 1)) M' := fun M' hf hv => by
      have fP : frm (P_F (m + 1)) M M' := frm_mono hf (fun k j q => by unfold P_F; omega)
      exact hcont _ s M' fP ⟨DM_F hX fP, fun c hc => by rw [hf 103 c (by omega)]; exact s1 c hc, fun p hp => by rw [hf 105 p (by omega)]; exact s2 p hp, s3⟩ ⟨hBB, Or.inr (fun c hc => by rw [hv c (by omega) hc]; exact s1 c hc)⟩ (by omega)
    -- the copied memory
    have mem : ∀ (d i : Nat) (M1 : pd_M), i + d = m + 1 → M1.1 82 6 = nI (m + 1) → frm (fun k j => k = 104 ∧ 0 ≤ j ∧ j < m + 1) M M1 → (∀ j, j < i → M1.1 104 j = M.1 103 j) → ∃ n, ∃ n', lpX9_parkLeast_42 (fun M_119 => ∀ x5_120 : Int32, x5_120 = nI (m + 1) + (-1) → lpX9_parkLeast_22 K n (zI (csM nS hm D (m + 1) s)) (zI (csM nS hm D (m + 1) s)) x5_120 M_119) (zI (csM nS hm D (m + 1) s)) (zI (csM nS hm D (m + 1) s)) (nI (m + 1)) n' (nI i) M1 := by
      intro d
      induction d with
      | zero =>
        intro i M1 hi h82 hf hv
        obtain ⟨n, hn⟩ := cop M1 hf (fun j _ hj => hv j (by omega))
        refine ⟨n, 1, fun _ y ey => ?_, fun h => absurd ?_ h⟩
        · rw [z_n, show (-1 : Int32) = zI (-1) from rfl, z_add] at ey
          subst ey
          exact hn
        · rw [h82, n_le (by omega) (by omega)]; omega
      | succ d ih =>
        intro i M1 hi h82 hf hv
        obtain ⟨n, n', hh⟩ := ih (i + 1) (sI M1 104 i (M1.1 103 i)) (by omega) (by rw [sI_ni (by omega)]; exact h82) (frm_tr hf (frm_sI frm_rf (by omega))) (fun j hj => by
          by_cases e : j = i
          · subst e; rw [sI_hit, hf 103 j (by omega)]
          · rw [sI_ni (by omega)]; exact hv j (by omega))
        have v7 : vp_in (nI i) 7 := vp_in_nI (by omega) (by decide)
        refine ⟨n, n' + 1, fun h => absurd h ?_, fun _ => ⟨v7, v7, fun M2 e2 y ey => ?_⟩⟩
        · rw [h82, n_le (by omega) (by omega)]; omega
        · rw [q_cl (by omega)] at e2
          rw [nI_1] at ey
          subst ey e2
          exact hh
    obtain ⟨n, n', hh⟩ := mem (m + 1) 0 M (by omega) a4 frm_rf (fun j hj => by omega)
    exact ⟨n + 1, q_neg nz (q_posN (by rw [a4]) ⟨n', hh⟩)⟩
  | d + 1, car, hd => by
    intro s lst g M hS hm1 hB hcs hl hcont
    obtain ⟨hX, s1, s2, s3⟩ := id hS
    obtain ⟨n5, n7, a3, a4, a5, a6, a7⟩ := id hX
    have f1 : frm (P_F car) M (sI M 103 car (nI 0)) := frm_sI frm_rf (by unfold P_F; omega)
    obtain ⟨n, n', hh⟩ := node (M0 := M) (by omega) hcap (dfs hcap h1 d (car + 1) (by omega)) hcont (nS + 1) 0 lst g (sI M 103 car (nI 0)) (by omega) f1 ⟨DM_F hX f1, fun c hc => by rw [sI_ni (by omega)]; exact s1 c hc, fun p hp => by rw [sI_ni (by omega)]; exact s2 p hp, s3⟩ (by rw [sI_hit]) ⟨by
      show BB nS nC hm L D R cap (dg 0 car s + ((0 : Nat) : Int) * ppI car) lst g
      rw [show ((0 : Nat) : Int) * ppI car = 0 from Int.zero_mul _, Int.add_zero]; exact hB.1, hB.2.imp id (fun q c hc => by rw [sI_ni (by omega)]; exact q c hc)⟩ hl
    have nz : ¬ nI car < 0 := by rw [show (0 : Int32) = nI 0 from rfl, n_lt (by omega) (by omega)]; omega
    have nc : ¬ nI car = M.1 82 6 := by rw [a4, nI_eq (by omega) (by omega)]; omega
    have v7 : vp_in (nI car) 7 := vp_in_nI (by omega) (by decide)
    have e1 : M.1 103 (nI car).toNatClampNeg = -1 := by rw [q_cl (by omega)]; exact hm1 (by omega)
    refine ⟨n + 1, q_neg nz (q_negN nc ⟨v7, q_pos (by rw [e1]; decide) ⟨v7, v7, fun M1 em => ⟨n', ?_⟩⟩⟩)⟩
    rw [e1, q_cl (by omega), show (-1 : Int32) + 1 = nI 0 from rfl] at em
    subst em
    exact hh
theorem X9_parkLeast_w {Q : pd_M → Prop} {M : pd_M} {zn b cl : Nat → Nat} {hh nt : Nat} (h1 : 1 ≤ nC) (hB : BM nS nC hm L D R zn hh M) (hnt : nt < 7) (hb : ∀ s, s < nS → M.1 84 s = nI (b s) ∧ M.1 85 (7 * s + nt) = nI (cl s) ∧ cl s ≤ b s ∧ b s ≤ 5) (hQ : ∀ g M', frm (fun k j => 103 ≤ k ∧ k ≤ 106) M M' → DM nS nC hm L D R M' → FeM nS nC hm L D R (fun s => b s - cl s) g → (∀ h, FeM nS nC hm L D R (fun s => b s - cl s) h → csM nS hm D nC g < csM nS hm D nC h ∨ (csM nS hm D nC g = csM nS hm D nC h ∧ dg 0 nC g ≤ dg 0 nC h)) → (∀ c, c < nC → M'.1 104 c = nI (g c)) → Q M') : wX9_parkLeast Q (nI nt) (nI hh) M := by
  refine X9_begin_w hB hnt hb (fun M1 f1 hX v1 M2 e2 => ?_)
  rw [show (0 : Int32).toNatClampNeg = 0 from rfl] at e2
  obtain ⟨n5, n7, a3, a4, a5, a6, a7⟩ := id hX
  have hD : ∀ h s, h < nS → s < nS → D h s ≤ 50 := fun h s h1 h2 => (a6 h s h1 h2).2
  have f2 : frm (P_F 0) M1 M2 := by rw [e2]; exact frm_sI frm_rf (by unfold P_F; omega)
  refine dfs (cap := fun s => b s - cl s) (K := fun M_121 => Q M_121) (fun p hp => by show b p - cl p ≤ 5; have := (hb p hp).2.2; omega) h1 nC 0 (by omega) (fun _ => 0) 1000000 (fun _ => 0) M2 ⟨DM_F hX f2, fun c hc => by omega, fun p hp => by rw [e2, sI_ni (by omega), v1 p hp]; rfl, fun c hc => by omega, fun s hs => Nat.zero_le _⟩ (fun _ => by rw [e2, sI_hit]) ⟨⟨fun h hF hlt => ?_, Or.inl rfl⟩, Or.inl rfl⟩ (by show (0 : Int) < 1000000; omega) (by omega) (fun lst g M3 f3 hS hBB hl => ?_)
  · have := (dg_bd h nC 0 (by omega) (fun c _ hc => Nat.le_trans (hF.1 c (by omega)).1 n5)).1
    have e0 : dg 0 0 (fun _ => 0) = 0 := rfl
    omega
  · have all : ∀ h, FeM nS nC hm L D R (fun s => b s - cl s) h → lst < csM nS hm D nC h ∨ (lst = csM nS hm D nC h ∧ dg 0 nC g ≤ dg 0 nC h) := fun h hF => by
      refine hBB.1.1 h hF ?_
      have := (dg_bd h nC 0 (by omega) (fun c _ hc => Nat.le_trans (hF.1 c (by omega)).1 n5)).2
      have wp := wt_pos (0 + nC) (by omega)
      have e0 : dg 0 0 (fun _ => 0) = 0 := rfl
      omega
    have hlt : ¬ lst = 1000000 := fun e => by
      have h0 : FeM nS nC hm L D R (fun s => b s - cl s) (fun _ => nS) := ⟨fun c hc => ⟨Nat.le_refl _, Or.inl rfl⟩, fun s hs => by
        have : cnt (fun c => nS = s) 0 nC ≤ cnt (fun c => False) 0 nC := cnt_mono _ _ nC 0 (fun j _ _ q => by omega)
        have h2 : ∀ d i, cnt (fun c => False) i d = 0 := fun d => by
          induction d with
          | zero => intro i; rfl
          | succ d ih => intro i; unfold cnt; rw [ih]; simp
        rw [h2] at this
        exact Nat.le_trans this (Nat.zero_le _)⟩
      have := all _ h0
      have cb := csM_bd (hm := hm) hD nC (fun _ => nS)
      omega
    obtain ⟨g1, g2, g3⟩ := hBB.1.2.resolve_left hlt
    have g4 := hBB.2.resolve_left hlt
    have f3' : frm (P_F 0) M1 M3 := frm_tr f2 f3
    refine ⟨1, fun _ => hQ g M3 (fun k j q => ?_) hS.1 g1 (fun h hF => by rw [g2]; exact all h hF) g4, fun h => absurd (by decide) h⟩
    rw [f3' k j (by unfold P_F; omega), f1 k j (by omega)]
end S22
theorem dg_lex (u v : Nat → Nat) : ∀ (d i : Nat), i + d ≤ 7 → (∀ c, i ≤ c → c < i + d → u c ≤ 5 ∧ v c ≤ 5) → dg i d u ≤ dg i d v → (∀ c, i ≤ c → c < i + d → u c = v c) ∨ ∃ c, i ≤ c ∧ c < i + d ∧ (∀ c', i ≤ c' → c' < c → u c' = v c') ∧ u c < v c
  | 0, i, hi, hb, h => Or.inl (fun c h1 h2 => by omega)
  | d + 1, i, hi, hb, h => by
    have bu := dg_bd u d (i + 1) (by omega) (fun c h1 h2 => (hb c (by omega) (by omega)).1)
    have bv := dg_bd v d (i + 1) (by omega) (fun c h1 h2 => (hb c (by omega) (by omega)).2)
    have wp := wt_pos (i + 1 + d) (by omega)
    have e : wtI (i + 1) = ppI i := rfl
    have h' : (u i : Int) * ppI i + dg (i + 1) d u ≤ (v i : Int) * ppI i + dg (i + 1) d v := h
    have pb := pp_bd i (by omega)
    by_cases q : u i < v i
    · exact Or.inr ⟨i, by omega, by omega, fun c' h1 h2 => by omega, q⟩
    · by_cases q2 : v i < u i
      · have := Int.mul_le_mul_of_nonneg_right (show (v i : Int) + 1 ≤ (u i : Int) by omega) (show 0 ≤ ppI i by omega)
        rw [Int.add_mul, Int.one_mul] at this
        omega
      · have eq : u i = v i := by omega
        rw [eq] at h'
        rcases dg_lex u v d (i + 1) (by omega) (fun c h1 h2 => hb c (by omega) (by omega)) (by omega) with r | ⟨c, r1, r2, r3, r4⟩
        · refine Or.inl (fun c h1 h2 => ?_)
          by_cases ec : c = i
          · subst ec; exact eq
          · exact r c (by omega) (by omega)
        · refine Or.inr ⟨c, by omega, by omega, fun c' h1 h2 => ?_, r4⟩
          by_cases ec : c' = i
          · subst ec; exact eq
          · exact r3 c' (by omega) h2
theorem lex_dg (u v : Nat → Nat) (c : Nat) : ∀ (d i : Nat), i + d ≤ 7 → (∀ c, i ≤ c → c < i + d → u c ≤ 5 ∧ v c ≤ 5) → i ≤ c → c < i + d → (∀ c', i ≤ c' → c' < c → u c' = v c') → u c < v c → dg i d u < dg i d v
  | 0, i, hi, hb, h1, h2, h3, h4 => by omega
  | d + 1, i, hi, hb, h1, h2, h3, h4 => by
    have bu := dg_bd u d (i + 1) (by omega) (fun c h1 h2 => (hb c (by omega) (by omega)).1)
    have bv := dg_bd v d (i + 1) (by omega) (fun c h1 h2 => (hb c (by omega) (by omega)).2)
    have wp := wt_pos (i + 1 + d) (by omega)
    have e : wtI (i + 1) = ppI i := rfl
    have pb := pp_bd i (by omega)
    show (u i : Int) * ppI i + dg (i + 1) d u < (v i : Int) * ppI i + dg (i + 1) d v
    by_cases ec : c = i
    · subst ec
      have := Int.mul_le_mul_of_nonneg_right (show (u c : Int) + 1 ≤ (v c : Int) by omega) (show 0 ≤ ppI c by omega)
      rw [Int.add_mul, Int.one_mul] at this
      omega
    · have eq := h3 i (by omega) (by omega)
      have := lex_dg u v c d (i + 1) (by omega) (fun c h1 h2 => hb c (by omega) (by omega)) (by omega) (by omega) (fun c' h1 h2 => h3 c' (by omega) h2) h4
      rw [eq]
      omega
