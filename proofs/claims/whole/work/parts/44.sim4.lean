/-! permits, rules, hours, the order -/
abbrev InvB (nS nC nT : Nat) (M : pd_M) : Prop := I_n nS nC nT M ∧ I_f M ∧ I_s nS M ∧ I_su nS M ∧ I_c nS nC M ∧ I_cu nC M ∧ I_o nC M ∧ I_r M ∧ I_t nT M ∧ I_x nS nC M
theorem inv_of {nS nC nT : Nat} {M : pd_M} (h : InvB nS nC nT M) : Inv M := ⟨nS, nC, nT, h⟩
theorem n_sub {a b : Nat} (h : b ≤ a) (ha : a < 2 ^ 30) : nI a - nI b = nI (a - b) := by
  apply Int32.toInt_inj.mp
  rw [pk_sub_toInt (by omega) (by omega), nI_toInt (by omega)]
  omega
theorem inv_permit {nS nC nT c z t : Nat} {M M' : pd_M} (hI : InvB nS nC nT M) (hcn : c < nC) (hz : z < 4) (htt : t < 3) (fm : frm (fun k i => (k = 27 ∧ i = c) ∨ (k = 89 ∧ i = (4 * c + z) * 3 + t)) M M') (hj : ∀ j, j < 12 → ¬ j = z * 3 + t → (pb (M'.1 27 c) j ↔ pb (M.1 27 c) j)) (hp : (M'.1 89 ((4 * c + z) * 3 + t) = 0 ∧ ¬ pb (M'.1 27 c) (z * 3 + t)) ∨ (M'.1 89 ((4 * c + z) * 3 + t) = 1 ∧ pb (M'.1 27 c) (z * 3 + t))) : Inv M' := by
  obtain ⟨hn, hf, hs, hsu, hc, hcu, ho, hr, ht, hx⟩ := hI
  have ro : ∀ k i, k ≠ 27 → k ≠ 89 → M'.1 k i = M.1 k i := fun k i h1 h2 => fm k i (by omega)
  have n7 := hn.2.1
  refine ⟨nS, nC, nT, hn.fr (ro 8 0 (by omega) (by omega)) (ro 24 1 (by omega) (by omega)) (ro 60 0 (by omega) (by omega)) (fun i _ => ro 82 i (by omega) (by omega)), hf.fr (ro 59 1 (by omega) (by omega)) (ro 82 16 (by omega) (by omega)), hs.fr (fun k i q => ro k i (by unfold P_s at q; omega) (by unfold P_s at q; omega)), hsu.fr (fun k i q => ro k i (by unfold P_su at q; omega) (by unfold P_su at q; omega)), fun x hxn h7 => ?_, fun x hxn h7 => ?_, ho.fr (fun k i q => ro k i (by unfold P_o at q; omega) (by unfold P_o at q; omega)), hr.fr (fun k i q => ro k i (by unfold P_r at q; omega) (by unfold P_r at q; omega)), ht.fr (fun k i q => ro k i (by unfold P_t at q; omega) (by unfold P_t at q; omega)), hx.fr (fun k i q => ro k i (by unfold P_x at q; omega) (by unfold P_x at q; omega))⟩
  · obtain ⟨b1, b2, b3, b4⟩ := hc x hxn h7
    refine ⟨?_, ?_, fun y hy => ?_, fun y u hy hu => ?_⟩
    · rw [ro 88 x (by omega) (by omega), ro 25 x (by omega) (by omega)]; exact b1
    · rw [ro 91 x (by omega) (by omega), ro 26 x (by omega) (by omega)]; exact b2
    · rw [ro 90 _ (by omega) (by omega), ro (29 + x) y (by omega) (by omega)]; exact b3 y hy
    · by_cases e : x = c
      · subst e
        by_cases e2 : y * 3 + u = z * 3 + t
        · obtain ⟨rfl, rfl⟩ : y = z ∧ u = t := by omega
          exact hp
        · rw [fm 89 ((4 * x + y) * 3 + u) (by omega), hj (y * 3 + u) (by omega) e2]; exact b4 y u hy hu
      · rw [fm 89 ((4 * x + y) * 3 + u) (by omega), fm 27 x (by omega)]; exact b4 y u hy hu
  · obtain ⟨b1, b2⟩ := hcu x hxn h7
    refine ⟨by rw [fm 27 x (by omega)]; exact b1, fun y hy => by rw [ro (29 + x) y (by omega) (by omega)]; exact b2 y hy⟩
theorem pb_x {x : Int32} {j l : Nat} (hj : j < 32) (hl : l < 32) (h : ¬ j = l) : pb (x ^^^ ((1 : Int32) <<< (nI l &&& 31))) j ↔ pb x j := by
  rw [pb_bt hj, pb_bt hj, b_xor, b_tp l hl]
  simp [show ¬ l = j from fun e => h e.symm]
theorem pb_xx {x : Int32} {l : Nat} (hl : l < 32) : pb (x ^^^ ((1 : Int32) <<< (nI l &&& 31))) l ↔ ¬ pb x l := by
  rw [pb_bt hl, pb_bt hl, b_xor, b_tp l hl]
  simp [hl]
theorem X9_permit_w {Q : Int32 → pd_M → Prop} {M : pd_M} {c z t n : Nat} {a4 : Int32} (h4 : vp_nar .boolean a4 = a4) (h826 : M.1 82 6 = nI n) (n7 : n ≤ 7) (hcn : c < n) (hz : z < 4) (ht : t < 3) (h1 : ¬ M.1 89 ((4 * c + z) * 3 + t) = a4 → Q 1 (sI M 89 ((4 * c + z) * 3 + t) a4)) (h0 : M.1 89 ((4 * c + z) * 3 + t) = a4 → Q 0 (sI M 89 ((4 * c + z) * 3 + t) a4)) : wX9_permit Q (nI c) (nI t) (nI z) a4 M := by
  refine r_isCar h826 n7 (fun h => absurd (vp_in_nI hcn (by omega)) h) (fun _ => q_z1 ?_)
  refine r_isSort (fun h => absurd (vp_in_nI ht (by omega)) h) (fun _ => q_z1 ?_)
  refine r_isZone (fun h => absurd (vp_in_nI hz (by omega)) h) (fun _ => q_y1 ?_)
  have e0 : ((4 * nI c + nI z) * 3 + nI t) = nI ((4 * c + z) * 3 + t) := by rw [q_c4, show (3 : Int32) = nI 3 from rfl, pk_mul, nI_add]
  rw [e0, h4]
  intro x ex
  subst ex
  rw [q_cl (by omega)]
  have hv : vp_in (nI ((4 * c + z) * 3 + t)) 84 := vp_in_nI (by omega) (by decide)
  refine ⟨hv, fun x ex => ⟨hv, fun M1 e1 => ?_⟩⟩
  subst ex e1
  exact ⟨h1, h0⟩
theorem sim_permit (a1 a2 a3 a4 : Int32) (h4 : a4 = 0 ∨ a4 = 1) : sim (fun Q M => wX8_permit Q a1 a2 a3 a4 M) (fun Q M => wX9_permit Q a1 a2 a3 a4 M) := by
  intro M K hI hK
  have hK0 := hK M hI
  obtain ⟨nS, nC, nT, hI⟩ := hI
  obtain ⟨hn, hf, hs, hsu, hc, hcu, ho, hr, ht, hx⟩ := id hI
  obtain ⟨n5, n7, n20, h8, h82, h24, h826, h60, h8217⟩ := id hn
  refine q_isCar h24 n7 (fun h => q_z0 ?_) (fun h1 => q_z1 ?_)
  · exact r_isCar h826 n7 (fun _ => q_z0 (fin hK0)) (fun q => absurd q h)
  refine q_isSort (fun h => q_z0 ?_) (fun h2 => q_z1 ?_)
  · exact r_isCar h826 n7 (fun q => absurd h1 q) (fun _ => q_z1 (r_isSort (fun _ => q_z0 (fin hK0)) (fun q => absurd q h)))
  refine q_isZone (fun h => q_y0 ?_) (fun h3 => q_y1 ?_)
  · exact r_isCar h826 n7 (fun q => absurd h1 q) (fun _ => q_z1 (r_isSort (fun q => absurd h2 q) (fun _ => q_z1 (r_isZone (fun _ => q_y0 (fin hK0)) (fun q => absurd q h)))))
  obtain ⟨c, hcn, rfl⟩ := vp_in_of h1 (by omega)
  obtain ⟨t, htt, rfl⟩ := vp_in_of h2 (by omega)
  obtain ⟨z, hz, rfl⟩ := vp_in_of h3 (by omega)
  have hb := (hc c hcn (by omega)).2.2.2 z t hz htt
  have hv : vp_in (nI c) 7 := vp_in_nI (by omega) (by decide)
  have hnar : vp_nar .boolean a4 = a4 := by rcases h4 with rfl | rfl <;> rfl
  -- where nothing changes
  have stay : ∀ (P : pb (M.1 27 c) (z * 3 + t) ↔ a4 = 1), wX9_permit (fun r2 M2 => ((0 : Int32) = r2 → K M2) ∧ (¬ (0 : Int32) = r2 → False)) (nI c) (nI t) (nI z) a4 M := by
    intro P
    have ev : M.1 89 ((4 * c + z) * 3 + t) = a4 := by
      rcases hb with ⟨e, q⟩ | ⟨e, q⟩
      · rcases h4 with r | r
        · rw [e, r]
        · exact absurd (P.mpr r) q
      · rw [e, P.mp q]
    refine X9_permit_w hnar h826 n7 hcn hz htt (fun q => absurd ev q) (fun _ => fin (hK _ (inv_permit hI hcn hz htt (frm_sI frm_rf (Or.inr ⟨rfl, rfl⟩)) (fun j _ _ => ?_) ?_)))
    · rw [sI_ni (by omega)]
    · rw [sI_hit, sI_ni (by omega), ← ev]; exact hb
  have turn : ∀ (P : pb (M.1 27 c) (z * 3 + t) ↔ ¬ a4 = 1) (M1 : pd_M), M1 = sI M 27 c (M.1 27 c ^^^ ((1 : Int32) <<< (nI (z * 3 + t) &&& 31))) → wX9_permit (fun r2 M2 => ((1 : Int32) = r2 → K M2) ∧ (¬ (1 : Int32) = r2 → False)) (nI c) (nI t) (nI z) a4 M1 := by
    intro P M1 e1
    subst e1
    have hcl : ∀ j, j < 12 → j < 32 := fun j h => by omega
    have ev : ¬ M.1 89 ((4 * c + z) * 3 + t) = a4 := by
      rcases hb with ⟨e, q⟩ | ⟨e, q⟩
      · intro e2
        rw [e] at e2
        exact q (P.mpr (by rw [← e2]; decide))
      · intro e2
        exact P.mp q (by rw [← e2, e])
    refine X9_permit_w hnar (by rw [sI_ni (by omega)]; exact h826) n7 hcn hz htt (fun _ => fin (hK _ (inv_permit hI hcn hz htt (frm_sI (frm_sI frm_rf (Or.inr ⟨rfl, rfl⟩)) (Or.inl ⟨rfl, rfl⟩)) (fun j hj hne => ?_) ?_))) (fun q => absurd q (by rw [sI_ni (by omega)]; exact ev))
    · rw [sI_ni (by omega), sI_hit]; exact pb_x (by omega) (by omega) hne
    · rw [sI_hit, sI_ni (by omega), sI_hit, pb_xx (by omega)]
      rcases h4 with r | r
      · exact Or.inl ⟨r, fun n => n (P.mpr (by rw [r]; decide))⟩
      · exact Or.inr ⟨r, fun q => P.mp q r⟩
  refine X0_hasPermit_w (by omega) (fun hp => ?_) (fun hp => ?_)
  · refine ⟨fun ne => ⟨hv, ?_⟩, fun e => q_z0 (stay ⟨fun q => absurd q hp, fun q => absurd (e.trans q) (by decide)⟩)⟩
    show vp_in (nI c) 7 ∧ _
    rw [q_z3, q_cl (by omega)]
    have a1 : a4 = 1 := h4.elim (fun r => absurd r.symm ne) id
    exact ⟨hv, fun M1 e1 => q_z1 (turn ⟨fun q => absurd q hp, fun q => absurd a1 q⟩ M1 e1)⟩
  · refine ⟨fun ne => ⟨hv, ?_⟩, fun e => q_z0 (stay ⟨fun _ => e.symm, fun _ => hp⟩)⟩
    show vp_in (nI c) 7 ∧ _
    rw [q_z3, q_cl (by omega)]
    exact ⟨hv, fun M1 e1 => q_z1 (turn ⟨fun _ q => ne q.symm, fun _ => hp⟩ M1 e1)⟩
/-! hours -/
def sp (a b : Int32) : Prop := a = -1 ∨ (vp_in a 24 ∧ vp_in b 24)
section S4
variable {Q : Int32 → pd_M → Prop} {M : pd_M} {a b a1 a2 a3 a4 : Int32} {n : Nat}
theorem q_isSpan (h0 : ¬ sp a b → Q 0 M) (h1 : sp a b → Q 1 M) : wX8_isSpan Q a b M := by
  refine ⟨fun e => h1 (Or.inl e), fun ne => q_isHour (fun h => q_z0 (h0 (fun q => q.elim ne (fun q => h q.1)))) (fun h => q_z1 (q_isHour (fun h' => q_z0 (h0 (fun q => q.elim ne (fun q => h' q.2)))) (fun h' => q_z1 (h1 (Or.inr ⟨h, h'⟩)))))⟩
theorem r_areHours (h0 : ¬ sp a b → Q 0 M) (h1 : sp a b → Q 1 M) : wX9_areHours Q a b M := by
  refine ⟨fun e => h1 (Or.inl e), fun ne => r_isHour (fun h => q_z0 (h0 (fun q => q.elim ne (fun q => h q.1)))) (fun h => q_z1 (r_isHour (fun h' => q_z0 (h0 (fun q => q.elim ne (fun q => h' q.2)))) (fun h' => q_z1 (h1 (Or.inr ⟨h, h'⟩)))))⟩
theorem l_span {K : Int32 → pd_M → Prop} (ha : 0 ≤ a) (hK : ∀ v, (∀ h, h < 24 → (hb v h ↔ inH h a b)) → K v M) : ∀ (d i : Nat) (v : Int32), i + d = 24 → (∀ h, h < 24 → (bt v h = true ↔ h < i ∧ inH h a b)) → lpX8_span_11 K a b (d + 1) v (nI i) M
  | 0, i, v, hd, hv => by
    refine ⟨fun _ => hK v (fun h hh => ?_), fun h => absurd ?_ h⟩
    · rw [hb_bt (by omega), hv h hh]
      exact ⟨fun q => q.2, fun q => ⟨by omega, q⟩⟩
    · rw [show (24 : Int32) = nI 24 from rfl, n_le (by decide) (by omega)]; omega
  | d + 1, i, v, hd, hv => by
    have nl : ∀ x y : Int32, ¬ x < y → y ≤ x := fun x y hq => by rw [q_lt] at hq; rw [q_le]; omega
    have ln : ∀ x y : Int32, x < y → ¬ y ≤ x := fun x y hq => by rw [q_lt] at hq; rw [q_le]; omega
    have j0 : ¬ inH i a b → jnX8_span_55 (lpX8_span_11 K a b (d + 1)) a b v (nI i) 0 M := by
      intro hi
      refine q_z0 (fun x ex => ?_)
      rw [nI_1] at ex
      subst ex
      refine l_span ha hK d (i + 1) v (by omega) (fun h hh => ?_)
      rw [hv h hh]
      refine ⟨fun q => ⟨by omega, q.2⟩, fun q => ⟨?_, q.2⟩⟩
      by_cases e : h = i
      · subst e; exact absurd q.2 hi
      · omega
    have j1 : inH i a b → jnX8_span_55 (lpX8_span_11 K a b (d + 1)) a b v (nI i) 1 M := by
      intro hi
      refine q_z1 (fun x2 e2 x ex => ?_)
      rw [nI_1] at ex
      subst ex e2
      refine l_span ha hK d (i + 1) _ (by omega) (fun h hh => ?_)
      rw [b_or, b_tp i (by omega), Bool.or_eq_true, hv h hh]
      by_cases e : i = h
      · subst e
        simp only [decide_true, Bool.and_true, decide_eq_true_eq]
        exact ⟨fun _ => ⟨by omega, hi⟩, fun _ => Or.inr (by omega)⟩
      · simp only [e, decide_false, Bool.and_false, Bool.false_eq_true, or_false]
        exact ⟨fun q => ⟨by omega, q.2⟩, fun q => ⟨by omega, q.2⟩⟩
    refine ⟨fun h => absurd h ?_, fun _ => ⟨fun hba => ⟨fun h1 => j1 ⟨ha, ?_⟩, fun h1 => ⟨fun h2 => j0 (fun q => ?_), fun h2 => j1 ⟨ha, ?_⟩⟩⟩, fun hba => ⟨fun h1 => j0 (fun q => ?_), fun h1 => ⟨fun h2 => j0 (fun q => ?_), fun h2 => j1 ⟨ha, ?_⟩⟩⟩⟩⟩
    · rw [show (24 : Int32) = nI 24 from rfl, n_le (by decide) (by omega)]; omega
    · rw [if_pos hba]; exact Or.inl h1
    · have := q.2; rw [if_pos hba] at this
      exact this.elim h1 (ln _ _ h2)
    · rw [if_pos hba]; exact Or.inr (nl _ _ h2)
    · have := q.2; rw [if_neg hba] at this; exact ln _ _ h1 this.1
    · have := q.2; rw [if_neg hba] at this; exact ln _ _ h2 this.2
    · rw [if_neg hba]; exact ⟨nl _ _ h1, nl _ _ h2⟩
theorem X8_span_w (hs : sp a b) (hQ : ∀ v, (∀ h, h < 24 → (hb v h ↔ inH h a b)) → Q v M) : wX8_span Q a b M := by
  refine ⟨fun ne => ⟨25, l_span ?_ (fun v hv => hQ v hv) 24 0 0 (by omega) (fun h hh => ?_)⟩, fun e => hQ 0 (fun h hh => ?_)⟩
  · rcases hs with h | h
    · exact absurd h ne
    · rw [q_le]; exact (q_in.mp h.1).1
  · rw [b_0]; exact ⟨fun q => absurd q (by decide), fun q => by omega⟩
  · rw [hb_bt (by omega), b_0, e]
    exact ⟨fun q => absurd q (by decide), fun q => absurd q.1 (by decide)⟩
end S4
theorem inv_r {nS nC nT : Nat} {M M' : pd_M} (hI : InvB nS nC nT M) (ro : ∀ k i, ¬ P_r k → M'.1 k i = M.1 k i) (hr : I_r M') : Inv M' := by
  obtain ⟨hn, hf, hs, hsu, hc, hcu, ho, -, ht, hx⟩ := hI
  exact ⟨nS, nC, nT, hn.fr (ro 8 0 (by unfold P_r; omega)) (ro 24 1 (by unfold P_r; omega)) (ro 60 0 (by unfold P_r; omega)) (fun i _ => ro 82 i (by unfold P_r; omega)), hf.fr (ro 59 1 (by unfold P_r; omega)) (ro 82 16 (by unfold P_r; omega)), hs.fr (fun k i q => ro k i (by unfold P_s at q; unfold P_r; omega)), hsu.fr (fun k i q => ro k i (by unfold P_su at q; unfold P_r; omega)), hc.fr (fun k i q => ro k i (by unfold P_c at q; unfold P_r; omega)), hcu.fr (fun k i q => ro k i (by unfold P_cu at q; unfold P_r; omega)), ho.fr (fun k i q => ro k i (by unfold P_o at q; unfold P_r; omega)), hr, ht.fr (fun k i q => ro k i (by unfold P_t at q; unfold P_r; omega)), hx.fr (fun k i q => ro k i (by unfold P_x at q; unfold P_r; omega))⟩
theorem sim_rule (a1 a2 a3 : Int32) : sim (fun Q M => wX8_rule Q a1 a2 a3 M) (fun Q M => wX9_rule Q a1 a2 a3 M) := by
  intro M K hI hK
  have hK0 := hK M hI
  obtain ⟨nS, nC, nT, hI⟩ := hI
  have hr := hI.2.2.2.2.2.2.2.1
  refine q_isZone (fun h => q_z0 ?_) (fun h1 => q_z1 ?_)
  · exact r_isZone (fun _ => q_z0 (fin hK0)) (fun q => absurd q h)
  refine q_isSpan (fun h => q_y0 ?_) (fun h2 => q_y1 ?_)
  · exact r_isZone (fun q => absurd h1 q) (fun _ => q_z1 (r_areHours (fun _ => q_y0 (fin hK0)) (fun q => absurd q h)))
  refine X8_span_w h2 (fun v hv => ⟨h1, fun M1 e1 => ?_⟩)
  refine r_isZone (fun q => absurd h1 q) (fun _ => q_z1 (r_areHours (fun q => absurd h2 q) (fun _ => q_y1 ⟨h1, fun M2 e2 => ⟨h1, fun M3 e3 => ?_⟩⟩)))
  obtain ⟨z, hz, rfl⟩ := vp_in_of h1 (by omega)
  rw [q_cl (by omega)] at e1 e2 e3
  subst e1 e2 e3
  refine fin (hK _ (inv_r hI (fun k i q => ?_) (fun y hy => ⟨fun h hh => ?_, fun t ht h hh => ?_⟩)))
  · unfold P_r at q; rw [sI_ni (by omega), sI_ni (by omega), sI_ni (by omega)]
  · by_cases e : y = z
    · subst e
      rw [sI_ni (by omega), sI_ni (by omega), sI_hit, sI_ni (k' := 93) (by omega), sI_hit, sI_hit]; exact hv h hh
    · rw [sI_ni (by omega), sI_ni (by omega), sI_ni (by omega), sI_ni (by omega), sI_ni (by omega), sI_ni (by omega), sI_ni (by omega), sI_ni (by omega), sI_ni (by omega)]; exact (hr y hy).1 h hh
  · rw [sI_ni (by omega), sI_ni (by omega), sI_ni (by omega), sI_ni (by omega), sI_ni (by omega), sI_ni (by omega), sI_ni (by omega), sI_ni (by omega), sI_ni (by omega)]; exact (hr y hy).2 t ht h hh
theorem sim_hours (a1 a2 a3 a4 : Int32) : sim (fun Q M => wX8_hours Q a1 a2 a3 a4 M) (fun Q M => wX9_hours Q a1 a2 a3 a4 M) := by
  intro M K hI hK
  have hK0 := hK M hI
  obtain ⟨nS, nC, nT, hI⟩ := hI
  have hr := hI.2.2.2.2.2.2.2.1
  have no : ¬ (vp_in a1 4 ∧ vp_in a2 3 ∧ sp a3 a4) → wX9_hours (fun r2 M2 => ((-1 : Int32) = r2 → K M2) ∧ (¬ (-1 : Int32) = r2 → False)) a1 a2 a3 a4 M := fun h =>
    r_isZone (fun _ => q_z0 (fin hK0)) (fun q1 => q_z1 (r_isSort (fun _ => q_z0 (fin hK0)) (fun q2 => q_z1 (r_areHours (fun _ => q_y0 (fin hK0)) (fun q3 => absurd ⟨q1, q2, q3⟩ h)))))
  refine q_isZone (fun h => q_z0 (no (fun q => h q.1))) (fun h1 => q_z1 ?_)
  refine q_isSpan (fun h => q_z0 (no (fun q => h q.2.2))) (fun h3 => q_z1 ?_)
  refine q_isSort (fun h => q_y0 (no (fun q => h q.2.1))) (fun h2 => q_y1 ⟨h1, ?_⟩)
  refine X8_span_w h3 (fun v hv => ⟨h2, fun M1 e1 => ?_⟩)
  refine r_isZone (fun q => absurd h1 q) (fun _ => q_z1 (r_isSort (fun q => absurd h2 q) (fun _ => q_z1 (r_areHours (fun q => absurd h3 q) (fun _ => q_y1 ?_)))))
  obtain ⟨z, hz, rfl⟩ := vp_in_of h1 (by omega)
  obtain ⟨t, htt, rfl⟩ := vp_in_of h2 (by omega)
  rw [q_c3, q_cl (by omega)]
  rw [q_cl (by omega), q_cl (by omega)] at e1
  refine ⟨vp_in_nI (by omega) (by decide), fun M2 e2 => ⟨vp_in_nI (by omega) (by decide), fun M3 e3 => ?_⟩⟩
  subst e1 e2 e3
  refine fin (hK _ (inv_r hI (fun k i q => ?_) (fun y hy => ⟨fun h hh => ?_, fun u hu h hh => ?_⟩)))
  · unfold P_r at q; rw [sI_ni (by omega), sI_ni (by omega), sI_ni (by omega)]
  · rw [sI_ni (by omega), sI_ni (by omega), sI_ni (by omega), sI_ni (by omega), sI_ni (by omega), sI_ni (by omega), sI_ni (by omega), sI_ni (by omega), sI_ni (by omega)]; exact (hr y hy).1 h hh
  · by_cases e : y = z ∧ u = t
    · obtain ⟨rfl, rfl⟩ := e
      rw [sI_ni (by omega), sI_ni (by omega), sI_hit, sI_ni (k' := 95) (by omega), sI_hit, sI_hit]; exact hv h hh
    · rw [sI_ni (by omega), sI_ni (by omega), sI_ni (by omega), sI_ni (by omega), sI_ni (by omega), sI_ni (by omega), sI_ni (by omega), sI_ni (by omega), sI_ni (by omega)]; exact (hr y hy).2 u hu h hh
