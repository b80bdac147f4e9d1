theorem Spc_pl {nS nC : Nat} {hm L cap ord pl : Nat → Nat} {D R : Nat → Nat → Nat} {a3 : Int32} (h : Spc nS nC hm L D R cap ord a3 pl) (c : Nat) (hc : c < nC) : pl c = 5 ∨ pl c < nS := by
  by_cases e : a3 = 0
  · rw [h.1 e c hc]
    rcases ngt_ok nS ord (kyF hm D R) (okb hm L D R) cap c nC with q | ⟨q1, q2⟩
    · rw [q]; exact Or.inl rfl
    · unfold pN; split
      · exact Or.inl rfl
      · exact Or.inr q1
  · have := ((h.2 e).1.1 c hc).2
    unfold alF at this
    by_cases e5 : pl c = 5
    · exact Or.inl e5
    · rw [if_neg e5] at this; simp at this; exact Or.inr this.1
theorem inv_night {nS nC nT : Nat} {M0 M' : pd_M} (hI : InvB nS nC nT M0) (fr : ∀ k j, ¬ (P_L nS nC k j ∨ (103 ≤ k ∧ k ≤ 106)) → M'.1 k j = M0.1 k j) (hz : ∀ s, nS ≤ s → s < 5 → M'.1 47 s = 0) : Inv M' := by
  obtain ⟨hn, hf, hs, hsu, hc, hcu, ho, hr, ht, hx⟩ := hI
  refine ⟨nS, nC, nT, hn.fr (fr 8 0 (by unfold P_L; omega)) (fr 24 1 (by unfold P_L; omega)) (fr 60 0 (by unfold P_L; have := hn.2.1; omega)) (fun i _ => fr 82 i (by unfold P_L; have := hn.2.1; omega)), hf.fr (fr 59 1 (by unfold P_L; have := hn.2.1; omega)) (fr 82 16 (by unfold P_L; have := hn.2.1; omega)), hs.fr (fun k i q => fr k i (by have := hn.2.1; unfold P_s at q; unfold P_L; omega)), hsu.fr (fun k i q => fr k i (by have := hn.2.1; unfold P_su at q; unfold P_L; omega)), hc.fr (fun k i q => fr k i (by have := hn.2.1; unfold P_c at q; unfold P_L; omega)), hcu.fr (fun k i q => fr k i (by have := hn.2.1; unfold P_cu at q; unfold P_L; omega)), ho.fr (fun k i q => fr k i (by have := hn.2.1; unfold P_o at q; unfold P_L; omega)), hr.fr (fun k i q => fr k i (by have := hn.2.1; unfold P_r at q; unfold P_L; omega)), ht.fr (fun k i q => fr k i (by have := hn.2.1; unfold P_t at q; unfold P_L; omega)), fun c s h1 h2 h3 => ?_, hz⟩
  rw [fr (40 + c) s (by have := hn.2.1; unfold P_L; omega)]
  exact hx.1 c s h1 h2 h3
theorem park_run {Q : pd_M → Prop} {nS nC nT : Nat} {M0 Mm : pd_M} {zn pl : Nat → Nat} {R : Nat → Nat → Nat} {hh nt : Nat} {a3 : Int32} (hI : InvB nS nC nT M0) (hhh : hh < 24) (hnt : nt < 7) (hz : ∀ s, s < nS → Mm.1 83 s = nI (zn s) ∧ zn s < 4) (fr : ∀ k i, (k = 82 ∧ i < 28) ∨ (84 ≤ k ∧ k ≤ 96) → Mm.1 k i = M0.1 k i) (hR : ∀ c s, c < nC → s < nS → R c s ≤ 2 ∧ rgt (fX M0 c (zn s) hh) (M0.1 (29 + c) (zn s)) (nI (R c s))) (hS : Spc nS nC (hmF M0) (LF M0) (DF M0) R (cpN M0 nt) (orF M0) a3 pl) (hQ : ∀ M' pm, frm (fun k j => 103 ≤ k ∧ k ≤ 106) Mm M' → DM nS nC (hmF M0) (LF M0) (DF M0) R M' → (∀ c, c < nC → M'.1 104 c = nI (pm c)) → NRl nS nC (hmF M0) (LF M0) (DF M0) R pl pm → Q M') : wX9_park Q (nI nt) (nI hh) a3 Mm := by
  obtain ⟨b1, b2, b3, b4, b5⟩ := BM_of (R := R) hI hhh hnt hz fr hR
  exact X9_park_w b1 hnt b2 b3 b4 b5 hS hQ
theorem zn_of {nS nC nT : Nat} {M0 Mm : pd_M} (hI : InvB nS nC nT M0) (fr : ∀ i, Mm.1 83 i = M0.1 83 i) (s : Nat) (hs : s < nS) : Mm.1 83 s = nI (znF M0 s) ∧ znF M0 s < 4 := by
  obtain ⟨hn, -, hs', -⟩ := hI
  obtain ⟨⟨a, b⟩, -⟩ := hs' s hs (by have := hn.1; omega)
  rw [fr, a]
  exact q_of b (by decide)
theorem sim_stands (a1 a2 a3 a4 : Int32) : sim (fun Q M => wX8_stands Q a1 a2 a3 a4 M) (fun Q M => wX9_stands Q a1 a2 a3 a4 M) := by
  intro M K hI hK
  have hK0 := hK M hI
  obtain ⟨nS, nC, nT, hI⟩ := hI
  obtain ⟨hn, -⟩ := id hI
  obtain ⟨n5, n7, n20, h8, h82, h24, h826, h60, h8217⟩ := id hn
  have no : ¬ (vp_in a1 7 ∧ vp_in a2 24 ∧ vp_in a3 nC) → wX9_stands (fun r2 M2 => ((-1 : Int32) = r2 → K M2) ∧ (¬ (-1 : Int32) = r2 → False)) a1 a2 a3 a4 M := fun h =>
    r_isNight (fun _ => q_z0 (fin hK0)) (fun q1 => q_z1 (r_isHour (fun _ => q_z0 (fin hK0)) (fun q2 => q_z1 (r_isCar h826 n7 (fun _ => q_y0 (fin hK0)) (fun q3 => absurd ⟨q1, q2, q3⟩ h)))))
  refine q_isNight (fun h => q_z0 (no (fun q => h q.1))) (fun h1 => q_z1 ?_)
  refine q_isHour (fun h => q_z0 (no (fun q => h q.2.1))) (fun h2 => q_z1 ?_)
  refine q_isCar h24 n7 (fun h => q_y0 (no (fun q => h q.2.2))) (fun h3 => q_y1 ?_)
  obtain ⟨nt, hnt, rfl⟩ := vp_in_of h1 (by omega)
  obtain ⟨hh, hhh, rfl⟩ := vp_in_of h2 (by omega)
  obtain ⟨c, hcn, rfl⟩ := vp_in_of h3 (by omega)
  have v7 : vp_in (nI c) 7 := vp_in_nI (by omega) (by decide)
  refine X2_lay_w (hh := hh) (DI_of hI) hnt (fun M1 R pl f1 hX hR h38 hS hz => ⟨v7, fun x ex => ?_⟩)
  rw [q_cl (by omega), h38 c hcn] at ex
  subst ex
  have g1 : ∀ k j, 82 ≤ k → M1.1 k j = M.1 k j := fun k j q => f1 k j (by unfold P_L; omega)
  have model : ∀ r : Int32, (pl c = 5 → r = -3) → (¬ pl c = 5 → r = nI (pl c)) → wX9_stands (fun r2 M2 => (r = r2 → K M2) ∧ (¬ r = r2 → False)) (nI nt) (nI hh) (nI c) a4 M1 := fun r r1 r2 => by
    refine r_isNight (fun q => absurd h1 q) (fun _ => q_z1 (r_isHour (fun q => absurd h2 q) (fun _ => q_z1 (r_isCar (by rw [g1 82 6 (by omega)]; exact h826) n7 (fun q => absurd h3 q) (fun _ => q_y1 ?_)))))
    refine park_run hI hhh hnt (zn_of hI (fun i => g1 83 i (by omega))) (fun k i q => g1 k i (by omega)) hR hS (fun M2 pm f2 hD h104 hN => ⟨v7, ?_⟩)
    have hKM := hK M2 (inv_night hI (fun k j q => by rw [f2 k j (by omega), f1 k j (fun q' => q (Or.inl q'))]) (fun s h1 h2 => by rw [f2 47 s (by omega)]; exact hz s h1 h2))
    have hp := hN c hcn
    rw [q_cl (by omega), h104 c hcn, hD.2.2.1, nI_eq (by omega) (by omega)]
    refine ⟨fun ne => ⟨v7, ?_⟩, fun e => ?_⟩
    · obtain ⟨p1, p2, -⟩ := hp.resolve_left (fun q => ne q.2)
      rw [p2, r2 (by omega)]; exact fin hKM
    · have p1 : pl c = 5 := by
        rcases hp with q | q
        · exact q.1
        · omega
      rw [r1 p1]; exact fin hKM
  have hpl := Spc_pl hS c hcn
  rw [show (5 : Int32) = nI 5 from rfl, nI_eq (by omega) (by omega)]
  exact ⟨fun ne => model _ (fun q => absurd q ne) (fun _ => rfl), fun e => model _ (fun _ => rfl) (fun q => absurd e q)⟩
theorem sim_told (a1 a2 a3 a4 : Int32) : sim (fun Q M => wX8_told Q a1 a2 a3 a4 M) (fun Q M => wX9_told Q a1 a2 a3 a4 M) := by
  intro M K hI hK
  have hK0 := hK M hI
  obtain ⟨nS, nC, nT, hI⟩ := hI
  obtain ⟨hn, -⟩ := id hI
  obtain ⟨n5, n7, n20, h8, h82, h24, h826, h60, h8217⟩ := id hn
  have no : ¬ (vp_in a1 7 ∧ vp_in a2 24 ∧ vp_in a3 3) → wX9_told (fun r2 M2 => ((-1 : Int32) = r2 → K M2) ∧ (¬ (-1 : Int32) = r2 → False)) a1 a2 a3 a4 M := fun h =>
    r_isNight (fun _ => q_z0 (fin hK0)) (fun q1 => q_z1 (r_isHour (fun _ => q_z0 (fin hK0)) (fun q2 => q_z1 (r_upTo (n := 2) rfl (by decide) (fun _ => q_y0 (fin hK0)) (fun q3 => absurd ⟨q1, q2, q3⟩ h)))))
  refine q_isNight (fun h => q_z0 (no (fun q => h q.1))) (fun h1 => q_z1 ?_)
  refine q_isHour (fun h => q_z0 (no (fun q => h q.2.1))) (fun h2 => q_z1 ?_)
  refine q_upTo (n := 2) (by decide) (fun h => q_y0 (no (fun q => h q.2.2))) (fun h3 => q_y1 ?_)
  obtain ⟨nt, hnt, rfl⟩ := vp_in_of h1 (by omega)
  obtain ⟨hh, hhh, rfl⟩ := vp_in_of h2 (by omega)
  have ha : a3 = 0 ∨ a3 = 1 ∨ a3 = 2 := by
    obtain ⟨j, hj, rfl⟩ := vp_in_of h3 (by omega)
    have : j = 0 ∨ j = 1 ∨ j = 2 := by omega
    rcases this with e | e | e <;> subst e
    · exact Or.inl rfl
    · exact Or.inr (Or.inl rfl)
    · exact Or.inr (Or.inr rfl)
  refine X2_lay_w (hh := hh) (DI_of hI) hnt (fun M1 R pl f1 hX hR h38 hS hz => ⟨nC + 1, l_tell hX h38 (fun c hc => Spc_pl hS c hc) nC 0 0 (by omega) ?_⟩)
  have g1 : ∀ k j, 82 ≤ k → M1.1 k j = M.1 k j := fun k j q => f1 k j (by unfold P_L; omega)
  refine r_isNight (fun q => absurd h1 q) (fun _ => q_z1 (r_isHour (fun q => absurd h2 q) (fun _ => q_z1 (r_upTo (n := 2) rfl (by decide) (fun q => absurd h3 q) (fun _ => q_y1 ?_)))))
  refine park_run hI hhh hnt (zn_of hI (fun i => g1 83 i (by omega))) (fun k i q => g1 k i (by omega)) hR hS (fun M2 pm f2 hD h104 hN => ⟨nC + 1, l_sumM ha hD h104 hN nC 0 0 (by omega) ?_⟩)
  exact fin (hK M2 (inv_night hI (fun k j q => by rw [f2 k j (by omega), f1 k j (fun q' => q (Or.inl q'))]) (fun s h1 h2 => by rw [f2 47 s (by omega)]; exact hz s h1 h2)))
theorem sim_moved (a1 a2 a3 a4 a5 : Int32) : sim (fun Q M => wX8_moved Q a1 a2 a3 a4 a5 M) (fun Q M => wX9_moved Q a1 a2 a3 a4 a5 M) := by
  intro M K hI hK
  have hK0 := hK M hI
  obtain ⟨nS, nC, nT, hI⟩ := hI
  obtain ⟨hn, hf, hs, hsu, hc, hcu, ho, hr, ht, hx⟩ := id hI
  obtain ⟨n5, n7, n20, h8, h82, h24, h826, h60, h8217⟩ := id hn
  have no : ¬ (vp_in a1 7 ∧ vp_in a2 24 ∧ vp_in a3 nS ∧ vp_in a4 4 ∧ vp_in a5 2) → wX9_moved (fun r2 M2 => ((-1 : Int32) = r2 → K M2) ∧ (¬ (-1 : Int32) = r2 → False)) a1 a2 a3 a4 a5 M := fun h =>
    r_isNight (fun _ => q_z0 (fin hK0)) (fun q1 => q_z1 (r_isHour (fun _ => q_z0 (fin hK0)) (fun q2 => q_z1 (r_isStreet h82 n5 (fun _ => q_z0 (fin hK0)) (fun q3 => q_z1 (r_isZone (fun _ => q_z0 (fin hK0)) (fun q4 => q_z1 (r_upTo (n := 1) rfl (by decide) (fun _ => q_y0 (fin hK0)) (fun q5 => absurd ⟨q1, q2, q3, q4, q5⟩ h)))))))))
  refine q_isNight (fun h => q_z0 (no (fun q => h q.1))) (fun h1 => q_z1 ?_)
  refine q_isHour (fun h => q_z0 (no (fun q => h q.2.1))) (fun h2 => q_z1 ?_)
  refine q_isStreet h8 n5 (fun h => q_z0 (no (fun q => h q.2.2.1))) (fun h3 => q_z1 ?_)
  refine q_isZone (fun h => q_z0 (no (fun q => h q.2.2.2.1))) (fun h4 => q_z1 ?_)
  refine q_upTo (n := 1) (by decide) (fun h => q_y0 (no (fun q => h q.2.2.2.2))) (fun h5 => q_y1 ?_)
  obtain ⟨nt, hnt, rfl⟩ := vp_in_of h1 (by omega)
  obtain ⟨hh, hhh, rfl⟩ := vp_in_of h2 (by omega)
  obtain ⟨s, hsn, rfl⟩ := vp_in_of h3 (by omega)
  have ha : a5 = 0 ∨ a5 = 1 ∨ a5 = 2 := by
    obtain ⟨j, hj, rfl⟩ := vp_in_of h5 (by omega)
    have : j = 0 ∨ j = 1 := by omega
    rcases this with e | e <;> subst e
    · exact Or.inl rfl
    · exact Or.inr (Or.inl rfl)
  have v5 : vp_in (nI s) 5 := vp_in_nI (by omega) (by decide)
  refine ⟨v5, fun x ex => ⟨v5, fun Md ed => ?_⟩⟩
  rw [q_cl (by omega)] at ex ed
  have gd : ∀ k j, ¬ (k = 9 ∧ j = s) → Md.1 k j = M.1 k j := fun k j q => by rw [ed, sI_ni q]
  have gds : Md.1 9 s = a4 := by rw [ed, sI_hit]
  have hDI : DI nS nC Md := by
    obtain ⟨-, -, -, -, e5, e6, e7, e8, e9, e10⟩ := DI_of hI
    refine ⟨n5, n7, ?_, ?_, fun s' hs' => ?_, fun c hcc => ?_, fun i hi => ?_, fun i j hi hj => ?_, fun c hcc => ?_, ?_⟩
    · rw [gd 8 0 (by omega)]; exact h8
    · rw [gd 24 1 (by omega)]; exact h24
    · obtain ⟨u1, u2, u3, u4⟩ := e5 s' hs'
      refine ⟨?_, ?_, fun n hn => ?_, fun o ho => ?_⟩
      · by_cases e : s' = s
        · subst e; rw [gds]; exact h4
        · rw [gd 9 s' (by omega)]; exact u1
      · rw [gd 10 s' (by omega)]; exact u2
      · rw [gd (12 + s') n (by omega), gd 10 s' (by omega)]; exact u3 n hn
      · rw [gd (18 + s') o (by omega)]; exact u4 o ho
    · rw [gd 25 c (by omega), gd 26 c (by omega)]; exact e6 c hcc
    · rw [gd 36 i (by omega)]; exact e7 i hi
    · rw [gd 36 i (by omega), gd 36 j (by omega)]; exact e8 i j hi hj
    · obtain ⟨i, hi, e⟩ := e9 c hcc
      exact ⟨i, hi, by rw [gd 36 i (by omega)]; exact e⟩
    · exact e10.fr (fun k j q => gd k j (by unfold P_x at q; omega))
  have em : hmF Md = hmF M := funext (fun c => by show cl32 (Md.1 25 c) = cl32 (M.1 25 c); rw [gd 25 c (by omega)])
  have eL : LF Md = LF M := funext (fun c => by show cl32 (Md.1 26 c) = cl32 (M.1 26 c); rw [gd 26 c (by omega)])
  have eD : DF Md = DF M := funext (fun h => funext (fun o => by show cl32 (Md.1 (18 + h) o) = cl32 (M.1 (18 + h) o); rw [gd (18 + h) o (by omega)]))
  have ec : cpN Md nt = cpN M nt := funext (fun s' => by show cl32 (Md.1 10 s') - cl32 (Md.1 (12 + s') nt) = cl32 (M.1 10 s') - cl32 (M.1 (12 + s') nt); rw [gd 10 s' (by omega), gd (12 + s') nt (by omega)])
  have eo : orF Md = orF M := funext (fun i => by show cl32 (Md.1 36 i) = cl32 (M.1 36 i); rw [gd 36 i (by omega)])
  have hzd : ∀ s', s' < nS → Md.1 9 s' = nI (znF Md s') ∧ znF Md s' < 4 := fun s' hs' => q_of (hDI.2.2.2.2.1 s' hs').1 (by decide)
  refine X2_lay_w (hh := hh) hDI hnt (fun M1 R pl f1 hX hR h38 hS hz => ⟨nC + 1, l_tell hX h38 (fun c hc => Spc_pl hS c hc) nC 0 0 (by omega) ⟨v5, fun M2 e2 => ?_⟩⟩)
  rw [q_cl (by omega)] at e2
  rw [em, eL, eD, ec, eo] at hS
  rw [em, eD]
  have hR' : ∀ c s', c < nC → s' < nS → R c s' ≤ 2 ∧ rgt (fX M c (znF Md s') hh) (M.1 (29 + c) (znF Md s')) (nI (R c s')) := fun c s' hcc hs' => by
    obtain ⟨r1, r2⟩ := hR c s' hcc hs'
    rw [gd (29 + c) _ (by omega)] at r2
    exact ⟨r1, rgt_cg r2 (fX_fr (fun k i q => gd k i (by omega)) (hzd s' hs').2)⟩
  have g2 : ∀ k j, ¬ P_L nS nC k j → M2.1 k j = M.1 k j := fun k j q => by
    by_cases e : k = 9 ∧ j = s
    · obtain ⟨rfl, rfl⟩ := e
      rw [e2, sI_hit, ex]
    · rw [e2, sI_ni e, f1 k j q, gd k j e]
  have g82 : ∀ k j, 82 ≤ k → M2.1 k j = M.1 k j := fun k j q => g2 k j (by unfold P_L; omega)
  refine r_isNight (fun q => absurd h1 q) (fun _ => q_z1 (r_isHour (fun q => absurd h2 q) (fun _ => q_z1 (r_isStreet (by rw [g82 82 0 (by omega)]; exact h82) n5 (fun q => absurd h3 q) (fun _ => q_z1 (r_isZone (fun q => absurd h4 q) (fun _ => q_z1 (r_upTo (n := 1) rfl (by decide) (fun q => absurd h5 q) (fun _ => q_y1 ⟨v5, fun y ey => ⟨v5, fun Mm emm => ?_⟩⟩)))))))))
  rw [q_cl (by omega), g82 83 s (by omega)] at ey
  rw [q_cl (by omega)] at emm
  have gm : ∀ k j, 82 ≤ k → ¬ (k = 83 ∧ j = s) → Mm.1 k j = M.1 k j := fun k j q1 q2 => by rw [emm, sI_ni q2]; exact g82 k j q1
  refine park_run (zn := znF Md) hI hhh hnt (fun s' hs' => ?_) (fun k i q => gm k i (by omega) (by omega)) hR' hS (fun M3 pm f3 hD h104 hN => ⟨nC + 1, l_sumM ha hD h104 hN nC 0 0 (by omega) ⟨v5, fun M4 e4 => ?_⟩⟩)
  · obtain ⟨z1, z2⟩ := hzd s' hs'
    refine ⟨?_, z2⟩
    rw [← z1]
    by_cases e : s' = s
    · subst e; rw [emm, sI_hit, gds]
    · rw [gm 83 s' (by omega) (by omega), gd 9 s' (by omega)]; exact (hs s' hs' (by omega)).1.1
  · rw [q_cl (by omega)] at e4
    refine fin (hK M4 (inv_night hI (fun k j q => ?_) (fun s' h1' h2' => ?_)))
    · by_cases e : k = 83 ∧ j = s
      · obtain ⟨rfl, rfl⟩ := e
        rw [e4, sI_hit, ey]
      · rw [e4, sI_ni e, f3 k j (by omega), emm, sI_ni e]
        exact g2 k j (fun q' => q (Or.inl q'))
    · rw [e4, sI_ni (by omega), f3 47 s' (by omega), emm, sI_ni (by omega), e2, sI_ni (by omega)]
      exact hz s' h1' h2'
theorem sim_keep (a1 a2 : Int32) : sim (fun Q M => wX8_keep Q a1 a2 M) (fun Q M => wX9_keep Q a1 a2 M) := by
  intro M K hI hK
  have hK0 := hK M hI
  obtain ⟨nS, nC, nT, hI⟩ := hI
  obtain ⟨hn, hf, hs, hsu, hc, hcu, ho, hr, ht, hx⟩ := id hI
  obtain ⟨n5, n7, n20, h8, h82, h24, h826, h60, h8217⟩ := id hn
  have no : ¬ (vp_in a1 7 ∧ vp_in a2 24) → wX9_keep (fun r2 M2 => ((-1 : Int32) = r2 → K M2) ∧ (¬ (-1 : Int32) = r2 → False)) a1 a2 M := fun h =>
    r_isNight (fun _ => q_z0 (fin hK0)) (fun q1 => q_z1 (r_isHour (fun _ => q_y0 (fin hK0)) (fun q2 => absurd ⟨q1, q2⟩ h)))
  refine q_isNight (fun h => q_z0 (no (fun q => h q.1))) (fun h1 => q_z1 ?_)
  refine q_isHour (fun h => q_y0 (no (fun q => h q.2))) (fun h2 => q_y1 ?_)
  obtain ⟨nt, hnt, rfl⟩ := vp_in_of h1 (by omega)
  obtain ⟨hh, hhh, rfl⟩ := vp_in_of h2 (by omega)
  have hzd : ∀ s', s' < nS → M.1 9 s' = nI (znF M s') ∧ znF M s' < 4 := fun s' hs' => q_of (hs s' hs' (by omega)).1.2 (by decide)
  refine X2_lay_w (hh := hh) (DI_of hI) hnt (fun M1 R pl f1 hX hR h38 hS hz => ⟨nC + 1, l_use (zn := znF M) (fun c hcc => Spc_pl hS c hcc) nC 0 0 M1 hX h38 (fun s hs' => by rw [f1 9 s (by unfold P_L; omega)]; exact hzd s hs') (by omega) (fun M2 f2 v2 => ?_)⟩)
  have g2 : ∀ k j, ¬ P_L nS nC k j → ¬ (29 ≤ k ∧ k < 29 + nC) → M2.1 k j = M.1 k j := fun k j q1 q2 => by rw [f2 k j (by omega), f1 k j q1]
  have g82 : ∀ k j, 82 ≤ k → M2.1 k j = M.1 k j := fun k j q => g2 k j (by unfold P_L; omega) (by omega)
  refine r_isNight (fun q => absurd h1 q) (fun _ => q_z1 (r_isHour (fun q => absurd h2 q) (fun _ => q_y1 ?_)))
  refine park_run hI hhh hnt (zn_of hI (fun i => g82 83 i (by omega))) (fun k i q => g82 k i (by omega)) hR hS (fun M3 pm f3 hD h104 hN => ⟨nC + 1, l_sumM (Or.inr (Or.inr rfl)) hD h104 hN nC 0 0 (by omega) ⟨nC + 1, l_keep (zn := znF M) hN nC 0 M3 hD h104 (fun s hs' => by rw [f3 83 s (by omega)]; exact zn_of hI (fun i => g82 83 i (by omega)) s hs') (by omega) (fun M4 f4 v4 => fin (hK M4 ?_))⟩⟩)
  have fr : ∀ k j, ¬ P_L nS nC k j → ¬ (29 ≤ k ∧ k < 29 + nC) → ¬ (103 ≤ k ∧ k ≤ 106) → ¬ k = 90 → M4.1 k j = M.1 k j := fun k j q1 q2 q3 q4 => by
    rw [f4 k j (by omega), f3 k j (by omega)]; exact g2 k j q1 q2
  have w29 : ∀ c z, c < nC → z < 4 → M4.1 (29 + c) z = M.1 (29 + c) z - cu pl (znF M) R c z := fun c z hcc hzz => by
    rw [f4 (29 + c) z (by omega), f3 (29 + c) z (by omega), v2 c z (by omega) hcc hzz, f1 (29 + c) z (by unfold P_L; omega)]
  have w90 : ∀ c z, c < nC → z < 4 → M4.1 90 (4 * c + z) = M.1 90 (4 * c + z) - cu pl (znF M) R c z := fun c z hcc hzz => by
    rw [v4 c z (by omega) hcc hzz, f3 90 _ (by omega), g82 90 _ (by omega)]
  refine ⟨nS, nC, nT, hn.fr (fr 8 0 (by unfold P_L; omega) (by omega) (by omega) (by omega)) (fr 24 1 (by unfold P_L; omega) (by omega) (by omega) (by omega)) (fr 60 0 (by unfold P_L; omega) (by omega) (by omega) (by omega)) (fun i _ => fr 82 i (by unfold P_L; omega) (by omega) (by omega) (by omega)), hf.fr (fr 59 1 (by unfold P_L; omega) (by omega) (by omega) (by omega)) (fr 82 16 (by unfold P_L; omega) (by omega) (by omega) (by omega)), hs.fr (fun k i q => by unfold P_s at q; exact fr k i (by unfold P_L; omega) (by omega) (by omega) (by omega)), hsu.fr (fun k i q => by unfold P_su at q; exact fr k i (by unfold P_L; omega) (by omega) (by omega) (by omega)), fun c hcc h7 => ?_, fun c hcc h7 => ?_, ho.fr (fun k i q => by unfold P_o at q; exact fr k i (by unfold P_L; omega) (by omega) (by omega) (by omega)), hr.fr (fun k i q => by unfold P_r at q; exact fr k i (by unfold P_L; omega) (by omega) (by omega) (by omega)), ht.fr (fun k i q => by unfold P_t at q; exact fr k i (by unfold P_L; omega) (by omega) (by omega) (by omega)), fun c s q1 q2 q3 => ?_, fun s q1 q2 => ?_⟩
  · obtain ⟨b1, b2, b3, b4⟩ := hc c hcc h7
    refine ⟨?_, ?_, fun z hzz => ?_, fun z t hzz htt => ?_⟩
    · rw [fr 88 c (by unfold P_L; omega) (by omega) (by omega) (by omega), fr 25 c (by unfold P_L; omega) (by omega) (by omega) (by omega)]; exact b1
    · rw [fr 91 c (by unfold P_L; omega) (by omega) (by omega) (by omega), fr 26 c (by unfold P_L; omega) (by omega) (by omega) (by omega)]; exact b2
    · obtain ⟨c1, c2⟩ := b3 z hzz
      rw [w29 c z hcc hzz, w90 c z hcc hzz, c1]
      refine ⟨rfl, ?_⟩
      unfold cu
      split
      · rename_i q
        obtain ⟨⟨q1, q2⟩, q3⟩ := q
        have hp := (Spc_pl hS c hcc).resolve_left q1
        obtain ⟨-, r2⟩ := hR c (pl c) hcc hp
        rw [q2, q3] at r2
        have hk : ¬ M.1 (29 + c) z ≤ 0 := fun hle => by
          rcases Classical.em (fX M c z hh) with hf | hf
          · exact absurd (r2.1 hf) (by decide)
          · exact absurd (r2.2.1 hf hle) (by decide)
        obtain ⟨j, hj, ej⟩ := vp_in_of c2 (by decide)
        rw [ej] at hk ⊢
        have : ¬ j = 0 := fun e => hk (by rw [e]; decide)
        rw [show (1 : Int32) = nI 1 from rfl, n_sub (by omega) (by omega)]
        exact vp_in_nI (by omega) (by decide)
      · rw [Int32.sub_zero]; exact c2
    · rw [fr 89 _ (by unfold P_L; omega) (by omega) (by omega) (by omega), fr 27 c (by unfold P_L; omega) (by omega) (by omega) (by omega)]; exact b4 z t hzz htt
  · obtain ⟨b1, b2⟩ := hcu c hcc h7
    refine ⟨by rw [fr 27 c (by unfold P_L; omega) (by omega) (by omega) (by omega)]; exact b1, fun z hzz => by rw [fr (29 + c) z (by unfold P_L; omega) (by omega) (by omega) (by omega)]; exact b2 z hzz⟩
  · rw [fr (40 + c) s (by unfold P_L; omega) (by omega) (by omega) (by omega)]; exact hx.1 c s q1 q2 q3
  · rw [f4 47 s (by omega), f3 47 s (by omega), f2 47 s (by omega)]; exact hz s q1 q2
