/-! what is told of a night -/
theorem BM_of {nS nC nT : Nat} {M0 Mm : pd_M} {zn : Nat → Nat} {R : Nat → Nat → Nat} {hh nt : Nat} (hI : InvB nS nC nT M0) (hhh : hh < 24) (hnt : nt < 7) (hz : ∀ s, s < nS → Mm.1 83 s = nI (zn s) ∧ zn s < 4) (fr : ∀ k i, (k = 82 ∧ i < 28) ∨ (84 ≤ k ∧ k ≤ 96) → Mm.1 k i = M0.1 k i) (hR : ∀ c s, c < nC → s < nS → R c s ≤ 2 ∧ rgt (fX M0 c (zn s) hh) (M0.1 (29 + c) (zn s)) (nI (R c s))) : BM nS nC (hmF M0) (LF M0) (DF M0) R zn hh Mm ∧ (∀ s, s < nS → Mm.1 84 s = nI (cl32 (M0.1 10 s)) ∧ Mm.1 85 (7 * s + nt) = nI (cl32 (M0.1 (12 + s) nt)) ∧ cl32 (M0.1 (12 + s) nt) ≤ cl32 (M0.1 10 s) ∧ cl32 (M0.1 10 s) ≤ 5) ∧ (∀ i, i < nC → Mm.1 92 i = nI (orF M0 i) ∧ orF M0 i < nC) ∧ (∀ i j, i < nC → j < nC → orF M0 i = orF M0 j → i = j) ∧ (∀ c, c < nC → ∃ i, i < nC ∧ orF M0 i = c) := by
  obtain ⟨hn, hf, hs, hsu, hc, hcu, ho, hr, ht, hx⟩ := hI
  obtain ⟨n5, n7, n20, h8, h82, h24, h826, h60, h8217⟩ := hn
  have hor : ∀ i, i < nC → M0.1 36 i = nI (orF M0 i) ∧ orF M0 i < nC := fun i hi => q_of (ho.1 i hi).2 (by omega)
  refine ⟨⟨n5, n7, ?_, ?_, fun c hcn => ?_, fun h s h1 h2 => ?_, hz, fun c s hcn hsn => ⟨(hR c s hcn hsn).1, fun r hrr => ?_⟩⟩, fun s hsn => ?_, fun i hi => ?_, fun i j hi hj e => ?_, fun c hcn => ?_⟩
  · rw [fr 82 0 (by omega)]; exact h82
  · rw [fr 82 6 (by omega)]; exact h826
  · obtain ⟨⟨b1, b2⟩, ⟨b3, b4⟩, -⟩ := hc c hcn (by omega)
    obtain ⟨e1, l1⟩ := q_of b2 (by omega)
    obtain ⟨e2, l2⟩ := q_of b4 (by decide)
    rw [fr 88 c (by omega), fr 91 c (by omega), b1, b3]
    exact ⟨e1, l1, e2, l2⟩
  · obtain ⟨-, -, -, b, -⟩ := hs h h1 (by omega)
    obtain ⟨b1, b2⟩ := b s h2 (by omega)
    obtain ⟨e1, l1⟩ := q_of b2 (by decide)
    rw [fr 86 _ (by omega), b1]
    exact ⟨e1, by unfold DF cl32; omega⟩
  · rw [fr 90 _ (by omega), ((hc c hcn (by omega)).2.2.1 _ (hz s hsn).2).1] at hrr
    have hrr' := rgt_cg hrr (fM_fr (M := M0) (fun k i q => fr k i (by omega)))
    exact (rgt_one (hR c s hcn hsn).2 hrr' (fX_fM hc hr hcn n7 (hz s hsn).2 hhh)).symm
  · obtain ⟨-, ⟨b1, b2⟩, b3, -⟩ := hs s hsn (by omega)
    obtain ⟨b4, b5⟩ := b3 nt hnt
    obtain ⟨e1, l1⟩ := q_of b2 (by decide)
    obtain ⟨e2, l2⟩ := q_of b5 (by omega)
    rw [fr 84 s (by omega), fr 85 _ (by omega), b1, b4]
    exact ⟨e1, e2, by unfold cl32; omega, by unfold cl32; omega⟩
  · rw [fr 92 i (by omega), (ho.1 i hi).1]; exact hor i hi
  · exact ho.2.1 i j hi hj (by rw [(hor i hi).1, (hor j hj).1, e])
  · obtain ⟨i, hi, e⟩ := ho.2.2 c hcn
    exact ⟨i, hi, by unfold orF cl32; rw [e, q_cl (by omega)]⟩
def tv (hm : Nat → Nat) (D R : Nat → Nat → Nat) (pl : Nat → Nat) (a1 : Int32) (c : Nat) : Int32 := if pl c = 5 then (if a1 = 1 then 1 else 0) else if a1 = 0 then nI (D (hm c) (pl c)) else if a1 = 2 then (if R c (pl c) = 1 then 1 else 0) else 0
section S24
variable {nS nC : Nat} {hm L pl pm zn : Nat → Nat} {D R : Nat → Nat → Nat} {K : Int32 → pd_M → Prop} {M : pd_M}
theorem X2_standsByCard_w {Q : Int32 → pd_M → Prop} {c : Nat} (hX : DX nS nC hm L D R M) (hc : c < nC) (h38 : M.1 38 c = nI (pl c)) (hpl : pl c = 5 ∨ pl c < nS) (h0 : ¬ (¬ pl c = 5 ∧ R c (pl c) = 1) → Q 0 M) (h1 : ¬ pl c = 5 → pl c < nS → R c (pl c) = 1 → Q 1 M) : wX2_standsByCard Q (nI c) M := by
  obtain ⟨n5, n7, -, -, -, -, a7, -⟩ := hX
  have v7 : vp_in (nI c) 7 := vp_in_nI (by omega) (by decide)
  unfold wX2_standsByCard
  rw [q_cl (by omega), h38, show (5 : Int32) = nI 5 from rfl, nI_eq (by omega) (by omega)]
  refine ⟨v7, fun e => h0 (fun q => q.1 e), fun ne => ⟨v7, v7, vp_in_nI (by omega) (by decide), ?_⟩⟩
  have hp := hpl.resolve_left ne
  obtain ⟨r1, r2⟩ := a7 c (pl c) hc hp
  rw [q_cl (by omega), r1, show (1 : Int32) = nI 1 from rfl, nI_eq (by omega) (by omega)]
  exact ⟨fun n => h0 (fun q => n q.2), fun e => h1 ne hp e⟩
theorem l_tell {a1 : Int32} (hX : DX nS nC hm L D R M) (h38 : ∀ c, c < nC → M.1 38 c = nI (pl c)) (hpl : ∀ c, c < nC → pl c = 5 ∨ pl c < nS) : ∀ (d c : Nat) (v : Int32), c + d = nC → K (v + sm (tv hm D R pl a1) c d) M → lpX2_tell_4 K a1 (d + 1) v (nI c) M
  | 0, c, v, hd, hK => by
    have n7 := hX.2.1
    unfold lpX2_tell_4
    rw [hX.2.2.2.1, n_le (by omega) (by omega)]
    unfold sm at hK
    rw [Int32.add_zero] at hK
    exact ⟨fun _ => hK, fun h => absurd (by omega) h⟩
  | d + 1, c, v, hd, hK => by
    have n5 := hX.1
    have n7 := hX.2.1
    have hp := hpl c (by omega)
    have v7 : vp_in (nI c) 7 := vp_in_nI (by omega) (by decide)
    have go : ∀ r, r = tv hm D R pl a1 c → ∀ x, x = v + r → ∀ y, y = nI c + 1 → lpX2_tell_4 K a1 (d + 1) x y M := fun r hr x ex y ey => by
      rw [nI_1] at ey
      subst ey ex hr
      exact l_tell hX h38 hpl d (c + 1) _ (by omega) (by unfold sm at hK; rw [← Int32.add_assoc] at hK; exact hK)
    unfold lpX2_tell_4
    rw [hX.2.2.2.1, n_le (by omega) (by omega)]
    refine ⟨fun h => absurd h (by omega), fun _ => ⟨v7, ?_⟩⟩
    rw [q_cl (by omega), h38 c (by omega), show (5 : Int32) = nI 5 from rfl, nI_eq (by omega) (by omega)]
    unfold tv at go
    refine ⟨fun ne => ⟨fun n0 => ⟨fun n2 => go _ ?_, fun e2 => ?_⟩, fun e0 => ⟨v7, ?_⟩⟩, fun e => ⟨fun n1 => go _ ?_, fun e1 => go _ ?_⟩⟩
    · rw [if_neg ne, if_neg n0, if_neg n2]
    · rw [if_neg ne, if_neg n0, if_pos e2] at go
      refine X2_standsByCard_w hX (by omega) (h38 c (by omega)) hp (fun q => q_z0 (go 0 ?_)) (fun _ _ q => q_z1 (go 1 ?_))
      · rw [if_neg (fun q' => q ⟨ne, q'⟩)]
      · rw [if_pos q]
    · rw [if_neg ne, if_pos e0] at go
      exact X2_walkTo_w hX (by omega) (hp.resolve_left ne) (go _ rfl)
    · rw [if_pos e, if_neg n1]
    · rw [if_pos e, if_pos e1]
theorem l_sumM {a1 : Int32} (ha : a1 = 0 ∨ a1 = 1 ∨ a1 = 2) (hX : DM nS nC hm L D R M) (h104 : ∀ c, c < nC → M.1 104 c = nI (pm c)) (hN : NRl nS nC hm L D R pl pm) : ∀ (d c : Nat) (v : Int32), c + d = nC → K (v + sm (tv hm D R pl a1) c d) M → lpX9_sumOf_4 K a1 (d + 1) v (nI c) M
  | 0, c, v, hd, hK => by
    have n7 := hX.2.1
    unfold lpX9_sumOf_4
    rw [hX.2.2.2.1, n_le (by omega) (by omega)]
    unfold sm at hK
    rw [Int32.add_zero] at hK
    exact ⟨fun _ => hK, fun h => absurd (by omega) h⟩
  | d + 1, c, v, hd, hK => by
    obtain ⟨n5, n7, a3, a4, a5, a6, a7⟩ := id hX
    have hp := hN c (by omega)
    have v7 : vp_in (nI c) 7 := vp_in_nI (by omega) (by decide)
    have go : ∀ r, r = tv hm D R pl a1 c → ∀ x, x = v + r → ∀ y, y = nI c + 1 → lpX9_sumOf_4 K a1 (d + 1) x y M := fun r hr x ex y ey => by
      rw [nI_1] at ey
      subst ey ex hr
      exact l_sumM ha hX h104 hN d (c + 1) _ (by omega) (by unfold sm at hK; rw [← Int32.add_assoc] at hK; exact hK)
    have go0 : 0 = tv hm D R pl a1 c → ∀ y, y = nI c + 1 → lpX9_sumOf_4 K a1 (d + 1) v y M := fun h y ey => go 0 h v (by rw [Int32.add_zero]) y ey
    unfold tv at go go0
    unfold lpX9_sumOf_4
    rw [a4, n_le (by omega) (by omega), q_cl (by omega), h104 c (by omega), a3, nI_eq (by omega) (by omega)]
    refine ⟨fun h => absurd h (by omega), fun _ => ⟨v7, fun ne => ?_, fun e => ?_⟩⟩
    · obtain ⟨p1, p2, p3⟩ := hp.resolve_left (fun q => ne q.2)
      have n5' : ¬ pl c = 5 := by omega
      rw [if_neg n5'] at go go0
      refine ⟨fun n1 => q_y0 ⟨fun n0 => ⟨v7, ?_⟩, fun e0 => ⟨v7, v7, ?_⟩⟩, fun e1 => q_z0 (go 0 ?_)⟩
      · have e2 : a1 = 2 := (ha.resolve_left n0).resolve_left n1
        rw [if_neg n0, if_pos e2] at go
        obtain ⟨t1, t2⟩ := a7 c (pl c) (by omega) p1
        rw [q_cl (by omega), h104 c (by omega), p2, q_c5', q_cl (by omega), t1]
        unfold tbl
        rw [if_pos p3, show (1 : Int32) = nI 1 from rfl, nI_eq (by omega) (by omega), show nI 1 = (1 : Int32) from rfl]
        refine ⟨vp_in_nI (by omega) (by decide), fun q => go 0 ?_, fun q => go 1 ?_⟩
        · rw [if_neg q]
        · rw [if_pos q]
      · rw [if_pos e0] at go
        obtain ⟨h1, h2⟩ := a5 c (by omega)
        rw [q_cl (by omega), h104 c (by omega), h1, p2, q_c5', q_cl (by omega), (a6 _ _ h2 p1).1]
        exact ⟨vp_in_nI (by omega) (by decide), go _ rfl⟩
      · rw [if_neg (by rw [e1]; decide), if_neg (by rw [e1]; decide)]
    · have p1 : pl c = 5 := by
        rcases hp with q | q
        · exact q.1
        · omega
      rw [if_pos p1] at go go0
      refine ⟨fun n1 => q_y1 (go0 ?_), fun e1 => q_z1 (go 1 ?_)⟩
      · rw [if_neg n1]
      · rw [if_pos e1]
def cu (pl zn : Nat → Nat) (R : Nat → Nat → Nat) (c z : Nat) : Int32 := if (¬ pl c = 5 ∧ R c (pl c) = 1) ∧ zn (pl c) = z then 1 else 0
theorem l_use (hpl : ∀ c, c < nC → pl c = 5 ∨ pl c < nS) : ∀ (d c : Nat) (v : Int32) (M : pd_M), DX nS nC hm L D R M → (∀ c, c < nC → M.1 38 c = nI (pl c)) → (∀ s, s < nS → M.1 9 s = nI (zn s) ∧ zn s < 4) → c + d = nC → (∀ M', frm (fun k j => 29 + c ≤ k ∧ k < 29 + nC) M M' → (∀ c' z, c ≤ c' → c' < nC → z < 4 → M'.1 (29 + c') z = M.1 (29 + c') z - cu pl zn R c' z) → K (v + sm (tv hm D R pl 2) c d) M') → lpX2_useCards_4 K (d + 1) v (nI c) M
  | 0, c, v, M, hX, h38, hz, hd, hK => by
    have n7 := hX.2.1
    unfold lpX2_useCards_4
    rw [hX.2.2.2.1, n_le (by omega) (by omega)]
    have := hK M frm_rf (fun c' z h1 h2 => by omega)
    unfold sm at this
    rw [Int32.add_zero] at this
    exact ⟨fun _ => this, fun h => absurd (by omega) h⟩
  | d + 1, c, v, M, hX, h38, hz, hd, hK => by
    have n5 := hX.1
    have n7 := hX.2.1
    have hp := hpl c (by omega)
    have v7 : vp_in (nI c) 7 := vp_in_nI (by omega) (by decide)
    unfold lpX2_useCards_4
    rw [hX.2.2.2.1, n_le (by omega) (by omega)]
    refine ⟨fun h => absurd h (by omega), fun _ => X2_standsByCard_w hX (by omega) (h38 c (by omega)) hp (fun q => q_z0 (fun y ey => ?_)) (fun ne q2 q3 => q_z1 ⟨v7, v7, ?_⟩)⟩
    · rw [nI_1] at ey; subst ey
      refine l_use hpl d (c + 1) v M hX h38 hz (by omega) (fun M' hf hv => ?_)
      have e0 : tv hm D R pl 2 c = 0 := by
        unfold tv
        by_cases e5 : pl c = 5
        · rw [if_pos e5, if_neg (by decide)]
        · rw [if_neg e5, if_neg (by decide), if_pos rfl, if_neg (fun q' => q ⟨e5, q'⟩)]
      have := hK M' (frm_mono hf (fun k j h => by omega)) (fun c' z h1 h2 h3 => by
        by_cases e : c' = c
        · subst e
          unfold cu
          rw [if_neg (fun q' => q q'.1), Int32.sub_zero, hf (29 + c') z (by omega)]
        · exact hv c' z (by omega) h2 h3)
      rw [sm, e0, Int32.zero_add] at this
      exact this
    · obtain ⟨z1, z2⟩ := hz _ q2
      have hq : (nI (pl c)).toNatClampNeg = pl c := q_cl (by omega)
      rw [q_cl (by omega), h38 c (by omega), hq, z1, q_cl (by omega)]
      have v4 : vp_in (nI (zn (pl c))) 4 := vp_in_nI z2 (by decide)
      refine ⟨vp_in_nI (by omega) (by decide), v4, v4, fun M1 e1 x ex y ey => ?_⟩
      rw [nI_1] at ey; subst ey ex
      have fr1 : ∀ k j, ¬ (k = 29 + c ∧ j = zn (pl c)) → M1.1 k j = M.1 k j := fun k j q => by rw [e1, sI_ni q]
      refine l_use hpl d (c + 1) (v + 1) M1 (hX.fr (fun k j q => fr1 k j (by unfold P_D at q; omega))) (fun c' hc' => by rw [fr1 38 c' (by omega)]; exact h38 c' hc') (fun s hs => by rw [fr1 9 s (by omega)]; exact hz s hs) (by omega) (fun M' hf hv => ?_)
      have e0 : tv hm D R pl 2 c = 1 := by unfold tv; rw [if_neg ne, if_neg (by decide), if_pos rfl, if_pos q3]
      have := hK M' (fun k j h => by rw [hf k j (by omega), fr1 k j (by omega)]) (fun c' z h1 h2 h3 => by
        by_cases e : c' = c
        · subst e
          rw [hf (29 + c') z (by omega)]
          unfold cu
          by_cases ez : zn (pl c') = z
          · subst ez; rw [if_pos ⟨⟨ne, q3⟩, rfl⟩, e1, sI_hit]
          · rw [if_neg (fun q' => ez q'.2), Int32.sub_zero, fr1 _ _ (by omega)]
        · rw [hv c' z (by omega) h2 h3, fr1 _ _ (by omega)])
      rw [sm, e0, ← Int32.add_assoc] at this
      exact this
theorem l_keep {K : pd_M → Prop} {f3 : Int32} (hN : NRl nS nC hm L D R pl pm) : ∀ (d c : Nat) (M : pd_M), DM nS nC hm L D R M → (∀ c, c < nC → M.1 104 c = nI (pm c)) → (∀ s, s < nS → M.1 83 s = nI (zn s) ∧ zn s < 4) → c + d = nC → (∀ M', frm (fun k j => k = 90 ∧ 4 * c ≤ j) M M' → (∀ c' z, c ≤ c' → c' < nC → z < 4 → M'.1 90 (4 * c' + z) = M.1 90 (4 * c' + z) - cu pl zn R c' z) → K M') → lpX9_keep_32 K f3 (d + 1) (nI c) M
  | 0, c, M, hX, h104, hz, hd, hK => by
    have n7 := hX.2.1
    unfold lpX9_keep_32
    rw [hX.2.2.2.1, n_le (by omega) (by omega)]
    exact ⟨fun _ => hK M frm_rf (fun c' z h1 h2 => by omega), fun h => absurd (by omega) h⟩
  | d + 1, c, M, hX, h104, hz, hd, hK => by
    obtain ⟨n5, n7, a3, a4, a5, a6, a7⟩ := id hX
    have hp := hN c (by omega)
    have v7 : vp_in (nI c) 7 := vp_in_nI (by omega) (by decide)
    have stay : ¬ (¬ pl c = 5 ∧ R c (pl c) = 1) → ∀ y, y = nI c + 1 → lpX9_keep_32 K f3 (d + 1) y M := fun q y ey => by
      rw [nI_1] at ey; subst ey
      refine l_keep hN d (c + 1) M hX h104 hz (by omega) (fun M' hf hv => hK M' (frm_mono hf (fun k j h => by omega)) (fun c' z h1 h2 h3 => ?_))
      by_cases e : c' = c
      · subst e
        unfold cu
        rw [if_neg (fun q' => q q'.1), Int32.sub_zero, hf 90 _ (by omega)]
      · exact hv c' z (by omega) h2 h3
    have pml : pm c ≤ nS := by omega
    unfold lpX9_keep_32
    rw [a4, n_le (by omega) (by omega), q_cl (by omega), h104 c (by omega), a3, n_le (by omega) (by omega)]
    refine ⟨fun h => absurd h (by omega), fun _ => ⟨v7, fun h => stay (fun q => ?_), fun h => ⟨v7, ?_⟩⟩⟩
    · rcases hp with r | r
      · exact q.1 r.1
      · omega
    · obtain ⟨p1, p2, p3⟩ : pl c < nS ∧ pm c = pl c ∧ okb hm L D R c (pl c) = true := by
        rcases hp with r | r
        · omega
        · exact r
      obtain ⟨t1, t2⟩ := a7 c (pl c) (by omega) p1
      obtain ⟨z1, z2⟩ := hz _ p1
      have hq : (nI (pl c)).toNatClampNeg = pl c := q_cl (by omega)
      rw [p2, q_c5', q_cl (by omega), t1, hq, z1, q_c4, q_cl (show 4 * c + zn (pl c) < 2 ^ 31 by omega)]
      unfold tbl
      rw [if_pos p3, show (1 : Int32) = nI 1 from rfl, nI_eq (by omega) (by omega), show nI 1 = (1 : Int32) from rfl]
      refine ⟨vp_in_nI (by omega) (by decide), fun q => stay (fun q' => q q'.2), fun q3 => ⟨v7, vp_in_nI (by omega) (by decide), vp_in_nI (by omega) (by decide), vp_in_nI (by omega) (by decide), fun M1 e1 y ey => ?_⟩⟩
      rw [nI_1] at ey; subst ey
      have fr1 : ∀ k j, ¬ (k = 90 ∧ j = 4 * c + zn (pl c)) → M1.1 k j = M.1 k j := fun k j q => by rw [e1, sI_ni q]
      refine l_keep hN d (c + 1) M1 (hX.fr (fun k j q => fr1 k j (by unfold P_M at q; omega))) (fun c' hc' => by rw [fr1 104 c' (by omega)]; exact h104 c' hc') (fun s hs => by rw [fr1 83 s (by omega)]; exact hz s hs) (by omega) (fun M' hf hv => hK M' (fun k j h => by rw [hf k j (by omega), fr1 k j (by omega)]) (fun c' z h1 h2 h3 => ?_))
      by_cases e : c' = c
      · subst e
        rw [hf 90 _ (by omega)]
        unfold cu
        by_cases ez : zn (pl c') = z
        · subst ez; rw [if_pos ⟨⟨by omega, q3⟩, rfl⟩, e1, sI_hit]
        · rw [if_neg (fun q' => ez q'.2), Int32.sub_zero, fr1 _ _ (by omega)]
      · rw [hv c' z (by omega) h2 h3, fr1 _ _ (by omega)]
end S24
