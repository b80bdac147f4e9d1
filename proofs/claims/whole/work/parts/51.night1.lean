/-! the night: bays and rights -/
section S12
variable {n nt : Nat}
theorem l_open {K : pd_M → Prop} {b cl : Nat → Nat} (n5 : n ≤ 5) (hnt : nt < 7) : ∀ (d i : Nat) (M : pd_M), M.1 8 0 = nI n → (∀ s, s < n → M.1 10 s = nI (b s) ∧ M.1 (12 + s) nt = nI (cl s) ∧ cl s ≤ b s ∧ b s ≤ 5) → i + d = n → (∀ M', frm (fun k j => k = 47 ∧ i ≤ j ∧ j < n) M M' → (∀ s, i ≤ s → s < n → M'.1 47 s = nI (b s - cl s)) → K M') → lpX2_openBays_2 K (nI nt) (d + 1) (nI i) M
  | 0, i, M, h8, hb, hd, hK => by
    unfold lpX2_openBays_2
    rw [h8, n_le (by omega) (by omega)]
    exact ⟨fun _ => hK M frm_rf (fun j h1 h2 => by omega), fun h => absurd (by omega) h⟩
  | d + 1, i, M, h8, hb, hd, hK => by
    obtain ⟨b1, b2, b3, b4⟩ := hb i (by omega)
    unfold lpX2_openBays_2
    rw [h8, n_le (by omega) (by omega), q_cl (by omega), q_cl (by omega), b1, b2, n_sub b3 (by omega)]
    have hv : vp_in (nI i) 5 := vp_in_nI (by omega) (by decide)
    refine ⟨fun h => absurd h (by omega), fun _ => ⟨hv, hv, vp_in_nI hnt (by decide), vp_in_nI (by omega) (by decide), fun M1 e1 x ex => ?_⟩⟩
    rw [nI_1] at ex
    subst ex e1
    refine l_open n5 hnt d (i + 1) _ (by rw [sI_ni (by omega)]; exact h8) (fun s hs => by rw [sI_ni (by omega), sI_ni (by omega)]; exact hb s hs) (by omega) (fun M' hf hv => hK M' (frm_sI (frm_mono hf (fun k j h => by omega)) (by omega)) (fun s h1 h2 => ?_))
    by_cases e : s = i
    · subst e; rw [hf 47 s (by omega), sI_hit]
    · exact hv s (by omega) h2
theorem X2_openBays_w {Q : pd_M → Prop} {M : pd_M} {b cl : Nat → Nat} (n5 : n ≤ 5) (hnt : nt < 7) (h8 : M.1 8 0 = nI n) (hb : ∀ s, s < n → M.1 10 s = nI (b s) ∧ M.1 (12 + s) nt = nI (cl s) ∧ cl s ≤ b s ∧ b s ≤ 5) (hQ : ∀ M', frm (fun k j => k = 47 ∧ (j < n ∨ j = 5)) M M' → (∀ s, s < n → M'.1 47 s = nI (b s - cl s)) → M'.1 47 5 = nI 7 → Q M') : wX2_openBays Q (nI nt) M := by
  refine ⟨n + 1, l_open n5 hnt n 0 M h8 hb (by omega) (fun M1 f1 v1 M2 e2 => ?_)⟩
  rw [show (5 : Int32).toNatClampNeg = 5 from rfl] at e2
  subst e2
  refine hQ _ (fun k j h => ?_) (fun s hs => ?_) ?_
  · rw [sI_ni (by omega), f1 k j (by omega)]
  · rw [sI_ni (by omega), v1 s (by omega) hs]
  · rw [sI_hit]; rfl
theorem fX_fr {M M' : pd_M} {c z h : Nat} (fr : ∀ k i, (2 ≤ k ∧ k < 8) ∨ k = 27 → M'.1 k i = M.1 k i) (hz : z < 4) : fX M' c z h ↔ fX M c z h := by
  unfold fX
  rw [fr 2 z (by omega), fr 27 c (by omega)]
  refine or_congr Iff.rfl ⟨fun ⟨t, h1, h2, h3⟩ => ⟨t, h1, h2, ?_⟩, fun ⟨t, h1, h2, h3⟩ => ⟨t, h1, h2, ?_⟩⟩
  · rw [← fr (4 + z) _ (by omega)]; exact h3
  · rw [fr (4 + z) _ (by omega)]; exact h3
theorem rgt_cg {f f' : Prop} {k r : Int32} (h : rgt f k r) (e : f ↔ f') : rgt f' k r := ⟨fun q => h.1 (e.mpr q), fun q => h.2.1 (fun q' => q (e.mp q')), fun q => h.2.2 (fun q' => q (e.mp q'))⟩
/-- the rights that a memory holds, of one hour -/
def rgX (M0 : pd_M) (h : Nat) (zn : Nat → Nat) (c s : Nat) (r : Int32) : Prop := rgt (fX M0 c (zn s) h) (M0.1 (29 + c) (zn s)) r
theorem l_rr15 {K : pd_M → Prop} {M0 : pd_M} {zn : Nat → Nat} {h c : Nat} (n5 : n ≤ 5) (hc : c < 7) (h8 : M0.1 8 0 = nI n) (hz : ∀ s, s < n → M0.1 9 s = nI (zn s) ∧ zn s < 4) : ∀ (d i : Nat) (M : pd_M), frm (fun k j => 40 ≤ k ∧ k ≤ 47) M0 M → i + d = n → (∀ M', frm (fun k j => k = 40 + c ∧ i ≤ j ∧ j < n) M M' → (∀ s, i ≤ s → s < n → rgX M0 h zn c s (M'.1 (40 + c) s)) → K M') → lpX2_readRights_15 K (nI h) (nI c) (d + 1) (nI i) M
  | 0, i, M, f0, hd, hK => by
    unfold lpX2_readRights_15
    rw [f0 8 0 (by omega), h8, n_le (by omega) (by omega)]
    exact ⟨fun _ => hK M frm_rf (fun j h1 h2 => by omega), fun h => absurd (by omega) h⟩
  | d + 1, i, M, f0, hd, hK => by
    obtain ⟨z1, z2⟩ := hz i (by omega)
    unfold lpX2_readRights_15
    rw [f0 8 0 (by omega), h8, n_le (by omega) (by omega), q_cl (by omega), q_cl (by omega), f0 9 i (by omega), z1]
    have hv : vp_in (nI i) 5 := vp_in_nI (by omega) (by decide)
    refine ⟨fun h => absurd h (by omega), fun _ => ⟨vp_in_nI hc (by decide), hv, X0_right_w hc z2 (fun r hr => ⟨hv, fun M1 e1 x ex => ?_⟩)⟩⟩
    rw [nI_1] at ex
    subst ex e1
    rw [f0 (29 + c) _ (by omega)] at hr
    have hr2 := rgt_cg hr (fX_fr (M := M0) (M' := M) (fun k i q => f0 k i (by omega)) z2)
    refine l_rr15 n5 hc h8 hz d (i + 1) _ (fun k j q => by rw [sI_ni (by omega)]; exact f0 k j q) (by omega) (fun M' hf hv => hK M' (frm_sI (frm_mono hf (fun k j h => by omega)) (by omega)) (fun s h1 h2 => ?_))
    by_cases e : s = i
    · subst e; rw [hf (40 + c) s (by omega), sI_hit]; exact hr2
    · exact hv s (by omega) h2
theorem l_rr2 {K : pd_M → Prop} {M0 : pd_M} {zn : Nat → Nat} {h nC : Nat} (n5 : n ≤ 5) (n7 : nC ≤ 7) (h8 : M0.1 8 0 = nI n) (h24 : M0.1 24 1 = nI nC) (hz : ∀ s, s < n → M0.1 9 s = nI (zn s) ∧ zn s < 4) : ∀ (d c : Nat) (M : pd_M), frm (fun k j => 40 ≤ k ∧ k ≤ 47) M0 M → c + d = nC → (∀ M', frm (fun k j => 40 + c ≤ k ∧ k < 40 + nC ∧ j < n) M M' → (∀ c' s, c ≤ c' → c' < nC → s < n → rgX M0 h zn c' s (M'.1 (40 + c') s)) → K M') → lpX2_readRights_2 K (nI h) (d + 1) (nI c) M
  | 0, c, M, f0, hd, hK => by
    unfold lpX2_readRights_2
    rw [f0 24 1 (by omega), h24, n_le (by omega) (by omega)]
    exact ⟨fun _ => hK M frm_rf (fun j _ h1 h2 => by omega), fun h => absurd (by omega) h⟩
  | d + 1, c, M, f0, hd, hK => by
    unfold lpX2_readRights_2
    rw [f0 24 1 (by omega), h24, n_le (by omega) (by omega)]
    refine ⟨fun h => absurd h (by omega), fun _ => ⟨n + 1, l_rr15 (h := h) (zn := zn) n5 (by omega) h8 hz n 0 M f0 (by omega) (fun M1 f1 v1 x ex => ?_)⟩⟩
    rw [nI_1] at ex
    subst ex
    refine l_rr2 n5 n7 h8 h24 hz d (c + 1) M1 (fun k j q => by rw [f1 k j (by omega)]; exact f0 k j q) (by omega) (fun M' hf hv => hK M' (fun k j q => ?_) (fun c' s h1 h2 h3 => ?_))
    · rw [hf k j (by omega), f1 k j (by omega)]
    · by_cases e : c' = c
      · subst e; rw [hf (40 + c') s (by omega)]; exact v1 s (by omega) h3
      · exact hv c' s (by omega) h2 h3
theorem X2_readRights_w {Q : pd_M → Prop} {M : pd_M} {zn : Nat → Nat} {h nC : Nat} (n5 : n ≤ 5) (n7 : nC ≤ 7) (h8 : M.1 8 0 = nI n) (h24 : M.1 24 1 = nI nC) (hz : ∀ s, s < n → M.1 9 s = nI (zn s) ∧ zn s < 4) (hQ : ∀ M', frm (fun k j => 40 ≤ k ∧ k < 40 + nC ∧ j < n) M M' → (∀ c s, c < nC → s < n → rgX M h zn c s (M'.1 (40 + c) s)) → Q M') : wX2_readRights Q (nI h) M :=
  ⟨nC + 1, l_rr2 (zn := zn) n5 n7 h8 h24 hz nC 0 M frm_rf (by omega) (fun M' hf hv => hQ M' (frm_mono hf (fun k j q => by omega)) (fun c s h1 h2 => hv c s (by omega) h1 h2))⟩
end S12
/-- what the night looks at, on the desk -/
def DX (nS nC : Nat) (hm L : Nat → Nat) (D R : Nat → Nat → Nat) (M : pd_M) : Prop := nS ≤ 5 ∧ nC ≤ 7 ∧ M.1 8 0 = nI nS ∧ M.1 24 1 = nI nC ∧ (∀ c, c < nC → M.1 25 c = nI (hm c) ∧ hm c < nS ∧ M.1 26 c = nI (L c) ∧ L c < 100) ∧ (∀ h s, h < nS → s < nS → M.1 (18 + h) s = nI (D h s) ∧ D h s ≤ 50) ∧ (∀ c s, c < nC → s < nS → M.1 (40 + c) s = nI (R c s) ∧ R c s ≤ 2) ∧ (∀ c s, c < 7 → s < 5 → nS ≤ s → M.1 (40 + c) s = 0)
abbrev P_D (k : Nat) : Prop := k = 8 ∨ (18 ≤ k ∧ k ≤ 26) ∨ (40 ≤ k ∧ k < 47)
theorem DX.fr {nS nC : Nat} {hm L : Nat → Nat} {D R : Nat → Nat → Nat} {M M' : pd_M} (h : DX nS nC hm L D R M) (fr : same P_D M M') : DX nS nC hm L D R M' := by
  obtain ⟨a1, a2, a3, a4, a5, a6, a7, a8⟩ := h
  refine ⟨a1, a2, ?_, ?_, fun c hc => ?_, fun h s h1 h2 => ?_, fun c s h1 h2 => ?_, fun c s h1 h2 h3 => ?_⟩
  · rw [fr 8 0 (by unfold P_D; omega)]; exact a3
  · rw [fr 24 1 (by unfold P_D; omega)]; exact a4
  · rw [fr 25 c (by unfold P_D; omega), fr 26 c (by unfold P_D; omega)]; exact a5 c hc
  · rw [fr (18 + h) s (by unfold P_D; omega)]; exact a6 h s h1 h2
  · rw [fr (40 + c) s (by unfold P_D; omega)]; exact a7 c s h1 h2
  · rw [fr (40 + c) s (by unfold P_D; omega)]; exact a8 c s h1 h2 h3
/-- may stand there -/
def okb (hm L : Nat → Nat) (D R : Nat → Nat → Nat) (c s : Nat) : Bool := decide (¬ R c s = 0) && decide (D (hm c) s ≤ L c)
section S13
variable {nS nC : Nat} {hm L : Nat → Nat} {D R : Nat → Nat → Nat} {Q : Int32 → pd_M → Prop} {M : pd_M}
theorem X2_walkTo_w {c s : Nat} (hX : DX nS nC hm L D R M) (hc : c < nC) (hs : s < nS) (hQ : Q (nI (D (hm c) s)) M) : wX2_walkTo Q (nI c) (nI s) M := by
  obtain ⟨a1, a2, a3, a4, a5, a6, a7, a8⟩ := hX
  obtain ⟨b1, b2, b3, b4⟩ := a5 c hc
  unfold wX2_walkTo
  rw [q_cl (by omega), q_cl (by omega), b1, q_cl (by omega), (a6 (hm c) s b2 hs).1]
  exact ⟨vp_in_nI (by omega) (by decide), vp_in_nI (by omega) (by decide), vp_in_nI (by omega) (by decide), hQ⟩
theorem X2_isWithin_w {c s : Nat} (hX : DX nS nC hm L D R M) (hc : c < nC) (hs : s < 5) (h0 : ¬ (s < nS ∧ okb hm L D R c s = true) → Q 0 M) (h1 : s < nS → okb hm L D R c s = true → Q 1 M) : wX2_isWithin Q (nI c) (nI s) M := by
  obtain ⟨a1, a2, a3, a4, a5, a6, a7, a8⟩ := id hX
  obtain ⟨b1, b2, b3, b4⟩ := a5 c hc
  have v7 : vp_in (nI c) 7 := vp_in_nI (by omega) (by decide)
  unfold wX2_isWithin
  rw [q_cl (by omega), q_cl (by omega)]
  refine ⟨v7, vp_in_nI hs (by decide), ?_⟩
  by_cases q : s < nS
  · obtain ⟨r1, r2⟩ := a7 c s hc q
    rw [r1, show (0 : Int32) = nI 0 from rfl, nI_eq (by omega) (by omega)]
    refine ⟨fun e => h0 (fun q => ?_), fun ne => X2_walkTo_w hX hc q ⟨v7, ?_⟩⟩
    · have := q.2; unfold okb at this; rw [e] at this; simp at this
    · have d := (a6 (hm c) s b2 q).2
      rw [b3, n_lt (by omega) (by omega)]
      refine ⟨fun h => h0 (fun q => ?_), fun h => h1 q ?_⟩
      · have := q.2; unfold okb at this; simp at this; omega
      · unfold okb; simp; exact ⟨ne, by omega⟩
  · rw [a8 c s (by omega) hs (by omega)]
    exact q_pos rfl (h0 (fun q' => q q'.1))
end S13
