/-! the night of the model -/
def tbl (hm L : Nat → Nat) (D R : Nat → Nat → Nat) (c s : Nat) : Int32 := if okb hm L D R c s = true then nI (R c s) else 0
def DM (nS nC : Nat) (hm L : Nat → Nat) (D R : Nat → Nat → Nat) (M : pd_M) : Prop := nS ≤ 5 ∧ nC ≤ 7 ∧ M.1 82 0 = nI nS ∧ M.1 82 6 = nI nC ∧ (∀ c, c < nC → M.1 88 c = nI (hm c) ∧ hm c < nS) ∧ (∀ h s, h < nS → s < nS → M.1 86 (5 * h + s) = nI (D h s) ∧ D h s ≤ 50) ∧ (∀ c s, c < nC → s < nS → M.1 106 (5 * c + s) = tbl hm L D R c s ∧ R c s ≤ 2)
abbrev P_M (k i : Nat) : Prop := (k = 82 ∧ (i = 0 ∨ i = 6)) ∨ k = 86 ∨ k = 88 ∨ k = 106
theorem DM.fr {nS nC : Nat} {hm L : Nat → Nat} {D R : Nat → Nat → Nat} {M M' : pd_M} (h : DM nS nC hm L D R M) (fr : ∀ k i, P_M k i → M'.1 k i = M.1 k i) : DM nS nC hm L D R M' := by
  obtain ⟨a1, a2, a3, a4, a5, a6, a7⟩ := h
  refine ⟨a1, a2, ?_, ?_, fun c hc => ?_, fun h s h1 h2 => ?_, fun c s h1 h2 => ?_⟩
  · rw [fr 82 0 (by unfold P_M; omega)]; exact a3
  · rw [fr 82 6 (by unfold P_M; omega)]; exact a4
  · rw [fr 88 c (by unfold P_M; omega)]; exact a5 c hc
  · rw [fr 86 _ (by unfold P_M; omega)]; exact a6 h s h1 h2
  · rw [fr 106 _ (by unfold P_M; omega)]; exact a7 c s h1 h2
section S15
variable {nS nC : Nat} {hm L : Nat → Nat} {D R : Nat → Nat → Nat}
/-- what the model's night begins from -/
def BM (nS nC : Nat) (hm L : Nat → Nat) (D R : Nat → Nat → Nat) (zn : Nat → Nat) (hh : Nat) (M : pd_M) : Prop := nS ≤ 5 ∧ nC ≤ 7 ∧ M.1 82 0 = nI nS ∧ M.1 82 6 = nI nC ∧ (∀ c, c < nC → M.1 88 c = nI (hm c) ∧ hm c < nS ∧ M.1 91 c = nI (L c) ∧ L c < 100) ∧ (∀ h s, h < nS → s < nS → M.1 86 (5 * h + s) = nI (D h s) ∧ D h s ≤ 50) ∧ (∀ s, s < nS → M.1 83 s = nI (zn s) ∧ zn s < 4) ∧ ∀ c s, c < nC → s < nS → R c s ≤ 2 ∧ ∀ r, rgt (fM M c (zn s) hh) (M.1 90 (4 * c + zn s)) r → r = nI (R c s)
theorem q_c5' {x y : Nat} : (5 * nI x + nI y) = nI (5 * x + y) := by
  rw [show (5 : Int32) = nI 5 from rfl, pk_mul, nI_add]
theorem chF_no {key : Nat → Nat} {av : Nat → Bool} {n : Nat} (h : ¬ (av n = true ∧ (chF key av n = 9 ∨ key n < key (chF key av n)))) : chF key av (n + 1) = chF key av n := if_neg h
theorem chF_yes {key : Nat → Nat} {av : Nat → Bool} {n : Nat} (h : av n = true ∧ (chF key av n = 9 ∨ key n < key (chF key av n))) : chF key av (n + 1) = n := if_pos h
theorem l_beg37 {K : pd_M → Prop} {M0 : pd_M} {zn : Nat → Nat} {hh : Nat} {f1 : Int32} {s : Nat} (hB : BM nS nC hm L D R zn hh M0) (hs : s < nS) : ∀ (d c : Nat) (M : pd_M), frm (fun k j => k = 105 ∨ k = 106) M0 M → c + d = nC → (∀ M', frm (fun k j => k = 106 ∧ ∃ c', c ≤ c' ∧ c' < nC ∧ j = 5 * c' + s) M M' → (∀ c', c ≤ c' → c' < nC → M'.1 106 (5 * c' + s) = tbl hm L D R c' s) → K M') → lpX9_begin_37 K f1 (nI hh) (nI s) (d + 1) (nI c) M
  | 0, c, M, f0, hd, hK => by
    obtain ⟨a1, a2, a3, a4, -⟩ := id hB
    unfold lpX9_begin_37
    rw [f0 82 6 (by omega), a4, n_le (by omega) (by omega)]
    exact ⟨fun _ => hK M frm_rf (fun j h1 h2 => by omega), fun h => absurd (by omega) h⟩
  | d + 1, c, M, f0, hd, hK => by
    obtain ⟨a1, a2, a3, a4, a5, a6, a7, a8⟩ := id hB
    obtain ⟨b1, b2, b3, b4⟩ := a5 c (by omega)
    obtain ⟨z1, z2⟩ := a7 s hs
    obtain ⟨d1, d2⟩ := a6 (hm c) s b2 hs
    obtain ⟨r1, r2⟩ := a8 c s (by omega) hs
    have v7 : vp_in (nI c) 7 := vp_in_nI (by omega) (by decide)
    unfold lpX9_begin_37
    rw [f0 82 6 (by omega), a4, n_le (by omega) (by omega), q_cl (show s < 2 ^ 31 by omega), f0 83 s (by omega), z1]
    refine ⟨fun h => absurd h (by omega), fun _ => ⟨vp_in_nI (by omega) (by decide), X9_mayIn_w (by omega) z2 (fun r hr => ?_)⟩⟩
    rw [f0 90 _ (by omega)] at hr
    have er := r2 r (rgt_cg hr (fM_fr (fun k i q => f0 k i (by omega))))
    subst er
    rw [q_cl (by omega), f0 88 c (by omega), b1, q_c5 (by omega) (by omega), q_cl (by omega), f0 86 _ (by omega), d1, f0 91 c (by omega), b3, n_le (by omega) (by omega), q_c5' ]
    have v35 : vp_in (nI (5 * c + s)) 35 := vp_in_nI (by omega) (by decide)
    have go : ∀ v, v = tbl hm L D R c s → ∀ M1, M1 = sI M 106 (nI (5 * c + s)).toNatClampNeg v → ∀ x, x = nI c + 1 → lpX9_begin_37 K f1 (nI hh) (nI s) (d + 1) x M1 := fun v hv M1 e1 x ex => by
      rw [q_cl (by omega)] at e1
      rw [nI_1] at ex
      subst ex e1
      refine l_beg37 hB hs d (c + 1) _ (fun k j q => by rw [sI_ni (by omega)]; exact f0 k j q) (by omega) (fun M' hf hw => hK M' (frm_sI (frm_mono hf (fun k j ⟨h, c', h1, h2, h3⟩ => ⟨h, c', by omega, h2, h3⟩)) ⟨rfl, c, by omega, by omega, rfl⟩) (fun c' h1 h2 => ?_))
      by_cases e : c' = c
      · subst e; rw [hf 106 _ (by rintro ⟨-, c2, h3, h4, h5⟩; omega), sI_hit]; exact hv
      · exact hw c' (by omega) h2
    refine ⟨v7, vp_in_nI (by omega) (by decide), v7, fun h => ⟨v35, go _ ?_⟩, fun h => ⟨v35, go _ ?_⟩⟩
    · unfold tbl okb
      by_cases q : R c s = 0
      · rw [if_neg (by simp [q]), q]; rfl
      · rw [if_pos (by simp [q, h])]
    · unfold tbl okb
      rw [if_neg (by simp [h])]
theorem l_beg2 {K : pd_M → Prop} {M0 : pd_M} {zn b cl : Nat → Nat} {hh nt : Nat} (hB : BM nS nC hm L D R zn hh M0) (hnt : nt < 7) (hb : ∀ s, s < nS → M0.1 84 s = nI (b s) ∧ M0.1 85 (7 * s + nt) = nI (cl s) ∧ cl s ≤ b s ∧ b s ≤ 5) : ∀ (d s : Nat) (M : pd_M), frm (fun k j => k = 105 ∨ k = 106) M0 M → s + d = nS → (∀ M', frm (fun k j => (k = 105 ∧ s ≤ j ∧ j < nS) ∨ (k = 106 ∧ ∃ c s', c < nC ∧ s ≤ s' ∧ s' < nS ∧ j = 5 * c + s')) M M' → (∀ s', s ≤ s' → s' < nS → M'.1 105 s' = nI (b s' - cl s') ∧ ∀ c, c < nC → M'.1 106 (5 * c + s') = tbl hm L D R c s') → K M') → lpX9_begin_2 K (nI nt) (nI hh) (d + 1) (nI s) M
  | 0, s, M, f0, hd, hK => by
    obtain ⟨a1, a2, a3, a4, -⟩ := id hB
    unfold lpX9_begin_2
    rw [f0 82 0 (by omega), a3, n_le (by omega) (by omega)]
    exact ⟨fun _ => hK M frm_rf (fun j h1 h2 => by omega), fun h => absurd (by omega) h⟩
  | d + 1, s, M, f0, hd, hK => by
    obtain ⟨a1, a2, a3, a4, -⟩ := id hB
    obtain ⟨b1, b2, b3, b4⟩ := hb s (by omega)
    unfold lpX9_begin_2
    rw [f0 82 0 (by omega), a3, n_le (by omega) (by omega), q_c7, q_cl (by omega), q_cl (by omega), f0 84 s (by omega), f0 85 _ (by omega), b1, b2, n_sub b3 (by omega)]
    have v5 : vp_in (nI s) 5 := vp_in_nI (by omega) (by decide)
    refine ⟨fun h => absurd h (by omega), fun _ => ⟨v5, vp_in_nI (by omega) (by decide), v5, fun M1 e1 => ⟨nC + 1, ?_⟩⟩⟩
    subst e1
    refine l_beg37 hB (by omega) nC 0 _ (fun k j q => by rw [sI_ni (by omega)]; exact f0 k j q) (by omega) (fun M2 f2 v2 x ex => ?_)
    rw [nI_1] at ex
    subst ex
    refine l_beg2 hB hnt hb d (s + 1) M2 (fun k j q => ?_) (by omega) (fun M' hf hv => hK M' (fun k j q => ?_) (fun s' h1 h2 => ?_))
    · rw [f2 k j (by omega), sI_ni (by omega)]; exact f0 k j q
    · rw [hf k j (fun h => q (h.elim (fun h => Or.inl (by omega)) (fun ⟨h, c, s', h1, h2, h3, h4⟩ => Or.inr ⟨h, c, s', h1, by omega, h3, h4⟩))), f2 k j (fun ⟨h, c, h1, h2, h3⟩ => q (Or.inr ⟨h, c, s, h2, by omega, by omega, h3⟩)), sI_ni (by omega)]
    · by_cases e : s' = s
      · subst e
        refine ⟨?_, fun c hc => ?_⟩
        · rw [hf 105 s' (by rintro (h | ⟨h, -⟩) <;> omega), f2 105 s' (by rintro ⟨h, -⟩; omega), sI_hit]
        · rw [hf 106 _ (by rintro (h | ⟨-, c2, s2, h3, h4, h5, h6⟩) <;> omega)]; exact v2 c (by omega) hc
      · exact hv s' (by omega) h2
theorem X9_begin_w {Q : pd_M → Prop} {M : pd_M} {zn b cl : Nat → Nat} {hh nt : Nat} (hB : BM nS nC hm L D R zn hh M) (hnt : nt < 7) (hb : ∀ s, s < nS → M.1 84 s = nI (b s) ∧ M.1 85 (7 * s + nt) = nI (cl s) ∧ cl s ≤ b s ∧ b s ≤ 5) (hQ : ∀ M', frm (fun k j => k = 105 ∨ k = 106) M M' → DM nS nC hm L D R M' → (∀ s, s < nS → M'.1 105 s = nI (b s - cl s)) → Q M') : wX9_begin Q (nI nt) (nI hh) M := by
  refine ⟨nS + 1, l_beg2 hB hnt hb nS 0 M frm_rf (by omega) (fun M' hf hv => ?_)⟩
  have hf' : frm (fun k j => k = 105 ∨ k = 106) M M' := frm_mono hf (fun k j h => h.elim (fun h => Or.inl h.1) (fun h => Or.inr h.1))
  refine hQ M' hf' ?_ (fun s hs => (hv s (by omega) hs).1)
  obtain ⟨a1, a2, a3, a4, a5, a6, a7, a8⟩ := hB
  refine ⟨a1, a2, ?_, ?_, fun c hc => ?_, fun h s h1 h2 => ?_, fun c s h1 h2 => ⟨(hv s (by omega) h2).2 c h1, (a8 c s h1 h2).1⟩⟩
  · rw [hf' 82 0 (by omega)]; exact a3
  · rw [hf' 82 6 (by omega)]; exact a4
  · rw [hf' 88 c (by omega)]; exact ⟨(a5 c hc).1, (a5 c hc).2.1⟩
  · rw [hf' 86 _ (by omega)]; exact a6 h s h1 h2
theorem l_one {K : Int32 → pd_M → Prop} {M : pd_M} {c : Nat} {lf : Nat → Nat} (hX : DM nS nC hm L D R M) (hc : c < nC) (hl : ∀ s, s < nS → M.1 105 s = nI (lf s) ∧ lf s ≤ 5) (hK : K (nI (pN nS (chF (kyF hm D R c) (avl nS (okb hm L D R) lf c) nS))) M) : ∀ (d i : Nat) (v2 v3 : Int32), v2 = nI (pN nS (chF (kyF hm D R c) (avl nS (okb hm L D R) lf c) i)) → v3 = nI (if chF (kyF hm D R c) (avl nS (okb hm L D R) lf c) i = 9 then 1000000 else kyF hm D R c (chF (kyF hm D R c) (avl nS (okb hm L D R) lf c) i)) → i + d = nS → lpX9_parkOne_11 K (nI c) (d + 1) v2 v3 (nI i) M
  | 0, i, v2, v3, e2, e3, hd => by
    obtain ⟨a1, a2, a3, a4, -⟩ := id hX
    obtain rfl : i = nS := by omega
    subst e2
    unfold lpX9_parkOne_11
    rw [a3, n_le (by omega) (by omega)]
    exact ⟨fun _ => hK, fun h => absurd (by omega) h⟩
  | d + 1, i, v2, v3, e2, e3, hd => by
    obtain ⟨a1, a2, a3, a4, a5, a6, a7⟩ := id hX
    obtain ⟨b1, b2⟩ := a5 c hc
    obtain ⟨d1, d2⟩ := a6 (hm c) i b2 (by omega)
    obtain ⟨r1, r2⟩ := a7 c i hc (by omega)
    obtain ⟨l1, l2⟩ := hl i (by omega)
    have skip : avl nS (okb hm L D R) lf c i = false → ∀ x, x = nI i + 1 → lpX9_parkOne_11 K (nI c) (d + 1) v2 v3 x M := fun hn x ex => by
      rw [nI_1] at ex; subst ex
      refine l_one hX hc hl hK d (i + 1) v2 v3 ?_ ?_ (by omega)
      · rw [chF_no (fun q => by rw [hn] at q; exact absurd q.1 (by decide))]; exact e2
      · rw [chF_no (fun q => by rw [hn] at q; exact absurd q.1 (by decide))]; exact e3
    have keep : ¬ (chF (kyF hm D R c) (avl nS (okb hm L D R) lf c) i = 9 ∨ kyF hm D R c i < kyF hm D R c (chF (kyF hm D R c) (avl nS (okb hm L D R) lf c) i)) → ∀ x, x = nI i + 1 → lpX9_parkOne_11 K (nI c) (d + 1) v2 v3 x M := fun h2 x ex => by
      rw [nI_1] at ex; subst ex
      refine l_one hX hc hl hK d (i + 1) v2 v3 ?_ ?_ (by omega)
      · rw [chF_no (fun q => h2 q.2)]; exact e2
      · rw [chF_no (fun q => h2 q.2)]; exact e3
    have take : avl nS (okb hm L D R) lf c i = true → (chF (kyF hm D R c) (avl nS (okb hm L D R) lf c) i = 9 ∨ kyF hm D R c i < kyF hm D R c (chF (kyF hm D R c) (avl nS (okb hm L D R) lf c) i)) → ∀ v, v = nI (kyF hm D R c i) → ∀ x, x = nI i + 1 → lpX9_parkOne_11 K (nI c) (d + 1) (nI i) v x M := fun hn h2 v ev x ex => by
      rw [nI_1] at ex; subst ex
      refine l_one hX hc hl hK d (i + 1) _ _ ?_ ?_ (by omega)
      · rw [chF_yes ⟨hn, h2⟩]; unfold pN; rw [if_neg (by omega)]
      · rw [chF_yes ⟨hn, h2⟩, if_neg (by omega)]; exact ev
    have kb : kyF hm D R c i ≤ 101 := by unfold kyF; split <;> omega
    have hav0 : okb hm L D R c i = false → avl nS (okb hm L D R) lf c i = false := fun h => by
      cases hav : avl nS (okb hm L D R) lf c i with
      | false => rfl
      | true => rw [avl_iff, h] at hav; exact absurd hav.2.1 (by decide)
    have hav1 : lf i = 0 → avl nS (okb hm L D R) lf c i = false := fun h => by
      cases hav : avl nS (okb hm L D R) lf c i with
      | false => rfl
      | true => rw [avl_iff] at hav; omega
    have hkey : okb hm L D R c i = true → 0 < lf i → ∀ v, v = nI (kyF hm D R c i) → (v3 ≤ v → ∀ x, x = nI i + 1 → lpX9_parkOne_11 K (nI c) (d + 1) v2 v3 x M) ∧ (¬ v3 ≤ v → ∀ x, x = nI i + 1 → lpX9_parkOne_11 K (nI c) (d + 1) (nI i) v x M) := fun ho hlf v ev => by
      have hav := avl_iff.mpr ⟨show i < nS by omega, ho, hlf⟩
      rcases chF_lt (kyF hm D R c) (avl nS (okb hm L D R) lf c) i with e9 | lt
      · rw [e3, e9, if_pos rfl, ev, n_le (by omega) (by omega)]
        refine ⟨fun h => absurd h (by omega), fun _ => ?_⟩
        exact take hav (Or.inl e9) _ rfl
      · have hb2 : ∀ r, r < i → kyF hm D R c r ≤ 101 := fun r hr => by
          have := (a6 (hm c) r b2 (by omega)).2
          unfold kyF; split <;> omega
        have := hb2 _ lt
        rw [ev]
        refine ⟨fun h => keep (fun q => ?_), fun h => take hav (Or.inr ?_) _ rfl⟩
        · rw [e3, if_neg (by omega), n_le (by omega) (by omega)] at h
          rcases q with q | q <;> omega
        · rw [e3, if_neg (by omega), n_le (by omega) (by omega)] at h
          omega
    unfold lpX9_parkOne_11
    rw [a3, n_le (by omega) (by omega), q_c5', q_cl (by omega), q_cl (by omega), b1, q_c5', q_cl (by omega), q_cl (by omega), d1, r1, l1]
    have v5 : vp_in (nI i) 5 := vp_in_nI (by omega) (by decide)
    refine ⟨fun h => absurd h (by omega), fun _ => ⟨vp_in_nI (by omega) (by decide), fun x5 e5 => ⟨vp_in_nI (by omega) (by decide), vp_in_nI (by omega) (by decide), fun n2 x6 e6 => ⟨fun h0 => skip (hav0 ?_), fun h0 => ⟨v5, fun hl0 => skip (hav1 ?_), fun hl0 => ?_⟩⟩, fun n2 x6 e6 => ⟨fun h0 => ?_, fun h0 => ⟨v5, fun hl0 => skip (hav1 ?_), fun hl0 => ?_⟩⟩⟩⟩⟩
    · subst e5
      unfold tbl at h0
      cases ho : okb hm L D R c i with
      | false => rfl
      | true =>
        rw [ho, if_pos rfl, show (0 : Int32) = nI 0 from rfl, n_le (by omega) (by omega)] at h0
        unfold okb at ho
        simp at ho
        omega
    · rw [show (0 : Int32) = nI 0 from rfl, n_le (by omega) (by omega)] at hl0; omega
    · rw [show (0 : Int32) = nI 0 from rfl, n_le (by omega) (by omega)] at hl0
      subst e5
      have ho : okb hm L D R c i = true := by
        cases ho : okb hm L D R c i with
        | true => rfl
        | false => unfold tbl at h0; rw [ho, if_neg (by decide)] at h0; exact absurd (by decide) h0
      have hr2 : ¬ R c i = 2 := fun e => n2 (by unfold tbl; rw [ho, if_pos rfl, e]; rfl)
      refine hkey ho (by omega) x6 ?_
      rw [e6, show (2 : Int32) = nI 2 from rfl, pk_mul, nI_1]
      unfold kyF
      rw [if_neg hr2]
    · subst e5
      exact absurd h0 (by rw [n2]; decide)
    · rw [show (0 : Int32) = nI 0 from rfl, n_le (by omega) (by omega)] at hl0; omega
    · rw [show (0 : Int32) = nI 0 from rfl, n_le (by omega) (by omega)] at hl0
      subst e5
      have ho : okb hm L D R c i = true := by
        cases ho : okb hm L D R c i with
        | true => rfl
        | false => unfold tbl at h0; rw [ho, if_neg (by decide)] at h0; exact absurd (by decide) h0
      have hr2 : R c i = 2 := by
        unfold tbl at n2; rw [ho, if_pos rfl] at n2
        exact q_inj (b := 2) (by omega) (by omega) n2
      refine hkey ho (by omega) x6 ?_
      rw [e6, show (2 : Int32) = nI 2 from rfl, pk_mul, Int32.add_zero]
      unfold kyF
      rw [if_pos hr2, Nat.add_zero]
theorem X9_parkOne_w {Q : pd_M → Prop} {M : pd_M} {c : Nat} {lf : Nat → Nat} (hX : DM nS nC hm L D R M) (hc : c < nC) (hl : ∀ s, s < nS → M.1 105 s = nI (lf s) ∧ lf s ≤ 5) (hQ : ∀ M', frm (fun k j => (k = 104 ∧ j = c) ∨ (k = 105 ∧ j < nS)) M M' → M'.1 104 c = nI (pN nS (chF (kyF hm D R c) (avl nS (okb hm L D R) lf c) nS)) → (∀ s, s < nS → M'.1 105 s = nI (if s = chF (kyF hm D R c) (avl nS (okb hm L D R) lf c) nS then lf s - 1 else lf s)) → Q M') : wX9_parkOne Q (nI c) M := by
  obtain ⟨a1, a2, a3, a4, -⟩ := id hX
  intro x ex
  rw [a3] at ex
  subst ex
  refine ⟨nS + 1, l_one hX hc hl ?_ nS 0 _ _ ?_ ?_ (by omega)⟩
  · refine ⟨vp_in_nI (by omega) (by decide), fun M1 e1 => ?_⟩
    rw [q_cl (by omega)] at e1
    have g82 : M1.1 82 0 = nI nS := by rw [e1, sI_ni (by omega)]; exact a3
    have hr := chF_lt (kyF hm D R c) (avl nS (okb hm L D R) lf c) nS
    have hav := chF_av (kyF hm D R c) (avl nS (okb hm L D R) lf c) nS
    generalize chF (kyF hm D R c) (avl nS (okb hm L D R) lf c) nS = r at *
    have hp : pN nS r ≤ nS := by unfold pN; split <;> omega
    rw [g82, n_le (by omega) (by omega), q_cl (by omega)]
    refine ⟨fun h => hQ M1 ?_ ?_ (fun s hs => ?_), fun h => ⟨vp_in_nI (by omega) (by decide), vp_in_nI (by omega) (by decide), fun M2 e2 => hQ M2 ?_ ?_ (fun s hs => ?_)⟩⟩
    · rw [e1]; exact frm_sI frm_rf (Or.inl ⟨rfl, rfl⟩)
    · rw [e1, sI_hit]
    · have : r = 9 := by unfold pN at h; split at h <;> omega
      rw [if_neg (by omega), e1, sI_ni (by omega)]; exact (hl s hs).1
    · rw [e2, e1]; exact frm_sI (frm_sI frm_rf (Or.inr ⟨rfl, by omega⟩)) (Or.inl ⟨rfl, rfl⟩)
    · rw [e2, sI_ni (by omega), e1, sI_hit]
    · have hne : r ≠ 9 := fun e => by unfold pN at h; rw [if_pos e] at h; omega
      have ep : pN nS r = r := by unfold pN; rw [if_neg hne]
      rw [ep] at e2
      by_cases e : s = r
      · subst e
        have hpos := (avl_iff.mp (hav.resolve_left hne)).2.2
        have := (hl s hs).2
        rw [if_pos rfl, e2, sI_hit, e1, sI_ni (by omega), (hl s hs).1, show (1 : Int32) = nI 1 from rfl, n_sub (by omega) (by omega)]
      · rw [if_neg e, e2, sI_ni (by omega), e1, sI_ni (by omega)]; exact (hl s hs).1
  · rfl
  · rfl
theorem l_night {K : pd_M → Prop} {ord cap : Nat → Nat} (ho : ∀ i, i < nC → ord i < nC) (hinj : ∀ i j, i < nC → j < nC → ord i = ord j → i = j) (hcap : ∀ s, s < nS → cap s ≤ 5) : ∀ (d i : Nat) (M : pd_M), DM nS nC hm L D R M → (∀ j, j < nC → M.1 92 j = nI (ord j)) → (∀ s, s < nS → M.1 105 s = nI ((ngt nS ord (kyF hm D R) (okb hm L D R) cap i).1 s)) → (∀ j, j < i → M.1 104 (ord j) = nI (pN nS ((ngt nS ord (kyF hm D R) (okb hm L D R) cap i).2 (ord j)))) → i + d = nC → (∀ M', frm (fun k j => k = 104 ∨ k = 105) M M' → (∀ j, j < nC → M'.1 104 (ord j) = nI (pN nS ((ngt nS ord (kyF hm D R) (okb hm L D R) cap nC).2 (ord j)))) → K M') → lpX9_parkNight_8 K (d + 1) (nI i) M
  | 0, i, M, hX, h92, hl, hp, hd, hK => by
    have n7 := hX.2.1
    unfold lpX9_parkNight_8
    rw [hX.2.2.2.1, n_le (by omega) (by omega)]
    obtain rfl : i = nC := by omega
    exact ⟨fun _ => hK M frm_rf hp, fun h => absurd (by omega) h⟩
  | d + 1, i, M, hX, h92, hl, hp, hd, hK => by
    have n5 := hX.1
    have n7 := hX.2.1
    have hoi := ho i (by omega)
    unfold lpX9_parkNight_8
    rw [hX.2.2.2.1, n_le (by omega) (by omega), q_cl (by omega), h92 i (by omega)]
    refine ⟨fun h => absurd h (by omega), fun _ => ⟨vp_in_nI (by omega) (by decide), ?_⟩⟩
    refine X9_parkOne_w hX hoi (fun s hs => ⟨hl s hs, Nat.le_trans (ngt_le nS ord _ _ cap s i) (hcap s hs)⟩) (fun M1 f1 e1 v1 x ex => ?_)
    rw [nI_1] at ex
    subst ex
    refine l_night ho hinj hcap d (i + 1) M1 (hX.fr (fun k j q => f1 k j (by unfold P_M at q; omega))) (fun j hj => by rw [f1 92 j (by omega)]; exact h92 j hj) (fun s hs => v1 s hs) (fun j hj => ?_) (by omega) (fun M' hf hv => hK M' (fun k j q => by rw [hf k j q, f1 k j (by omega)]) hv)
    show M1.1 104 (ord j) = nI (pN nS (if ord j = ord i then _ else _))
    by_cases e : j = i
    · subst e; rw [if_pos rfl]; exact e1
    · have hne : ord j ≠ ord i := fun q => e (hinj j i (by omega) (by omega) q)
      rw [if_neg hne, f1 104 (ord j) (by omega)]; exact hp j (by omega)
end S15
