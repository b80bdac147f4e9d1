/-- the best of those that are to be had -/
def chF (key : Nat → Nat) (av : Nat → Bool) : Nat → Nat
  | 0 => 9
  | n + 1 => if av n = true ∧ (chF key av n = 9 ∨ key n < key (chF key av n)) then n else chF key av n
theorem chF_lt (key : Nat → Nat) (av : Nat → Bool) : ∀ n, chF key av n = 9 ∨ chF key av n < n
  | 0 => Or.inl rfl
  | n + 1 => by
    unfold chF
    split
    · right; omega
    · rcases chF_lt key av n with h | h
      · exact Or.inl h
      · right; omega
theorem chF_av (key : Nat → Nat) (av : Nat → Bool) : ∀ n, chF key av n = 9 ∨ av (chF key av n) = true
  | 0 => Or.inl rfl
  | n + 1 => by
    unfold chF
    split
    · rename_i h; exact Or.inr h.1
    · exact chF_av key av n
theorem chF_ext (key : Nat → Nat) (av : Nat → Bool) (n : Nat) (h : ∀ s, n ≤ s → av s = false) : ∀ d, chF key av (n + d) = chF key av n
  | 0 => rfl
  | d + 1 => by
    show (if av (n + d) = true ∧ (chF key av (n + d) = 9 ∨ key (n + d) < key (chF key av (n + d))) then n + d else chF key av (n + d)) = _
    rw [if_neg (by rw [h (n + d) (by omega)]; simp)]
    exact chF_ext key av n h d
def pN (e r : Nat) : Nat := if r = 9 then e else r
def kyF (hm : Nat → Nat) (D R : Nat → Nat → Nat) (c s : Nat) : Nat := 2 * D (hm c) s + (if R c s = 2 then 0 else 1)
def avl (nS : Nat) (ok : Nat → Nat → Bool) (lf : Nat → Nat) (c s : Nat) : Bool := decide (s < nS) && ok c s && decide (0 < lf s)
theorem avl_iff {nS : Nat} {ok : Nat → Nat → Bool} {lf : Nat → Nat} {c s : Nat} : avl nS ok lf c s = true ↔ s < nS ∧ ok c s = true ∧ 0 < lf s := by
  unfold avl
  simp [and_assoc]
/-- the night in turn: what is left, and who stands where -/
def ngt (nS : Nat) (ord : Nat → Nat) (key : Nat → Nat → Nat) (ok : Nat → Nat → Bool) (cap : Nat → Nat) : Nat → (Nat → Nat) × (Nat → Nat)
  | 0 => (cap, fun _ => 9)
  | i + 1 => (fun s => if s = chF (key (ord i)) (avl nS ok (ngt nS ord key ok cap i).1 (ord i)) nS then (ngt nS ord key ok cap i).1 s - 1 else (ngt nS ord key ok cap i).1 s, fun x => if x = ord i then chF (key (ord i)) (avl nS ok (ngt nS ord key ok cap i).1 (ord i)) nS else (ngt nS ord key ok cap i).2 x)
theorem ngt_le (nS : Nat) (ord : Nat → Nat) (key : Nat → Nat → Nat) (ok : Nat → Nat → Bool) (cap : Nat → Nat) (s : Nat) : ∀ i, (ngt nS ord key ok cap i).1 s ≤ cap s
  | 0 => Nat.le_refl _
  | i + 1 => by
    have := ngt_le nS ord key ok cap s i
    unfold ngt
    dsimp only
    split <;> omega
theorem ngt_ok (nS : Nat) (ord : Nat → Nat) (key : Nat → Nat → Nat) (ok : Nat → Nat → Bool) (cap : Nat → Nat) (x : Nat) : ∀ i, (ngt nS ord key ok cap i).2 x = 9 ∨ ((ngt nS ord key ok cap i).2 x < nS ∧ ok x ((ngt nS ord key ok cap i).2 x) = true)
  | 0 => Or.inl rfl
  | i + 1 => by
    unfold ngt
    dsimp only
    split
    · rename_i e
      subst e
      rcases chF_av (key (ord i)) (avl nS ok (ngt nS ord key ok cap i).1 (ord i)) nS with h | h
      · exact Or.inl h
      · rw [avl_iff] at h
        exact Or.inr ⟨h.1, h.2.1⟩
    · exact ngt_ok nS ord key ok cap x i
section S14
variable {nS nC : Nat} {hm L : Nat → Nat} {D R : Nat → Nat → Nat}
theorem X2_isBetter_w {Q : Int32 → pd_M → Prop} {M : pd_M} {c s t : Nat} (hX : DX nS nC hm L D R M) (hc : c < nC) (hs : s < nS) (ht : t < nS) (os : okb hm L D R c s = true) (ot : okb hm L D R c t = true) (h1 : kyF hm D R c s < kyF hm D R c t → Q 1 M) (h0 : ¬ kyF hm D R c s < kyF hm D R c t → Q 0 M) : wX2_isBetter Q (nI c) (nI s) (nI t) M := by
  obtain ⟨a1, a2, a3, a4, a5, a6, a7, a8⟩ := id hX
  obtain ⟨b1, b2, b3, b4⟩ := a5 c hc
  obtain ⟨r1, r2⟩ := a7 c s hc hs
  obtain ⟨r3, r4⟩ := a7 c t hc ht
  have d1 := (a6 (hm c) s b2 hs).2
  have d2 := (a6 (hm c) t b2 ht).2
  have v7 : vp_in (nI c) 7 := vp_in_nI (by omega) (by decide)
  unfold okb at os ot
  simp at os ot
  unfold kyF at h1 h0
  refine X2_walkTo_w hX hc hs (X2_walkTo_w hX hc ht ?_)
  rw [n_lt (by omega) (by omega), nI_eq (by omega) (by omega), q_cl (by omega), q_cl (by omega), q_cl (by omega), r1, r3, n_le (by omega) (by omega)]
  refine ⟨fun h => h1 (by split <;> split <;> omega), fun h => ⟨fun ne => h0 (by split <;> split <;> omega), fun e => ⟨v7, vp_in_nI (by omega) (by decide), v7, vp_in_nI (by omega) (by decide), fun h2 => h0 ?_, fun h2 => h1 ?_⟩⟩⟩
  · split <;> split <;> omega
  · split <;> split <;> omega
theorem l_choose {K : Int32 → pd_M → Prop} {M : pd_M} {c : Nat} {lf : Nat → Nat} (hX : DX nS nC hm L D R M) (hc : c < nC) (hl : ∀ s, s < nS → M.1 47 s = nI (lf s) ∧ lf s ≤ 5) (hz : ∀ s, nS ≤ s → s < 5 → M.1 47 s = 0) (hK : K (nI (pN 5 (chF (kyF hm D R c) (avl nS (okb hm L D R) lf c) 5))) M) : ∀ (d i : Nat), i + d = 5 → lpX2_choose_4 K (nI c) (d + 1) (nI (pN 5 (chF (kyF hm D R c) (avl nS (okb hm L D R) lf c) i))) (nI i) M
  | 0, i, hd => by
    obtain rfl : i = 5 := by omega
    refine ⟨fun _ => hK, fun h => absurd ?_ h⟩
    rw [show (5 : Int32) = nI 5 from rfl, n_le (by omega) (by omega)]; omega
  | d + 1, i, hd => by
    have n5 := hX.1
    have skip : avl nS (okb hm L D R) lf c i = false → ∀ x, x = nI i + 1 → lpX2_choose_4 K (nI c) (d + 1) (nI (pN 5 (chF (kyF hm D R c) (avl nS (okb hm L D R) lf c) i))) x M := fun hn x ex => by
      rw [nI_1] at ex; subst ex
      have := l_choose hX hc hl hz hK d (i + 1) (by omega)
      unfold chF at this
      rw [if_neg (by rw [hn]; simp)] at this
      exact this
    have keep : avl nS (okb hm L D R) lf c i = true → ¬ (chF (kyF hm D R c) (avl nS (okb hm L D R) lf c) i = 9 ∨ kyF hm D R c i < kyF hm D R c (chF (kyF hm D R c) (avl nS (okb hm L D R) lf c) i)) → ∀ x, x = nI i + 1 → lpX2_choose_4 K (nI c) (d + 1) (nI (pN 5 (chF (kyF hm D R c) (avl nS (okb hm L D R) lf c) i))) x M := fun hn h2 x ex => by
      rw [nI_1] at ex; subst ex
      have := l_choose hX hc hl hz hK d (i + 1) (by omega)
      unfold chF at this
      rw [if_neg (fun q => h2 q.2)] at this
      exact this
    have take : avl nS (okb hm L D R) lf c i = true → (chF (kyF hm D R c) (avl nS (okb hm L D R) lf c) i = 9 ∨ kyF hm D R c i < kyF hm D R c (chF (kyF hm D R c) (avl nS (okb hm L D R) lf c) i)) → ∀ x, x = nI i + 1 → lpX2_choose_4 K (nI c) (d + 1) (nI i) x M := fun hn h2 x ex => by
      rw [nI_1] at ex; subst ex
      have := l_choose hX hc hl hz hK d (i + 1) (by omega)
      unfold chF at this
      rw [if_pos ⟨hn, h2⟩] at this
      unfold pN at this
      rw [if_neg (by omega)] at this
      exact this
    refine ⟨fun h => absurd h ?_, fun _ => ⟨vp_in_nI (by omega) (by decide), ?_⟩⟩
    · rw [show (5 : Int32) = nI 5 from rfl, n_le (by omega) (by omega)]; omega
    rw [q_cl (by omega)]
    by_cases q : i < nS
    · obtain ⟨l1, l2⟩ := hl i q
      rw [l1, show (0 : Int32) = nI 0 from rfl, n_le (by omega) (by omega)]
      refine ⟨fun h => skip ?_, fun h => ?_⟩
      · cases hav : avl nS (okb hm L D R) lf c i with
        | false => rfl
        | true => rw [avl_iff] at hav; omega
      · refine X2_isWithin_w hX hc (by omega) (fun hn => q_z0 (skip ?_)) (fun h1 h2 => q_z1 ?_)
        · cases hav : avl nS (okb hm L D R) lf c i with
          | false => rfl
          | true => rw [avl_iff] at hav; exact absurd ⟨hav.1, hav.2.1⟩ hn
        · have hav : avl nS (okb hm L D R) lf c i = true := avl_iff.mpr ⟨h1, h2, by omega⟩
          rcases chF_lt (kyF hm D R c) (avl nS (okb hm L D R) lf c) i with e9 | lt
          · rw [e9] at keep take skip ⊢
            exact q_pos rfl (take hav (Or.inl rfl))
          · have hne : chF (kyF hm D R c) (avl nS (okb hm L D R) lf c) i ≠ 9 := by omega
            have ha := (chF_av (kyF hm D R c) (avl nS (okb hm L D R) lf c) i).resolve_left hne
            rw [avl_iff] at ha
            generalize chF (kyF hm D R c) (avl nS (okb hm L D R) lf c) i = r at *
            have ep : pN 5 r = r := by unfold pN; rw [if_neg hne]
            rw [ep] at keep skip ⊢
            refine q_neg ?_ (X2_isBetter_w hX hc h1 ha.1 h2 ha.2.1 (fun hb => q_z1 (take hav (Or.inr hb))) (fun hb => q_z0 (keep hav (fun q => q.elim hne hb))))
            rw [show (5 : Int32) = nI 5 from rfl, nI_eq (by omega) (by omega)]; omega
    · rw [hz i (by omega) (by omega)]
      refine q_pos (by decide) (skip ?_)
      cases hav : avl nS (okb hm L D R) lf c i with
      | false => rfl
      | true => rw [avl_iff] at hav; omega
theorem X2_choose_w {Q : Int32 → pd_M → Prop} {M : pd_M} {c : Nat} {lf : Nat → Nat} (hX : DX nS nC hm L D R M) (hc : c < nC) (hl : ∀ s, s < nS → M.1 47 s = nI (lf s) ∧ lf s ≤ 5) (hz : ∀ s, nS ≤ s → s < 5 → M.1 47 s = 0) (hQ : Q (nI (pN 5 (chF (kyF hm D R c) (avl nS (okb hm L D R) lf c) nS))) M) : wX2_choose Q (nI c) M := by
  refine ⟨6, l_choose hX hc hl hz ?_ 5 0 (by omega)⟩
  have n5 := hX.1
  have e := chF_ext (kyF hm D R c) (avl nS (okb hm L D R) lf c) nS (fun s hs => by
    cases hav : avl nS (okb hm L D R) lf c s with
    | false => rfl
    | true => rw [avl_iff] at hav; omega) (5 - nS)
  rw [show nS + (5 - nS) = 5 by omega] at e
  rw [e]
  exact hQ
theorem l_home {K : pd_M → Prop} {ord cap : Nat → Nat} (ho : ∀ i, i < nC → ord i < nC) (hinj : ∀ i j, i < nC → j < nC → ord i = ord j → i = j) (hcap : ∀ s, s < nS → cap s ≤ 5) : ∀ (d i : Nat) (M : pd_M), DX nS nC hm L D R M → (∀ j, j < nC → M.1 36 j = nI (ord j)) → (∀ s, s < nS → M.1 47 s = nI ((ngt nS ord (kyF hm D R) (okb hm L D R) cap i).1 s)) → (∀ s, nS ≤ s → s < 5 → M.1 47 s = 0) → (∀ j, j < i → M.1 38 (ord j) = nI (pN 5 ((ngt nS ord (kyF hm D R) (okb hm L D R) cap i).2 (ord j)))) → i + d = nC → (∀ M', frm (fun k j => (k = 38 ∧ j < nC) ∨ (k = 47 ∧ (j < nS ∨ j = 5))) M M' → (∀ j, j < nC → M'.1 38 (ord j) = nI (pN 5 ((ngt nS ord (kyF hm D R) (okb hm L D R) cap nC).2 (ord j)))) → K M') → lpX2_comeHome_2 K (d + 1) (nI i) M
  | 0, i, M, hX, h36, hl, hz, hp, hd, hK => by
    have n7 := hX.2.1
    unfold lpX2_comeHome_2
    rw [hX.2.2.2.1, n_le (by omega) (by omega)]
    obtain rfl : i = nC := by omega
    exact ⟨fun _ => hK M frm_rf hp, fun h => absurd (by omega) h⟩
  | d + 1, i, M, hX, h36, hl, hz, hp, hd, hK => by
    have n5 := hX.1
    have n7 := hX.2.1
    have hoi := ho i (by omega)
    unfold lpX2_comeHome_2
    rw [hX.2.2.2.1, n_le (by omega) (by omega), q_cl (by omega), h36 i (by omega)]
    refine ⟨fun h => absurd h (by omega), fun _ => ⟨vp_in_nI (by omega) (by decide), fun x ex => ?_⟩⟩
    subst ex
    have v7 : vp_in (nI (ord i)) 7 := vp_in_nI (by omega) (by decide)
    refine X2_choose_w hX hoi (fun s hs => ⟨hl s hs, Nat.le_trans (ngt_le nS ord _ _ cap s i) (hcap s hs)⟩) hz ⟨v7, fun M1 e1 => ⟨v7, ?_⟩⟩
    rw [q_cl (by omega)] at e1 ⊢
    have e38 : M1.1 38 (ord i) = nI (pN 5 (chF (kyF hm D R (ord i)) (avl nS (okb hm L D R) (ngt nS ord (kyF hm D R) (okb hm L D R) cap i).1 (ord i)) nS)) := by rw [e1, sI_hit]
    have hr := chF_lt (kyF hm D R (ord i)) (avl nS (okb hm L D R) (ngt nS ord (kyF hm D R) (okb hm L D R) cap i).1 (ord i)) nS
    have hav := chF_av (kyF hm D R (ord i)) (avl nS (okb hm L D R) (ngt nS ord (kyF hm D R) (okb hm L D R) cap i).1 (ord i)) nS
    have hpl : pN 5 (chF (kyF hm D R (ord i)) (avl nS (okb hm L D R) (ngt nS ord (kyF hm D R) (okb hm L D R) cap i).1 (ord i)) nS) < 6 := by unfold pN; split <;> omega
    rw [e38, q_cl (by omega)]
    refine ⟨vp_in_nI hpl (by decide), vp_in_nI hpl (by decide), fun M2 e2 y ey => ?_⟩
    rw [nI_1] at ey
    subst ey
    have nx1 : (ngt nS ord (kyF hm D R) (okb hm L D R) cap (i + 1)).1 = fun s => if s = chF (kyF hm D R (ord i)) (avl nS (okb hm L D R) (ngt nS ord (kyF hm D R) (okb hm L D R) cap i).1 (ord i)) nS then (ngt nS ord (kyF hm D R) (okb hm L D R) cap i).1 s - 1 else (ngt nS ord (kyF hm D R) (okb hm L D R) cap i).1 s := rfl
    have nx2 : (ngt nS ord (kyF hm D R) (okb hm L D R) cap (i + 1)).2 = fun x => if x = ord i then chF (kyF hm D R (ord i)) (avl nS (okb hm L D R) (ngt nS ord (kyF hm D R) (okb hm L D R) cap i).1 (ord i)) nS else (ngt nS ord (kyF hm D R) (okb hm L D R) cap i).2 x := rfl
    generalize chF (kyF hm D R (ord i)) (avl nS (okb hm L D R) (ngt nS ord (kyF hm D R) (okb hm L D R) cap i).1 (ord i)) nS = r at *
    have fr2 : ∀ k j, ¬ (k = 38 ∧ j = ord i) → ¬ (k = 47 ∧ j = pN 5 r) → M2.1 k j = M.1 k j := fun k j q1 q2 => by rw [e2, sI_ni q2, e1, sI_ni q1]
    have prd : pN 5 r < nS ∨ pN 5 r = 5 := by unfold pN; split <;> omega
    refine l_home ho hinj hcap d (i + 1) M2 (hX.fr (fun k j q => fr2 k j (by unfold P_D at q; omega) (by unfold P_D at q; omega))) (fun j hj => by rw [fr2 36 j (by omega) (by omega)]; exact h36 j hj) (fun s hs => ?_) (fun s h1 h2 => ?_) (fun j hj => ?_) (by omega) (fun M' hf hv => hK M' (fun k j q => ?_) hv)
    · rw [nx1]
      dsimp only
      by_cases e : s = r
      · subst e
        have hne : s ≠ 9 := by omega
        have ep : pN 5 s = s := by unfold pN; rw [if_neg hne]
        have hpos := (avl_iff.mp (hav.resolve_left hne)).2.2
        have hle := Nat.le_trans (ngt_le nS ord (kyF hm D R) (okb hm L D R) cap s i) (hcap s hs)
        rw [if_pos rfl, e2, ep, sI_hit, e1, sI_ni (by omega), hl s hs, show (1 : Int32) = nI 1 from rfl, n_sub (by omega) (by omega)]
      · rw [if_neg e, fr2 47 s (by omega) (by unfold pN; split <;> omega)]; exact hl s hs
    · rw [fr2 47 s (by omega) (by omega)]; exact hz s h1 h2
    · rw [nx2]
      dsimp only
      by_cases e : j = i
      · subst e; rw [if_pos rfl, e2, sI_ni (by omega)]; exact e38
      · have hne : ord j ≠ ord i := fun q => e (hinj j i (by omega) (by omega) q)
        rw [if_neg hne, fr2 38 (ord j) (by omega) (by omega)]; exact hp j (by omega)
    · rw [hf k j q, fr2 k j (by omega) (by omega)]
end S14
