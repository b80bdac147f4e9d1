/-! the night, laid by both -/
abbrev cl32 (x : Int32) : Nat := x.toNatClampNeg
def DI (nS nC : Nat) (M : pd_M) : Prop := nS ≤ 5 ∧ nC ≤ 7 ∧ M.1 8 0 = nI nS ∧ M.1 24 1 = nI nC ∧ (∀ s, s < nS → vp_in (M.1 9 s) 4 ∧ vp_in (M.1 10 s) 6 ∧ (∀ n, n < 7 → vp_in (M.1 (12 + s) n) ((M.1 10 s).toNatClampNeg + 1)) ∧ ∀ o, o < nS → vp_in (M.1 (18 + s) o) 51) ∧ (∀ c, c < nC → vp_in (M.1 25 c) nS ∧ vp_in (M.1 26 c) 100) ∧ (∀ i, i < nC → vp_in (M.1 36 i) nC) ∧ (∀ i j, i < nC → j < nC → M.1 36 i = M.1 36 j → i = j) ∧ (∀ c, c < nC → ∃ i, i < nC ∧ M.1 36 i = nI c) ∧ I_x nS nC M
theorem DI_of {nS nC nT : Nat} {M : pd_M} (h : InvB nS nC nT M) : DI nS nC M := by
  obtain ⟨hn, hf, hs, hsu, hc, hcu, ho, hr, ht, hx⟩ := h
  obtain ⟨n5, n7, n20, h8, h82, h24, h826, h60, h8217⟩ := hn
  refine ⟨n5, n7, h8, h24, fun s h => ?_, fun c h => ?_, fun i h => (ho.1 i h).2, ho.2.1, ho.2.2, hx⟩
  · obtain ⟨a, b, c, d, e⟩ := hs s h (by omega)
    exact ⟨a.2, b.2, fun n hn => (c n hn).2, fun o ho => (d o ho (by omega)).2⟩
  · obtain ⟨a, b, -⟩ := hc c h (by omega)
    exact ⟨a.2, b.2⟩
abbrev hmF (M : pd_M) (c : Nat) : Nat := cl32 (M.1 25 c)
abbrev LF (M : pd_M) (c : Nat) : Nat := cl32 (M.1 26 c)
abbrev DF (M : pd_M) (h s : Nat) : Nat := cl32 (M.1 (18 + h) s)
abbrev znF (M : pd_M) (s : Nat) : Nat := cl32 (M.1 9 s)
abbrev cpN (M : pd_M) (nt s : Nat) : Nat := cl32 (M.1 10 s) - cl32 (M.1 (12 + s) nt)
abbrev orF (M : pd_M) (i : Nat) : Nat := cl32 (M.1 36 i)
/-- which places are the right ones -/
def Spc (nS nC : Nat) (hm L : Nat → Nat) (D R : Nat → Nat → Nat) (cap ord : Nat → Nat) (a3 : Int32) (pl : Nat → Nat) : Prop := (a3 = 0 → ∀ c, c < nC → pl c = pN 5 ((ngt nS ord (kyF hm D R) (okb hm L D R) cap nC).2 c)) ∧ (¬ a3 = 0 → Fea nC pl (alF nS hm L D R) (cpF nS cap) ∧ ∃ pi, Pot nC pl (alF nS hm L D R) (PrF nS hm D) (cpF nS cap) pi)
abbrev P_L (nS nC k j : Nat) : Prop := k = 38 ∨ (k = 47 ∧ j < 6) ∨ (40 ≤ k ∧ k < 40 + nC ∧ j < nS) ∨ k = 58
theorem rgt_nI {f : Prop} {k r : Int32} (h : rgt f k r) : r = nI (cl32 r) ∧ cl32 r ≤ 2 := by
  rcases rgt_is h with e | e | e <;> subst e <;> exact ⟨by decide, by decide⟩
theorem X2_lay_w {Q : pd_M → Prop} {M : pd_M} {nS nC nt hh : Nat} {a3 : Int32} (hI : DI nS nC M) (hnt : nt < 7) (hQ : ∀ M' R pl, frm (P_L nS nC) M M' → DX nS nC (hmF M) (LF M) (DF M) R M' → (∀ c s, c < nC → s < nS → R c s ≤ 2 ∧ rgt (fX M c (znF M s) hh) (M.1 (29 + c) (znF M s)) (nI (R c s))) → (∀ c, c < nC → M'.1 38 c = nI (pl c)) → Spc nS nC (hmF M) (LF M) (DF M) R (cpN M nt) (orF M) a3 pl → (∀ s, nS ≤ s → s < 5 → M'.1 47 s = 0) → Q M') : wX2_lay Q (nI nt) (nI hh) a3 M := by
  obtain ⟨n5, n7, h8, h24, d1, d2, d3, d4, d5, dx⟩ := hI
  have hb : ∀ s, s < nS → M.1 10 s = nI (cl32 (M.1 10 s)) ∧ M.1 (12 + s) nt = nI (cl32 (M.1 (12 + s) nt)) ∧ cl32 (M.1 (12 + s) nt) ≤ cl32 (M.1 10 s) ∧ cl32 (M.1 10 s) ≤ 5 := fun s hs => by
    obtain ⟨e1, l1⟩ := q_of (d1 s hs).2.1 (by decide)
    obtain ⟨e2, l2⟩ := q_of ((d1 s hs).2.2.1 nt hnt) (by omega)
    exact ⟨e1, e2, by unfold cl32; omega, by unfold cl32; omega⟩
  refine X2_openBays_w n5 hnt h8 hb (fun M1 f1 v1 v15 => ?_)
  refine X2_readRights_w (zn := znF M) n5 n7 (by rw [f1 8 0 (by omega)]; exact h8) (by rw [f1 24 1 (by omega)]; exact h24) (fun s hs => by
    obtain ⟨e1, l1⟩ := q_of (d1 s hs).1 (by decide)
    rw [f1 9 s (by omega)]; exact ⟨e1, l1⟩) (fun M2 f2 v2 => ?_)
  have fr2 : ∀ k j, ¬ (40 ≤ k ∧ k < 40 + nC ∧ j < nS) → ¬ (k = 47 ∧ (j < nS ∨ j = 5)) → M2.1 k j = M.1 k j := fun k j q1 q2 => by rw [f2 k j q1, f1 k j q2]
  have hrg : ∀ c s, c < nC → s < nS → rgt (fX M c (znF M s) hh) (M.1 (29 + c) (znF M s)) (M2.1 (40 + c) s) := fun c s hc hs => by
    have h := v2 c s hc hs
    unfold rgX at h
    rw [f1 (29 + c) _ (by omega)] at h
    exact rgt_cg h (fX_fr (fun k i q => f1 k i (by omega)) (q_of (d1 s hs).1 (by decide)).2)
  have hX : DX nS nC (hmF M) (LF M) (DF M) (fun c s => cl32 (M2.1 (40 + c) s)) M2 := by
    refine ⟨n5, n7, ?_, ?_, fun c hc => ?_, fun h s h1 h2 => ?_, fun c s hc hs => ?_, fun c s hc hs hn => ?_⟩
    · rw [fr2 8 0 (by omega) (by omega)]; exact h8
    · rw [fr2 24 1 (by omega) (by omega)]; exact h24
    · rw [fr2 25 c (by omega) (by omega), fr2 26 c (by omega) (by omega)]
      obtain ⟨e1, l1⟩ := q_of (d2 c hc).1 (by omega)
      obtain ⟨e2, l2⟩ := q_of (d2 c hc).2 (by decide)
      exact ⟨e1, l1, e2, l2⟩
    · rw [fr2 (18 + h) s (by omega) (by omega)]
      obtain ⟨e1, l1⟩ := q_of ((d1 h h1).2.2.2 s h2) (by decide)
      exact ⟨e1, by unfold DF cl32; omega⟩
    · exact rgt_nI (hrg c s hc hs)
    · rw [fr2 (40 + c) s (by omega) (by omega)]; exact dx.1 c s hc hs (Or.inr hn)
  have hl : ∀ s, s < nS → M2.1 47 s = nI (cpN M nt s) := fun s hs => by rw [f2 47 s (by omega), v1 s hs]
  have hz : ∀ s, nS ≤ s → s < 5 → M2.1 47 s = 0 := fun s h1 h2 => by rw [fr2 47 s (by omega) (by omega)]; exact dx.2 s h1 h2
  have hcap : ∀ s, s < nS → cpN M nt s ≤ 5 := fun s hs => by have := (hb s hs).2.2; unfold cpN; omega
  have hR : ∀ c s, c < nC → s < nS → cl32 (M2.1 (40 + c) s) ≤ 2 ∧ rgt (fX M c (znF M s) hh) (M.1 (29 + c) (znF M s)) (nI (cl32 (M2.1 (40 + c) s))) := fun c s hc hs => ⟨(rgt_nI (hrg c s hc hs)).2, by rw [← (rgt_nI (hrg c s hc hs)).1]; exact hrg c s hc hs⟩
  have hor : ∀ i, i < nC → M.1 36 i = nI (orF M i) ∧ orF M i < nC := fun i hi => q_of (d3 i hi) (by omega)
  refine ⟨fun e0 => ?_, fun n0 => ?_⟩
  · refine ⟨nC + 1, l_home (ord := orF M) (cap := cpN M nt) (fun i hi => (hor i hi).2) (fun i j hi hj e => d4 i j hi hj (by rw [(hor i hi).1, (hor j hj).1, e])) hcap nC 0 M2 hX (fun j hj => by rw [fr2 36 j (by omega) (by omega)]; exact (hor j hj).1) hl hz (fun j hj => by omega) (by omega) (fun M3 f3 v3 => ?_)⟩
    refine hQ M3 _ (fun c => pN 5 ((ngt nS (orF M) (kyF (hmF M) (DF M) (fun c s => cl32 (M2.1 (40 + c) s))) (okb (hmF M) (LF M) (DF M) (fun c s => cl32 (M2.1 (40 + c) s))) (cpN M nt) nC).2 c)) (fun k j q => ?_) (hX.fr (fun k j q => f3 k j (by unfold P_D at q; omega))) hR (fun c hc => ?_) ⟨fun _ c _ => rfl, fun n => absurd e0 n⟩ (fun s h1 h2 => by rw [f3 47 s (by omega)]; exact hz s h1 h2)
    · unfold P_L at q
      rw [f3 k j (by omega), fr2 k j (by omega) (by omega)]
    · obtain ⟨j, hj, hjc⟩ := d5 c hc
      have e : orF M j = c := by unfold orF cl32; rw [hjc, q_cl (by omega)]
      rw [← e]
      exact v3 j hj
  · refine X2_layLeast_w (cap := cpN M nt) hX hcap hl hz (by rw [f2 47 5 (by omega)]; exact v15) (fun f' M3 f3 hF hP hL => ?_)
    refine hQ M3 _ f' (fun k j q => ?_) (hX.fr (fun k j q => f3 k j (by unfold P_D at q; omega))) hR hL.1 ⟨fun e => absurd e n0, fun _ => ⟨hF, hP⟩⟩ (fun s h1 h2 => ?_)
    · unfold P_L at q
      rw [f3 k j (by omega), fr2 k j (by omega) (by omega)]
    · rw [hL.2 s (by omega)]
      unfold cpF
      rw [if_neg (by omega), if_neg (by omega), Nat.zero_sub]
      rfl
/-- both have each car at the same place -/
def NRl (nS nC : Nat) (hm L : Nat → Nat) (D R : Nat → Nat → Nat) (pl pm : Nat → Nat) : Prop := ∀ c, c < nC → (pl c = 5 ∧ pm c = nS) ∨ (pl c < nS ∧ pm c = pl c ∧ okb hm L D R c (pl c) = true)
theorem X9_park_w {Q : pd_M → Prop} {M : pd_M} {nS nC : Nat} {hm L zn b cl ord pl : Nat → Nat} {D R : Nat → Nat → Nat} {hh nt : Nat} {a3 : Int32} (hB : BM nS nC hm L D R zn hh M) (hnt : nt < 7) (hb : ∀ s, s < nS → M.1 84 s = nI (b s) ∧ M.1 85 (7 * s + nt) = nI (cl s) ∧ cl s ≤ b s ∧ b s ≤ 5) (ho : ∀ i, i < nC → M.1 92 i = nI (ord i) ∧ ord i < nC) (hinj : ∀ i j, i < nC → j < nC → ord i = ord j → i = j) (hsur : ∀ c, c < nC → ∃ i, i < nC ∧ ord i = c) (hS : Spc nS nC hm L D R (fun s => b s - cl s) ord a3 pl) (hQ : ∀ M' pm, frm (fun k j => 103 ≤ k ∧ k ≤ 106) M M' → DM nS nC hm L D R M' → (∀ c, c < nC → M'.1 104 c = nI (pm c)) → NRl nS nC hm L D R pl pm → Q M') : wX9_park Q (nI nt) (nI hh) a3 M := by
  obtain ⟨n5, n7, a3', a4, a5, a6, a7, a8⟩ := id hB
  have night : (a3 = 0 ∨ nC = 0) → wX9_parkNight (fun M_2 => Q M_2) (nI nt) (nI hh) M := fun h0 => by
    refine X9_begin_w hB hnt hb (fun M1 f1 hX v1 => ⟨nC + 1, ?_⟩)
    refine l_night (ord := ord) (cap := fun s => b s - cl s) (fun i hi => (ho i hi).2) hinj (fun s hs => by show b s - cl s ≤ 5; have := (hb s hs).2.2; omega) nC 0 M1 hX (fun j hj => by rw [f1 92 j (by omega)]; exact (ho j hj).1) v1 (fun j hj => by omega) (by omega) (fun M2 f2 v2 => ?_)
    refine hQ M2 (fun c => pN nS ((ngt nS ord (kyF hm D R) (okb hm L D R) (fun s => b s - cl s) nC).2 c)) (fun k j q => by rw [f2 k j (by omega), f1 k j (by omega)]) (hX.fr (fun k j q => f2 k j (by unfold P_M at q; omega))) (fun c hc => ?_) (fun c hc => ?_)
    · obtain ⟨j, hj, e⟩ := hsur c hc
      rw [← e]; exact v2 j hj
    · have e := hS.1 (h0.resolve_right (by omega)) c hc
      rw [e]
      show (pN 5 _ = 5 ∧ pN nS _ = nS) ∨ (pN 5 _ < nS ∧ pN nS _ = pN 5 _ ∧ _)
      rcases ngt_ok nS ord (kyF hm D R) (okb hm L D R) (fun s => b s - cl s) c nC with h | ⟨h1, h2⟩
      · rw [h]; exact Or.inl ⟨rfl, rfl⟩
      · have hne : ¬ (ngt nS ord (kyF hm D R) (okb hm L D R) (fun s => b s - cl s) nC).2 c = 9 := by omega
        have e1 : ∀ x, pN x ((ngt nS ord (kyF hm D R) (okb hm L D R) (fun s => b s - cl s) nC).2 c) = (ngt nS ord (kyF hm D R) (okb hm L D R) (fun s => b s - cl s) nC).2 c := fun x => by unfold pN; rw [if_neg hne]
        rw [e1, e1]
        exact Or.inr ⟨h1, rfl, h2⟩
  refine ⟨fun e => night (Or.inl e), fun ne => ?_⟩
  rw [a4, show (0 : Int32) = nI 0 from rfl, n_le (by omega) (by omega)]
  refine ⟨fun h => night (Or.inr (by omega)), fun h => ?_⟩
  refine X9_parkLeast_w (by omega) hB hnt hb (fun g M' f' hX hF hmin hg => hQ M' g f' hX hg ?_)
  obtain ⟨hF', hP'⟩ := hS.2 ne
  exact same_pl n5 n7 (fun h s h1 h2 => (a6 h s h1 h2).2) hF' hP' hF hmin
