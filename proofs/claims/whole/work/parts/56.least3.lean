section S18
variable {k : Nat} {f : Nat → Nat} {al : Nat → Nat → Bool} {P : Nat → Nat → Int}
theorem l_shift {K : Int32 → pd_M → Prop} {rc pi : Nat → Int} {cm tu sg cap : Nat → Nat} {T r e : Nat} {B : Int} (hk : k < 7) (hS : RS k f al P rc cm tu sg T r B) (hE : ∀ i, i < k → EQc f al P rc i) (hF : Fea k f al cap) (hP : Pot k f al P cap pi) : ∀ (d q m : Nat) (F : Nat → Nat) (M : pd_M), (∀ i, i < k → M.1 38 i = nI (F i)) → (∀ p, p < 6 → M.1 58 p = nI (cm p)) → SH k f al P rc pi tu e F q → cnt (fun x => tu x < tu q) 0 6 ≤ d → m + d ≤ 5 → (∀ F' q' M', frm (fun a j => a = 38 ∧ j < k) M M' → M'.2 = M.2 → (∀ i, i < k → M'.1 38 i = nI (F' i)) → SH k f al P rc pi tu e F' q' → cm q' = k → K (nI q') M') → lpX1_shift_6 K (nI k) (d + 1) (nI q) (nI m) M
  | d, q, m, F, M, h38, h58, hSH, hrk, hm, hK => by
    obtain ⟨-, -, -, -, q6, qf, -⟩ := id hSH
    have hcm : cm q ≤ k := by
      rcases tight hS hE q q6 qf with ⟨a, -⟩ | ⟨b, -⟩ <;> omega
    have v6 : vp_in (nI q) 6 := vp_in_nI q6 (by decide)
    refine ⟨fun h => absurd h ?_, fun _ => ⟨v6, ?_⟩⟩
    · rw [show (6 : Int32) = nI 6 from rfl, n_le (by decide) (by omega)]; omega
    rw [q_cl (by omega), h58 q q6, nI_eq (by omega) (by omega)]
    refine ⟨fun e1 => hK F q M frm_rf rfl h38 hSH e1, fun ne => ?_⟩
    obtain ⟨c1, c2, c3, c4⟩ := SH_st hS hE hF hP hSH ne
    have hp6 := (hF.1 _ c1).1
    have hlt := cnt_lt (fun x => tu x < tu (f (cm q))) (fun x => tu x < tu q) (f (cm q)) (Nat.lt_irrefl _) c3 6 0 (fun j _ _ hj => Nat.lt_trans hj c3) (by omega) (by omega)
    match d, hrk, hm with
    | 0, hrk, hm => omega
    | d + 1, hrk, hm =>
      have v7 : vp_in (nI (cm q)) 7 := vp_in_nI (by omega) (by decide)
      rw [q_cl (by omega), h38 _ c1, c2]
      refine ⟨v6, v7, fun x6 e6 => ⟨v6, v7, fun M1 e1 y ey => ?_⟩⟩
      rw [nI_1] at ey
      subst ey e6 e1
      refine l_shift hk hS hE hF hP d (f (cm q)) (m + 1) (up F (cm q) q) _ (fun i hi => ?_) (fun p hp => by rw [sI_ni (by omega)]; exact h58 p hp) c4 (by omega) (by omega) (fun F' q' M' hf h2 => hK F' q' M' (frm_sI hf (by omega)) (by rw [h2, sI_2]))
      by_cases e1 : i = cm q
      · subst e1; rw [sI_hit, up_hit]
      · rw [sI_ni (by omega), up_ne F q e1]; exact h38 i hi
def LM (k : Nat) (f cap : Nat → Nat) (M : pd_M) : Prop := (∀ j, j < k → M.1 38 j = nI (f j)) ∧ ∀ p, p < 6 → M.1 47 p = nI (cap p - cnt (fun c => f c = p) 0 k)
theorem X1_add_w {Q : pd_M → Prop} {M : pd_M} {cap : Nat → Nat} (hk : k < 7) (hP : PB P) (hcap : ∀ p, p < 6 → cap p ≤ 7) (h5 : cap 5 = 7) (ha5 : al k 5 = true) (hF : Fea k f al cap) (hPot : ∃ pi, Pot k f al P cap pi) (hpr : ∀ j p, j < k + 1 → p < 6 → M.2 (50 + j) p = jI (prc al P j p)) (hL : LM k f cap M) (hQ : ∀ f' M', frm (fun a j => a = 38 ∨ (a = 47 ∧ j < 6) ∨ a = 58) M M' → (∀ a i, ¬ a = 57 → M'.2 a i = M.2 a i) → Fea (k + 1) f' al cap → (∃ pi, Pot (k + 1) f' al P cap pi) → LM (k + 1) f' cap M' → Q M') : wX1_add Q (nI k) M := by
  obtain ⟨pi, hpot⟩ := hPot
  obtain ⟨l1, l2⟩ := hL
  have hFAR : FAR = 1000000000000000 := rfl
  have c5 := cnt_le (fun c => f c = 5) k 0
  refine X1_startAt_w (f := f) (al := al) hk hP (fun p hp => hpr k p (by omega) hp) (fun M1 f1 m1 s1 => ⟨7, ?_⟩)
  refine l_add11 hk hP hF.1 hpot.1 6 0 _ _ _ _ 0 1 M1 (fun j hj => by rw [f1.1 38 j (by omega)]; exact l1 j hj) (fun j p hj hp => by rw [f1.2 _ p (by omega)]; exact hpr j p (by omega) hp) (by omega) m1 s1 (fun i' _ => Or.inr (Nat.zero_le _)) (Or.inr rfl) (fun rc cm tu sg T r M2 f2 m2 s2 hE => ⟨6, ?_⟩)
  have f12 := F57_tr f1 f2
  have e5 : ¬ rc 5 = FAR := by
    have h1 := s2.2.1 5 (by omega) ha5
    have h2 := hP k 5 hk (by omega)
    omega
  refine l_cheap (lf := fun p => cap p - cnt (fun c => f c = p) 0 k) m2 (fun p hp => by have := s2.1 p hp; omega) (fun p hp => ⟨by rw [f12.1 47 p (by omega)]; exact l2 p hp, by show cap p - cnt (fun c => f c = p) 0 k ≤ 7; have := hcap p hp; omega⟩) (fun e he ho hmin => ?_) 5 0 5 (by omega) (by omega) (Or.inl rfl) (Int.le_refl _) (fun p hp => by omega)
  have hop : cnt (fun c => f c = e) 0 k < cap e := by
    rcases ho with h | h
    · subst h; omega
    · have h' : 0 < cap e - cnt (fun c => f c = e) 0 k := h
      omega
  have hne : ¬ rc e = FAR := by
    have h1 := hmin 5 (by omega) (Or.inl rfl)
    have h2 := s2.1 5 (by omega)
    omega
  have v6 : vp_in (nI e) 6 := vp_in_nI he (by decide)
  refine ⟨v6, v6, fun M3 e3 => ?_⟩
  rw [q_cl (by omega)] at e3
  have hce := hcap e he
  rw [f12.1 47 e (by omega), l2 e he, show (1 : Int32) = nI 1 from rfl, n_sub (by omega) (by omega)] at e3
  have rk := cnt_lt (fun x => tu x < tu e) (fun _ => True) e (Nat.lt_irrefl _) trivial 6 0 (fun _ _ _ _ => trivial) (by omega) (by omega)
  have rk2 := cnt_le (fun _ => True) 6 0
  refine ⟨6, l_shift (e := e) hk s2 hE hF hpot 5 e 0 f M3 (fun i hi => by rw [e3, sI_ni (by omega), f12.1 38 i (by omega)]; exact l1 i hi) (fun p hp => by rw [e3, sI_ni (by omega)]; exact (m2 p hp).2) (SH_0 s2 (by omega) hE hF hpot he hne hop) (by omega) (by omega) (fun F' q' M4 f4 j4 h38 hSH hcm => ⟨vp_in_nI hk (by decide), fun M5 e5' => ?_⟩)⟩
  rw [q_cl (by omega)] at e5'
  obtain ⟨g1, g2, g3⟩ := SH_end s2 hF hpot hSH hE hcm he hop (fun p hp hlt => hmin p hp (Or.inr (by show 0 < cap p - cnt (fun c => f c = p) 0 k; omega)))
  refine hQ (up F' k q') M5 (fun a j hn => ?_) (fun a i ha => ?_) g1 g2 ⟨fun j hj => ?_, fun p hp => ?_⟩
  · rw [e5', sI_ni (by omega), f4 a j (by omega), e3, sI_ni (by omega), f12.1 a j (by omega)]
  · rw [e5', sI_2, j4, e3, sI_2, f12.2 a i ha]
  · by_cases e1 : j = k
    · subst e1; rw [e5', sI_hit, up_hit]
    · rw [e5', sI_ni (by omega), up_ne F' q' e1]; exact h38 j (by omega)
  · rw [g3 p hp, e5', sI_ni (by omega), f4 47 p (by omega)]
    by_cases e1 : e = p
    · subst e1; rw [e3, sI_hit, if_pos rfl, Nat.sub_sub]
    · rw [e3, sI_ni (by omega), f12.1 47 p (by omega), if_neg e1]; exact l2 p hp
end S18
/-- the price of a place -/
def ppI (c : Nat) : Int := (pd_pp c).toInt
theorem pp_bd : ∀ c, c < 7 → 1 ≤ ppI c ∧ ppI c ≤ 46656 := by unfold ppI; decide
def alF (nS : Nat) (hm L : Nat → Nat) (D R : Nat → Nat → Nat) (c p : Nat) : Bool := if p = 5 then true else decide (p < nS) && okb hm L D R c p
def PrF (nS : Nat) (hm : Nat → Nat) (D : Nat → Nat → Nat) (c p : Nat) : Int := if p = 5 then 279936000 + 5 * ppI c else (if p < nS ∧ hm c < nS then (D (hm c) p : Int) else 0) * 279936 + p * ppI c
def cpF (nS : Nat) (cap : Nat → Nat) (p : Nat) : Nat := if p = 5 then 7 else if p < nS then cap p else 0
theorem PrF_bd {nS : Nat} {hm : Nat → Nat} {D : Nat → Nat → Nat} (hD : ∀ h s, h < nS → s < nS → D h s ≤ 50) : PB (PrF nS hm D) := by
  intro i p hi hp
  have := pp_bd i hi
  unfold PrF
  by_cases e : p = 5
  · rw [if_pos e]; omega
  · rw [if_neg e]
    have hp' : p = 0 ∨ p = 1 ∨ p = 2 ∨ p = 3 ∨ p = 4 := by omega
    have hd : (if p < nS ∧ hm i < nS then (D (hm i) p : Int) else 0) ≤ 50 ∧ 0 ≤ (if p < nS ∧ hm i < nS then (D (hm i) p : Int) else 0) := by
      split
      · rename_i h; have := hD (hm i) p h.2 h.1; omega
      · omega
    rcases hp' with h | h | h | h | h <;> subst h <;> omega
theorem i64_n {w : Nat} (h : w < 2 ^ 31) : (nI w).toInt64 = jI w := by rw [← Int64.ofInt_int32ToInt, nI_toInt h]
theorem i64_pp (c : Nat) : (pd_pp c).toInt64 = jI (ppI c) := (Int64.ofInt_int32ToInt _).symm
section S19
variable {nS nC : Nat} {hm L : Nat → Nat} {D R : Nat → Nat → Nat}
theorem l_lay15 {K : pd_M → Prop} {c : Nat} (hc : c < nC) : ∀ (d s : Nat) (M : pd_M), DX nS nC hm L D R M → s + d = 5 → (∀ M', M'.1 = M.1 → (∀ a i, ¬ a = 50 + c → M'.2 a i = M.2 a i) → (∀ p, p < s → M'.2 (50 + c) p = M.2 (50 + c) p) → (∀ p, s ≤ p → p < 5 → M'.2 (50 + c) p = jI (prc (alF nS hm L D R) (PrF nS hm D) c p)) → K M') → lpX2_layLeast_15 K (nI c) (d + 1) (nI s) M
  | 0, s, M, hX, hd, hK => by
    refine ⟨fun _ => hK M rfl (fun _ _ _ => rfl) (fun _ _ => rfl) (fun j h1 h2 => by omega), fun h => absurd ?_ h⟩
    rw [show (5 : Int32) = nI 5 from rfl, n_le (by decide) (by omega)]; omega
  | d + 1, s, M, hX, hd, hK => by
    obtain ⟨n5, n7, -, -, a5, a6, -⟩ := id hX
    have v7 : vp_in (nI c) 7 := vp_in_nI (by omega) (by decide)
    have v6 : vp_in (nI s) 6 := vp_in_nI (by omega) (by decide)
    have go : ∀ x : Int64, x = jI (prc (alF nS hm L D R) (PrF nS hm D) c s) → ∀ M1, M1 = sJ M (50 + (nI c).toNatClampNeg) (nI s).toNatClampNeg x → ∀ y, y = nI s + 1 → lpX2_layLeast_15 K (nI c) (d + 1) y M1 := fun x hx M1 e1 y ey => by
      rw [q_cl (by omega), q_cl (by omega)] at e1
      rw [nI_1] at ey
      subst ey e1
      refine l_lay15 hc d (s + 1) _ (hX.fr (fun _ _ _ => rfl)) (by omega) (fun M' g1 g2 g3 g4 => hK M' g1 (fun a i h => by rw [g2 a i h, sJ_ni (by omega)]) (fun p hp => by rw [g3 p (by omega), sJ_ni (by omega)]) (fun p h1 h2 => ?_))
      by_cases e : p = s
      · subst e; rw [g3 p (by omega), sJ_hit]; exact hx
      · exact g4 p (by omega) h2
    refine ⟨fun h => absurd h ?_, fun _ => ?_⟩
    · rw [show (5 : Int32) = nI 5 from rfl, n_le (by decide) (by omega)]; omega
    refine X2_isWithin_w hX hc (by omega) (fun hn => q_z0 ⟨v7, v6, fun M1 e1 y ey => go _ ?_ M1 e1 y ey⟩) (fun h1 h2 => q_z1 (X2_walkTo_w hX hc h1 ⟨v7, v7, v6, fun M1 e1 y ey => go _ ?_ M1 e1 y ey⟩))
    · unfold prc alF
      rw [if_neg (show ¬ s = 5 by omega)]
      have : ¬ (decide (s < nS) && okb hm L D R c s) = true := fun h => hn (by simp at h; exact h)
      rw [if_neg this]
      rfl
    · have hal : alF nS hm L D R c s = true := by unfold alF; rw [if_neg (show ¬ s = 5 by omega), h2]; simp [h1]
      have hpf : PrF nS hm D c s = (D (hm c) s : Int) * 279936 + s * ppI c := by unfold PrF; rw [if_neg (show ¬ s = 5 by omega), if_pos ⟨h1, (a5 c hc).2.1⟩]
      unfold prc
      rw [if_pos hal, hpf]
      have := (a6 (hm c) s (a5 c hc).2.1 h1).2
      rw [i64_n (by omega), i64_n (by omega), q_cl (by omega), i64_pp, show (279936 : Int64) = jI 279936 from rfl, j_mul, j_mul, j_add]
theorem alF5 (c : Nat) : alF nS hm L D R c 5 = true := by unfold alF; rw [if_pos rfl]
theorem l_lay2 {K : pd_M → Prop} {cap : Nat → Nat} (hcap : ∀ p, p < 6 → cpF nS cap p ≤ 7) : ∀ (d c : Nat) (f : Nat → Nat) (M : pd_M), DX nS nC hm L D R M → Fea c f (alF nS hm L D R) (cpF nS cap) → (∃ pi, Pot c f (alF nS hm L D R) (PrF nS hm D) (cpF nS cap) pi) → LM c f (cpF nS cap) M → (∀ j p, j < c → p < 6 → M.2 (50 + j) p = jI (prc (alF nS hm L D R) (PrF nS hm D) j p)) → c + d = nC → (∀ f' M', frm (fun a j => a = 38 ∨ (a = 47 ∧ j < 6) ∨ a = 58) M M' → Fea nC f' (alF nS hm L D R) (cpF nS cap) → (∃ pi, Pot nC f' (alF nS hm L D R) (PrF nS hm D) (cpF nS cap) pi) → LM nC f' (cpF nS cap) M' → K M') → lpX2_layLeast_2 K (d + 1) (nI c) M
  | 0, c, f, M, hX, hF, hPo, hL, hpr, hd, hK => by
    obtain rfl : c = nC := by omega
    have n7 := hX.2.1
    unfold lpX2_layLeast_2
    rw [hX.2.2.2.1, n_le (by omega) (by omega)]
    exact ⟨fun _ => hK f M frm_rf hF hPo hL, fun h => absurd (by omega) h⟩
  | d + 1, c, f, M, hX, hF, hPo, hL, hpr, hd, hK => by
    obtain ⟨n5, n7, -, h24, a5, a6, -⟩ := id hX
    have v7 : vp_in (nI c) 7 := vp_in_nI (by omega) (by decide)
    unfold lpX2_layLeast_2
    rw [h24, n_le (by omega) (by omega)]
    refine ⟨fun h => absurd h (by omega), fun _ => ⟨6, l_lay15 (by omega) 5 0 M hX (by omega) (fun M1 g1 g2 _ g4 => ⟨v7, v7, fun M2 e2 => ?_⟩)⟩⟩
    rw [q_cl (by omega), i64_pp, show (5 : Int32).toNatClampNeg = 5 from rfl, show (279936000 : Int64) = jI 279936000 from rfl, show (5 : Int64) = jI 5 from rfl, j_mul, j_add] at e2
    have h21 : M2.1 = M.1 := by rw [e2, sJ_1]; exact g1
    refine X1_add_w (k := c) (f := f) (al := alF nS hm L D R) (P := PrF nS hm D) (cap := cpF nS cap) (by omega) (PrF_bd (fun h s h1 h2 => (a6 h s h1 h2).2)) hcap (by unfold cpF; rw [if_pos rfl]) (alF5 c) hF hPo (fun j p hj hp => ?_) (by unfold LM; rw [h21]; exact hL) (fun f' M3 f3 j3 hF' hPo' hL' y ey => ?_)
    · by_cases e : j = c
      · subst e
        by_cases e' : p = 5
        · subst e'
          rw [e2, sJ_hit]
          unfold prc
          rw [alF5, if_pos rfl]
          unfold PrF
          rw [if_pos rfl]
        · rw [e2, sJ_ni (by omega)]; exact g4 p (by omega) (by omega)
      · rw [e2, sJ_ni (by omega), g2 _ p (by omega)]; exact hpr j p (by omega) hp
    · rw [nI_1] at ey; subst ey
      have f3' : frm (fun a j => a = 38 ∨ (a = 47 ∧ j < 6) ∨ a = 58) M M3 := fun a j h => by rw [f3 a j h, h21]
      refine l_lay2 hcap d (c + 1) f' M3 (hX.fr (fun a j q => f3' a j (by unfold P_D at q; omega))) hF' hPo' hL' (fun j p hj hp => ?_) (by omega) (fun f2 M4 f4 => hK f2 M4 (frm_tr f3' f4))
      rw [j3 _ p (by omega)]
      by_cases e : j = c
      · subst e
        by_cases e' : p = 5
        · subst e'
          rw [e2, sJ_hit]
          unfold prc
          rw [alF5, if_pos rfl]
          unfold PrF
          rw [if_pos rfl]
        · rw [e2, sJ_ni (by omega)]; exact g4 p (by omega) (by omega)
      · rw [e2, sJ_ni (by omega), g2 _ p (by omega)]; exact hpr j p (by omega) hp
theorem X2_layLeast_w {Q : pd_M → Prop} {M : pd_M} {cap : Nat → Nat} (hX : DX nS nC hm L D R M) (hcap : ∀ p, p < nS → cap p ≤ 5) (hl : ∀ s, s < nS → M.1 47 s = nI (cap s)) (hz : ∀ s, nS ≤ s → s < 5 → M.1 47 s = 0) (h5 : M.1 47 5 = nI 7) (hQ : ∀ f' M', frm (fun a j => a = 38 ∨ (a = 47 ∧ j < 6) ∨ a = 58) M M' → Fea nC f' (alF nS hm L D R) (cpF nS cap) → (∃ pi, Pot nC f' (alF nS hm L D R) (PrF nS hm D) (cpF nS cap) pi) → LM nC f' (cpF nS cap) M' → Q M') : wX2_layLeast Q M := by
  refine ⟨nC + 1, l_lay2 (cap := cap) (fun p hp => ?_) nC 0 (fun _ => 0) M hX ⟨fun i hi => by omega, fun p hp => Nat.zero_le _⟩ ⟨fun _ => 0, fun i q hi => by omega, fun p hp => Int.le_refl _, fun p hp _ => rfl⟩ ⟨fun j hj => by omega, fun p hp => ?_⟩ (fun j p hj => by omega) (by omega) hQ⟩
  · unfold cpF
    split
    · omega
    · split
      · rename_i h; have := hcap p h; omega
      · omega
  · show M.1 47 p = nI (cpF nS cap p - 0)
    unfold cpF
    by_cases e : p = 5
    · subst e; rw [if_pos rfl]; exact h5
    · rw [if_neg e]
      by_cases q : p < nS
      · rw [if_pos q]; exact hl p q
      · rw [if_neg q]; exact hz p (by omega) (by omega)
end S19
