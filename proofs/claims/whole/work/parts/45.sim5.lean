/-! the order -/
section S5
variable {Q : Int32 → pd_M → Prop} {a1 : Int32} {n p : Nat}
theorem l_put2 {K : Int32 → pd_M → Prop} (n7 : n ≤ 7) : ∀ (d i m : Nat) (M : pd_M), M.1 24 1 = nI n → 1 ≤ i → i + d = n → (∀ M', frm (fun k j => k = 36 ∧ i - 1 ≤ j ∧ j < n - 1) M M' → (∀ j, i - 1 ≤ j → j < n - 1 → M'.1 36 j = M.1 36 (j + 1)) → K (nI (m + d)) M') → lpX0_putLast_7 K a1 (d + 1) (nI m) 1 (nI i) M
  | 0, i, m, M, h24, hi, hd, hK => by
    unfold lpX0_putLast_7
    rw [h24, n_le (by omega) (by omega)]
    exact ⟨fun _ => hK M frm_rf (fun j h1 h2 => by omega), fun h => absurd (by omega) h⟩
  | d + 1, i, m, M, h24, hi, hd, hK => by
    unfold lpX0_putLast_7
    rw [h24, n_le (by omega) (by omega)]
    refine ⟨fun h => absurd h (by omega), fun _ => q_z1 ⟨vp_in_nI (by omega) (by decide), ?_⟩⟩
    obtain ⟨j, rfl⟩ : ∃ j, i = j + 1 := ⟨i - 1, by omega⟩
    rw [nI_pred, q_cl (by omega), q_cl (by omega)]
    refine ⟨vp_in_nI (by omega) (by decide), fun M1 e1 x2 e2 x4 e4 => ?_⟩
    rw [nI_1] at e2 e4
    subst e2 e4 e1
    refine l_put2 n7 d (j + 1 + 1) (m + 1) _ (by rw [sI_ni (by omega)]; exact h24) (by omega) (by omega) (fun M' hf hv => ?_)
    rw [show m + 1 + d = m + (d + 1) by omega]
    refine hK M' (frm_sI (frm_mono hf (fun k j h => by omega)) (by omega)) (fun j' h1 h2 => ?_)
    by_cases e : j' = j
    · subst e; rw [hf 36 j' (by omega), sI_hit]
    · rw [hv j' (by omega) h2, sI_ni (by omega)]
theorem l_put1 {K : Int32 → pd_M → Prop} {M : pd_M} (n7 : n ≤ 7) (hp : p < n) (h24 : M.1 24 1 = nI n) (hat : M.1 36 p = a1) (hne : ∀ j, j < p → ¬ M.1 36 j = a1) (hK : ∀ M', frm (fun k j => k = 36 ∧ p ≤ j ∧ j < n - 1) M M' → (∀ j, p ≤ j → j < n - 1 → M'.1 36 j = M.1 36 (j + 1)) → K (nI (n - 1 - p)) M') : ∀ (d i : Nat), i ≤ p → i + d = n → lpX0_putLast_7 K a1 (d + 1) (nI 0) 0 (nI i) M
  | 0, i, hi, hd => by omega
  | d + 1, i, hi, hd => by
    unfold lpX0_putLast_7
    rw [h24, n_le (by omega) (by omega)]
    refine ⟨fun h => absurd h (by omega), fun _ => q_z0 ⟨vp_in_nI (by omega) (by decide), ?_⟩⟩
    rw [q_cl (by omega)]
    refine ⟨fun ne x ex => ?_, fun e x ex => ?_⟩
    · rw [nI_1] at ex
      subst ex
      have : i ≠ p := fun e => ne (by rw [e]; exact hat)
      exact l_put1 n7 hp h24 hat hne hK d (i + 1) (by omega) (by omega)
    · rw [nI_1] at ex
      subst ex
      have : i = p := by
        by_cases h : i < p
        · exact absurd e (hne i h)
        · omega
      subst this
      refine l_put2 n7 d (i + 1) 0 M h24 (by omega) (by omega) (fun M' hf hv => ?_)
      rw [show 0 + d = n - 1 - i by omega]
      exact hK M' (frm_mono hf (fun k j h => by omega)) (fun j h1 h2 => hv j (by omega) h2)
/-- the order with the one at p put last -/
def sg (n p i : Nat) : Nat := if i < p then i else if i < n - 1 then i + 1 else p
theorem X0_putLast_w {M : pd_M} (n7 : n ≤ 7) (hp : p < n) (h24 : M.1 24 1 = nI n) (hat : M.1 36 p = a1) (hne : ∀ j, j < p → ¬ M.1 36 j = a1) (hQ : ∀ M', frm (fun k j => k = 36 ∧ j < n) M M' → (∀ j, j < n → M'.1 36 j = M.1 36 (sg n p j)) → Q (nI (n - 1 - p)) M') : wX0_putLast Q a1 M := by
  refine ⟨n + 1, l_put1 n7 hp h24 hat hne (fun M1 f1 v1 => ?_) n 0 (by omega) (by omega)⟩
  rw [f1 24 1 (by omega), h24]
  obtain ⟨m, rfl⟩ : ∃ m, n = m + 1 := ⟨n - 1, by omega⟩
  rw [nI_pred, q_cl (by omega)]
  refine ⟨vp_in_nI (by omega) (by decide), fun M2 e2 => ?_⟩
  subst e2
  refine hQ _ (fun k i h => ?_) (fun j hj => ?_)
  · rw [sI_ni (by omega), f1 k i (by omega)]
  · unfold sg
    by_cases h1 : j < p
    · rw [if_pos h1, sI_ni (by omega), f1 36 j (by omega)]
    · rw [if_neg h1]
      by_cases h2 : j < m + 1 - 1
      · rw [if_pos h2, sI_ni (by omega), v1 j (by omega) (by omega)]
      · rw [if_neg h2, show j = m by omega, sI_hit, hat]
theorem l_late12 {K : Int32 → pd_M → Prop} {M : pd_M} (hp : p < 7) (hat : M.1 92 p = a1) (hne : ∀ j, j < p → ¬ M.1 92 j = a1) (hK : K (nI p) M) : ∀ (d i : Nat), i + d = p → lpX9_late_12 K a1 (d + 1) (nI i) M
  | 0, i, hd => by
    refine ⟨vp_in_nI (by omega) (by decide), ?_⟩
    rw [q_cl (by omega)]
    rw [show i = p by omega]
    exact ⟨fun _ => hK, fun h => absurd hat h⟩
  | d + 1, i, hd => by
    refine ⟨vp_in_nI (by omega) (by decide), ?_⟩
    rw [q_cl (by omega)]
    refine ⟨fun h => absurd h (hne i (by omega)), fun _ x ex => ?_⟩
    rw [nI_1] at ex
    subst ex
    exact l_late12 hp hat hne hK d (i + 1) (by omega)
theorem l_late30 {K : pd_M → Prop} {f2 : Int32} (n7 : n + 1 ≤ 7) : ∀ (d i : Nat) (M : pd_M), M.1 82 6 = nI (n + 1) → i + d = n → (∀ M', frm (fun k j => k = 92 ∧ i ≤ j ∧ j < n) M M' → (∀ j, i ≤ j → j < n → M'.1 92 j = M.1 92 (j + 1)) → K M') → lpX9_late_30 K a1 f2 (d + 1) (nI i) M
  | 0, i, M, h82, hd, hK => by
    unfold lpX9_late_30
    rw [h82, nI_pred, n_le (by omega) (by omega)]
    exact ⟨fun _ => hK M frm_rf (fun j h1 h2 => by omega), fun h => absurd (by omega) h⟩
  | d + 1, i, M, h82, hd, hK => by
    unfold lpX9_late_30
    rw [h82, nI_pred, n_le (by omega) (by omega), nI_1, q_cl (by omega), q_cl (by omega)]
    refine ⟨fun h => absurd h (by omega), fun _ => ⟨vp_in_nI (by omega) (by decide), vp_in_nI (by omega) (by decide), fun M1 e1 x ex => ?_⟩⟩
    subst ex e1
    refine l_late30 n7 d (i + 1) _ (by rw [sI_ni (by omega)]; exact h82) (by omega) (fun M' hf hv => hK M' (frm_sI (frm_mono hf (fun k j h => by omega)) (by omega)) (fun j h1 h2 => ?_))
    by_cases e : j = i
    · subst e; rw [hf 92 j (by omega), sI_hit]
    · rw [hv j (by omega) h2, sI_ni (by omega)]
theorem X9_late_w {M : pd_M} (n7 : n ≤ 7) (hp : p < n) (h82 : M.1 82 6 = nI n) (hv1 : vp_in a1 n) (hat : M.1 92 p = a1) (hne : ∀ j, j < p → ¬ M.1 92 j = a1) (hQ : ∀ M', frm (fun k j => k = 92 ∧ j < n) M M' → (∀ j, j < n → M'.1 92 j = M.1 92 (sg n p j)) → Q (nI (n - 1 - p)) M') : wX9_late Q a1 M := by
  refine r_isCar h82 n7 (fun h => absurd hv1 h) (fun _ => q_y1 ⟨p + 1, ?_⟩)
  refine l_late12 (by omega) hat hne ?_ p 0 (by omega)
  obtain ⟨m, rfl⟩ : ∃ m, n = m + 1 := ⟨n - 1, by omega⟩
  refine ⟨m - p + 1, l_late30 n7 (m - p) p M h82 (by omega) (fun M1 f1 v1 => ?_)⟩
  rw [f1 82 6 (by omega), h82, nI_pred, q_cl (by omega)]
  refine ⟨vp_in_nI (by omega) (by decide), fun M2 e2 => ?_⟩
  have e82 : M2.1 82 6 = nI (m + 1) := by rw [e2, sI_ni (by omega), f1 82 6 (by omega)]; exact h82
  rw [e82, nI_pred, n_sub (by omega) (by omega)]
  subst e2
  refine hQ _ (fun k i h => ?_) (fun j hj => ?_)
  · rw [sI_ni (by omega), f1 k i (by omega)]
  · unfold sg
    by_cases h1 : j < p
    · rw [if_pos h1, sI_ni (by omega), f1 92 j (by omega)]
    · rw [if_neg h1]
      by_cases h2 : j < m + 1 - 1
      · rw [if_pos h2, sI_ni (by omega), v1 j (by omega) (by omega)]
      · rw [if_neg h2, show j = m by omega, sI_hit, hat]
end S5
theorem sim_late (a1 : Int32) : sim (fun Q M => wX8_late Q a1 M) (fun Q M => wX9_late Q a1 M) := by
  intro M K hI hK
  have hK0 := hK M hI
  obtain ⟨nS, nC, nT, hn, hf, hs, hsu, hc, hcu, ho, hr, ht, hx⟩ := hI
  obtain ⟨n5, n7, n20, h8, h82, h24, h826, h60, h8217⟩ := id hn
  refine q_isCar h24 n7 (fun h => q_z0 ?_) (fun h1 => q_z1 ?_)
  · exact r_isCar h826 n7 (fun _ => q_y0 (fin hK0)) (fun q => absurd q h)
  obtain ⟨c, hcn, rfl⟩ := vp_in_of h1 (by omega)
  obtain ⟨o1, o2, o3⟩ := id ho
  obtain ⟨p, hp, hat⟩ := o3 c hcn
  have hne : ∀ j, j < p → ¬ M.1 36 j = nI c := fun j hj e => by
    have := o2 j p (by omega) hp (e.trans hat.symm)
    omega
  refine X0_putLast_w n7 hp h24 hat hne (fun M1 f1 v1 => ?_)
  have e92 : ∀ j, M1.1 92 j = M.1 92 j := fun j => f1 92 j (by omega)
  refine X9_late_w n7 hp (by rw [f1 82 6 (by omega)]; exact h826) h1 (by rw [e92, (o1 p hp).1]; exact hat) (fun j hj => by rw [e92, (o1 j (by omega)).1]; exact hne j hj) (fun M2 f2 v2 => fin (hK M2 ?_))
  have ro : ∀ k i, k ≠ 36 → k ≠ 92 → M2.1 k i = M.1 k i := fun k i q1 q2 => by rw [f2 k i (by omega), f1 k i (by omega)]
  have sgl : ∀ j, j < nC → sg nC p j < nC := fun j hj => by unfold sg; split; · omega
                                                            split <;> omega
  have w36 : ∀ j, j < nC → M2.1 36 j = M.1 36 (sg nC p j) := fun j hj => by rw [f2 36 j (by omega), v1 j hj]
  have w92 : ∀ j, j < nC → M2.1 92 j = M.1 92 (sg nC p j) := fun j hj => by rw [v2 j hj, e92]
  refine ⟨nS, nC, nT, hn.fr (ro 8 0 (by omega) (by omega)) (ro 24 1 (by omega) (by omega)) (ro 60 0 (by omega) (by omega)) (fun i _ => ro 82 i (by omega) (by omega)), hf.fr (ro 59 1 (by omega) (by omega)) (ro 82 16 (by omega) (by omega)), hs.fr (fun k i q => ro k i (by unfold P_s at q; omega) (by unfold P_s at q; omega)), hsu.fr (fun k i q => ro k i (by unfold P_su at q; omega) (by unfold P_su at q; omega)), hc.fr (fun k i q => ro k i (by unfold P_c at q; omega) (by unfold P_c at q; omega)), hcu.fr (fun k i q => ro k i (by unfold P_cu at q; omega) (by unfold P_cu at q; omega)), ⟨fun i hi => ?_, fun i j hi hj e => ?_, fun d hd => ?_⟩, hr.fr (fun k i q => ro k i (by unfold P_r at q; omega) (by unfold P_r at q; omega)), ht.fr (fun k i q => ro k i (by unfold P_t at q; omega) (by unfold P_t at q; omega)), hx.fr (fun k i q => ro k i (by unfold P_x at q; omega) (by unfold P_x at q; omega))⟩
  · rw [w36 i hi, w92 i hi]; exact o1 _ (sgl i hi)
  · rw [w36 i hi, w36 j hj] at e
    have := o2 _ _ (sgl i hi) (sgl j hj) e
    unfold sg at this
    split at this <;> split at this <;> (try split at this) <;> (try split at this) <;> omega
  · obtain ⟨i, hi, h⟩ := o3 d hd
    by_cases q1 : i < p
    · refine ⟨i, hi, ?_⟩
      rw [w36 i hi, ← h, show sg nC p i = i by unfold sg; rw [if_pos q1]]
    · by_cases q2 : i = p
      · refine ⟨nC - 1, by omega, ?_⟩
        rw [w36 _ (by omega), ← h, show sg nC p (nC - 1) = i by unfold sg; rw [if_neg (by omega), if_neg (by omega), q2]]
      · refine ⟨i - 1, by omega, ?_⟩
        rw [w36 _ (by omega), ← h, show sg nC p (i - 1) = i by unfold sg; rw [if_neg (by omega), if_pos (by omega)]; omega]
/-! tickets -/
def cnt (P : Nat → Prop) [DecidablePred P] : Nat → Nat → Nat
  | _, 0 => 0
  | i, d + 1 => (if P i then 1 else 0) + cnt P (i + 1) d
theorem cnt_le (P : Nat → Prop) [DecidablePred P] : ∀ (d i : Nat), cnt P i d ≤ d
  | 0, i => Nat.le_refl _
  | d + 1, i => by
    have := cnt_le P d (i + 1)
    unfold cnt
    split <;> omega
theorem cnt_congr (P P' : Nat → Prop) [DecidablePred P] [DecidablePred P'] : ∀ (d i : Nat), (∀ j, i ≤ j → j < i + d → (P j ↔ P' j)) → cnt P i d = cnt P' i d
  | 0, i, h => rfl
  | d + 1, i, h => by
    unfold cnt
    rw [cnt_congr P P' d (i + 1) (fun j h1 h2 => h j (by omega) (by omega))]
    congr 1
    by_cases q : P i
    · rw [if_pos q, if_pos ((h i (by omega) (by omega)).mp q)]
    · rw [if_neg q, if_neg (fun q' => q ((h i (by omega) (by omega)).mpr q'))]
def sm (f : Nat → Int32) : Nat → Nat → Int32
  | _, 0 => 0
  | i, d + 1 => f i + sm f (i + 1) d
section S6
variable {Q : Int32 → pd_M → Prop} {K : Int32 → pd_M → Prop} {M : pd_M} {f1 f2 : Int32} {n : Nat}
theorem l_stateX (h60 : M.1 60 0 = nI n) (n20 : n ≤ 20) : ∀ (d i m : Nat), i + d = n → K (nI (m + cnt (fun t => M.1 (62 + t) 5 = f1) i d)) M → lpX5_countState_4 K f1 (d + 1) (nI m) (nI i) M
  | 0, i, m, hd, hK => by
    unfold lpX5_countState_4
    rw [h60, n_le (by omega) (by omega)]
    exact ⟨fun _ => hK, fun h => absurd (by omega) h⟩
  | d + 1, i, m, hd, hK => by
    unfold lpX5_countState_4
    rw [h60, n_le (by omega) (by omega), q_cl (by omega)]
    refine ⟨fun h => absurd h (by omega), fun _ => ⟨vp_in_nI (by omega) (by decide), fun ne x ex => ?_, fun e x2 e2 x ex => ?_⟩⟩
    · rw [nI_1] at ex; subst ex
      refine l_stateX h60 n20 d (i + 1) m (by omega) ?_
      unfold cnt at hK; rw [if_neg (show ¬ M.1 (62 + i) 5 = f1 from ne), Nat.zero_add] at hK; exact hK
    · rw [nI_1] at ex e2; subst ex e2
      refine l_stateX h60 n20 d (i + 1) (m + 1) (by omega) ?_
      unfold cnt at hK; rw [if_pos (show M.1 (62 + i) 5 = f1 from e), ← Nat.add_assoc] at hK; exact hK
theorem X9_judged_w {i : Nat} (hi : i < 20) (hQ : Q (jd (M.1 102 i) (M.1 100 i)) M) : wX9_judged Q (nI i) M := by
  have hv : vp_in (nI i) 20 := vp_in_nI hi (by decide)
  unfold wX9_judged
  rw [q_cl (by omega)]
  unfold jd at hQ
  refine ⟨hv, fun h => ?_, fun h => ⟨hv, fun h2 => ⟨hv, fun h3 => ?_, fun h3 => ?_⟩, fun h2 => ?_⟩⟩
  · rw [if_pos (Or.inl h)] at hQ; exact hQ
  · rw [if_neg (fun q => q.elim h h2), if_neg h3] at hQ; exact hQ
  · rw [if_neg (fun q => q.elim h h2), if_pos h3] at hQ; exact hQ
  · rw [if_pos (Or.inr h2)] at hQ; exact hQ
theorem l_stateM (h82 : M.1 82 17 = nI n) (n20 : n ≤ 20) : ∀ (d i m : Nat), i + d = n → K (nI (m + cnt (fun t => jd (M.1 102 t) (M.1 100 t) = f1) i d)) M → lpX9_ticketsThat_4 K f1 (d + 1) (nI m) (nI i) M
  | 0, i, m, hd, hK => by
    unfold lpX9_ticketsThat_4
    rw [h82, n_le (by omega) (by omega)]
    exact ⟨fun _ => hK, fun h => absurd (by omega) h⟩
  | d + 1, i, m, hd, hK => by
    unfold lpX9_ticketsThat_4
    rw [h82, n_le (by omega) (by omega)]
    refine ⟨fun h => absurd h (by omega), fun _ => X9_judged_w (by omega) ⟨fun ne x2 e2 x ex => ?_, fun e x2 e2 x ex => ?_⟩⟩
    · rw [Int32.add_zero] at e2
      rw [nI_1] at ex; subst ex e2
      refine l_stateM h82 n20 d (i + 1) m (by omega) ?_
      unfold cnt at hK; rw [if_neg ne, Nat.zero_add] at hK; exact hK
    · rw [nI_1] at ex e2; subst ex e2
      refine l_stateM h82 n20 d (i + 1) (m + 1) (by omega) ?_
      unfold cnt at hK; rw [if_pos e, ← Nat.add_assoc] at hK; exact hK
theorem l_bays (k k0 i0 : Nat) (f : Nat → Int32) (L : (Int32 → pd_M → Prop) → Nat → Int32 → Int32 → pd_M → Prop) (hL0 : ∀ v w, nI n ≤ w → K v M → ∀ e, L K (e + 1) v w M) (hL1 : ∀ v i e, i < n → L K e (v + f i) (nI (i + 1)) M → L K (e + 1) v (nI i) M) (hn : n < 2 ^ 31) : ∀ (d i : Nat) (v : Int32), i + d = n → K (v + sm f i d) M → L K (d + 1) v (nI i) M
  | 0, i, v, hd, hK => hL0 v _ (by rw [n_le (by omega) (by omega)]; omega) (by unfold sm at hK; rw [Int32.add_zero] at hK; exact hK) 0
  | d + 1, i, v, hd, hK => hL1 v i (d + 1) (by omega) (l_bays k k0 i0 f L hL0 hL1 hn d (i + 1) (v + f i) (by omega) (by unfold sm at hK; rw [← Int32.add_assoc] at hK; exact hK))
end S6
