theorem n_lt {a b : Nat} (ha : a < 2 ^ 31) (hb : b < 2 ^ 31) : (nI a < nI b) ↔ a < b := nI_ltI ha hb
theorem n_le {a b : Nat} (ha : a < 2 ^ 31) (hb : b < 2 ^ 31) : (nI a ≤ nI b) ↔ a ≤ b := nI_leI ha hb
/-- what a call writes, in all -/
def frm (P : Nat → Nat → Prop) (M M' : pd_M) : Prop := ∀ k i, ¬ P k i → M'.1 k i = M.1 k i
theorem frm_rf {P : Nat → Nat → Prop} {M : pd_M} : frm P M M := fun _ _ _ => rfl
theorem frm_sI {P : Nat → Nat → Prop} {M M' : pd_M} {k i : Nat} {v : Int32} (h : frm P (sI M k i v) M') (hp : P k i) : frm P M M' := fun k' i' hn => by
  rw [h k' i' hn, sI_ni]
  rintro ⟨rfl, rfl⟩
  exact hn hp
theorem frm_tr {P : Nat → Nat → Prop} {M M1 M' : pd_M} (h1 : frm P M M1) (h2 : frm P M1 M') : frm P M M' := fun k i hn => (h2 k i hn).trans (h1 k i hn)
theorem frm_mono {P P' : Nat → Nat → Prop} {M M' : pd_M} (h : frm P M M') (hp : ∀ k i, P k i → P' k i) : frm P' M M' := fun k i hn => h k i (fun q => hn (hp k i q))
theorem frm_same {P : Nat → Nat → Prop} {R : Nat → Prop} {M M' : pd_M} (h : frm P M M') (hp : ∀ k i, R k → ¬ P k i) : same R M M' := fun k i hk => h k i (hp k i hk)
section S2
variable {Q : Int32 → pd_M → Prop} {M : pd_M} {a1 a2 a3 a4 : Int32} {n : Nat}
theorem X8_street_w (h8 : M.1 8 0 = nI n) (n5 : n ≤ 5) (no : ¬ (vp_in a1 4 ∧ vp_in a2 6) → Q (-1) M) (full : vp_in a1 4 → vp_in a2 6 → n = 5 → Q (-2) M) (ok : vp_in a1 4 → vp_in a2 6 → n < 5 → Q (nI n) (sI (sI (sI M 9 n a1) 10 n a2) 8 0 (nI (n + 1)))) : wX8_street Q a1 a2 M := by
  refine q_isZone (fun h => q_z0 (no (fun q => h q.1))) (fun h1 => q_z1 ?_)
  refine q_upTo (n := 5) (by decide) (fun h => q_y0 (no (fun q => h q.2))) (fun h2 => q_y1 ?_)
  unfold wX4_add
  rw [h8, show (5 : Int32) = nI 5 from rfl, n_lt (by omega) (by decide), q_cl (by omega)]
  refine ⟨fun h => ⟨vp_in_nI h (by decide), fun M1 e1 => ?_⟩, fun h => full h1 h2 (by omega)⟩
  have e8 : M1.1 8 0 = nI n := by rw [e1, sI_ni (by omega)]; exact h8
  rw [e8, q_cl (by omega)]
  refine ⟨vp_in_nI h (by decide), fun M2 e2 M3 e3 => ?_⟩
  have e9 : M2.1 8 0 = nI n := by rw [e2, sI_ni (by omega)]; exact e8
  rw [e9, nI_1] at e3
  have e10 : M3.1 8 0 = nI (n + 1) := by rw [e3, sI_hit]
  rw [e10, nI_pred]
  subst e1 e2 e3
  exact ok h1 h2 h
theorem l_street58 {K : pd_M → Prop} (hn : n < 5) : ∀ (d i : Nat) (M : pd_M), i + d = 7 → (∀ M', frm (fun k j => k = 85 ∧ 7 * n + i ≤ j ∧ j < 7 * n + 7) M M' → (∀ j, i ≤ j → j < 7 → M'.1 85 (7 * n + j) = 0) → K M') → lpX9_street_58 K (nI n) (d + 1) (nI i) M
  | 0, i, M, hd, hK => by
    refine ⟨fun _ => hK M frm_rf (fun j h1 h2 => by omega), fun h => absurd ?_ h⟩
    rw [show (7 : Int32) = nI 7 from rfl, n_le (by decide) (by omega)]; omega
  | d + 1, i, M, hd, hK => by
    refine ⟨fun h => absurd h ?_, fun _ => ?_⟩
    · rw [show (7 : Int32) = nI 7 from rfl, n_le (by decide) (by omega)]; omega
    · rw [q_c7, q_cl (by omega)]
      refine ⟨vp_in_nI (by omega) (by decide), fun M1 e1 x ex => ?_⟩
      rw [nI_1] at ex
      subst ex e1
      refine l_street58 hn d (i + 1) _ (by omega) (fun M' hf hz => hK M' ?_ (fun j h1 h2 => ?_))
      · exact frm_sI (frm_mono hf (fun k j h => by omega)) (by omega)
      · by_cases e : j = i
        · subst e
          rw [hf 85 (7 * n + j) (by omega), sI_hit]
        · exact hz j (by omega) h2
theorem l_street87 {K : pd_M → Prop} (hn : n < 5) : ∀ (d i : Nat) (M : pd_M), i + d = n → (∀ M', frm (fun k j => k = 86 ∧ ∃ o, i ≤ o ∧ o < n ∧ (j = 5 * n + o ∨ j = 5 * o + n)) M M' → (∀ o, i ≤ o → o < n → M'.1 86 (5 * n + o) = 10 ∧ M'.1 86 (5 * o + n) = 10) → K M') → lpX9_street_87 K (nI n) (d + 1) (nI i) M
  | 0, i, M, hd, hK => by
    refine ⟨fun _ => hK M frm_rf (fun j h1 h2 => by omega), fun h => absurd ?_ h⟩
    rw [n_le (by omega) (by omega)]; omega
  | d + 1, i, M, hd, hK => by
    refine ⟨fun h => absurd h ?_, fun _ => ?_⟩
    · rw [n_le (by omega) (by omega)]; omega
    · rw [q_c5 (by omega) (by omega), q_c5 (by omega) (by omega), q_cl (by omega), q_cl (by omega)]
      refine ⟨vp_in_nI (by omega) (by decide), fun M1 e1 => ⟨vp_in_nI (by omega) (by decide), fun M2 e2 x ex => ?_⟩⟩
      rw [nI_1] at ex
      subst ex e1 e2
      refine l_street87 hn d (i + 1) _ (by omega) (fun M' hf hz => hK M' ?_ (fun o h1 h2 => ?_))
      · exact frm_sI (frm_sI (frm_mono hf (fun k j ⟨h, o, h1, h2, h3⟩ => ⟨h, o, by omega, h2, h3⟩)) ⟨rfl, i, by omega, by omega, Or.inr rfl⟩) ⟨rfl, i, by omega, by omega, Or.inl rfl⟩
      · by_cases e : o = i
        · subst e
          rw [hf 86 (5 * n + o) (by rintro ⟨-, o', h3, h4, h5⟩; omega), hf 86 (5 * o + n) (by rintro ⟨-, o', h3, h4, h5⟩; omega), sI_hit]
          refine ⟨?_, rfl⟩
          rw [sI_ni (by omega), sI_hit]
        · exact hz o (by omega) h2
theorem X9_street_w (h82 : M.1 82 0 = nI n) (n5 : n ≤ 5) (no : ¬ (vp_in a1 4 ∧ vp_in a2 6) → Q (-1) M) (full : vp_in a1 4 → vp_in a2 6 → n = 5 → Q (-2) M) (ok : ∀ M', vp_in a1 4 → vp_in a2 6 → n < 5 → frm (fun k j => (k = 83 ∧ j = n) ∨ (k = 84 ∧ j = n) ∨ (k = 87 ∧ j = n) ∨ (k = 85 ∧ 7 * n ≤ j ∧ j < 7 * n + 7) ∨ (k = 86 ∧ ∃ o, o ≤ n ∧ (j = 5 * n + o ∨ j = 5 * o + n)) ∨ (k = 82 ∧ j = 0)) M M' → M'.1 83 n = a1 → M'.1 84 n = a2 → M'.1 87 n = 0 → (∀ j, j < 7 → M'.1 85 (7 * n + j) = 0) → (∀ o, o < n → M'.1 86 (5 * n + o) = 10 ∧ M'.1 86 (5 * o + n) = 10) → M'.1 86 (5 * n + n) = 0 → M'.1 82 0 = nI (n + 1) → Q (nI n) M') : wX9_street Q a1 a2 M := by
  refine r_isZone (fun h => q_z0 (no (fun q => h q.1))) (fun h1 => q_z1 ?_)
  refine r_upTo (n := 5) rfl (by decide) (fun h => q_y0 (no (fun q => h q.2))) (fun h2 => q_y1 ?_)
  rw [h82, show (5 : Int32) = nI 5 from rfl, nI_eq (by omega) (by decide)]
  refine ⟨fun h x ex => ?_, fun h => full h1 h2 h⟩
  subst ex
  have hlt : n < 5 := by omega
  have hv : vp_in (nI n) 5 := vp_in_nI hlt (by decide)
  rw [q_cl (by omega)]
  refine ⟨hv, fun M1 e1 => ⟨hv, fun M2 e2 => ⟨hv, fun M3 e3 => ⟨8, ?_⟩⟩⟩⟩
  refine l_street58 hlt 7 0 M3 (by omega) (fun M4 f4 z4 => ⟨n + 1, ?_⟩)
  refine l_street87 hlt n 0 M4 (by omega) (fun M5 f5 z5 => ?_)
  rw [show nI 5 * nI n + nI n = nI (5 * n + n) by rw [pk_mul, nI_add], q_cl (by omega)]
  refine ⟨vp_in_nI (by omega) (by decide), fun M6 e6 M7 e7 => ?_⟩
  have g85 : ∀ j, ¬ (85 = 86 ∧ ∃ o, 0 ≤ o ∧ o < n ∧ (j = 5 * n + o ∨ j = 5 * o + n)) := fun j h => by omega
  have a82 : M6.1 82 0 = nI n := by
    rw [e6, sI_ni (by omega), f5 82 0 (by omega), f4 82 0 (by omega), e3, sI_ni (by omega), e2, sI_ni (by omega), e1, sI_ni (by omega)]; exact h82
  rw [a82, nI_1] at e7
  refine ok M7 h1 h2 hlt ?_ ?_ ?_ ?_ (fun j hj => ?_) (fun o ho => ?_) ?_ ?_
  · intro k i hp
    rw [e7, sI_ni (by omega), e6, sI_ni (fun h => hp (Or.inr (Or.inr (Or.inr (Or.inr (Or.inl ⟨h.1, n, by omega, Or.inl h.2⟩)))))), f5 k i (fun ⟨h, o, h3, h4, h5⟩ => hp (Or.inr (Or.inr (Or.inr (Or.inr (Or.inl ⟨h, o, by omega, h5⟩)))))), f4 k i (by omega), e3, sI_ni (by omega), e2, sI_ni (by omega), e1, sI_ni (by omega)]
  · rw [e7, sI_ni (by omega), e6, sI_ni (by omega), f5 83 n (by omega), f4 83 n (by omega), e3, sI_ni (by omega), e2, sI_ni (by omega), e1, sI_hit]
  · rw [e7, sI_ni (by omega), e6, sI_ni (by omega), f5 84 n (by omega), f4 84 n (by omega), e3, sI_ni (by omega), e2, sI_hit]
  · rw [e7, sI_ni (by omega), e6, sI_ni (by omega), f5 87 n (by omega), f4 87 n (by omega), e3, sI_hit]
  · rw [e7, sI_ni (by omega), e6, sI_ni (by omega), f5 85 _ (by omega), z4 j (by omega) hj]
  · obtain ⟨u1, u2⟩ := z5 o (by omega) ho
    rw [e7, sI_ni (by omega), sI_ni (by omega), e6, sI_ni (by omega), sI_ni (by omega)]
    exact ⟨u1, u2⟩
  · rw [e7, sI_ni (by omega), e6, sI_hit]
  · rw [e7, sI_hit]
theorem X8_car_w {m : Nat} (h8 : M.1 8 0 = nI m) (n5 : m ≤ 5) (h24 : M.1 24 1 = nI n) (n7 : n ≤ 7) (no : ¬ vp_in a1 m → Q (-1) M) (full : vp_in a1 m → n = 7 → Q (-2) M) (ok : vp_in a1 m → n < 7 → Q (nI n) (sI (sI (sI (sI M 25 n a1) 26 n 99) 36 n (nI n)) 24 1 (nI (n + 1)))) : wX8_car Q a1 M := by
  refine q_isStreet h8 n5 (fun h => q_z0 (no h)) (fun h1 => q_z1 ?_)
  unfold wX0_add
  rw [h24, show (7 : Int32) = nI 7 from rfl, n_lt (by omega) (by decide), q_cl (by omega)]
  refine ⟨fun h => ⟨vp_in_nI h (by decide), fun M1 e1 => ?_⟩, fun h => full h1 (by omega)⟩
  have e8 : M1.1 24 1 = nI n := by rw [e1, sI_ni (by omega)]; exact h24
  rw [e8, q_cl (by omega)]
  refine ⟨vp_in_nI h (by decide), fun M2 e2 => ?_⟩
  have e9 : M2.1 24 1 = nI n := by rw [e2, sI_ni (by omega)]; exact e8
  rw [e9, q_cl (by omega)]
  refine ⟨vp_in_nI h (by decide), fun M3 e3 M4 e4 => ?_⟩
  have e10 : M3.1 24 1 = nI n := by rw [e3, sI_ni (by omega)]; exact e9
  rw [e10, nI_1] at e4
  have e11 : M4.1 24 1 = nI (n + 1) := by rw [e4, sI_hit]
  rw [e11, nI_pred]
  subst e1 e2 e3 e4
  exact ok h1 h
theorem l_car70 {K : pd_M → Prop} {z : Nat} (hn : n < 7) (hz : z < 4) : ∀ (d i : Nat) (M : pd_M), i + d = 3 → (∀ M', frm (fun k j => k = 89 ∧ (4 * n + z) * 3 + i ≤ j ∧ j < (4 * n + z) * 3 + 3) M M' → (∀ t, i ≤ t → t < 3 → M'.1 89 ((4 * n + z) * 3 + t) = 0) → K M') → lpX9_car_70 K (nI n) (nI z) (d + 1) (nI i) M
  | 0, i, M, hd, hK => by
    refine ⟨fun _ => hK M frm_rf (fun j h1 h2 => by omega), fun h => absurd ?_ h⟩
    rw [show (3 : Int32) = nI 3 from rfl, n_le (by decide) (by omega)]; omega
  | d + 1, i, M, hd, hK => by
    refine ⟨fun h => absurd h ?_, fun _ => ?_⟩
    · rw [show (3 : Int32) = nI 3 from rfl, n_le (by decide) (by omega)]; omega
    · have e0 : ((4 * nI n + nI z) * 3 + nI i) = nI ((4 * n + z) * 3 + i) := by
        rw [q_c4, show (3 : Int32) = nI 3 from rfl, pk_mul, nI_add]
      rw [e0, q_cl (by omega)]
      refine ⟨vp_in_nI (by omega) (by decide), fun M1 e1 x ex => ?_⟩
      rw [nI_1] at ex
      subst ex e1
      refine l_car70 hn hz d (i + 1) _ (by omega) (fun M' hf hw => hK M' ?_ (fun j h1 h2 => ?_))
      · exact frm_sI (frm_mono hf (fun k j h => by omega)) (by omega)
      · by_cases e : j = i
        · subst e
          rw [hf 89 _ (by omega), sI_hit]
          rfl
        · exact hw j (by omega) h2
theorem l_car51 {K : pd_M → Prop} (hn : n < 7) : ∀ (d i : Nat) (M : pd_M), i + d = 4 → (∀ M', frm (fun k j => (k = 89 ∧ 12 * n + 3 * i ≤ j ∧ j < 12 * n + 12) ∨ (k = 90 ∧ 4 * n + i ≤ j ∧ j < 4 * n + 4)) M M' → (∀ z, i ≤ z → z < 4 → M'.1 90 (4 * n + z) = 0 ∧ ∀ t, t < 3 → M'.1 89 ((4 * n + z) * 3 + t) = 0) → K M') → lpX9_car_51 K (nI n) (d + 1) (nI i) M
  | 0, i, M, hd, hK => by
    refine ⟨fun _ => hK M frm_rf (fun j h1 h2 => by omega), fun h => absurd ?_ h⟩
    rw [show (4 : Int32) = nI 4 from rfl, n_le (by decide) (by omega)]; omega
  | d + 1, i, M, hd, hK => by
    refine ⟨fun h => absurd h ?_, fun _ => ?_⟩
    · rw [show (4 : Int32) = nI 4 from rfl, n_le (by decide) (by omega)]; omega
    · rw [q_c4, q_cl (by omega)]
      refine ⟨vp_in_nI (by omega) (by decide), fun M1 e1 => ⟨4, ?_⟩⟩
      refine l_car70 hn (by omega) 3 0 M1 (by omega) (fun M2 f2 z2 x ex => ?_)
      rw [nI_1] at ex
      subst ex
      refine l_car51 hn d (i + 1) _ (by omega) (fun M' hf hw => hK M' ?_ (fun z h1 h2 => ?_))
      · intro k j hp
        rw [hf k j (by omega), f2 k j (by omega), e1, sI_ni (by omega)]
      · by_cases e : z = i
        · subst e
          refine ⟨?_, fun t ht => ?_⟩
          · rw [hf 90 _ (by omega), f2 90 _ (by omega), e1, sI_hit]
          · rw [hf 89 _ (by omega), z2 t (by omega) ht]
        · exact hw z (by omega) h2
theorem X9_car_w {m : Nat} (h82 : M.1 82 0 = nI m) (n5 : m ≤ 5) (h826 : M.1 82 6 = nI n) (n7 : n ≤ 7) (no : ¬ vp_in a1 m → Q (-1) M) (full : vp_in a1 m → n = 7 → Q (-2) M) (ok : ∀ M', vp_in a1 m → n < 7 → frm (fun k j => (k = 88 ∧ j = n) ∨ (k = 91 ∧ j = n) ∨ (k = 92 ∧ j = n) ∨ (k = 89 ∧ 12 * n ≤ j ∧ j < 12 * n + 12) ∨ (k = 90 ∧ 4 * n ≤ j ∧ j < 4 * n + 4) ∨ (k = 82 ∧ j = 6)) M M' → M'.1 88 n = a1 → M'.1 91 n = 99 → M'.1 92 n = nI n → (∀ z, z < 4 → M'.1 90 (4 * n + z) = 0 ∧ ∀ t, t < 3 → M'.1 89 ((4 * n + z) * 3 + t) = 0) → M'.1 82 6 = nI (n + 1) → Q (nI n) M') : wX9_car Q a1 M := by
  refine r_isStreet h82 n5 (fun h => q_y0 (no h)) (fun h1 => q_y1 ?_)
  rw [h826, show (7 : Int32) = nI 7 from rfl, nI_eq (by omega) (by decide)]
  refine ⟨fun h x ex => ?_, fun h => full h1 h⟩
  subst ex
  have hlt : n < 7 := by omega
  have hv : vp_in (nI n) 7 := vp_in_nI hlt (by decide)
  rw [q_cl (by omega)]
  refine ⟨hv, fun M1 e1 => ⟨hv, fun M2 e2 => ⟨hv, fun M3 e3 => ⟨5, ?_⟩⟩⟩⟩
  refine l_car51 hlt 4 0 M3 (by omega) (fun M4 f4 z4 M5 e5 => ?_)
  have a82 : M4.1 82 6 = nI n := by
    rw [f4 82 6 (by omega), e3, sI_ni (by omega), e2, sI_ni (by omega), e1, sI_ni (by omega)]; exact h826
  rw [a82, nI_1] at e5
  refine ok M5 h1 hlt ?_ ?_ ?_ ?_ (fun z hz => ?_) ?_
  · intro k i hp
    rw [e5, sI_ni (by omega), f4 k i (by omega), e3, sI_ni (by omega), e2, sI_ni (by omega), e1, sI_ni (by omega)]
  · rw [e5, sI_ni (by omega), f4 88 n (by omega), e3, sI_ni (by omega), e2, sI_ni (by omega), e1, sI_hit]
  · rw [e5, sI_ni (by omega), f4 91 n (by omega), e3, sI_ni (by omega), e2, sI_hit]
  · rw [e5, sI_ni (by omega), f4 92 n (by omega), e3, sI_hit]
  · obtain ⟨u1, u2⟩ := z4 z (by omega) hz
    refine ⟨by rw [e5, sI_ni (by omega)]; exact u1, fun t ht => by rw [e5, sI_ni (by omega)]; exact u2 t ht⟩
  · rw [e5, sI_hit]
end S2
theorem pb_0 (j : Nat) : ¬ pb 0 j := fun h => h (by
  apply Int32.toBitVec_inj.mp
  simp)
theorem sim_street (a1 a2 : Int32) : sim (fun Q M => wX8_street Q a1 a2 M) (fun Q M => wX9_street Q a1 a2 M) := by
  intro M K hI hK
  obtain ⟨nS, nC, nT, hn, hf, hs, hsu, hc, hcu, ho, hr, ht, hx⟩ := hI
  obtain ⟨n5, n7, n20, h8, h82, h24, h826, h60, h8217⟩ := id hn
  refine X8_street_w h8 n5 (fun h => ?_) (fun h1 h2 hn5 => ?_) (fun h1 h2 hlt => ?_)
  · exact X9_street_w h82 n5 (fun _ => fin (hK M ⟨nS, nC, nT, hn, hf, hs, hsu, hc, hcu, ho, hr, ht, hx⟩)) (fun a b => absurd ⟨a, b⟩ h) (fun _ a b => absurd ⟨a, b⟩ h)
  · exact X9_street_w h82 n5 (fun h => absurd ⟨h1, h2⟩ h) (fun _ _ _ => fin (hK M ⟨nS, nC, nT, hn, hf, hs, hsu, hc, hcu, ho, hr, ht, hx⟩)) (fun _ _ _ h => absurd hn5 (by omega))
  · refine X9_street_w (by rw [sI_ni (by omega), sI_ni (by omega), sI_ni (by omega)]; exact h82) n5 (fun h => absurd ⟨h1, h2⟩ h) (fun _ _ h => absurd h (by omega)) (fun M' _ _ _ fm e83 e84 e87 z85 z86 d86 e82 => ?_)
    have fr : ∀ k i, ¬ ((k = 83 ∧ i = nS) ∨ (k = 84 ∧ i = nS) ∨ (k = 87 ∧ i = nS) ∨ (k = 85 ∧ 7 * nS ≤ i ∧ i < 7 * nS + 7) ∨ (k = 86 ∧ ∃ o, o ≤ nS ∧ (i = 5 * nS + o ∨ i = 5 * o + nS)) ∨ (k = 82 ∧ i = 0)) → ¬ (k = 9 ∧ i = nS) → ¬ (k = 10 ∧ i = nS) → ¬ (k = 8 ∧ i = 0) → M'.1 k i = M.1 k i := by
      intro k i p1 p2 p3 p4
      rw [fm k i p1, sI_ni p4, sI_ni p3, sI_ni p2]
    have g9 : M'.1 9 nS = a1 := by rw [fm 9 nS (by omega), sI_ni (by omega), sI_ni (by omega), sI_hit]
    have g10 : M'.1 10 nS = a2 := by rw [fm 10 nS (by omega), sI_ni (by omega), sI_hit]
    have g8 : M'.1 8 0 = nI (nS + 1) := by rw [fm 8 0 (by omega), sI_hit]
    have ro : ∀ k i, (k < 82 ∨ 87 < k) → k ≠ 9 → k ≠ 10 → k ≠ 8 → M'.1 k i = M.1 k i := fun k i h a b c => fr k i (by omega) (by omega) (by omega) (by omega)
    refine fin (hK M' ⟨nS + 1, nC, nT, ⟨by omega, n7, n20, g8, e82, by rw [ro 24 1 (by omega) (by omega) (by omega) (by omega)]; exact h24, by rw [fr 82 6 (by omega) (by omega) (by omega) (by omega)]; exact h826, by rw [ro 60 0 (by omega) (by omega) (by omega) (by omega)]; exact h60, by rw [fr 82 17 (by omega) (by omega) (by omega) (by omega)]; exact h8217⟩, hf.fr (ro 59 1 (by omega) (by omega) (by omega) (by omega)) (fr 82 16 (by omega) (by omega) (by omega) (by omega)), fun x hx h5 => ?_, fun x hx h5 => ?_, fun c hcc h7 => ?_, hcu.fr (fun k i hp => ro k i (by unfold P_cu at hp; omega) (by unfold P_cu at hp; omega) (by unfold P_cu at hp; omega) (by unfold P_cu at hp; omega)), ho.fr (fun k i hp => ro k i (by unfold P_o at hp; omega) (by unfold P_o at hp; omega) (by unfold P_o at hp; omega) (by unfold P_o at hp; omega)), hr.fr (fun k i hp => ro k i (by unfold P_r at hp; omega) (by unfold P_r at hp; omega) (by unfold P_r at hp; omega) (by unfold P_r at hp; omega)), ht.fr (fun k i hp => ro k i (by unfold P_t at hp; omega) (by unfold P_t at hp; omega) (by unfold P_t at hp; omega) (by unfold P_t at hp; omega)), ?_⟩)
    · obtain ⟨v1, v2, v3⟩ := hsu nS (Nat.le_refl _) hlt
      by_cases e : x = nS
      · subst e
        refine ⟨⟨by rw [e83, g9], by rw [g9]; exact h1⟩, ⟨by rw [e84, g10], by rw [g10]; exact h2⟩, fun n hn => ?_, fun o ho ho5 => ?_, ?_⟩
        · rw [z85 n hn, ro (12 + x) n (by omega) (by omega) (by omega) (by omega), v1 n hn]
          exact ⟨rfl, by rw [q_in]; exact ⟨Int.le_refl _, by show (0 : Int) < _; omega⟩⟩
        · rw [ro (18 + x) o (by omega) (by omega) (by omega) (by omega), (v2 o ho5).1]
          by_cases e2 : o = x
          · subst e2
            rw [d86, if_pos rfl]; exact ⟨rfl, by unfold vp_in; decide⟩
          · rw [(z86 o (by omega)).1, if_neg (fun h => e2 h.symm)]; exact ⟨rfl, by unfold vp_in; decide⟩
        · rw [e87, ro 23 x (by omega) (by omega) (by omega) (by omega), v3]; exact ⟨rfl, by unfold vp_in; decide⟩
      · have hxn : x < nS := by omega
        obtain ⟨b1, b2, b3, b4, b5⟩ := hs x hxn h5
        have e10 : M'.1 10 x = M.1 10 x := fr 10 x (by omega) (by omega) (by omega) (by omega)
        refine ⟨?_, ?_, fun n hn => ?_, fun o ho ho5 => ?_, ?_⟩
        · rw [fr 83 x (by omega) (by omega) (by omega) (by omega), fr 9 x (by omega) (by omega) (by omega) (by omega)]; exact b1
        · rw [fr 84 x (by omega) (by omega) (by omega) (by omega), e10]; exact b2
        · rw [fr 85 _ (by omega) (by omega) (by omega) (by omega), ro (12 + x) n (by omega) (by omega) (by omega) (by omega), e10]; exact b3 n hn
        · rw [ro (18 + x) o (by omega) (by omega) (by omega) (by omega)]
          by_cases e2 : o = nS
          · subst e2
            rw [(z86 x hxn).2, (v2 x h5).2, if_neg (fun h => e h.symm)]; exact ⟨rfl, by unfold vp_in; decide⟩
          · rw [fr 86 _ (by rintro (h | h | h | h | ⟨-, o', h1', h2'⟩ | h) <;> omega) (by omega) (by omega) (by omega)]; exact b4 o (by omega) ho5
        · rw [fr 87 x (by omega) (by omega) (by omega) (by omega), ro 23 x (by omega) (by omega) (by omega) (by omega)]; exact b5
    · obtain ⟨b1, b2, b3⟩ := hsu x (by omega) h5
      refine ⟨fun n hn => ?_, fun o ho => ?_, ?_⟩
      · rw [ro (12 + x) n (by omega) (by omega) (by omega) (by omega)]; exact b1 n hn
      · rw [ro (18 + x) o (by omega) (by omega) (by omega) (by omega), ro (18 + o) x (by omega) (by omega) (by omega) (by omega)]; exact b2 o ho
      · rw [ro 23 x (by omega) (by omega) (by omega) (by omega)]; exact b3
    · obtain ⟨b1, b2⟩ := (hc.fr (M' := M') (fun k i hp => ro k i (by unfold P_c at hp; omega) (by unfold P_c at hp; omega) (by unfold P_c at hp; omega) (by unfold P_c at hp; omega))) c hcc h7
      exact ⟨⟨b1.1, q_mono b1.2 (by omega)⟩, b2⟩
    · obtain ⟨b1, b2⟩ := hx.fr (M' := M') (fun k i hp => ro k i (by unfold P_x at hp; omega) (by unfold P_x at hp; omega) (by unfold P_x at hp; omega) (by unfold P_x at hp; omega))
      exact ⟨fun c s h1 h2 h3 => b1 c s h1 h2 (by omega), fun s h1 h2 => b2 s (by omega) h2⟩
theorem sim_car (a1 : Int32) : sim (fun Q M => wX8_car Q a1 M) (fun Q M => wX9_car Q a1 M) := by
  intro M K hI hK
  obtain ⟨nS, nC, nT, hn, hf, hs, hsu, hc, hcu, ho, hr, ht, hx⟩ := hI
  obtain ⟨n5, n7, n20, h8, h82, h24, h826, h60, h8217⟩ := id hn
  refine X8_car_w h8 n5 h24 n7 (fun h => ?_) (fun h1 hn7 => ?_) (fun h1 hlt => ?_)
  · exact X9_car_w h82 n5 h826 n7 (fun _ => fin (hK M ⟨nS, nC, nT, hn, hf, hs, hsu, hc, hcu, ho, hr, ht, hx⟩)) (fun a => absurd a h) (fun _ a => absurd a h)
  · exact X9_car_w h82 n5 h826 n7 (fun h => absurd h1 h) (fun _ _ => fin (hK M ⟨nS, nC, nT, hn, hf, hs, hsu, hc, hcu, ho, hr, ht, hx⟩)) (fun _ _ h => absurd hn7 (by omega))
  · refine X9_car_w (m := nS) (n := nC) (by rw [sI_ni (by omega), sI_ni (by omega), sI_ni (by omega), sI_ni (by omega)]; exact h82) n5 (by rw [sI_ni (by omega), sI_ni (by omega), sI_ni (by omega), sI_ni (by omega)]; exact h826) n7 (fun h => absurd h1 h) (fun _ h => absurd h (by omega)) (fun M' _ _ fm e88 e91 e92 z e82 => ?_)
    have fr : ∀ k i, ¬ ((k = 88 ∧ i = nC) ∨ (k = 91 ∧ i = nC) ∨ (k = 92 ∧ i = nC) ∨ (k = 89 ∧ 12 * nC ≤ i ∧ i < 12 * nC + 12) ∨ (k = 90 ∧ 4 * nC ≤ i ∧ i < 4 * nC + 4) ∨ (k = 82 ∧ i = 6)) → ¬ (k = 25 ∧ i = nC) → ¬ (k = 26 ∧ i = nC) → ¬ (k = 36 ∧ i = nC) → ¬ (k = 24 ∧ i = 1) → M'.1 k i = M.1 k i := by
      intro k i p1 p2 p3 p4 p5
      rw [fm k i p1, sI_ni p5, sI_ni p4, sI_ni p3, sI_ni p2]
    have g25 : M'.1 25 nC = a1 := by rw [fm 25 nC (by omega), sI_ni (by omega), sI_ni (by omega), sI_ni (by omega), sI_hit]
    have g26 : M'.1 26 nC = 99 := by rw [fm 26 nC (by omega), sI_ni (by omega), sI_ni (by omega), sI_hit]
    have g36 : M'.1 36 nC = nI nC := by rw [fm 36 nC (by omega), sI_ni (by omega), sI_hit]
    have g24 : M'.1 24 1 = nI (nC + 1) := by rw [fm 24 1 (by omega), sI_hit]
    have ro : ∀ k i, (k < 24 ∨ 27 ≤ k ∧ k < 36 ∨ 37 ≤ k ∧ k < 82 ∨ 83 ≤ k ∧ k < 88 ∨ 92 < k) → M'.1 k i = M.1 k i := fun k i h => fr k i (by omega) (by omega) (by omega) (by omega) (by omega)
    refine fin (hK M' ⟨nS, nC + 1, nT, ⟨n5, by omega, n20, by rw [ro 8 0 (by omega)]; exact h8, by rw [fr 82 0 (by omega) (by omega) (by omega) (by omega) (by omega)]; exact h82, g24, e82, by rw [ro 60 0 (by omega)]; exact h60, by rw [fr 82 17 (by omega) (by omega) (by omega) (by omega) (by omega)]; exact h8217⟩, hf.fr (ro 59 1 (by omega)) (fr 82 16 (by omega) (by omega) (by omega) (by omega) (by omega)), hs.fr (fun k i hp => ro k i (by unfold P_s at hp; omega)), hsu.fr (fun k i hp => ro k i (by unfold P_su at hp; omega)), fun x hx h7 => ?_, fun x hx h7 => ?_, ?_, hr.fr (fun k i hp => ro k i (by unfold P_r at hp; omega)), ht.fr (fun k i hp => ro k i (by unfold P_t at hp; omega)), ?_⟩)
    · obtain ⟨v1, v2⟩ := hcu nC (Nat.le_refl _) hlt
      by_cases e : x = nC
      · subst e
        refine ⟨⟨by rw [e88, g25], by rw [g25]; exact h1⟩, ⟨by rw [e91, g26], by rw [g26]; unfold vp_in; decide⟩, fun y hy => ?_, fun y t hy ht => Or.inl ⟨(z y hy).2 t ht, ?_⟩⟩
        · rw [(z y hy).1, ro (29 + x) y (by omega), v2 y hy]; exact ⟨rfl, by unfold vp_in; decide⟩
        · rw [ro 27 x (by omega), v1]; exact pb_0 _
      · obtain ⟨b1, b2, b3, b4⟩ := hc x (by omega) h7
        refine ⟨?_, ?_, fun y hy => ?_, fun y t hy ht => ?_⟩
        · rw [fr 88 x (by omega) (by omega) (by omega) (by omega) (by omega), fr 25 x (by omega) (by omega) (by omega) (by omega) (by omega)]; exact b1
        · rw [fr 91 x (by omega) (by omega) (by omega) (by omega) (by omega), fr 26 x (by omega) (by omega) (by omega) (by omega) (by omega)]; exact b2
        · rw [fr 90 _ (by omega) (by omega) (by omega) (by omega) (by omega), ro (29 + x) y (by omega)]; exact b3 y hy
        · rw [fr 89 _ (by omega) (by omega) (by omega) (by omega) (by omega), ro 27 x (by omega)]; exact b4 y t hy ht
    · obtain ⟨b1, b2⟩ := hcu x (by omega) h7
      refine ⟨by rw [ro 27 x (by omega)]; exact b1, fun y hy => by rw [ro (29 + x) y (by omega)]; exact b2 y hy⟩
    · obtain ⟨b1, b2, b3⟩ := ho
      have o36 : ∀ i, i < nC → M'.1 36 i = M.1 36 i := fun i hi => fr 36 i (by omega) (by omega) (by omega) (by omega) (by omega)
      have lt36 : ∀ i, i < nC → M.1 36 i ≠ nI nC := fun i hi h => by
        have := (b1 i hi).2
        rw [h] at this
        have := q_nin this (by omega)
        omega
      refine ⟨fun i hi => ?_, fun i j hi hj e => ?_, fun c hcc => ?_⟩
      · by_cases e : i = nC
        · subst e; rw [e92, g36]; exact ⟨rfl, vp_in_nI (by omega) (by omega)⟩
        · rw [fr 92 i (by omega) (by omega) (by omega) (by omega) (by omega), o36 i (by omega)]
          exact ⟨(b1 i (by omega)).1, q_mono (b1 i (by omega)).2 (by omega)⟩
      · by_cases e1 : i = nC <;> by_cases e2 : j = nC
        · omega
        · subst e1; rw [g36, o36 j (by omega)] at e; exact absurd e.symm (lt36 j (by omega))
        · subst e2; rw [g36, o36 i (by omega)] at e; exact absurd e (lt36 i (by omega))
        · rw [o36 i (by omega), o36 j (by omega)] at e; exact b2 i j (by omega) (by omega) e
      · by_cases e : c = nC
        · subst e; exact ⟨c, by omega, g36⟩
        · obtain ⟨i, hi, h⟩ := b3 c (by omega)
          exact ⟨i, by omega, by rw [o36 i hi]; exact h⟩
    · obtain ⟨b1, b2⟩ := hx.fr (M' := M') (fun k i hp => ro k i (by unfold P_x at hp; omega))
      exact ⟨fun c s h1 h2 h3 => b1 c s h1 h2 (by omega), b2⟩
